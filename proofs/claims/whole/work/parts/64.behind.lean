/-! SHARES, CLASS: priceBehind; outcomes copied. -/
theorem s_priceBehind {Y : XS} {n : Nat} {S : PS} {p s o q k z : Nat} {A : EL} {b0 : Nat → Nat} (hn : 100 ≤ n) (hp : p + 11 ≤ 235) (ho : o + 8 ≤ 235) (hs : s + 3 ≤ 235) (hps : p + 11 ≤ s ∨ s + 3 ≤ p) (hos : o + 8 ≤ s ∨ s + 3 ≤ o) (hP : SP Y S p) (hA : PV Y S p A) (hS : SH Y S s) (hO : SO Y S o) (h : ShO S o A b0 z) (hB : sm b0 (eV A) ≤ 200000000) (hk : k ≤ z) (hq : q < eP A) :
    ok (fX9_priceBehind Y n S s p o (nI q) (nI k)) (fun r => r.1 = oI (if (bst A b0 k).1.testBit q = true then none else prc A (bst A b0 k).2 q) ∧ Fr (fun x => x = s + 2) S r.2) := by
  have a7 := hA.1.2.2.2.2.2.2.2
  have b1 := a7.2.1
  have b2 := a7.2.2.1
  have hz12 : z ≤ 12 := by
    have := (sl_gl (A := A) (b0 := b0) z).le
    rw [sl_len h.1] at this
    omega
  have lo3 := hO.2.2.2.2.2.2.2.2.2.1
  have ls2 := hS.2.2.2
  have lo1 := hO.2.2.2.2.2.2.2.1
  unfold fX9_priceBehind
  rw [kgr_n hO.2.2.1, kgr_n hS.2.1, show (0 : Int32) = nI 0 from rfl, show (24 : Int32) = nI 24 from rfl, kcp_n (by omega) (by omega) (by omega) (by omega)]
  generalize hS1 : sc S (s + 2) (va_cpy (S.1 (o + 3)) (S.1 (s + 2)) 0 0 24) = S1
  have f1 : Fr (fun x => x = s + 2) S S1 := by rw [← hS1]; exact Fr.rf.sc rfl
  have hv1 : ∀ v, v < eV A → gi S1 (s + 2) v = nI ((bst A b0 z).2 v + ((bst A b0 k).2 v - (bst A b0 k).2 v)) := by
    intro v hv
    rw [← hS1, Gi_sc, if_pos rfl, cpy0 (by omega), Nat.sub_self]
    exact h.2.2.2.1 v hv
  have key : ok (iter (bX9_priceBehind_18 Y n s p o (nI q) (nI k)) n (nI 0, S1)) (fun r => (∃ T, r = .inl T ∧ Fr (fun x => x = s + 2) S T ∧ (bst A b0 k).1.testBit q = false ∧ ∀ v, v < eV A → gi T (s + 2) v = nI ((bst A b0 k).2 v)) ∨ (∃ T, r = .inr (m1, T) ∧ Fr (fun x => x = s + 2) S T ∧ (bst A b0 k).1.testBit q = true)) := by
    refine iter_ok (fun i t => t.1 = nI i ∧ Fr (fun x => x = s + 2) S t.2 ∧ (∀ j, j < i → j < k → sq A b0 j ≠ some q) ∧ ∀ v, v < eV A → gi t.2 (s + 2) v = nI ((bst A b0 z).2 v + ((bst A b0 k).2 v - (bst A b0 (max i k)).2 v))) z (fun i t hi h1 => ?_) (fun t h1 => ?_) (by omega) ⟨rfl, f1, fun j hj => absurd hj (Nat.not_lt_zero _), fun v hv => by rw [Nat.zero_max]; exact hv1 v hv⟩
    · obtain ⟨t1, T⟩ := t
      obtain ⟨k1, k2, k3, k4⟩ := h1
      simp only at k1 k2 k4
      subst k1
      have hPT : SP Y T p := hP.fr k2.2.1
      have hAT : PV Y T p A := hA.fr k2 (by omega) (by omega)
      have hST : SH Y T s := hS.fr k2.2.1
      have hOT : SO Y T o := hO.fr k2.2.1
      have hT : ShO T o A b0 z := h.fr k2 (by omega)
      have gk := hT.2.1.1
      rw [sl_len h.1] at gk
      obtain ⟨qi, hqi⟩ := h.1 i hi
      have q1 := (nxt_some hqi).1
      have hord : gi T (o + 1) i = nI qi := by
        have := hT.2.1.2.2.2.1 i (by rw [sl_len h.1]; exact hi)
        rw [this]
        congr 1
        have e : ∀ m, i < m → m ≤ z → (sl A b0 m).getD i 0 = qi := by
          intro m
          induction m with
          | zero => intro y; omega
          | succ m ih =>
            intro y1 y2
            obtain ⟨qm, hqm⟩ := h.1 m (by omega)
            have hlm : (sl A b0 m).length = m := sl_len (fun j hj => h.1 j (by omega))
            rw [sl_s hqm]
            by_cases e : i = m
            · subst e
              rw [hqi] at hqm
              cases hqm
              rw [List.getD_eq_getElem?_getD, List.getElem?_append_right (by omega), hlm]
              simp
            · rw [List.getD_eq_getElem?_getD, List.getElem?_append_left (by omega), ← List.getD_eq_getElem?_getD]
              exact ih (by omega) (by omega)
        exact e z hi (Nat.le_refl _)
      unfold bX9_priceBehind_18 jX9_priceBehind_54_18 jX9_priceBehind_74_18
      simp (discharger := omega) only [kgi, gk, show (12 : Int32) = nI 12 from rfl, nle, nlt, if_neg, kgr_n hOT.1, kai_n, hord, neq, nI_1]
      by_cases hki : k ≤ i
      · rw [if_pos hki]
        have hmax : max i k = i := Nat.max_eq_left hki
        refine ok_kc (s_giveBack hn hp ho hs hps hos hPT hAT hST hOT hT hi hqi k4) ?_
        rintro U ⟨u1, u2⟩
        rw [ok_some, so_l]
        refine ⟨rfl, k2.tr u1, fun j hj1 hj2 => k3 j (by omega) hj2, fun v hv => ?_⟩
        rw [u2 v hv]
        have hmax' : max (i + 1) k = i + 1 := Nat.max_eq_left (by omega)
        have y1 := bst_back (A := A) (b0 := b0) (i := i) (v := v)
        have y2 := bst_dn (A := A) (b0 := b0) (k := k) (v := v) (i - k)
        rw [show k + (i - k) = i by omega] at y2
        rw [hmax, hmax']
        congr 1
        omega
      · rw [if_neg hki]
        have hmax : max i k = k := Nat.max_eq_right (by omega)
        have hmax' : max (i + 1) k = k := Nat.max_eq_right (by omega)
        by_cases e : qi = q
        · rw [if_pos e, ok_some, so_r]
          exact Or.inr ⟨T, rfl, k2, by rw [← e]; exact bst_in (by omega) hqi⟩
        · rw [if_neg e, if_pos (show i < k by omega), ok_some, so_l]
          refine ⟨rfl, k2, fun j hj1 hj2 => ?_, fun v hv => ?_⟩
          · by_cases e2 : j = i
            · rw [e2, hqi]
              intro y
              cases y
              exact e rfl
            · exact k3 j (by omega) hj2
          · rw [hmax', k4 v hv, hmax]
    · obtain ⟨t1, T⟩ := t
      obtain ⟨k1, k2, k3, k4⟩ := h1
      simp only at k1 k2 k4
      subst k1
      have hT : ShO T o A b0 z := h.fr k2 (by omega)
      have gk := hT.2.1.1
      rw [sl_len h.1] at gk
      unfold bX9_priceBehind_18
      simp (discharger := omega) only [kgi, gk, nle, if_pos, ok_some, so_r]
      refine Or.inl ⟨T, rfl, k2, ?_, fun v hv => ?_⟩
      · cases hb : (bst A b0 k).1.testBit q with
        | false => rfl
        | true =>
          obtain ⟨i, i1, i2⟩ := bst_src hb
          exact absurd i2 (k3 i (by omega) i1)
      · rw [k4 v hv, Nat.max_eq_left hk]
        have y2 := bst_dn (A := A) (b0 := b0) (k := k) (v := v) (z - k)
        rw [show k + (z - k) = z by omega] at y2
        congr 1
        omega
  refine ok_kc key ?_
  rintro r (⟨T, rfl, f2, hb, hv⟩ | ⟨T, rfl, f2, hb⟩)
  · dsimp only [ks]
    rw [if_neg (by rw [hb]; decide)]
    have hPT : SP Y T p := hP.fr f2.2.1
    have hAT : PV Y T p A := hA.fr f2 (by omega) (by omega)
    have hST : SH Y T s := hS.fr f2.2.1
    unfold jX9_priceBehind_80 jX9_priceBehind_108
    rw [s_firstBound hPT hAT hq, kc_s]
    cases hf : fbd A q with
    | none =>
      rw [if_pos (show oI none = -1 from rfl)]
      refine ok_i ⟨?_, f2⟩
      rw [fbd_none a7 hq hf]
      rfl
    | some r =>
      have hr := fbd_le a7 hq hf
      have hno : ¬ oI (some r) = -1 := by show ¬ nI r = m1; rw [nm1 (by omega)]; exact fun h => h
      rw [if_neg hno, kgr_n hST.2.1, oI_s, s_priceFrom hn hPT hAT ls2 hv (bst_sm hB) hq (by omega) (fbd_low hf), kc_s]
      exact ok_i ⟨rfl, f2⟩
  · dsimp only [ks]
    rw [if_pos hb]
    exact ok_i ⟨rfl, f2⟩
/-- what an outcome holds that RULE needs: the order; and, by shares, who paid -/
theorem s_ocopy {Y : XS} {n : Nat} {S : PS} {o o' : Nat} (hd : o + 8 ≤ o' ∨ o' + 8 ≤ o) (hO : SO Y S o) (hO' : SO Y S o') :
    ok (fX5_copyFrom Y n S o o') (fun S' => Fr (fun x => o ≤ x ∧ x < o + 8) S S' ∧ (∀ j, 1 ≤ j → j ≤ 5 → gi S' o j = gi S o' j) ∧ gi S' o 11 = nI 0 ∧ (∀ j, j < 12 → gi S' (o + 1) j = gi S (o' + 1) j) ∧ (∀ j, j < 288 → gi S' (o + 2) j = gi S (o' + 2) j) ∧ (∀ j, j < 24 → gi S' (o + 3) j = gi S (o' + 3) j)) := by
  obtain ⟨o0, o1, o2, o3, o4, o5, o6, lo1, lo2, lo3, lo4, lo5, lo6, lo7⟩ := hO
  obtain ⟨p0, p1, p2, p3, p4, p5, p6, lp1, lp2, lp3, lp4, lp5, lp6, lp7⟩ := hO'
  unfold fX5_copyFrom kpz
  simp (discharger := omega) only [kgi, kpi, Gi_si, if_neg]
  rw [if_pos (Or.inl trivial)]
  generalize hS1 : si (si (si (si (si (si S o 1 (gi S o' 1)) o 2 (gi S o' 2)) o 3 (gi S o' 3)) o 4 (gi S o' 4)) o 5 (gi S o' 5)) o 11 0 = S1
  have f1 : Fr (fun x => x = o) S S1 := by
    rw [← hS1]
    exact ((((((Fr.rf (M := fun x => x = o)).si rfl).si rfl).si rfl).si rfl).si rfl).si rfl
  rw [kgr_n (b := o' + 1) (by rw [f1.gr]; exact p0), kgr_n (b := o + 1) (by rw [f1.gr]; exact o0), show (0 : Int32) = nI 0 from rfl, show (12 : Int32) = nI 12 from rfl, show (288 : Int32) = nI 288 from rfl, show (24 : Int32) = nI 24 from rfl, kcp_n (by omega) (by omega) (by omega) (by omega)]
  rw [kgr_n (b := o' + 2) (by rw [Gr_sc, f1.gr]; exact p1), kgr_n (b := o + 2) (by rw [Gr_sc, f1.gr]; exact o1), kcp_n (by omega) (by omega) (by omega) (by omega)]
  rw [kgr_n (b := o' + 3) (by rw [Gr_sc, Gr_sc, f1.gr]; exact p2), kgr_n (b := o + 3) (by rw [Gr_sc, Gr_sc, f1.gr]; exact o2), kcp_n (by omega) (by omega) (by omega) (by omega)]
  refine ok_i ⟨(((f1.mono (by omega)).sc (by omega)).sc (by omega)).sc (by omega), fun j j1 j5 => ?_, ?_, fun j hj => ?_, fun j hj => ?_, fun j hj => ?_⟩
  · simp (discharger := omega) only [Gi_sc, if_neg]
    rw [← hS1]
    have : j = 1 ∨ j = 2 ∨ j = 3 ∨ j = 4 ∨ j = 5 := by omega
    rcases this with rfl | rfl | rfl | rfl | rfl <;> simp (discharger := omega) only [Gi_si, if_neg, if_pos, and_self, if_true]
  · simp (discharger := omega) only [Gi_sc, if_neg]
    rw [← hS1]
    simp (discharger := omega) only [Gi_si, if_pos, and_self, if_true]
    rfl
  · simp (discharger := omega) only [Gi_sc, if_neg, if_pos]
    rw [cpy0 hj]
    exact f1.gi (by omega) j
  · simp (discharger := omega) only [Gi_sc, if_neg, if_pos]
    rw [cpy0 hj]
    show gi _ (o' + 2) j = _
    rw [Gi_sc, if_neg (by omega)]
    exact f1.gi (by omega) j
  · simp (discharger := omega) only [Gi_sc, if_pos]
    rw [cpy0 hj]
    show gi _ (o' + 3) j = _
    rw [Gi_sc, if_neg (by omega), Gi_sc, if_neg (by omega)]
    exact f1.gi (by omega) j
