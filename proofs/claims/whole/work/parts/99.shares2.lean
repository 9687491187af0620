/-! THE MODEL: equal shares; purses raised. -/
theorem m_isFirst {Y : XS} {n : Nat} {S : PS} {A : EL} {a c p o : Nat} (hM : MSt Y S) (h : EW A) (hW : MW S A) (hp : p < eP A) (hop : o < p) (ha : a < 4611686018427387904) (hc : c < 4611686018427387904) :
    fX11_isFirst Y n S 215 (lN a) (nI p) (lN c) (nI o) = some (if (a < c ∨ (a = c ∧ lk A o < lk A p)) then 1 else 0) := by
  have b1 := h.2.1
  have l2 := hM.2.2.2.2.1.2.1
  have k1 := lk_le h o
  have k2 := lk_le h p
  have e1 := (hW p hp).1
  have e2 := (hW o (by omega)).1
  unfold fX11_isFirst jX11_isFirst_71 jX11_isFirst_19
  have z0 : kzr (0 : Int32) (some (0 : Int32)) = some 0 := by unfold kzr; rw [if_pos (Or.inl rfl)]
  have z1 : kzr (1 : Int32) (some (1 : Int32)) = some 1 := by unfold kzr; rw [if_pos (Or.inr rfl)]
  rw [z0, z1, kgr_n hM.2.1.2.1]
  simp (discharger := omega) only [kai_n, e1, e2, kgr_n hM.2.1.2.1, nle, neq]
  rw [show (0 : Int32) = nI 0 from rfl, j_eq (by omega) (by omega), j_ge (by omega) (by omega)]
  by_cases x1 : a = c
  · rw [if_pos x1]
    by_cases x2 : lk A p = lk A o
    · rw [if_pos x2, if_pos (by omega), if_neg (by omega)]
    · rw [if_neg x2]
      by_cases x3 : lk A p ≤ lk A o
      · rw [if_pos x3, if_neg (by omega)]
      · rw [if_neg x3, if_pos (by omega)]
  · rw [if_neg x1]
    by_cases x2 : c ≤ a
    · rw [if_pos x2, if_neg (by omega)]
    · rw [if_neg x2, if_pos (by omega)]
noncomputable def nxi (A : EL) (ch : Nat) (b : Nat → Nat) (i : Nat) : Option Nat := amf (fun q => !ch.testBit q && (prc A b q).isSome) (fun q => (prc A b q).getD 0) (lk A) i
noncomputable def pdv (A : EL) (b : Nat → Nat) : Option Nat → Int32
  | none => m1
  | some o => nI ((prc A b o).getD 0)
theorem nxi_s (A : EL) (ch : Nat) (b : Nat → Nat) (i : Nat) : nxi A ch b (i + 1) = if (!ch.testBit i && (prc A b i).isSome) = true then (match nxi A ch b i with
      | none => some i
      | some o => if (prc A b i).getD 0 < (prc A b o).getD 0 ∨ ((prc A b i).getD 0 = (prc A b o).getD 0 ∧ lk A o < lk A i) then some i else some o) else nxi A ch b i := rfl
theorem m_sharesIn {Y : XS} {n : Nat} {S : PS} {A : EL} {b : Nat → Nat} {ch : Nat} {x : Int32} (hn : 10000 ≤ n) (hM : MSt Y S) (h : NV S A) (hW : MW S A) (hb : BV S A b) (hB : sm b (eV A) ≤ 200000000) (hc : gi S 215 21 = nI ch) (hch : ch < 4096) :
    ok (iter (bX11_shares_32 Y n 215 x) n ((-1 : Int32), (-1 : Int32), (0 : Int32), S)) (fun t => t.1 = oI (nxt A ch b) ∧ t.2.1 = pdv A b (nxt A ch b) ∧ Fr (fun x => x = 230) S t.2.2) := by
  have a7 := h.ew
  have b1 := a7.2.1
  refine iter_ok (fun i t => t.1 = oI (nxi A ch b i) ∧ t.2.1 = pdv A b (nxi A ch b i) ∧ t.2.2.1 = nI i ∧ Fr (fun x => x = 230) S t.2.2.2) (eP A) (fun i t hi h1 => ?_) (fun t h1 => ?_) (by omega) ⟨rfl, rfl, rfl, Fr.rf⟩
  · obtain ⟨t1, t2, t3, T⟩ := t
    obtain ⟨k1, k2, k3, k4⟩ := h1
    simp only at k1 k2 k3 k4
    subst k1
    subst k2
    subst k3
    have hMT : MSt Y T := hM.fr k4.2.1
    have hT : NV T A := h.fr k4 (by omega)
    have hWT : MW T A := hW.fr k4 (by omega) (by omega) (by omega)
    have hcT : gi T 215 21 = nI ch := by rw [k4.gi (by omega)]; exact hc
    unfold bX11_shares_32
    rw [m_many hMT hT, kc_s]
    simp (discharger := omega) only [nle, if_neg, kgi, hcT]
    rw [m_isOf (by omega) (by omega), kc_s]
    by_cases c : ch.testBit i = true
    · rw [if_pos c, if_neg (by decide)]
      unfold jX11_shares_63_32 jX11_shares_105_32
      rw [if_pos rfl, nI_1, ok_some, so_l]
      have e : nxi A ch b (i + 1) = nxi A ch b i := by rw [nxi_s, if_neg (by rw [c]; simp)]
      rw [e]
      exact ⟨rfl, rfl, rfl, k4⟩
    · have c' : ch.testBit i = false := by simpa using c
      rw [if_neg c, if_pos rfl]
      refine ok_kc (m_priceOf hn hMT hT hWT (hb.fr k4 (by omega)) hB hi) ?_
      rintro ⟨r1, U⟩ ⟨y1, y2⟩
      simp only at y1 y2
      subst y1
      have f : Fr (fun x => x = 230) S U := k4.tr y2
      have hMU : MSt Y U := hM.fr f.2.1
      have hWU : MW U A := hW.fr f (by omega) (by omega) (by omega)
      unfold jX11_shares_63_32 jX11_shares_97_32 jX11_shares_105_32
      cases hp : prc A b i with
      | none =>
        rw [oI_0, mm1, if_pos rfl, nI_1, ok_some, so_l]
        have e : nxi A ch b (i + 1) = nxi A ch b i := by rw [nxi_s, if_neg (by rw [hp]; simp)]
        rw [e]
        exact ⟨rfl, rfl, rfl, f⟩
      | some r =>
        have hr := prc_le a7 hi hp
        rw [oI_s, mm1, if_neg (by rw [nm1 (by omega)]; exact fun e => e)]
        cases ho : nxi A ch b i with
        | none =>
          rw [oI_0, if_pos rfl, nI_1, ok_some, so_l]
          have e : nxi A ch b (i + 1) = some i := by rw [nxi_s, if_pos (by rw [hp, c']; rfl), ho]
          rw [e]
          refine ⟨rfl, ?_, rfl, f⟩
          show nI r = nI ((prc A b i).getD 0)
          rw [hp]
          rfl
        | some o =>
          obtain ⟨o1, o2, o3⟩ := amf_some ho
          have o2' : (!ch.testBit o && (prc A b o).isSome) = true := o2
          have : ∃ z, prc A b o = some z := by
            cases hz : prc A b o with
            | none => rw [hz] at o2'; simp at o2'
            | some z => exact ⟨z, rfl⟩
          obtain ⟨z, hz⟩ := this
          have hz2 := prc_le a7 (by omega) hz
          have ep : pdv A b (some o) = nI z := by
            show nI ((prc A b o).getD 0) = nI z
            rw [hz]
            rfl
          rw [oI_s, if_neg (by rw [nm1 (by omega)]; exact fun e => e), ep, nI_l (by omega), nI_l (by omega), m_isFirst hMU a7 hWU hi o1 (by omega) (by omega), kc_s]
          have e : nxi A ch b (i + 1) = if r < z ∨ (r = z ∧ lk A o < lk A i) then some i else some o := by
            rw [nxi_s, if_pos (by rw [hp, c']; rfl), ho]
            dsimp only
            rw [hp, hz]
            rfl
          rw [e]
          by_cases d : r < z ∨ (r = z ∧ lk A o < lk A i)
          · rw [if_pos d, if_pos d, if_neg (by decide), nI_1, ok_some, so_l]
            refine ⟨rfl, ?_, rfl, f⟩
            show nI r = nI ((prc A b i).getD 0)
            rw [hp]
            rfl
          · rw [if_neg d, if_neg d, if_pos rfl, nI_1, ok_some, so_l]
            exact ⟨rfl, ep.symm, rfl, f⟩
  · obtain ⟨t1, t2, t3, T⟩ := t
    obtain ⟨k1, k2, k3, k4⟩ := h1
    simp only at k1 k2 k3 k4
    subst k1
    subst k2
    subst k3
    unfold bX11_shares_32
    rw [m_many (hM.fr k4.2.1) (h.fr k4 (by omega)), kc_s]
    simp (discharger := omega) only [nle, if_pos, ok_some, so_r]
    exact ⟨rfl, rfl, k4⟩
def Ms (x : Nat) : Prop := x = 215 ∨ (224 ≤ x ∧ x < 231)
/-- fields of the model but what is chosen -/
def FK (S S' : PS) : Prop := ∀ j, j ≠ 21 → j ≠ 22 → gi S' 215 j = gi S 215 j
theorem FK.rf {S : PS} : FK S S := fun _ _ _ => rfl
theorem FK.tr {S S' S'' : PS} (h : FK S S') (k : FK S' S'') : FK S S'' := fun j j1 j2 => (k j j1 j2).trans (h j j1 j2)
theorem m_shares {Y : XS} {n : Nat} {S : PS} {A : EL} {m most : Nat} (hn : 10000 ≤ n) (hM : MSt Y S) (h : NV S A) (hW : MW S A) (hm : m ≤ 300) (hk : most ≤ 12) :
    ok (fX11_shares Y n S 215 (nI (m * 1000)) (nI most)) (fun T => Fr Ms S T ∧ FK S T ∧ ∃ k, k ≤ most ∧ MSh T A (fun _ => pu A m) k ∧ (k = most ∨ sq A (fun _ => pu A m) k = none)) := by
  have a7 := h.ew
  have b1 := a7.2.1
  have hB := pu_sum a7 hm
  unfold fX11_shares jX11_shares_138
  refine ok_kc (m_clear (A := A) hn hM) ?_
  rintro S1 ⟨p1, p2, p3, p4⟩
  have h1 : NV S1 A := h.fr p1 (by omega)
  refine ok_kc (m_layPurses hn (hM.fr p1.2.1) h1) ?_
  rintro S2 ⟨p5, p6⟩
  have f2 : Fr Ms S S2 := (p1.mono (fun b hb => by unfold Ms; omega)).tr (p5.mono (fun b hb => by unfold Ms; omega))
  have k2 : FK S S2 := fun j j1 j2 => by rw [p5.gi (by omega)]; exact p4 j j1 j2
  have s2 : MSh S2 A (fun _ => pu A m) 0 := by
    refine ⟨fun i hi => absurd hi (Nat.not_lt_zero _), ?_, p6, fun v p hv hp => ?_, fun i q hi => absurd hi (Nat.not_lt_zero _)⟩
    · exact p2.fr p5 (fun j _ => p5.gi (by omega) j) (by omega)
    · rw [p5.gi (by omega)]
      have b2 := a7.2.2.1
      exact p3 _ (by omega)
  refine ok_kc (iter_ok (fun i t => Fr Ms S t.2 ∧ FK S t.2 ∧ ((t.1 = 1 ∧ MSh t.2 A (fun _ => pu A m) i ∧ i ≤ most) ∨ (t.1 = 0 ∧ ∃ k, k ≤ most ∧ MSh t.2 A (fun _ => pu A m) k ∧ sq A (fun _ => pu A m) k = none))) (Q := fun T => Fr Ms S T ∧ FK S T ∧ ∃ k, k ≤ most ∧ MSh T A (fun _ => pu A m) k ∧ (k = most ∨ sq A (fun _ => pu A m) k = none)) 14 (fun i t hi q => ?_) (fun t q => ?_) (by omega) ⟨f2, k2, Or.inl ⟨rfl, s2, Nat.zero_le _⟩⟩) (fun r h => ok_i h)
  · obtain ⟨t1, T⟩ := t
    obtain ⟨q1, q2, q3⟩ := q
    simp only at q1 q2 q3
    unfold bX11_shares_11
    dsimp only
    rcases q3 with ⟨e, q3, q4⟩ | ⟨e, k, q3, q4, q5⟩
    · subst e
      have hMT : MSt Y T := hM.fr q1.2.1
      have hT : NV T A := h.fr q1 (by unfold Ms; omega)
      have hWT : MW T A := hW.fr q1 (by unfold Ms; omega) (by unfold Ms; omega) (by unfold Ms; omega)
      have e22 : gi T 215 22 = nI i := by rw [q3.2.1.1, sl_len q3.1]
      rw [if_neg (by decide), kgi_n, e22, i_le (by omega) (by omega)]
      by_cases c : most ≤ i
      · rw [if_pos c, ok_some, so_r]
        exact ⟨q1, q2, i, q4, q3, Or.inl (by omega)⟩
      · rw [if_neg c]
        have e21 : gi T 215 21 = nI (bst A (fun _ => pu A m) i).1 := by rw [q3.2.1.2.1, lb_sl]
        have lt : (bst A (fun _ => pu A m) i).1 < 4096 := by
          rw [← lb_sl]
          exact (sl_gl i).lt a7
        refine ok_kc (m_sharesIn hn hMT hT hWT q3.2.2.1 (bst_sm hB) e21 lt) ?_
        rintro ⟨r1, r2, U⟩ ⟨y1, y2, y3⟩
        simp only at y1 y2 y3
        subst y1
        subst y2
        have fU : Fr Ms S U := q1.tr (y3.mono (fun b hb => by unfold Ms; omega))
        have kU : FK S U := q2.tr (fun j _ _ => y3.gi (by omega) j)
        have sU : MSh U A (fun _ => pu A m) i := q3.fr y3 (fun j _ => y3.gi (by omega) j) (fun x x1 x2 => by omega)
        unfold jX11_shares_122_11 jX11_shares_135_11
        dsimp only
        have es : nxt A (bst A (fun _ => pu A m) i).1 (bst A (fun _ => pu A m) i).2 = sq A (fun _ => pu A m) i := rfl
        rw [es]
        cases hs : sq A (fun _ => pu A m) i with
        | none =>
          rw [oI_0, mm1, if_pos rfl, if_pos rfl, ok_some, so_l]
          exact ⟨fU, kU, Or.inr ⟨rfl, i, q4, sU, hs⟩⟩
        | some q =>
          have hq := (nxt_some hs).1
          rw [oI_s, mm1, if_neg (by rw [nm1 (by omega)]; exact fun e => e), if_neg (by decide)]
          have ep : pdv A (bst A (fun _ => pu A m) i).2 (some q) = nI (spr A (fun _ => pu A m) i q) := rfl
          rw [ep]
          refine ok_kc (m_pay hn (hM.fr fU.2.1) (h.fr fU (by unfold Ms; omega)) (hW.fr fU (by unfold Ms; omega) (by unfold Ms; omega) (by unfold Ms; omega)) hB sU hs) ?_
          rintro W ⟨z1, z2, z3⟩
          rw [ok_some, so_l]
          exact ⟨fU.tr (z1.mono (fun b hb => by unfold Ms; omega)), kU.tr z3, Or.inl ⟨rfl, z2, by omega⟩⟩
    · subst e
      rw [if_pos rfl, ok_some, so_r]
      exact ⟨q1, q2, k, q3, q4, Or.inr q5⟩
  · obtain ⟨t1, T⟩ := t
    obtain ⟨q1, q2, q3⟩ := q
    simp only at q1 q2 q3
    unfold bX11_shares_11
    dsimp only
    rcases q3 with ⟨e, q3, q4⟩ | ⟨e, k, q3, q4, q5⟩
    · omega
    · subst e
      rw [if_pos rfl, ok_some, so_r]
      exact ⟨q1, q2, k, q3, q4, Or.inr q5⟩
/-- equal shares to their end -/
def FM (S : PS) (A : EL) (m : Nat) : Prop := ∃ k, k ≤ 12 ∧ MSh S A (fun _ => pu A m) k ∧ sq A (fun _ => pu A m) k = none
theorem m_shares12 {Y : XS} {n : Nat} {S : PS} {A : EL} {m : Nat} (hn : 10000 ≤ n) (hM : MSt Y S) (h : NV S A) (hW : MW S A) (hm : m ≤ 300) :
    ok (fX11_shares Y n S 215 (nI (m * 1000)) (12 : Int32)) (fun T => Fr Ms S T ∧ FK S T ∧ FM T A m) := by
  refine ok_mono (m_shares hn hM h hW hm (Nat.le_refl 12)) ?_
  rintro T ⟨t1, t2, k, t3, t4, t5⟩
  refine ⟨t1, t2, k, t3, t4, ?_⟩
  rcases t5 with t5 | t5
  · subst t5
    exact sq_all t4.1 h.ew.2.1
  · exact t5
theorem FM.o {S : PS} {A : EL} {m : Nat} (h : FM S A m) : MO S A (sl A (fun _ => pu A m) 12) ∧ BV S A (bst A (fun _ => pu A m) 12).2 ∧ gi S 215 21 = nI (fin A m) ∧ gi S 215 22 = nI (sl A (fun _ => pu A m) 12).length ∧ ∀ v p, v < eV A → p < eP A → gi S 226 (12 * v + p) = nI (pdk A (fun _ => pu A m) p v 12) := by
  obtain ⟨k, h1, h2, h3⟩ := h
  obtain ⟨e1, e2, e3⟩ := at_end h1 h3
  have o := h2.2.1
  rw [← e2] at o
  refine ⟨o, ?_, ?_, o.1, fun v p hv hp => ?_⟩
  · rw [e1]
    exact h2.2.2.1
  · rw [o.2.1, lb_sl]
    rfl
  · rw [h2.2.2.2.1 v p hv hp]
    congr 1
    have key : ∀ d, pdk A (fun _ => pu A m) p v (k + d) = pdk A (fun _ => pu A m) p v k := by
      intro d
      induction d with
      | zero => rfl
      | succ d ih =>
        rw [← Nat.add_assoc, pdk_s, (sq_stay h3 d).1, if_neg (by simp)]
        exact ih
    have := key (12 - k)
    rw [show k + (12 - k) = 12 by omega] at this
    exact this.symm
theorem m_raises {Y : XS} {n : Nat} {S : PS} {A : EL} (hn : 10000 ≤ n) (hM : MSt Y S) (h : NV S A) (hW : MW S A) :
    ok (fX11_raises Y n S 215) (fun T => Fr Ms S T ∧ (∀ j, j ≠ 21 → j ≠ 22 → j ≠ 23 → gi T 215 j = gi S 215 j) ∧ gi T 215 23 = nI (rz A) ∧ FM T A (rz A)) := by
  have a7 := h.ew
  have b0 := a7.1
  have b1 := a7.2.1
  have l := hM.2.2.2.1.1
  unfold fX11_raises
  rw [kpi_n]
  generalize hS1 : si S 215 23 0 = S1
  have f1 : Fr Ms S S1 := by rw [← hS1]; exact Fr.rf.si (Or.inl rfl)
  have g1 : ∀ j, gi S1 215 j = if j = 23 then nI 0 else gi S 215 j := by
    intro j
    rw [← hS1, Gi_si]
    by_cases e : j = 23
    · rw [if_pos ⟨rfl, e⟩, if_pos e]; rfl
    · rw [if_neg (by omega), if_neg e]
  have mv : ∀ T, Fr Ms S T → MSt Y T ∧ NV T A ∧ MW T A := fun T f => ⟨hM.fr f.2.1, h.fr f (by unfold Ms; omega), hW.fr f (by unfold Ms; omega) (by unfold Ms; omega) (by unfold Ms; omega)⟩
  obtain ⟨x1, x2, x3⟩ := mv S1 f1
  refine ok_kc (m_shares12 (m := 0) hn x1 x2 x3 (by decide)) ?_
  rintro S2 ⟨p1, p2, p3⟩
  refine ok_kc (P := fun r => ∃ T, (r = .inl T ∨ r = .inr T) ∧ Fr Ms S T ∧ (∀ j, j ≠ 21 → j ≠ 22 → j ≠ 23 → gi T 215 j = gi S 215 j) ∧ gi T 215 23 = nI (rz A) ∧ FM T A (rz A)) (iter_ok (fun i T => Fr Ms S T ∧ (∀ j, j ≠ 21 → j ≠ 22 → j ≠ 23 → gi T 215 j = gi S 215 j) ∧ gi T 215 23 = nI i ∧ FM T A i ∧ rz A = rzf A (300 - i) i) 300 (fun i T hi q => ?_) (fun T q => ?_) (by omega) ⟨f1.tr p1, fun j j1 j2 j3 => by rw [p2 j j1 j2, g1, if_neg j3], by rw [p2 23 (by decide) (by decide), g1, if_pos rfl], p3, rfl⟩) ?_
  · obtain ⟨q1, q2, q3, q4, q5⟩ := q
    obtain ⟨y1, y2, y3⟩ := mv T q1
    have o := q4.o
    have gl := o.1.2.2.2.le
    rw [show 300 - i = (300 - (i + 1)) + 1 by omega, rzf_s] at q5
    unfold bX11_raises_12
    rw [kgi_n, q3, show (300 : Int32) = nI 300 from rfl, i_le (by omega) (by omega), if_neg (by omega), kgi_n, o.2.2.2.1, m_many y1 y2, kc_s, i_le (by omega) (by omega)]
    by_cases c : eP A ≤ (sl A (fun _ => pu A i) 12).length
    · rw [if_pos c, ok_some, so_r]
      rw [if_pos (by omega)] at q5
      exact ⟨T, Or.inl rfl, q1, q2, by rw [q5]; exact q3, by rw [q5]; exact q4⟩
    · rw [if_neg c]
      rw [if_neg (by omega)] at q5
      rw [kgi_n, q3, nI_1, show (1000 : Int32) = nI 1000 from rfl, nmul, Nat.mul_comm]
      refine ok_kc (m_shares12 hn y1 y2 y3 (by omega)) ?_
      rintro U ⟨z1, z2, z3⟩
      have fU := q1.tr z1
      obtain ⟨w1, w2, w3⟩ := mv U fU
      have oU := z3.o
      have lt : fin A (i + 1) < 4096 := by
        have := oU.1.2.2.2.lt a7
        rw [lb_sl] at this
        exact this
      have cl := csum_le a7 (fin A (i + 1))
      have eU : gi U 215 23 = nI i := by rw [z2 23 (by decide) (by decide)]; exact q3
      have kU : ∀ j, j ≠ 21 → j ≠ 22 → j ≠ 23 → gi U 215 j = gi S 215 j := fun j j1 j2 j3 => (z2 j j1 j2).trans (q2 j j1 j2 j3)
      rw [kgi_n, oU.2.2.1, m_costsOf (by omega) w1 w2 (by omega), kc_s, kgr_n w1.1.1, show (0 : Int32) = nI 0 from rfl, kai_n (by omega) (by omega), w2.m, i_le (by omega) (by omega)]
      by_cases d : csum A (fin A (i + 1)) ≤ eM A
      · rw [if_pos d, kgi_n, eU, nI_1, kpi_n, ok_some, so_l]
        rw [if_neg (by omega)] at q5
        refine ⟨fU.si (Or.inl rfl), fun j j1 j2 j3 => ?_, ?_, ?_, q5⟩
        · rw [Gn (by omega)]
          exact kU j j1 j2 j3
        · rw [Gp]
        · obtain ⟨k, a1, a2, a3⟩ := z3
          refine ⟨k, a1, a2.fr (M := fun x => x = 215) (Fr.rf.si rfl) (fun j hj => ?_) (fun x _ _ => by omega), a3⟩
          rw [Gn (by omega)]
      · rw [if_neg d, kgi_n, eU, nmul, Nat.mul_comm]
        rw [if_pos (by omega)] at q5
        refine ok_kc (m_shares12 hn w1 w2 w3 (by omega)) ?_
        rintro V ⟨v1, v2, v3⟩
        rw [ok_some, so_r]
        refine ⟨V, Or.inr rfl, fU.tr v1, fun j j1 j2 j3 => (v2 j j1 j2).trans (kU j j1 j2 j3), ?_, by rw [q5]; exact v3⟩
        rw [v2 23 (by decide) (by decide), q5]
        exact eU
  · obtain ⟨q1, q2, q3, q4, q5⟩ := q
    unfold bX11_raises_12
    rw [kgi_n, q3, show (300 : Int32) = nI 300 from rfl, if_pos (Int32.le_refl _), ok_some, so_r]
    have q5' : rz A = 300 := q5
    exact ⟨T, Or.inl rfl, q1, q2, by rw [q5']; exact q3, by rw [q5']; exact q4⟩
  · rintro r ⟨T, hr, f⟩
    rcases hr with rfl | rfl
    · exact ok_i f
    · exact ok_i f
