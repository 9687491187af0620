/-! TIME: keepTime, the loops. -/
def tml (A : EL) : List Nat := (tms A (eP A)).1
theorem tq_s (A : EL) (B : Nat) (f : Nat → Nat) (i : Nat) : tq A B f (i + 1) = if (!B.testBit i && decide (0 < lk A i)) = true then (match tq A B f i with
      | none => some i
      | some o => if due A f i < due A f o ∨ (due A f i = due A f o ∧ lk A o < lk A i) then some i else some o) else tq A B f i := rfl
theorem kt109 {Y : XS} {n : Nat} {S : PS} {v0 v1 v2 : Nat} {v3 v4 v7 : Int32} {v5 v8 : Int64} : jX0_keepTime_109_30 Y n S v0 v1 v2 v3 v4 v5 v7 v8 = some (.inl (v7, v8, v7 + 1)) := by
  unfold jX0_keepTime_109_30 jX0_keepTime_114_30
  rw [if_neg (by decide)]
  unfold jX0_keepTime_128_30
  rw [if_neg (by decide)]
  rfl
theorem kt113 {Y : XS} {n : Nat} {S : PS} {v0 v1 v2 : Nat} {v3 v4 v7 : Int32} {v5 v8 : Int64} : jX0_keepTime_113_30 Y n S v0 v1 v2 v3 v4 v5 v7 v8 = some (.inl (v4, v5, v7 + 1)) := by
  unfold jX0_keepTime_113_30 jX0_keepTime_114_30
  rw [if_pos rfl]
  unfold jX0_keepTime_128_30
  rw [if_pos rfl]
  rfl
theorem kt144 {Y : XS} {n : Nat} {S : PS} {v0 v1 v2 : Nat} {v3 v4 v7 : Int32} {v5 : Int64} : jX0_keepTime_144_30 Y n S v0 v1 v2 v3 v4 v5 v7 = some (.inl (v4, v5, v7 + 1)) := rfl
def tdv (A : EL) (f : Nat → Nat) : Option Nat → Nat
  | none => 0
  | some o => due A f o
theorem s_timeIn {Y : XS} {n : Nat} {S : PS} {c p o B : Nat} {x : Int32} {A : EL} {f : Nat → Nat} (hn : 100 ≤ n) (hP : SP Y S p) (hA : PV Y S p A) (hc : gr S c 2 = some (c + 10)) (hl : ln Y (c + 10) = 24) (hf : ∀ v, v < eV A → gl S (c + 10) v = lN (f v)) (hb : ∀ v, v < eV A → f v ≤ 1000000000) (hB : gi S o 2 = nI B) (hB2 : B < 4096) :
    iter (bX0_keepTime_30 Y n S c p o x) n ((-1 : Int32), (0 : Int64), (0 : Int32)) = some (oI (tq A B f (eP A)), lN (tdv A f (tq A B f (eP A)))) := by
  have a7 := hA.1.2.2.2.2.2.2.2
  have b1 := a7.2.1
  have a1 := hA.1.2.1
  have l1 := hP.2.2.2.2.2.2.2.2.1
  refine iter_run (fun i => (oI (tq A B f i), lN (tdv A f (tq A B f i)), nI i)) (eP A) (fun i hi => ?_) ?_ (by omega) rfl
  · have ti := (hA.2 i hi).1
    have hli := lk_le a7 i
    have di := due_le a7 hi hb
    unfold bX0_keepTime_30
    simp (discharger := omega) only [kgr_n hP.2.1, kgi, a1, nle, if_neg, kgr_n hP.2.2.1, kai_n, ti, kt109, kt113, kt144, nI_1]
    rw [s_has hB (by omega) (by omega), kc_s, tq_s]
    by_cases hbt : B.testBit i = true
    · rw [if_pos hbt, if_neg (by decide), if_neg (by rw [hbt]; simp)]
    · have hbt' : B.testBit i = false := by simpa using hbt
      rw [if_neg hbt, if_pos rfl]
      by_cases hk : lk A i = 0
      · rw [hk, if_pos (by decide), if_neg (by rw [hbt']; decide)]
      · rw [if_neg (nI_nle (by omega) (by omega)), if_pos (show (!B.testBit i && decide (0 < lk A i)) = true by rw [hbt', decide_eq_true (show 0 < lk A i by omega)]; rfl), s_dueAt hn hP hA hc hl hf hb hi (by omega), kc_s]
        cases hg : tq A B f i with
        | none =>
          rw [if_pos (show oI none = -1 from rfl)]
          rfl
        | some o' =>
          obtain ⟨q1, q2, _⟩ := amf_some hg
          have to := (hA.2 o' (by omega)).1
          have hlo := lk_le a7 o'
          have d0 := due_le a7 (show o' < eP A by omega) hb
          have hno : ¬ oI (some o') = -1 := by show ¬ nI o' = m1; rw [nm1 (by omega)]; exact fun h => h
          rw [if_neg hno]
          simp (discharger := omega) only [oI_s, tdv, show (0 : Int32) = nI 0 from rfl, cmp_lt, cmp_eq, l_lt, l_eq, kai_n, to, ti, nle]
          by_cases x1 : due A f i < due A f o'
          · rw [if_pos x1, if_pos (Or.inl x1)]; rfl
          · rw [if_neg x1]
            by_cases x2 : due A f i = due A f o'
            · rw [if_pos x2]
              by_cases x3 : lk A i ≤ lk A o'
              · rw [if_pos x3, if_neg (by omega)]; rfl
              · rw [if_neg x3, if_pos (by omega)]; rfl
            · rw [if_neg x2, if_neg (by omega)]; rfl
  · unfold bX0_keepTime_30
    simp (discharger := omega) only [kgr_n hP.2.1, kgi, a1, nle, if_pos]
theorem s_keepTime {Y : XS} {n : Nat} {S : PS} {c p o : Nat} {A : EL} (hn : 100 ≤ n) (hp : p + 11 ≤ 235) (ho : o + 8 ≤ 235) (hcc : c + 11 ≤ 235) (hpo : p + 11 ≤ o ∨ o + 8 ≤ p) (hpc : p + 11 ≤ c ∨ c + 11 ≤ p) (hoc : o + 8 ≤ c ∨ c + 11 ≤ o) (hP : SP Y S p) (hA : PV Y S p A) (hO : SO Y S o) (hc : gr S c 2 = some (c + 10)) (hl : ln Y (c + 10) = 24) (h : OC S o A []) :
    ok (fX0_keepTime Y n S c p o) (fun S' => Fr (fun x => x = c + 10 ∨ x = o ∨ x = o + 1) S S' ∧ OC S' o A (tml A) ∧ ∀ j, j ≠ 1 → j ≠ 2 → j ≠ 3 → gi S' o j = gi S o j) := by
  have a7 := hA.1.2.2.2.2.2.2.2
  have b0 := a7.1
  have b1 := a7.2.1
  have b2 := a7.2.2.1
  have l := hP.1.2.2.2.1
  unfold fX0_keepTime
  rw [kgr_n hc]
  refine ok_kc (s_fillL (by omega) (by omega)) ?_
  rintro S1 ⟨f1, _, f3⟩
  have f1' : Fr (fun x => x = c + 10 ∨ x = o ∨ x = o + 1) S S1 := f1.mono (by omega)
  refine ok_kc (iter_ok (fun r t => t.1 = nI r ∧ Fr (fun x => x = c + 10 ∨ x = o ∨ x = o + 1) S t.2 ∧ OC t.2 o A (tms A r).1 ∧ (∀ v, v < eV A → gl t.2 (c + 10) v = lN ((tms A r).2 v)) ∧ ∀ j, j ≠ 1 → j ≠ 2 → j ≠ 3 → gi t.2 o j = gi S o j) (Q := fun r => ∃ S', (r = .inl S' ∨ r = .inr S') ∧ Fr (fun x => x = c + 10 ∨ x = o ∨ x = o + 1) S S' ∧ OC S' o A (tml A) ∧ ∀ j, j ≠ 1 → j ≠ 2 → j ≠ 3 → gi S' o j = gi S o j) (eP A) (fun r t hr h1 => ?_) (fun t h1 => ?_) (by omega) ⟨rfl, f1', h.fr f1 (by omega) (by omega), fun v hv => f3 v (by omega), fun j _ _ _ => f1.gi (by omega) j⟩) ?_
  · obtain ⟨t1, T⟩ := t
    obtain ⟨k1, k2, k3, k4, k5⟩ := h1
    simp only at k1 k2 k3 k4 k5
    subst k1
    obtain ⟨g1, g2⟩ := tms_ok a7 r
    have hcap := cap_le (show r ≤ 12 by omega)
    have hPT : SP Y T p := hP.fr k2.2.1
    have hAT : PV Y T p A := hA.fr k2 (by omega) (by omega)
    have hOT : SO Y T o := hO.fr k2.2.1
    have hcT : gr T c 2 = some (c + 10) := by rw [k2.gr]; exact hc
    have m0 := hAT.1.1
    have m1' := hAT.1.2.1
    have gs := k3.2.2.1
    have hcl := csum_le a7 (lb (tms A r).1)
    unfold bX0_keepTime_10 jX0_keepTime_181_10
    simp (discharger := omega) only [kgr_n hPT.2.1, kgi, m1', nle, if_neg]
    rw [s_timeIn hn hPT hAT hcT hl k4 (fun v hv => by have := g2 v hv; omega) k3.2.1 (g1.lt a7), kc_s]
    have stop : tms A (r + 1) = tms A r → tml A = (tms A r).1 := by
      intro e
      have e2 := tms_stay e (eP A - r)
      rw [show r + (eP A - r) = eP A by omega] at e2
      unfold tml
      rw [e2]
    cases hg : tq A (lb (tms A r).1) (tms A r).2 (eP A) with
    | none =>
      rw [if_pos (show oI none = -1 from rfl), ok_some, so_r]
      refine ⟨T, Or.inr rfl, k2, ?_, k5⟩
      rw [stop (by rw [tms_s, hg])]
      exact k3
    | some q =>
      obtain ⟨q1, q2, _⟩ := amf_some hg
      rw [Bool.and_eq_true] at q2
      have q3 : (lb (tms A r).1).testBit q = false := by simpa using q2.1
      have hno : ¬ oI (some q) = -1 := by show ¬ nI q = m1; rw [nm1 (by omega)]; exact fun h => h
      have d1 := hAT.1.2.2.2.1 q q1
      have hcq := a7.2.2.2.1 q q1
      rw [if_neg hno]
      simp (discharger := omega) only [oI_s, tdv, gs, kgr_n hPT.1.1, kai_n, d1, m0, nI_add, nle, nI_1]
      by_cases hx : csum A (lb (tms A r).1) + eC A q ≤ eM A
      · rw [if_pos hx]
        have e : tms A (r + 1) = ((tms A r).1 ++ [q], fun v => if 0 < eS A q v then due A (tms A r).2 q else (tms A r).2 v) := by
          rw [tms_s, hg]
          dsimp only
          rw [if_pos hx]
        refine ok_kc (s_add a7 hOT k3 q1 q3) ?_
        rintro U ⟨u1, u2, u3⟩
        have fU : Fr (fun x => x = c + 10 ∨ x = o ∨ x = o + 1) S U := k2.tr (u1.mono (by omega))
        refine ok_kc (s_emptyPurses hn hcc hpc (hP.fr fU.2.1) (hA.fr fU (by omega) (by omega)) (by rw [fU.gr]; exact hc) hl (fun v hv => by rw [u1.gl (by omega)]; exact k4 v hv) q1) ?_
        rintro W ⟨w1, w2⟩
        rw [ok_some, so_l]
        refine ⟨rfl, fU.tr (w1.mono (by omega)), ?_, ?_, fun j j1 j2 j3 => ?_⟩
        · rw [e]
          exact u2.fr w1 (by omega) (by omega)
        · rw [e]
          exact w2
        · rw [w1.gi (by omega), u3 j j1 j2 j3]
          exact k5 j j1 j2 j3
      · rw [if_neg hx, ok_some, so_r]
        refine ⟨T, Or.inr rfl, k2, ?_, k5⟩
        rw [stop (by rw [tms_s, hg]; dsimp only; rw [if_neg hx])]
        exact k3
  · obtain ⟨t1, T⟩ := t
    obtain ⟨k1, k2, k3, k4, k5⟩ := h1
    simp only at k1 k2 k3 k4 k5
    subst k1
    have hPT : SP Y T p := hP.fr k2.2.1
    have hAT : PV Y T p A := hA.fr k2 (by omega) (by omega)
    have m1' := hAT.1.2.1
    unfold bX0_keepTime_10
    simp (discharger := omega) only [kgr_n hPT.2.1, kgi, m1', nle, if_pos, ok_some, so_r]
    exact ⟨T, Or.inl rfl, k2, k3, k5⟩
  · rintro r ⟨S', hr, h1, h2, h3⟩
    rcases hr with rfl | rfl
    · exact ok_i ⟨h1, h2, h3⟩
    · exact ok_i ⟨h1, h2, h3⟩
