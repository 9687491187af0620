/-! SEARCH, CLASS: least bits; sums of the lesser projects. -/
def lof : Nat → Nat → Nat
  | 0, _ => 0
  | k + 1, s => if s % 2 = 1 then 0 else 1 + lof k (s / 2)
/-- the least project of a set, 12 if there is none -/
def lo (s : Nat) : Nat := if s = 0 then 12 else lof 12 s
theorem by64 {P : Nat → Prop} (h : ∀ a, a < 64 → ∀ b, b < 64 → P (64 * a + b)) : ∀ s, s < 4096 → P s := by
  intro s hs
  have := h (s / 64) (by omega) (s % 64) (by omega)
  rw [show 64 * (s / 64) + s % 64 = s by omega] at this
  exact this
theorem lo_all : ∀ s, s < 4096 → fX8_least Y0 0 S0 (nI s) = some (nI (lo s)) := by64 (P := fun s => fX8_least Y0 0 S0 (nI s) = some (nI (lo s))) (by decide +kernel)
theorem s_least {Y : XS} {n : Nat} {S : PS} {s : Nat} (h : s < 4096) : fX8_least Y n S (nI s) = some (nI (lo s)) := lo_all s h
theorem lo_neg : ∀ s, s < 4096 → nI s &&& (-nI s) = nI (if s = 0 then 0 else 2 ^ lo s) := by64 (P := fun s => nI s &&& (-nI s) = nI (if s = 0 then 0 else 2 ^ lo s)) (by decide +kernel)
theorem lo_bits : ∀ s, s < 4096 → 0 < s → lo s < 12 ∧ s &&& (s - 1) = s - 2 ^ lo s ∧ 2 ^ lo s ≤ s ∧ (s - 2 ^ lo s) ||| 2 ^ lo s = s ∧ (s - 2 ^ lo s).testBit (lo s) = false ∧ s % 2 ^ lo s = 0 ∧ s / 2 ^ lo s % 2 = 1 := by64 (P := fun s => 0 < s → lo s < 12 ∧ s &&& (s - 1) = s - 2 ^ lo s ∧ 2 ^ lo s ≤ s ∧ (s - 2 ^ lo s) ||| 2 ^ lo s = s ∧ (s - 2 ^ lo s).testBit (lo s) = false ∧ s % 2 ^ lo s = 0 ∧ s / 2 ^ lo s % 2 = 1) (by decide +kernel)
theorem lo_tb {s : Nat} (h : s < 4096) (h0 : 0 < s) : s.testBit (lo s) = true := by
  rw [tb_dm]
  exact decide_eq_true (lo_bits s h h0).2.2.2.2.2.2
theorem lo_below {s j : Nat} (h : s < 4096) (h0 : 0 < s) (hj : j < lo s) : s.testBit j = false := by
  have h1 := (lo_bits s h h0).2.2.2.2.2.1
  have h2 : s = 2 ^ lo s * (s / 2 ^ lo s) := by
    have := Nat.div_add_mod s (2 ^ lo s)
    omega
  rw [h2, Nat.testBit_two_pow_mul]
  have : ¬ lo s ≤ j := by omega
  simp [this]
theorem lo_lt {s P : Nat} (h : s < 2 ^ P) (hP : P ≤ 12) (h0 : 0 < s) : lo s < P := by
  have hs : s < 4096 := Nat.lt_of_lt_of_le h (p12 hP)
  by_cases z : lo s < P
  · exact z
  · have h1 := (lo_bits s hs h0).2.2.1
    have h2 : 2 ^ P ≤ 2 ^ lo s := Nat.pow_le_pow_right (by decide) (by omega)
    omega
/-- the sets that have lesser projects too -/
theorem up_tb {s x i l : Nat} (hl : s % 2 ^ l = 0) (h1 : s ≤ x) (h2 : x < s + 2 ^ l) (hi : l ≤ i) : x.testBit i = s.testBit i := by
  have e : x / 2 ^ l = s / 2 ^ l := by
    have hs : s = 2 ^ l * (s / 2 ^ l) := by
      have := Nat.div_add_mod s (2 ^ l)
      omega
    apply Nat.div_eq_of_lt_le
    · rw [Nat.mul_comm]; omega
    · rw [Nat.add_mul, Nat.one_mul, Nat.mul_comm]; omega
  have d : ∀ y : Nat, y.testBit i = (y / 2 ^ l).testBit (i - l) := by
    intro y
    rw [tb_dm, tb_dm, Nat.div_div_eq_div_mul, ← Nat.pow_add, show l + (i - l) = i by omega]
  rw [d x, d s, e]
theorem sm_low {f g h : Nat → Nat} {l : Nat} : ∀ {n : Nat}, (∀ i, i < n → i < l → f i ≤ g i + h i) → (∀ i, i < n → l ≤ i → f i ≤ g i) → sm f n ≤ sm g n + sm h l
  | 0, _, _ => Nat.zero_le _
  | n + 1, h1, h2 => by
    have ih := sm_low (n := n) (f := f) (g := g) (h := h) (l := l) (fun i hi => h1 i (by omega)) (fun i hi => h2 i (by omega))
    rw [sm_s, sm_s]
    by_cases hn : n < l
    · -- only the first n + 1 of h are needed
      have key : ∀ m, m ≤ l → (∀ i, i < m → f i ≤ g i + h i) → sm f m ≤ sm g m + sm h m := by
        intro m
        induction m with
        | zero => intro _ _; exact Nat.zero_le _
        | succ m ihm =>
          intro hm hh
          have a1 := ihm (by omega) (fun i hi => hh i (by omega))
          have a2 := hh m (by omega)
          rw [sm_s, sm_s, sm_s]
          omega
      have a := key (n + 1) (by omega) (fun i hi => h1 i hi (by omega))
      rw [sm_s, sm_s] at a
      have b := sm_upto (f := h) (show n + 1 ≤ l by omega)
      omega
    · have := h2 n (by omega) (by omega)
      omega
theorem up_cost {A : EL} {s x : Nat} (h : s < 4096) (h0 : 0 < s) (h1 : s ≤ x) (h2 : x < s + 2 ^ lo s) : csum A s ≤ csum A x := by
  refine sm_mono (fun i _ => ?_)
  unfold cst
  by_cases hi : i < lo s
  · rw [lo_below h h0 hi]
    simp
  · rw [up_tb (lo_bits s h h0).2.2.2.2.2.1 h1 h2 (by omega)]
    exact Nat.le_refl _
theorem up_wa {A : EL} {s x : Nat} (h : s < 4096) (h0 : 0 < s) (h1 : s ≤ x) (h2 : x < s + 2 ^ lo s) : wa A x ≤ wa A s + sm (al A) (lo s) := by
  refine sm_low (fun i _ hi => ?_) (fun i _ hi => ?_)
  · split <;> omega
  · rw [up_tb (lo_bits s h h0).2.2.2.2.2.1 h1 h2 hi]
    exact Nat.le_refl _
theorem up_wt {A : EL} {s x v : Nat} (h : s < 4096) (h0 : 0 < s) (h1 : s ≤ x) (h2 : x < s + 2 ^ lo s) : wt A v x ≤ wt A v s + sm (fun i => wo A i v) (lo s) := by
  refine sm_low (fun i _ hi => ?_) (fun i _ hi => ?_)
  · split <;> omega
  · rw [up_tb (lo_bits s h h0).2.2.2.2.2.1 h1 h2 hi]
    exact Nat.le_refl _
theorem lo_csum {A : EL} {s : Nat} (h : s < 4096) (h0 : 0 < s) (hl : lo s < eP A) : csum A s = csum A (s - 2 ^ lo s) + eC A (lo s) := by
  have b := lo_bits s h h0
  have := csum_add (A := A) hl b.2.2.2.2.1
  rw [b.2.2.2.1] at this
  exact this
theorem lo_wa {A : EL} {s : Nat} (h : s < 4096) (h0 : 0 < s) (hl : lo s < eP A) : wa A s = wa A (s - 2 ^ lo s) + al A (lo s) := by
  have b := lo_bits s h h0
  refine sm_upd hl (fun i _ hne => ?_) ?_
  · have e : decide (lo s = i) = false := decide_eq_false (fun z => hne z.symm)
    have t := tb_or (s - 2 ^ lo s) (lo s) i
    rw [b.2.2.2.1, e, Bool.or_false] at t
    rw [t]
  · rw [lo_tb h h0, b.2.2.2.2.1]
    simp
theorem lo_wt {A : EL} {s v : Nat} (h : s < 4096) (h0 : 0 < s) (hl : lo s < eP A) : wt A v s = wt A v (s - 2 ^ lo s) + wo A (lo s) v := by
  have b := lo_bits s h h0
  refine sm_upd hl (fun i _ hne => ?_) ?_
  · have e : decide (lo s = i) = false := decide_eq_false (fun z => hne z.symm)
    have t := tb_or (s - 2 ^ lo s) (lo s) i
    rw [b.2.2.2.1, e, Bool.or_false] at t
    rw [t]
  · rw [lo_tb h h0, b.2.2.2.2.1]
    simp
def SR (Y : XS) (S : PS) (s : Nat) : Prop := gr S s 0 = some (s + 1) ∧ gr S s 1 = some (s + 2) ∧ gr S s 2 = some (s + 3) ∧ gr S s 3 = some (s + 4) ∧ gr S s 4 = some (s + 5) ∧ ln Y (s + 1) = 13 ∧ ln Y (s + 2) = 13 ∧ ln Y (s + 3) = 312 ∧ ln Y (s + 4) = 12 ∧ ln Y (s + 5) = 288
theorem SR.fr {Y : XS} {S S' : PS} {s : Nat} (h : SR Y S s) (hf : S'.2.2 = S.2.2) : SR Y S' s := by
  unfold SR gr at *
  rw [hf]
  exact h
/-- what is never written in Search -/
def ZS (S : PS) (s : Nat) : Prop := gi S (s + 1) 12 = nI 0 ∧ gi S (s + 2) 12 = nI 0 ∧ (∀ v, v < 24 → gi S (s + 3) (288 + v) = nI 0) ∧ gi S (s + 4) 0 = nI 0 ∧ ∀ v, v < 24 → gi S (s + 5) v = nI 0
theorem s_sumLesser {Y : XS} {n : Nat} {S : PS} {p s : Nat} {A : EL} (hn : 100 ≤ n) (hs : s + 6 ≤ 235) (hd : p + 11 ≤ s ∨ s + 6 ≤ p) (hP : SP Y S p) (hA : PV Y S p A) (hS : SR Y S s) (hZ : ZS S s) :
    ok (fX8_sumLesser Y n S s p) (fun S' => Fr (fun x => x = s + 4 ∨ x = s + 5) S S' ∧ ZS S' s ∧ ∀ q, q < eP A → gi S' (s + 4) q = nI (sm (al A) q) ∧ ∀ v, v < eV A → gi S' (s + 5) (q * 24 + v) = nI (sm (fun i => wo A i v) q)) := by
  have a7 := hA.1.2.2.2.2.2.2.2
  have b1 := a7.2.1
  have b2 := a7.2.2.1
  have hl6 := hP.2.2.2.2.2.2.2.2.2.1
  have hl8 := hP.2.2.2.2.2.2.2.2.2.2.2.1
  obtain ⟨s0, s1, s2, s3, s4, l1, l2, l3, l4, l5⟩ := hS
  obtain ⟨z1, z2, z3, z4, z5⟩ := hZ
  unfold fX8_sumLesser
  refine ok_kc (iter_ok (fun i t => t.1 = nI i ∧ Fr (fun x => x = s + 4 ∨ x = s + 5) S t.2 ∧ gi t.2 (s + 4) 0 = nI 0 ∧ (∀ v, v < 24 → gi t.2 (s + 5) v = nI 0) ∧ ∀ q, q ≤ i → gi t.2 (s + 4) q = nI (sm (al A) q) ∧ ∀ v, v < eV A → gi t.2 (s + 5) (q * 24 + v) = nI (sm (fun i => wo A i v) q)) (Q := fun S' => Fr (fun x => x = s + 4 ∨ x = s + 5) S S' ∧ ZS S' s ∧ ∀ q, q < eP A → gi S' (s + 4) q = nI (sm (al A) q) ∧ ∀ v, v < eV A → gi S' (s + 5) (q * 24 + v) = nI (sm (fun i => wo A i v) q)) (eP A - 1) (fun i t hi h => ?_) (fun t h => ?_) (by omega) ⟨rfl, Fr.rf, z4, z5, fun q hq => ?_⟩) (fun r h => ok_i h)
  · obtain ⟨t1, T⟩ := t
    obtain ⟨k1, k2, k3, k4, k5⟩ := h
    simp only at k1 k2 k3 k4 k5
    subst k1
    have hPT : SP Y T p := hP.fr k2.2.1
    have hAT : PV Y T p A := hA.fr k2 (by omega) (by omega)
    have g1 := hAT.1.2.1
    have r3 : gr T s 3 = some (s + 4) := by rw [k2.gr]; exact s3
    have r4 : gr T s 4 = some (s + 5) := by rw [k2.gr]; exact s4
    have v1 := (k5 i (Nat.le_refl _)).1
    have v2 := (hAT.2 i (by omega)).2.1
    unfold bX8_sumLesser_2
    simp (discharger := omega) only [kgr_n hPT.2.1, kgi, g1, nI_1, nle, if_neg, kgr_n r3, kai_n, v1, kgr_n hPT.2.2.2.1, v2, nI_add, kwi_n]
    generalize hT1 : si T (s + 4) (i + 1) (nI (sm (al A) i + al A i)) = T1
    have f1 : Fr (fun x => x = s + 4 ∨ x = s + 5) S T1 := by rw [← hT1]; exact k2.si (by omega)
    have e1 : ∀ b j, b ≠ s + 4 → gi T1 b j = gi T b j := by
      intro b j hb
      rw [← hT1, Gi_si, if_neg (by omega)]
    have e2 : gi T1 (s + 4) (i + 1) = nI (sm (al A) (i + 1)) := by rw [← hT1, Gi_si, if_pos ⟨rfl, rfl⟩]; rfl
    have e3 : ∀ j, j ≠ i + 1 → gi T1 (s + 4) j = gi T (s + 4) j := by
      intro j hj
      rw [← hT1, Gi_si, if_neg (by omega)]
    refine ok_kc (iter_ok (fun j t => t.1 = nI j ∧ Fr (fun x => x = s + 5) T1 t.2 ∧ (∀ v, v < j → gi t.2 (s + 5) ((i + 1) * 24 + v) = nI (sm (fun i => wo A i v) (i + 1))) ∧ ∀ z, z < (i + 1) * 24 → gi t.2 (s + 5) z = gi T1 (s + 5) z) (Q := fun S' => Fr (fun x => x = s + 5) T1 S' ∧ (∀ v, v < eV A → gi S' (s + 5) ((i + 1) * 24 + v) = nI (sm (fun i => wo A i v) (i + 1))) ∧ ∀ z, z < (i + 1) * 24 → gi S' (s + 5) z = gi T1 (s + 5) z) (eV A) (fun j t hj h => ?_) (fun t h => ?_) (by omega) ⟨rfl, Fr.rf, fun v hv => absurd hv (Nat.not_lt_zero _), fun _ _ => rfl⟩) ?_
    · obtain ⟨u1, U⟩ := t
      obtain ⟨m1', m2, m3, m4⟩ := h
      simp only at m1' m2 m3 m4
      subst m1'
      have fU := f1.tr (m2.mono (by omega))
      have hPU : SP Y U p := hP.fr fU.2.1
      have hAU : PV Y U p A := hA.fr fU (by omega) (by omega)
      have g2 := hAU.1.2.2.1
      have r4' : gr U s 4 = some (s + 5) := by rw [fU.gr]; exact s4
      have w1 := (hAU.2 i (by omega)).2.2.2 j hj
      have w2 : gi U (s + 5) (i * 24 + j) = nI (sm (fun i => wo A i j) i) := by
        rw [m4 _ (by omega), e1 _ _ (by omega)]
        exact (k5 i (Nat.le_refl _)).2 j hj
      unfold bX8_sumLesser_38
      simp (discharger := omega) only [kgr_n hPU.2.1, kgi, g2, nle, if_neg, kgr_n r4', show (24 : Int32) = nI 24 from rfl, nI_1, nmul, nI_add, kai_n, w2, kgr_n hPU.2.2.2.2.2.1, w1, kwi_n, ok_some, so_l]
      refine ⟨trivial, m2.si rfl, fun v hv => ?_, fun z hz => ?_⟩
      · rw [Gi_si]
        by_cases e : v = j
        · rw [if_pos ⟨rfl, by omega⟩, e]; rfl
        · rw [if_neg (by omega)]
          exact m3 v (by omega)
      · rw [Gi_si, if_neg (by omega)]
        exact m4 z hz
    · obtain ⟨u1, U⟩ := t
      obtain ⟨m1', m2, m3, m4⟩ := h
      simp only at m1' m2 m3 m4
      subst m1'
      have fU := f1.tr (m2.mono (by omega))
      have hPU : SP Y U p := hP.fr fU.2.1
      have hAU : PV Y U p A := hA.fr fU (by omega) (by omega)
      have g2 := hAU.1.2.2.1
      unfold bX8_sumLesser_38
      simp (discharger := omega) only [kgr_n hPU.2.1, kgi, g2, nle, if_pos, ok_some, so_r]
      exact ⟨m2, m3, m4⟩
    · rintro U ⟨m2, m3, m4⟩
      rw [ok_some, so_l]
      refine ⟨rfl, f1.tr (m2.mono (by omega)), ?_, fun v hv => ?_, fun q hq => ⟨?_, fun v hv => ?_⟩⟩
      · dsimp only
        rw [m2.gi (by omega), e3 _ (by omega)]; exact k3
      · dsimp only
        rw [m4 _ (by omega), e1 _ _ (by omega)]; exact k4 v hv
      · dsimp only
        rw [m2.gi (by omega)]
        by_cases e : q = i + 1
        · rw [e]; exact e2
        · rw [e3 q e]; exact (k5 q (by omega)).1
      · dsimp only
        by_cases e : q = i + 1
        · rw [e]; exact m3 v hv
        · rw [m4 _ (by omega), e1 _ _ (by omega)]
          exact (k5 q (by omega)).2 v hv
  · obtain ⟨t1, T⟩ := t
    obtain ⟨k1, k2, k3, k4, k5⟩ := h
    simp only at k1 k2 k3 k4 k5
    subst k1
    have hPT : SP Y T p := hP.fr k2.2.1
    have hAT : PV Y T p A := hA.fr k2 (by omega) (by omega)
    have g1 := hAT.1.2.1
    unfold bX8_sumLesser_2
    simp (discharger := omega) only [kgr_n hPT.2.1, kgi, g1, nI_1, nle, if_pos, ok_some, so_r]
    refine ⟨k2, ⟨?_, ?_, fun v hv => ?_, k3, k4⟩, fun q hq => k5 q (by omega)⟩
    · rw [k2.gi (by omega)]; exact z1
    · rw [k2.gi (by omega)]; exact z2
    · rw [k2.gi (by omega)]; exact z3 v hv
  · have : q = 0 := by omega
    subst this
    refine ⟨z4, fun v hv => ?_⟩
    rw [Nat.zero_mul, Nat.zero_add]
    exact z5 v (by omega)
