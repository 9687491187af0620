/-! GROUPS, CLASS: ask, note, begin. -/
def SG (Y : XS) (S : PS) (g : Nat) : Prop := gr S g 0 = some (g + 1) ∧ gr S g 1 = some (g + 2) ∧ gr S g 2 = some (g + 3) ∧ gr S g 3 = some (g + 4) ∧ gr S g 4 = some (g + 5) ∧ ln Y (g + 1) = 13 ∧ ln Y (g + 2) = 13 ∧ ln Y (g + 3) = 312 ∧ ln Y (g + 4) = 312 ∧ ln Y (g + 5) = 24
theorem SG.fr {Y : XS} {S S' : PS} {g : Nat} (h : SG Y S g) (hf : S'.2.2 = S.2.2) : SG Y S' g := by
  unfold SG gr at *
  rw [hf]
  exact h
/-- what is never written in Groups -/
def ZG (S : PS) (g : Nat) : Prop := gi S (g + 1) 12 = nI 0 ∧ (∀ v, v < 24 → gi S (g + 3) (288 + v) = nI 0) ∧ ∀ v, v < 24 → gi S (g + 4) (288 + v) = nI 0
theorem mb_low {A : EL} {s : Nat} (h : s < 4096) (h0 : 0 < s) (hl : lo s < eP A) : mb A s = mb A (s - 2 ^ lo s) &&& fb A (lo s) := by
  have b := lo_bits s h h0
  apply Nat.eq_of_testBit_eq
  intro v
  unfold mb mbi fb
  rw [Nat.testBit_and, bs_tb, bs_tb, bs_tb]
  by_cases hv : v < eV A
  · simp only [hv, decide_true, Bool.true_and]
    have t : ∀ i, s.testBit i = ((s - 2 ^ lo s).testBit i || decide (lo s = i)) := by
      intro i
      have := tb_or (s - 2 ^ lo s) (lo s) i
      rw [b.2.2.2.1] at this
      exact this
    cases hw : decide (0 < wo A (lo s) v) with
    | true =>
      rw [Bool.and_true, Bool.eq_iff_iff, allq_iff, allq_iff]
      constructor
      · intro hh q hq
        have := hh q hq
        rw [t q] at this
        by_cases e : lo s = q
        · subst e; rw [hw]; simp
        · simpa [e] using this
      · intro hh q hq
        have := hh q hq
        rw [t q]
        by_cases e : lo s = q
        · subst e; rw [hw]; simp
        · simpa [e] using this
    | false =>
      rw [Bool.and_false]
      cases hh : allq (fun q => !s.testBit q || decide (0 < wo A q v)) (eP A) with
      | false => rfl
      | true =>
        have := allq_iff.mp hh (lo s) hl
        rw [lo_tb h h0, hw] at this
        simp at this
  · simp [hv]
theorem bmi_low {A : EL} {B v s : Nat} (h : s < 4096) (h0 : 0 < s) (hl : lo s < eP A) : bmi A B v s = max (bmi A B v (s - 2 ^ lo s)) (if B.testBit (lo s) = true then 0 else wo A (lo s) v) := by
  have b := lo_bits s h h0
  have t : ∀ i, s.testBit i = ((s - 2 ^ lo s).testBit i || decide (lo s = i)) := by
    intro i
    have := tb_or (s - 2 ^ lo s) (lo s) i
    rw [b.2.2.2.1] at this
    exact this
  unfold bmi
  refine Eq.trans (mxf_upd (f := fun q => if (s - 2 ^ lo s).testBit q = true ∧ B.testBit q = false then wo A q v else 0) hl (fun i _ hne => ?_) ?_) ?_
  · have e : decide (lo s = i) = false := decide_eq_false (fun z => hne z.symm)
    simp only [t i, e, Bool.or_false]
  · simp only [b.2.2.2.2.1]
    simp
  · congr 1
    simp only [lo_tb h h0]
    cases B.testBit (lo s) <;> simp
theorem or01 (a b : Bool) : (if a = true then (1 : Int32) else 0) ||| (if b = true then 1 else 0) = if (a || b) = true then 1 else 0 := by
  cases a <;> cases b <;> rfl
theorem or0 (a : Bool) : (if a = true then (1 : Int32) else 0) ||| 0 = if (a || false) = true then 1 else 0 := by cases a <;> rfl
theorem or1 (a : Bool) : (if a = true then (1 : Int32) else 0) ||| 1 = if (a || true) = true then 1 else 0 := by cases a <;> rfl
theorem kpz_b {α : Type} {S : PS} {a k : Nat} {c : Bool} {K : PS → Option α} : kpz S a k (if c = true then 1 else 0) K = K (si S a k (if c = true then 1 else 0)) := by
  unfold kpz
  rw [if_pos]
  cases c
  · exact Or.inl rfl
  · exact Or.inr rfl
theorem s_ask {Y : XS} {n : Nat} {S : PS} {g p s B : Nat} {A : EL} (hn : 100 ≤ n) (hg : g + 6 ≤ 235) (hp : p + 11 ≤ 235) (hd : p + 11 ≤ g ∨ g + 6 ≤ p) (hP : SP Y S p) (hA : PV Y S p A) (hG : SG Y S g) (hs2 : s < 2 ^ eP A) (h0 : 0 < s) (hm : gi S (g + 2) (lo s) = nI (mb A s)) (hh : ∀ v, v < eV A → gi S (g + 5) v = nI (wt A v B)) (hlu : lo s < lo (s - 2 ^ lo s)) (hl12 : lo (s - 2 ^ lo s) ≤ 12)
    (he : ∀ v, v < eV A → (mb A (s - 2 ^ lo s)).testBit v = true → gi S (g + 3) (lo (s - 2 ^ lo s) * 24 + v) = nI (wt A v (s - 2 ^ lo s)) ∧ gi S (g + 4) (lo (s - 2 ^ lo s) * 24 + v) = nI (bmi A B v (s - 2 ^ lo s))) :
    ok (fX2_ask Y n S g p (nI (lo s)) (nI (lo (s - 2 ^ lo s))) (if B.testBit (lo s) = true then 1 else 0)) (fun S' => Fr (fun x => x = g ∨ x = g + 3 ∨ x = g + 4) S S' ∧ gi S' g 5 = (if srv A B s false = true then 1 else 0) ∧ gi S' g 6 = (if srv A B s true = true then 1 else 0) ∧ (∀ j, (j < lo s * 24 ∨ lo s * 24 + 24 ≤ j) → gi S' (g + 3) j = gi S (g + 3) j ∧ gi S' (g + 4) j = gi S (g + 4) j) ∧ ∀ v, v < eV A → (mb A s).testBit v = true → gi S' (g + 3) (lo s * 24 + v) = nI (wt A v s) ∧ gi S' (g + 4) (lo s * 24 + v) = nI (bmi A B v s)) := by
  have a7 := hA.1.2.2.2.2.2.2.2
  have b1 := a7.2.1
  have b2 := a7.2.2.1
  have hsb : s < 4096 := Nat.lt_of_lt_of_le hs2 (p12 b1)
  have hl := lo_lt hs2 b1 h0
  have l8 := hP.2.2.2.2.2.2.2.2.2.2.2.1
  have hmb : mb A s < 16777216 := mb_lt a7 s _
  have hG0 := hG
  obtain ⟨s0, s1, s2, s3, s4, l1, l2, l3, l4, l5⟩ := hG
  have hwt : ∀ v, wt A v s = wt A v (s - 2 ^ lo s) + wo A (lo s) v := fun v => lo_wt hsb h0 hl
  have hbm : ∀ v, bmi A B v s = max (bmi A B v (s - 2 ^ lo s)) (if B.testBit (lo s) = true then 0 else wo A (lo s) v) := fun v => bmi_low hsb h0 hl
  have hsub : ∀ v, (mb A s).testBit v = true → (mb A (s - 2 ^ lo s)).testBit v = true := by
    intro v hv
    rw [mb_low hsb h0 hl, Nat.testBit_and, Bool.and_eq_true] at hv
    exact hv.1
  generalize hu : s - 2 ^ lo s = u at *
  unfold fX2_ask
  have kz : ∀ (T : PS) (k : Nat) (K : PS → Option PS), kpz T g k 0 K = K (si T g k 0) := fun T k K => by unfold kpz; rw [if_pos (Or.inl rfl)]
  rw [kz, kz]
  refine ok_kc (iter_ok (fun i t => t.1 = nI i ∧ Fr (fun x => x = g ∨ x = g + 3 ∨ x = g + 4) S t.2 ∧ gi t.2 g 5 = (if exq (srv1 A B s false) i = true then 1 else 0) ∧ gi t.2 g 6 = (if exq (srv1 A B s true) i = true then 1 else 0) ∧ (∀ j, (j < lo s * 24 ∨ lo s * 24 + 24 ≤ j) → gi t.2 (g + 3) j = gi S (g + 3) j ∧ gi t.2 (g + 4) j = gi S (g + 4) j) ∧ ∀ v, v < i → (mb A s).testBit v = true → gi t.2 (g + 3) (lo s * 24 + v) = nI (wt A v s) ∧ gi t.2 (g + 4) (lo s * 24 + v) = nI (bmi A B v s)) (Q := fun S' => Fr (fun x => x = g ∨ x = g + 3 ∨ x = g + 4) S S' ∧ gi S' g 5 = (if srv A B s false = true then 1 else 0) ∧ gi S' g 6 = (if srv A B s true = true then 1 else 0) ∧ (∀ j, (j < lo s * 24 ∨ lo s * 24 + 24 ≤ j) → gi S' (g + 3) j = gi S (g + 3) j ∧ gi S' (g + 4) j = gi S (g + 4) j) ∧ ∀ v, v < eV A → (mb A s).testBit v = true → gi S' (g + 3) (lo s * 24 + v) = nI (wt A v s) ∧ gi S' (g + 4) (lo s * 24 + v) = nI (bmi A B v s)) (eV A) (fun i t hi h => ?_) (fun t h => ?_) (by omega) ⟨rfl, ((Fr.rf (M := fun x => x = g ∨ x = g + 3 ∨ x = g + 4)).si (Or.inl rfl)).si (Or.inl rfl), ?_, ?_, fun j _ => ?_, fun v hv => absurd hv (Nat.not_lt_zero _)⟩) (fun r h => ok_i h)
  · obtain ⟨t1, T⟩ := t
    obtain ⟨k1, k2, k3, k4, k5, k6⟩ := h
    simp only at k1 k2 k3 k4 k5 k6
    subst k1
    have hPT : SP Y T p := hP.fr k2.2.1
    have hAT : PV Y T p A := hA.fr k2 (by omega) (by omega)
    have hGT : SG Y T g := hG0.fr k2.2.1
    have gV := hAT.1.2.2.1
    have m2 : gi T (g + 2) (lo s) = nI (mb A s) := by rw [k2.gi (by omega)]; exact hm
    unfold bX2_ask_13
    simp (discharger := omega) only [kgr_n hPT.2.1, kgi, gV, nle, if_neg, kgr_n hGT.2.1, kai_n, m2, s_isIn, kc_s]
    by_cases c : (mb A s).testBit i = true
    · rw [if_pos c, if_neg (by decide)]
      have w := wo_le A (lo s) i
      have tw := (hAT.2 (lo s) hl).2.2.2 i hi
      obtain ⟨e1, e2⟩ := he i hi (hsub i c)
      have e1' : gi T (g + 3) (lo u * 24 + i) = nI (wt A i u) := by rw [(k5 _ (by omega)).1]; exact e1
      have e2' : gi T (g + 4) (lo u * 24 + i) = nI (bmi A B i u) := by rw [(k5 _ (by omega)).2]; exact e2
      have y1 := wt_le a7 i s
      have y2 := bmi_le A B i s
      have y3 := bmi_le A B i u
      have y4 := wt_le a7 i B
      have z1 := hwt i
      have z2 := hbm i
      simp (discharger := omega) only [kgr_n hPT.2.2.2.2.2.1, show (24 : Int32) = nI 24 from rfl, nmul, nI_add, kai_n, tw, kgr_n hGT.2.2.1, e1', kgr_n hGT.2.2.2.1, e2']
      rw [← z1]
      -- the same road, whether it is chosen or not
      have road : ∀ m : Nat, (m = if B.testBit (lo s) = true then 0 else wo A (lo s) i) → ok (jX2_ask_93_13 Y n T g p (nI (lo s)) (nI (lo u)) (if B.testBit (lo s) = true then 1 else 0) (nI i) (nI (wt A i s)) (nI m) (nI (bmi A B i u))) (so (fun t => t.1 = nI (i + 1) ∧ Fr (fun x => x = g ∨ x = g + 3 ∨ x = g + 4) S t.2 ∧ gi t.2 g 5 = (if exq (srv1 A B s false) (i + 1) = true then 1 else 0) ∧ gi t.2 g 6 = (if exq (srv1 A B s true) (i + 1) = true then 1 else 0) ∧ (∀ j, (j < lo s * 24 ∨ lo s * 24 + 24 ≤ j) → gi t.2 (g + 3) j = gi S (g + 3) j ∧ gi t.2 (g + 4) j = gi S (g + 4) j) ∧ ∀ v, v < i + 1 → (mb A s).testBit v = true → gi t.2 (g + 3) (lo s * 24 + v) = nI (wt A v s) ∧ gi t.2 (g + 4) (lo s * 24 + v) = nI (bmi A B v s)) (fun S' => Fr (fun x => x = g ∨ x = g + 3 ∨ x = g + 4) S S' ∧ gi S' g 5 = (if srv A B s false = true then 1 else 0) ∧ gi S' g 6 = (if srv A B s true = true then 1 else 0) ∧ (∀ j, (j < lo s * 24 ∨ lo s * 24 + 24 ≤ j) → gi S' (g + 3) j = gi S (g + 3) j ∧ gi S' (g + 4) j = gi S (g + 4) j) ∧ ∀ v, v < eV A → (mb A s).testBit v = true → gi S' (g + 3) (lo s * 24 + v) = nI (wt A v s) ∧ gi S' (g + 4) (lo s * 24 + v) = nI (bmi A B v s))) := by
        intro m hmm
        have hml : m ≤ 9999 := by rw [hmm]; split <;> omega
        rw [← hmm] at z2
        unfold jX2_ask_93_13
        rw [kgr_n hGT.2.2.1, show (24 : Int32) = nI 24 from rfl, nmul, nI_add, kwi_n (by omega) (by omega)]
        generalize hT1 : si T (g + 3) (lo s * 24 + i) (nI (wt A i s)) = T1
        have r3 : gr T1 g 3 = some (g + 4) := by rw [← hT1, Gr_si]; exact hGT.2.2.2.1
        rw [kgr_n r3, nmax (by omega) (by omega), ← z2, kwi_n (by omega) (by omega)]
        generalize hT2 : si T1 (g + 4) (lo s * 24 + i) (nI (bmi A B i s)) = T2
        have f2 : Fr (fun x => x = g ∨ x = g + 3 ∨ x = g + 4) S T2 := by rw [← hT2, ← hT1]; exact (k2.si (by omega)).si (by omega)
        have r4 : gr T2 g 4 = some (g + 5) := by rw [f2.gr]; exact s4
        have x5 : gi T2 g 5 = (if exq (srv1 A B s false) i = true then 1 else 0) := by rw [← hT2, Gi_si, if_neg (by omega), ← hT1, Gi_si, if_neg (by omega)]; exact k3
        have x6 : gi T2 g 6 = (if exq (srv1 A B s true) i = true then 1 else 0) := by rw [← hT2, Gi_si, if_neg (by omega), ← hT1, Gi_si, if_neg (by omega)]; exact k4
        have x7 : gi T2 (g + 5) i = nI (wt A i B) := by rw [f2.gi (by omega)]; exact hh i hi
        have r1 : srv1 A B s false i = decide (wt A i s ≤ wt A i B) := by unfold srv1; rw [c]; simp
        have r2 : srv1 A B s true i = decide (wt A i s ≤ wt A i B + bmi A B i s) := by unfold srv1; rw [c]; simp
        have fin : ∀ (a b : Bool), a = srv1 A B s false i → b = srv1 A B s true i → ok (jX2_ask_148_13 Y n T2 g p (nI (lo s)) (nI (lo u)) (if B.testBit (lo s) = true then 1 else 0) (nI i) (nI (wt A i s)) (nI (bmi A B i s)) (if a = true then 1 else 0) (if exq (srv1 A B s false) i = true then 1 else 0) g) (so (fun t => t.1 = nI (i + 1) ∧ Fr (fun x => x = g ∨ x = g + 3 ∨ x = g + 4) S t.2 ∧ gi t.2 g 5 = (if exq (srv1 A B s false) (i + 1) = true then 1 else 0) ∧ gi t.2 g 6 = (if exq (srv1 A B s true) (i + 1) = true then 1 else 0) ∧ (∀ j, (j < lo s * 24 ∨ lo s * 24 + 24 ≤ j) → gi t.2 (g + 3) j = gi S (g + 3) j ∧ gi t.2 (g + 4) j = gi S (g + 4) j) ∧ ∀ v, v < i + 1 → (mb A s).testBit v = true → gi t.2 (g + 3) (lo s * 24 + v) = nI (wt A v s) ∧ gi t.2 (g + 4) (lo s * 24 + v) = nI (bmi A B v s)) (fun S' => Fr (fun x => x = g ∨ x = g + 3 ∨ x = g + 4) S S' ∧ gi S' g 5 = (if srv A B s false = true then 1 else 0) ∧ gi S' g 6 = (if srv A B s true = true then 1 else 0) ∧ (∀ j, (j < lo s * 24 ∨ lo s * 24 + 24 ≤ j) → gi S' (g + 3) j = gi S (g + 3) j ∧ gi S' (g + 4) j = gi S (g + 4) j) ∧ ∀ v, v < eV A → (mb A s).testBit v = true → gi S' (g + 3) (lo s * 24 + v) = nI (wt A v s) ∧ gi S' (g + 4) (lo s * 24 + v) = nI (bmi A B v s))) := by
          intro a b ha hb
          unfold jX2_ask_148_13 jX2_ask_177_13 jX2_ask_181_13
          rw [or01, kpz_b]
          generalize hT3 : si T2 g 5 (if (exq (srv1 A B s false) i || a) = true then 1 else 0) = T3
          have r5 : gr T3 g 4 = some (g + 5) := by rw [← hT3, Gr_si]; exact r4
          have x8 : gi T3 (g + 5) i = nI (wt A i B) := by rw [← hT3, Gi_si, if_neg (by omega)]; exact x7
          have x9 : gi T3 g 6 = (if exq (srv1 A B s true) i = true then 1 else 0) := by rw [← hT3, Gi_si, if_neg (by omega)]; exact x6
          rw [kgi_n, x9, kgr_n r5, kai_n (by omega) (by omega), x8, nI_add]
          have last : ∀ (T4 : PS), T4 = si T3 g 6 (if (exq (srv1 A B s true) i || b) = true then 1 else 0) → so (fun t => t.1 = nI (i + 1) ∧ Fr (fun x => x = g ∨ x = g + 3 ∨ x = g + 4) S t.2 ∧ gi t.2 g 5 = (if exq (srv1 A B s false) (i + 1) = true then 1 else 0) ∧ gi t.2 g 6 = (if exq (srv1 A B s true) (i + 1) = true then 1 else 0) ∧ (∀ j, (j < lo s * 24 ∨ lo s * 24 + 24 ≤ j) → gi t.2 (g + 3) j = gi S (g + 3) j ∧ gi t.2 (g + 4) j = gi S (g + 4) j) ∧ ∀ v, v < i + 1 → (mb A s).testBit v = true → gi t.2 (g + 3) (lo s * 24 + v) = nI (wt A v s) ∧ gi t.2 (g + 4) (lo s * 24 + v) = nI (bmi A B v s)) (fun S' => Fr (fun x => x = g ∨ x = g + 3 ∨ x = g + 4) S S' ∧ gi S' g 5 = (if srv A B s false = true then 1 else 0) ∧ gi S' g 6 = (if srv A B s true = true then 1 else 0) ∧ (∀ j, (j < lo s * 24 ∨ lo s * 24 + 24 ≤ j) → gi S' (g + 3) j = gi S (g + 3) j ∧ gi S' (g + 4) j = gi S (g + 4) j) ∧ ∀ v, v < eV A → (mb A s).testBit v = true → gi S' (g + 3) (lo s * 24 + v) = nI (wt A v s) ∧ gi S' (g + 4) (lo s * 24 + v) = nI (bmi A B v s)) (Sum.inl (nI i + 1, T4)) := by
            rintro T4 rfl
            rw [so_l]
            have q : ∀ (x j : Nat), x ≠ g → gi (si T3 g 6 (if (exq (srv1 A B s true) i || b) = true then 1 else 0)) x j = gi T2 x j := by
              intro x j hx
              rw [Gi_si, if_neg (by omega), ← hT3, Gi_si, if_neg (by omega)]
            refine ⟨nI_1 i, ?_, ?_, ?_, fun j hj => ⟨?_, ?_⟩, fun v hv hmv => ⟨?_, ?_⟩⟩
            · rw [← hT3]; exact (f2.si (Or.inl rfl)).si (Or.inl rfl)
            · rw [Gi_si, if_neg (by omega), ← hT3, Gi_si, if_pos ⟨rfl, rfl⟩, exq_s, ha]
            · rw [Gi_si, if_pos ⟨rfl, rfl⟩, exq_s, hb]
            · rw [q _ _ (by omega), ← hT2, Gi_si, if_neg (by omega), ← hT1, Gi_si, if_neg (by omega)]; exact (k5 j hj).1
            · rw [q _ _ (by omega), ← hT2, Gi_si, if_neg (by omega), ← hT1, Gi_si, if_neg (by omega)]; exact (k5 j hj).2
            · rw [q _ _ (by omega), ← hT2, Gi_si, if_neg (by omega), ← hT1, Gi_si]
              by_cases e : v = i
              · rw [if_pos ⟨rfl, by omega⟩, e]
              · rw [if_neg (by omega)]; exact (k6 v (by omega) hmv).1
            · rw [q _ _ (by omega), ← hT2, Gi_si]
              by_cases e : v = i
              · rw [if_pos ⟨rfl, by omega⟩, e]
              · rw [if_neg (by omega), ← hT1, Gi_si, if_neg (by omega)]; exact (k6 v (by omega) hmv).2
          simp (discharger := omega) only [nlt]
          by_cases c3 : wt A i B + bmi A B i s < wt A i s
          · have hb' : b = false := by rw [hb, r2]; exact decide_eq_false (by omega)
            rw [if_pos c3, or0, kpz_b, ok_some]
            exact last _ (by rw [hb'])
          · have hb' : b = true := by rw [hb, r2]; exact decide_eq_true (by omega)
            rw [if_neg c3, or1, kpz_b, ok_some]
            exact last _ (by rw [hb'])
        rw [kgi_n, x5, kgr_n r4, kai_n (by omega) (by omega), x7]
        simp (discharger := omega) only [nlt]
        by_cases c2 : wt A i B < wt A i s
        · rw [if_pos c2]
          exact fin false _ (by rw [r1, decide_eq_false (by omega)]) rfl
        · rw [if_neg c2]
          exact fin true _ (by rw [r1, decide_eq_true (by omega)]) rfl
      by_cases cB : B.testBit (lo s) = true
      · rw [if_neg (by rw [if_pos cB]; decide)]
        exact road 0 (by rw [if_pos cB])
      · rw [if_pos (by rw [if_neg cB])]
        exact road _ (by rw [if_neg cB])
    · rw [if_neg c, if_pos rfl]
      unfold jX2_ask_181_13
      have c' : (mb A s).testBit i = false := by simpa using c
      have r1 : ∀ nr, srv1 A B s nr i = false := by intro nr; unfold srv1; rw [c']; rfl
      rw [nI_1, ok_some, so_l]
      refine ⟨rfl, k2, ?_, ?_, k5, fun v hv hmv => ?_⟩
      · rw [exq_s, r1, Bool.or_false]; exact k3
      · rw [exq_s, r1, Bool.or_false]; exact k4
      · by_cases e : v = i
        · rw [e, c'] at hmv; cases hmv
        · exact k6 v (by omega) hmv
  · obtain ⟨t1, T⟩ := t
    obtain ⟨k1, k2, k3, k4, k5, k6⟩ := h
    simp only at k1 k2 k3 k4 k5 k6
    subst k1
    have hPT : SP Y T p := hP.fr k2.2.1
    have hAT : PV Y T p A := hA.fr k2 (by omega) (by omega)
    have gV := hAT.1.2.2.1
    unfold bX2_ask_13
    simp (discharger := omega) only [kgr_n hPT.2.1, kgi, gV, nle, if_pos, ok_some, so_r]
    exact ⟨k2, k3, k4, k5, k6⟩
  · show gi (si (si S g 5 0) g 6 0) g 5 = 0
    rw [Gi_si, if_neg (by omega), Gi_si, if_pos ⟨rfl, rfl⟩]
  · show gi (si (si S g 5 0) g 6 0) g 6 = 0
    rw [Gi_si, if_pos ⟨rfl, rfl⟩]
  · show gi (si (si S g 5 0) g 6 0) (g + 3) j = _ ∧ gi (si (si S g 5 0) g 6 0) (g + 4) j = _
    rw [Gi_si, if_neg (by omega), Gi_si, if_neg (by omega), Gi_si, if_neg (by omega), Gi_si, if_neg (by omega)]
    exact ⟨rfl, rfl⟩
