/-! THE START. -/
def iIn (n : Nat) : Option (Nat × Nat × Nat × XS × PS) :=
  knw Y0 S0 10 0 (fun Y1 S1 ax => kc (fX10_init Y1 n S1 ax) (fun q => knw q.1 q.2 11 0 (fun Y2 S2 am => kc (fX11_init Y2 n S2 am) (fun r => kna r.1 r.2 15 1 (fun Y3 S3 ao => some (ax, am, ao, Y3, S3))))))
def ck (m : Option (Nat × Nat × Nat × XS × PS)) (P : Nat × Nat × Nat × XS × PS → Bool) : Bool := match m with
  | none => false
  | some r => P r
def dCSt (Y : XS) (S : PS) : Decidable (CSt Y S) := by
  have i1 : ∀ e, Decidable (SE Y S e) := fun e => by unfold SE; infer_instance
  have i2 : ∀ e, Decidable (SP Y S e) := fun e => by unfold SP; infer_instance
  have i3 : ∀ e, Decidable (SO Y S e) := fun e => by unfold SO; infer_instance
  have i4 : ∀ e, Decidable (SH Y S e) := fun e => by unfold SH; infer_instance
  have i5 : ∀ e, Decidable (SR Y S e) := fun e => by unfold SR; infer_instance
  have i6 : ∀ e, Decidable (SCh Y S e) := fun e => by unfold SCh; infer_instance
  have i7 : ∀ e, Decidable (SG Y S e) := fun e => by unfold SG; infer_instance
  have i8 : Decidable (∀ i, i < 20 → gr S 58 i = some (59 + 4 * i) ∧ SE Y S (59 + 4 * i)) := inferInstance
  have i9 : Decidable (∀ r, r < 9 → gr S 20 r = some (143 + 8 * r) ∧ SO Y S (143 + 8 * r) ∧ kd Y (143 + 8 * r) = 5) := inferInstance
  unfold CSt
  refine @instDecidableAnd _ _ inferInstance (@instDecidableAnd _ _ (i2 9) (@instDecidableAnd _ _ (i2 21) (@instDecidableAnd _ _ (i3 32) (@instDecidableAnd _ _ (i6 40) (@instDecidableAnd _ _ (i7 51) (@instDecidableAnd _ _ ?_ (@instDecidableAnd _ _ (i1 139) (@instDecidableAnd _ _ (i1 2) (@instDecidableAnd _ _ ?_ (@instDecidableAnd _ _ inferInstance inferInstance))))))))))
  · exact @instDecidableAnd _ _ inferInstance (@instDecidableAnd _ _ inferInstance i8)
  · exact @instDecidableAnd _ _ inferInstance i9
def dMSt (Y : XS) (S : PS) : Decidable (MSt Y S) := by
  unfold MSt
  infer_instance
def ZZ (S : PS) : Prop := (gi S 10 0 = 0 ∧ gi S 10 1 = 0 ∧ gi S 10 2 = 0 ∧ gr S 10 3 = none) ∧ (gi S 57 1 = 0 ∧ gi S 57 2 = 0 ∧ gi S 0 11 = 0 ∧ gi S 0 4 = 0) ∧ ZS S 44 ∧ ZG S 51 ∧ (gi S 1 3 = 0 ∧ gi S 0 1 = m1) ∧ (gi S 216 0 = 0 ∧ gi S 216 1 = 0 ∧ gi S 216 2 = 0 ∧ gi S 216 375 = 0) ∧ (gi S 215 6 = 0 ∧ gi S 215 5 = 0 ∧ gi S 215 28 = 0 ∧ gi S 215 36 = m1)
def dZZ (S : PS) : Decidable (ZZ S) := by
  unfold ZZ ZS ZG
  infer_instance
theorem ck_C : ck (iIn 1000000) (fun r => @decide _ (dCSt r.2.2.2.1 r.2.2.2.2)) = true := by decide +kernel
theorem ck_M : ck (iIn 1000000) (fun r => @decide _ (dMSt r.2.2.2.1 r.2.2.2.2)) = true := by decide +kernel
theorem ck_Z : ck (iIn 1000000) (fun r => @decide _ (dZZ r.2.2.2.2)) = true := by decide +kernel
theorem ck_N : ck (iIn 1000000) (fun r => decide (r.1 = 0 ∧ r.2.1 = 215 ∧ r.2.2.1 = 234 ∧ ln r.2.2.2.1 234 = 1)) = true := by decide +kernel
theorem iIn_ok : ok (iIn 1000000) (fun r => (r.1 = 0 ∧ r.2.1 = 215 ∧ r.2.2.1 = 234 ∧ ln r.2.2.2.1 234 = 1) ∧ CSt r.2.2.2.1 r.2.2.2.2 ∧ MSt r.2.2.2.1 r.2.2.2.2 ∧ ZZ r.2.2.2.2) := by
  have h1 := ck_C
  have h2 := ck_M
  have h3 := ck_Z
  have h4 := ck_N
  generalize iIn 1000000 = m at h1 h2 h3 h4
  cases m with
  | none => cases h4
  | some r => exact ⟨r, rfl, @of_decide_eq_true _ (_) h4, @of_decide_eq_true _ (_) h1, @of_decide_eq_true _ (_) h2, @of_decide_eq_true _ (_) h3⟩
theorem GG.start {Y : XS} {S : PS} (hC : CSt Y S) (hM : MSt Y S) (hl : ln Y 234 = 1) (hZ : ZZ S) : GG Y S := by
  obtain ⟨⟨a1, a2, a3, a4⟩, ⟨b1, b2, b3, b4⟩, hz, hg, ⟨c1, c2⟩, ⟨d1, d2, d3, d4⟩, ⟨e1, e2, e3, e4⟩⟩ := hZ
  have ew : EW zA := ⟨Nat.zero_le _, Nat.zero_le _, Nat.zero_le _, fun p hp => absurd hp (Nat.not_lt_zero p), fun p v hp => absurd hp (Nat.not_lt_zero p)⟩
  refine ⟨zA, [], none, [], m1, hC, ⟨⟨⟨a1, a2, a3, fun p hp => absurd hp (Nat.not_lt_zero p), fun p k hp => absurd hp (Nat.not_lt_zero p), fun p v hp => absurd hp (Nat.not_lt_zero p), ?_, ew⟩, fun q hq => absurd hq (Nat.not_lt_zero q)⟩, ⟨Nat.zero_le _, 0, by decide, b1, b2, fun k hk => absurd hk (Nat.not_lt_zero k)⟩, b3, ⟨0, by decide, b4, fun r hr hb => ?_⟩, hz, hg, ⟨c1, Nat.zero_le _, fun j hj => absurd hj (Nat.not_lt_zero j), c2⟩⟩, hM, ⟨⟨d1, d2, d3, fun p hp => absurd hp (Nat.not_lt_zero p), fun p k hp => absurd hp (Nat.not_lt_zero p), fun v p hv => absurd hv (Nat.not_lt_zero v), d4, ew⟩, ⟨Nat.zero_le _, e1, fun k hk => absurd hk (Nat.not_lt_zero k)⟩, e2, ⟨e3, Nat.zero_le _, fun j hj => absurd hj (Nat.not_lt_zero j), e4⟩⟩, hl⟩
  · show LawV Y S (gr S 10 3) none
    rw [a4]
    trivial
  · rw [Nat.zero_testBit] at hb
    cases hb
theorem knw_kc {α β : Type} {Y : XS} {S : PS} {k l : Nat} {K : XS → PS → Nat → Option α} {F : α → Option β} : kc (knw Y S k l K) F = knw Y S k l (fun Y1 S1 a => kc (K Y1 S1 a) F) := rfl
theorem kc_kc {α β γ : Type} {m : Option α} {K : α → Option β} {F : β → Option γ} : kc (kc m K) F = kc m (fun q => kc (K q) F) := by
  cases m with
  | none => rfl
  | some r => rfl
theorem kna_kc {α β : Type} {Y : XS} {S : PS} {k : Nat} {i : Int32} {K : XS → PS → Nat → Option α} {F : α → Option β} : kc (kna Y S k i K) F = kna Y S k i (fun Y1 S1 a => kc (K Y1 S1 a) F) := by
  unfold kna
  split
  · rfl
  · rfl
theorem fLaw_in (xs : Nat → Int32) (L n : Nat) : fLawAll xs L n = kc (iIn n) (fun r => iter (bLaw xs L n r.1 r.2.1 r.2.2.1) n ((0 : Int32), r.2.2.2.1, r.2.2.2.2)) := by
  unfold fLawAll iIn
  simp only [knw_kc, kc_kc, kna_kc, kc_s]
theorem law_at {xs : Nat → Int32} {L n : Nat} (hL : L ≤ 3072) (hn : 100000 ≤ n) (hi : ok (iIn n) (fun r => (r.1 = 0 ∧ r.2.1 = 215 ∧ r.2.2.1 = 234 ∧ ln r.2.2.2.1 234 = 1) ∧ CSt r.2.2.2.1 r.2.2.2.2 ∧ MSt r.2.2.2.1 r.2.2.2.2 ∧ ZZ r.2.2.2.2)) : fLawAll xs L n = some () := by
  obtain ⟨r, hr, ⟨h1, h2, h3, h4⟩, hC, hM, hZ⟩ := hi
  obtain ⟨ax, am, ao, Y, S⟩ := r
  dsimp only at h1 h2 h3 h4 hC hM hZ
  subst h1 h2 h3
  rw [fLaw_in, hr, kc_s]
  obtain ⟨u, hu, _⟩ := lp_all (n := n) (xs := xs) hn hL (GG.start hC hM h4 hZ)
  exact hu
theorem law_ok (xs : Nat → Int32) (L : Nat) (hL : L ≤ 3072) : fLawAll xs L 1000000 = some () := law_at hL (Nat.le_of_ble_eq_true rfl) iIn_ok
