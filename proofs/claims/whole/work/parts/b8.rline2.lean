/-! LINES: what they say, and that they go on. -/
def setL (A : EL) (f : LF) : EL := (eM A, eP A, eV A, eC A, eNm A, eS A, some f)
def sLaw (X : TX) (A : EL) (k0 : Nat) : RR := if (eL A).isSome = true then .inl (5, k0) else (match sSum X (sP X 6) (nx X k0) with
  | .inl e => .inl e
  | .inr g => sEnd X (setL A g.1) g.2)
def sLine (X : TX) (A : EL) (k : Nat) : RR := if isW X k 1 = true then sBudget X A (nx X k) else if isW X k 2 = true then sProject X A k else if isW X k 3 = true then sVotes X A (nx X k) else if isW X k 4 = true then sLaw X A k else .inl (1, k)
def sLines (X : TX) : Nat → EL → Nat → (Nat × Nat) ⊕ EL
  | 0, _, _ => .inl (1, 0)
  | f + 1, A, k => if tk X k = 0 then .inr A else (match sLine X A k with
    | .inl e => .inl e
    | .inr z => sLines X f z.1 z.2)
theorem sLines_s (X : TX) (f : Nat) (A : EL) (k : Nat) : sLines X (f + 1) A k = if tk X k = 0 then .inr A else (match sLine X A k with
    | .inl e => .inl e
    | .inr z => sLines X f z.1 z.2) := rfl
theorem sEnd_gt {X : TX} {A : EL} {k : Nat} {z : EL × Nat} (h : sEnd X A k = .inr z) (hk : k ≤ X.1) : k < z.2 ∧ z.2 ≤ X.1 ∧ z.1 = A := by
  unfold sEnd at h
  split at h
  · next c =>
    cases h
    exact ⟨nx_gt (isS_lt c).1, nx_le hk, rfl⟩
  · cases h
theorem sVl_gt {X : TX} {f m : Nat} : ∀ g A seen k z, k ≤ X.1 → sVl X f m g A seen k = .inr z → k < z.2 ∧ z.2 ≤ X.1 ∧ eL z.1 = eL A
  | 0, A, seen, k, z, hk, h => by cases h
  | g + 1, A, seen, k, z, hk, h => by
    rw [sVl_s] at h
    split at h
    · next c =>
      cases h
      exact ⟨nx_gt (isS_lt c).1, nx_le hk, rfl⟩
    · split at h
      · next c =>
        have hk' := (tk_1 (isN_1 c)).1
        cases hn : nmd X A k with
        | none => rw [hn] at h; cases h
        | some p =>
          rw [hn] at h
          dsimp only at h
          split at h
          · cases h
          · cases hs : sNum X (nx X k) 0 9 with
            | inl e => rw [hs] at h; cases h
            | inr s =>
              rw [hs] at h
              dsimp only at h
              have h1 := nx_gt hk'
              have h2 := nx_gt (sNum_r hs).2.2
              have := sVl_gt g _ _ _ z (nx_le (nx_le hk)) h
              exact ⟨by omega, this.2.1, this.2.2⟩
      · cases h
theorem sLine_gt {X : TX} {A : EL} {k : Nat} {z : EL × Nat} (h : sLine X A k = .inr z) (hk : k < X.1) : k < z.2 ∧ z.2 ≤ X.1 ∧ (eL z.1 = eL A ∨ (eL A = none ∧ ∃ f, eL z.1 = some f)) := by
  have h0 := nx_gt hk
  have h1 : nx X k ≤ X.1 := nx_le (by omega)
  unfold sLine at h
  split at h
  · unfold sBudget at h
    cases hs : sNum X (nx X k) 0 99999 with
    | inl e => rw [hs] at h; cases h
    | inr v =>
      rw [hs] at h
      have h2 := nx_gt (sNum_r hs).2.2
      have := sEnd_gt h (nx_le h1)
      exact ⟨by omega, this.2.1, Or.inl (by rw [this.2.2]; rfl)⟩
  · split at h
    · unfold sProject at h
      split at h
      · cases h
      · split at h
        · next c =>
          have hk' := (tk_1 (isN_1 c)).1
          cases hn : nmd X A (nx X k) with
          | some p => rw [hn] at h; cases h
          | none =>
            rw [hn] at h
            dsimp only at h
            cases hs : sNum X (nx X (nx X k)) 1 9999 with
            | inl e => rw [hs] at h; cases h
            | inr v =>
              rw [hs] at h
              have h2 := nx_gt hk'
              have h3 := nx_gt (sNum_r hs).2.2
              have := sEnd_gt h (nx_le (nx_le h1))
              exact ⟨by omega, this.2.1, Or.inl (by rw [this.2.2]; rfl)⟩
        · cases h
    · split at h
      · unfold sVotes at h
        cases hs : sNum X (nx X k) 1 9 with
        | inl e => rw [hs] at h; cases h
        | inr v =>
          rw [hs] at h
          dsimp only at h
          split at h
          · cases h
          · have h2 := nx_gt (sNum_r hs).2.2
            have := sVl_gt _ _ _ _ z (nx_le h1) h
            exact ⟨by omega, this.2.1, Or.inl (by rw [this.2.2]; rfl)⟩
      · split at h
        · unfold sLaw sSum at h
          split at h
          · cases h
          · next c =>
            cases hp : sP X 6 (nx X k) with
            | inl e => rw [hp] at h; cases h
            | inr g =>
              rw [hp] at h
              dsimp only at h
              have h2 := sP_gt 6 _ g h1 hp
              cases hv : sV X (sP X 6) (X.1 + 1) none g.1 g.2 with
              | inl e => rw [hv] at h; cases h
              | inr r =>
                rw [hv] at h
                have h3 := sV_ge (fun k g hk h => sP_gt 6 k g hk h) _ _ _ _ r h2.2 hv
                have := sEnd_gt h h3.2.1
                refine ⟨by omega, this.2.1, Or.inr ⟨?_, r.1, by rw [this.2.2]; rfl⟩⟩
                cases hl : eL A with
                | none => rfl
                | some f => rw [hl] at c; exact absurd rfl c
        · cases h
