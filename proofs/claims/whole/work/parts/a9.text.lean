/-! TEXTS: bytes, what is skipped, tokens, words, numbers. -/
abbrev TX : Type := Nat × (Nat → Nat)
def isBk (b : Nat) : Bool := decide (b = 32 ∨ b = 10)
def isLt (b : Nat) : Bool := decide (97 ≤ b ∧ b ≤ 122)
def isFg (b : Nat) : Bool := decide (48 ≤ b ∧ b ≤ 57)
def skf (X : TX) (P : Nat → Bool) : Nat → Nat → Nat
  | 0, k => k
  | f + 1, k => if (decide (k < X.1) && P (X.2 k)) = true then skf X P f (k + 1) else k
/-- behind all that is P from k on -/
def sk (X : TX) (P : Nat → Bool) (k : Nat) : Nat := skf X P (X.1 - k) k
theorem sk_step {X : TX} {P : Nat → Bool} {k : Nat} (h : k < X.1) (hp : P (X.2 k) = true) : sk X P k = sk X P (k + 1) := by
  unfold sk
  rw [show X.1 - k = (X.1 - (k + 1)) + 1 by omega]
  show (if (decide (k < X.1) && P (X.2 k)) = true then skf X P (X.1 - (k + 1)) (k + 1) else k) = _
  rw [if_pos (by rw [decide_eq_true h, hp]; rfl)]
theorem sk_stop {X : TX} {P : Nat → Bool} {k : Nat} (h : X.1 ≤ k ∨ P (X.2 k) = false) : sk X P k = k := by
  unfold sk
  cases hd : X.1 - k with
  | zero => rfl
  | succ f =>
    show (if (decide (k < X.1) && P (X.2 k)) = true then skf X P f (k + 1) else k) = k
    rw [if_neg]
    intro e
    rw [Bool.and_eq_true, decide_eq_true_eq] at e
    rcases h with h | h
    · omega
    · rw [h] at e
      exact absurd e.2 (by decide)
theorem sk_ind {X : TX} {P : Nat → Bool} : ∀ (f k : Nat), X.1 - k ≤ f → k ≤ sk X P k ∧ (k ≤ X.1 → sk X P k ≤ X.1) ∧ (sk X P k < X.1 → P (X.2 (sk X P k)) = false) ∧ (∀ j, k ≤ j → j < sk X P k → j < X.1 ∧ P (X.2 j) = true)
  | 0, k, h => by
    rw [sk_stop (Or.inl (by omega))]
    exact ⟨Nat.le_refl _, fun h => h, fun h => by omega, fun j h1 h2 => by omega⟩
  | f + 1, k, h => by
    by_cases c : k < X.1 ∧ P (X.2 k) = true
    · rw [sk_step c.1 c.2]
      obtain ⟨h1, h2, h3, h4⟩ := sk_ind (X := X) (P := P) f (k + 1) (by omega)
      refine ⟨by omega, fun _ => h2 (by omega), h3, fun j h5 h6 => ?_⟩
      by_cases e : j = k
      · subst e
        exact c
      · exact h4 j (by omega) h6
    · have e : X.1 ≤ k ∨ P (X.2 k) = false := by
        by_cases c1 : k < X.1
        · right
          cases hp : P (X.2 k) with
          | false => rfl
          | true => exact absurd ⟨c1, hp⟩ c
        · left
          omega
      rw [sk_stop e]
      refine ⟨Nat.le_refl _, fun h => h, fun h => ?_, fun j h1 h2 => by omega⟩
      rcases e with e | e
      · omega
      · exact e
theorem sk_ge {X : TX} {P : Nat → Bool} (k : Nat) : k ≤ sk X P k := (sk_ind _ k (Nat.le_refl _)).1
theorem sk_le {X : TX} {P : Nat → Bool} {k : Nat} (h : k ≤ X.1) : sk X P k ≤ X.1 := (sk_ind _ k (Nat.le_refl _)).2.1 h
theorem sk_at {X : TX} {P : Nat → Bool} {k : Nat} (h : sk X P k < X.1) : P (X.2 (sk X P k)) = false := (sk_ind _ k (Nat.le_refl _)).2.2.1 h
theorem sk_in {X : TX} {P : Nat → Bool} {k j : Nat} (h : k ≤ j) (h2 : j < sk X P k) : j < X.1 ∧ P (X.2 j) = true := (sk_ind _ k (Nat.le_refl _)).2.2.2 j h h2
theorem sk_sk {X : TX} {P : Nat → Bool} (k : Nat) : sk X P (sk X P k) = sk X P k := by
  apply sk_stop
  by_cases c : sk X P k < X.1
  · exact Or.inr (sk_at c)
  · exact Or.inl (by omega)
theorem sk_mid {X : TX} {P : Nat → Bool} {k : Nat} : ∀ d, k + d ≤ sk X P k → sk X P (k + d) = sk X P k
  | 0, _ => rfl
  | d + 1, h => by
    have := sk_mid (X := X) (P := P) (k := k) d (by omega)
    have h2 := sk_in (X := X) (P := P) (k := k) (j := k + d) (by omega) (by omega)
    rw [← this, sk_step h2.1 h2.2, Nat.add_assoc]
/-- what begins at k: nothing 0, a word 1, a number 2, a sign 3 -/
def tk (X : TX) (k : Nat) : Nat := if X.1 ≤ k then 0 else if isLt (X.2 k) = true then 1 else if isFg (X.2 k) = true then 2 else 3
/-- its end -/
def te (X : TX) (k : Nat) : Nat := if X.1 ≤ k then k else if isLt (X.2 k) = true then sk X isLt k else if isFg (X.2 k) = true then sk X isFg k else k + 1
/-- where the next begins -/
def nx (X : TX) (k : Nat) : Nat := sk X isBk (te X k)
theorem te_gt {X : TX} {k : Nat} (h : k < X.1) : k < te X k := by
  unfold te
  rw [if_neg (by omega)]
  split
  · next c =>
    have := sk_ge (X := X) (P := isLt) (k + 1)
    rw [sk_step h c]
    omega
  · split
    · next c =>
      have := sk_ge (X := X) (P := isFg) (k + 1)
      rw [sk_step h c]
      omega
    · omega
theorem te_le {X : TX} {k : Nat} (h : k ≤ X.1) : te X k ≤ X.1 := by
  unfold te
  split
  · exact h
  · split
    · exact sk_le h
    · split
      · exact sk_le h
      · omega
theorem nx_le {X : TX} {k : Nat} (h : k ≤ X.1) : nx X k ≤ X.1 := sk_le (te_le h)
theorem nx_gt {X : TX} {k : Nat} (h : k < X.1) : k < nx X k := Nat.lt_of_lt_of_le (te_gt h) (sk_ge _)
theorem tk_0 {X : TX} {k : Nat} : tk X k = 0 ↔ X.1 ≤ k := by
  unfold tk
  constructor
  · intro h
    by_cases c : X.1 ≤ k
    · exact c
    · rw [if_neg c] at h
      split at h
      · omega
      · split at h <;> omega
  · intro h
    rw [if_pos h]
theorem tk_le (X : TX) (k : Nat) : tk X k ≤ 3 := by
  unfold tk
  split
  · omega
  · split
    · omega
    · split <;> omega
theorem tk_1 {X : TX} {k : Nat} (h : tk X k = 1) : k < X.1 ∧ isLt (X.2 k) = true ∧ te X k = sk X isLt k := by
  unfold tk at h
  unfold te
  by_cases c : X.1 ≤ k
  · rw [if_pos c] at h; omega
  · rw [if_neg c] at h ⊢
    by_cases d : isLt (X.2 k) = true
    · rw [if_pos d]
      exact ⟨by omega, d, rfl⟩
    · rw [if_neg d] at h
      split at h <;> omega
theorem tk_2 {X : TX} {k : Nat} (h : tk X k = 2) : k < X.1 ∧ isLt (X.2 k) = false ∧ isFg (X.2 k) = true ∧ te X k = sk X isFg k := by
  unfold tk at h
  unfold te
  by_cases c : X.1 ≤ k
  · rw [if_pos c] at h; omega
  · rw [if_neg c] at h ⊢
    by_cases d : isLt (X.2 k) = true
    · rw [if_pos d] at h; omega
    · rw [if_neg d] at h ⊢
      by_cases e : isFg (X.2 k) = true
      · rw [if_pos e]
        exact ⟨by omega, by simpa using d, e, rfl⟩
      · rw [if_neg e] at h; omega
theorem tk_3 {X : TX} {k : Nat} (h : tk X k = 3) : k < X.1 ∧ isLt (X.2 k) = false ∧ isFg (X.2 k) = false ∧ te X k = k + 1 := by
  unfold tk at h
  unfold te
  by_cases c : X.1 ≤ k
  · rw [if_pos c] at h; omega
  · rw [if_neg c] at h ⊢
    by_cases d : isLt (X.2 k) = true
    · rw [if_pos d] at h; omega
    · rw [if_neg d] at h ⊢
      by_cases e : isFg (X.2 k) = true
      · rw [if_pos e] at h; omega
      · rw [if_neg e]
        exact ⟨by omega, by simpa using d, by simpa using e, rfl⟩
/-- what a number counts as -/
def nvl (X : TX) (s : Nat) : Nat → Nat
  | 0 => 0
  | i + 1 => min 1000000 (10 * nvl X s i + (X.2 (s + i) - 48))
theorem nvl_le (X : TX) (s : Nat) : ∀ i, nvl X s i ≤ 1000000
  | 0 => Nat.zero_le _
  | i + 1 => Nat.min_le_left _ _
def nv (X : TX) (k : Nat) : Nat := nvl X k (te X k - k)
/-- the letters of the words that count: 1 budget, 2 project, 3 votes, 4 law, 5 score, 6 cost, 7 liked, 8 voters -/
def wch (i j : Nat) : Nat := (sch i (nI j)).toNatClampNeg
theorem wch_c : ∀ i, i < 9 → 1 ≤ i → ∀ j, j < 7 → j < strL i → sch i (nI j) = nI (wch i j) ∧ wch i j ≤ 122 ∧ sch (i + 15) (nI j) = nI (wch i j) := by decide +kernel
theorem wch_l : ∀ i, i < 9 → 1 ≤ i → strL i ≤ 7 ∧ 3 ≤ strL i ∧ strL (i + 15) = strL i := by decide +kernel
def isW (X : TX) (k i : Nat) : Bool := decide (tk X k = 1 ∧ te X k - k = strL i) && allq (fun j => decide (X.2 (k + j) = wch i j)) (strL i)
/-- a name: a word of six letters at most that isn't one of the words -/
def isN (X : TX) (k : Nat) : Bool := decide (tk X k = 1 ∧ te X k - k ≤ 6) && (!isW X k 1 && (!isW X k 3 && !isW X k 4))
def lt1 (X : TX) (k i : Nat) : Nat := if k + i < te X k then X.2 (k + i) - 96 else 0
/-- the project of this name -/
def nmd (X : TX) (A : EL) (k : Nat) : Option Nat := fsf (fun p => allq (fun i => decide (eNm A p i = nI (lt1 X k i))) 6) (eP A)
def isS (X : TX) (k b : Nat) : Bool := decide (tk X k = 3 ∧ X.2 k = b)
