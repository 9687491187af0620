/-! SEARCH, CLASS: the best of all sets. -/
def uk (A : EL) (wf : Bool) (s : Nat) : Nat := if wf = true then ww A s else 0
def upq (A : EL) (wf : Bool) (s b : Nat) : Bool := decide (csum A s ≤ eM A ∧ (uk A wf b < uk A wf s ∨ (uk A wf s = uk A wf b ∧ (wa A b < wa A s ∨ (wa A s = wa A b ∧ csum A s < csum A b)))))
/-- the best of all sets below s -/
def bq (A : EL) (wf : Bool) : Nat → Nat
  | 0 => 0
  | s + 1 => if upq A wf s (bq A wf s) = true then s else bq A wf s
theorem bq_s (A : EL) (wf : Bool) (s : Nat) : bq A wf (s + 1) = if upq A wf s (bq A wf s) = true then s else bq A wf s := rfl
theorem bq_le (A : EL) (wf : Bool) : ∀ s, bq A wf s ≤ s
  | 0 => Nat.le_refl _
  | s + 1 => by
    have := bq_le A wf s
    rw [bq_s]
    split <;> omega
theorem bq_skip {A : EL} {wf : Bool} {s : Nat} : ∀ d, (∀ x, s ≤ x → x < s + d → upq A wf x (bq A wf s) = false) → bq A wf (s + d) = bq A wf s
  | 0, _ => rfl
  | d + 1, h => by
    have ih := bq_skip d (fun x h1 h2 => h x h1 (by omega))
    rw [← Nat.add_assoc, bq_s, ih, h (s + d) (by omega) (by omega)]
    rfl
theorem uk_le {A : EL} (h : EW A) (wf : Bool) (s : Nat) : uk A wf s ≤ 119988 := by
  unfold uk
  split
  · exact ww_le h s
  · omega
/-- what is kept of a set -/
def Ent (T : PS) (se : Nat) (A : EL) (wf : Bool) (r : Nat) : Prop := gi T (se + 1) (lo r) = nI (csum A r) ∧ gi T (se + 2) (lo r) = nI (wa A r) ∧ (wf = true → ∀ v, v < eV A → gi T (se + 3) (lo r * 24 + v) = nI (wt A v r))
def PI (T : PS) (se : Nat) (A : EL) (wf : Bool) (s : Nat) : Prop := ∀ t, s / 2 ^ t * 2 ^ t < s → Ent T se A wf (s / 2 ^ t * 2 ^ t)
theorem dm_le (s d : Nat) : s / d * d ≤ s := Nat.div_mul_le_self s d
theorem dm_in {s y d : Nat} (hd : 0 < d) (h1 : y / d * d ≤ s) (h2 : s ≤ y) : s / d * d = y / d * d := by
  have : s / d = y / d := by
    apply Nat.div_eq_of_lt_le h1
    have := Nat.lt_div_mul_add hd (a := y)
    rw [Nat.add_mul, Nat.one_mul]
    omega
  rw [this]
theorem lo_ge {r t : Nat} (h : r < 4096) (hm : r % 2 ^ t = 0) (ht : t ≤ 12) : t ≤ lo r := by
  by_cases h0 : r = 0
  · subst h0
    exact ht
  · by_cases z : t ≤ lo r
    · exact z
    · have h1 := lo_tb h (by omega)
      have h2 : r = 2 ^ t * (r / 2 ^ t) := by
        have := Nat.div_add_mod r (2 ^ t)
        omega
      rw [h2, Nat.testBit_two_pow_mul] at h1
      have z' : ¬ t ≤ lo r := z
      rw [← h2] at h1
      simp [z'] at h1
theorem pw_dvd {s a b : Nat} (h : s % 2 ^ b = 0) (hab : a ≤ b) : s % 2 ^ a = 0 := by
  have : 2 ^ b = 2 ^ a * 2 ^ (b - a) := by rw [← Nat.pow_add, show a + (b - a) = b by omega]
  rw [this] at h
  have h1 := Nat.div_add_mod s (2 ^ a * 2 ^ (b - a))
  rw [h, Nat.add_zero, Nat.mul_assoc] at h1
  rw [← h1]
  exact Nat.mul_mod_right _ _
/-- of a set that isn't all: lesser projects are cut off -/
theorem pre_lo {s t : Nat} (h : s < 4096) (h0 : 0 < s) (hr : s / 2 ^ t * 2 ^ t < s) : lo s < t ∧ lo s < lo (s / 2 ^ t * 2 ^ t) := by
  have h1 : lo s < t := by
    by_cases z : lo s < t
    · exact z
    · have h2 := pw_dvd (lo_bits s h h0).2.2.2.2.2.1 (show t ≤ lo s by omega)
      have h3 := Nat.div_add_mod s (2 ^ t)
      rw [h2, Nat.mul_comm] at h3
      omega
  refine ⟨h1, ?_⟩
  have hl := (lo_bits s h h0).1
  by_cases ht : t ≤ 12
  · have := lo_ge (r := s / 2 ^ t * 2 ^ t) (t := t) (by omega) (Nat.mul_mod_left _ _) ht
    omega
  · have : s / 2 ^ t = 0 := Nat.div_eq_of_lt (Nat.lt_of_lt_of_le h (Nat.le_trans (by decide : 4096 ≤ 2 ^ 12) (Nat.pow_le_pow_right (by decide) (by omega))))
    rw [this, Nat.zero_mul]
    exact hl
theorem pre_own {s : Nat} (h : s < 4096) (h0 : 0 < s) : s / 2 ^ (lo s + 1) * 2 ^ (lo s + 1) = s - 2 ^ lo s ∧ s - 2 ^ lo s < s := by
  obtain ⟨_, _, b3, _, _, b6, b7⟩ := lo_bits s h h0
  have hp : 0 < 2 ^ lo s := Nat.two_pow_pos _
  have e : s = 2 ^ lo s * (s / 2 ^ lo s) := by
    have := Nat.div_add_mod s (2 ^ lo s)
    omega
  have e2 : s / 2 ^ (lo s + 1) = s / 2 ^ lo s / 2 := by rw [Nat.pow_succ, Nat.div_div_eq_div_mul]
  refine ⟨?_, by omega⟩
  rw [e2, Nat.pow_succ]
  generalize hd : s / 2 ^ lo s = d at *
  have e3 : d / 2 * (2 ^ lo s * 2) = 2 ^ lo s * (d - 1) := by
    rw [show d - 1 = d / 2 * 2 by omega, Nat.mul_comm (2 ^ lo s) (d / 2 * 2), Nat.mul_assoc, Nat.mul_comm 2]
  rw [e3, Nat.mul_sub, Nat.mul_one, ← e]
theorem PI.next {T T' : PS} {se s : Nat} {A : EL} {wf : Bool} (h : s < 4096) (h0 : 0 < s) (hP : PI T se A wf s) (hs : Ent T' se A wf s) (hk : ∀ r, lo s < lo r → Ent T se A wf r → Ent T' se A wf r) : PI T' se A wf (s + 1) := by
  intro t ht
  have e := dm_in (s := s) (y := s + 1) (d := 2 ^ t) (Nat.two_pow_pos _) (by omega) (by omega)
  rw [← e]
  by_cases z : s / 2 ^ t * 2 ^ t = s
  · rw [z]; exact hs
  · have hz : s / 2 ^ t * 2 ^ t < s := by have := dm_le s (2 ^ t); omega
    exact hk _ (pre_lo h h0 hz).2 (hP t hz)
theorem PI.skip {T T' : PS} {se s : Nat} {A : EL} {wf : Bool} (h : s < 4096) (h0 : 0 < s) (hP : PI T se A wf s) (hk : ∀ r, lo s < lo r → Ent T se A wf r → Ent T' se A wf r) : PI T' se A wf (s + 2 ^ lo s) := by
  intro t ht
  obtain ⟨_, _, b3, _, _, b6, b7⟩ := lo_bits s h h0
  have hp : 0 < 2 ^ lo s := Nat.two_pow_pos _
  have hle : (s + 2 ^ lo s) / 2 ^ t * 2 ^ t ≤ s := by
    by_cases z : t ≤ lo s
    · exfalso
      have h1 : s % 2 ^ t = 0 := pw_dvd b6 z
      have h2 : 2 ^ lo s % 2 ^ t = 0 := by
        have : 2 ^ lo s = 2 ^ t * 2 ^ (lo s - t) := by rw [← Nat.pow_add, show t + (lo s - t) = lo s by omega]
        rw [this]
        exact Nat.mul_mod_right _ _
      have h3 : (s + 2 ^ lo s) % 2 ^ t = 0 := by rw [Nat.add_mod, h1, h2]; simp
      have h4 := Nat.div_add_mod (s + 2 ^ lo s) (2 ^ t)
      rw [h3, Nat.mul_comm] at h4
      omega
    · have h5 : ((s + 2 ^ lo s) / 2 ^ t * 2 ^ t) % 2 ^ lo s = 0 := pw_dvd (b := t) (Nat.mul_mod_left _ _) (by omega)
      generalize (s + 2 ^ lo s) / 2 ^ t * 2 ^ t = r at *
      have h6 := Nat.div_add_mod r (2 ^ lo s)
      have h7 := Nat.div_add_mod s (2 ^ lo s)
      rw [h5, Nat.add_zero] at h6
      rw [b6, Nat.add_zero] at h7
      have h8 : r / 2 ^ lo s < s / 2 ^ lo s + 1 := by
        apply Nat.lt_of_mul_lt_mul_left (a := 2 ^ lo s)
        rw [h6, Nat.mul_add, Nat.mul_one, h7]
        exact ht
      have h9 : 2 ^ lo s * (r / 2 ^ lo s) ≤ 2 ^ lo s * (s / 2 ^ lo s) := Nat.mul_le_mul_left _ (by omega)
      omega
  have e := dm_in (s := s) (y := s + 2 ^ lo s) (d := 2 ^ t) (Nat.two_pow_pos _) hle (by omega)
  rw [← e]
  have hz : s / 2 ^ t * 2 ^ t < s := by
    by_cases z : s / 2 ^ t * 2 ^ t = s
    · exfalso
      have hm : s % 2 ^ t = 0 := by rw [← z]; exact Nat.mul_mod_left _ _
      by_cases y : lo s < t
      · have h1 := pw_dvd hm (show lo s + 1 ≤ t by omega)
        have h2 := (pre_own h h0).1
        have h3 := Nat.div_add_mod s (2 ^ (lo s + 1))
        rw [h1, Nat.mul_comm] at h3
        omega
      · have h2 : 2 ^ lo s % 2 ^ t = 0 := by
          have : 2 ^ lo s = 2 ^ t * 2 ^ (lo s - t) := by rw [← Nat.pow_add, show t + (lo s - t) = lo s by omega]
          rw [this]
          exact Nat.mul_mod_right _ _
        have h3 : (s + 2 ^ lo s) % 2 ^ t = 0 := by rw [Nat.add_mod, hm, h2]; simp
        have h4 := Nat.div_add_mod (s + 2 ^ lo s) (2 ^ t)
        rw [h3, Nat.mul_comm] at h4
        omega
    · have := dm_le s (2 ^ t); omega
  exact hk _ (pre_lo h h0 hz).2 (hP t hz)
/-- the next set behind those that have lesser projects too is no more than all -/
theorem skip_le {s P : Nat} (h : s < 2 ^ P) (hP : P ≤ 12) (h0 : 0 < s) : s + 2 ^ lo s ≤ 2 ^ P := by
  have hs : s < 4096 := Nat.lt_of_lt_of_le h (p12 hP)
  have hl := lo_lt h hP h0
  have b6 := (lo_bits s hs h0).2.2.2.2.2.1
  have e : 2 ^ P = 2 ^ lo s * 2 ^ (P - lo s) := by rw [← Nat.pow_add, show lo s + (P - lo s) = P by omega]
  have h7 := Nat.div_add_mod s (2 ^ lo s)
  rw [b6, Nat.add_zero] at h7
  have h8 : s / 2 ^ lo s < 2 ^ (P - lo s) := by
    apply Nat.lt_of_mul_lt_mul_left (a := 2 ^ lo s)
    rw [h7, ← e]
    exact h
  have h9 : 2 ^ lo s * (s / 2 ^ lo s + 1) ≤ 2 ^ lo s * 2 ^ (P - lo s) := Nat.mul_le_mul_left _ (by omega)
  rw [Nat.mul_add, Nat.mul_one, h7, ← e] at h9
  exact h9
