/-! THE MODEL: its rows, its simple methods. -/
def MSt (Y : XS) (S : PS) : Prop :=
  (gr S 215 0 = some 216 ∧ gr S 215 1 = some 217 ∧ gr S 215 2 = some 218 ∧ gr S 215 3 = some 219 ∧ gr S 215 4 = some 220) ∧
  (gr S 215 12 = some 221 ∧ gr S 215 13 = some 222 ∧ gr S 215 14 = some 223 ∧ gr S 215 15 = some 224 ∧ gr S 215 16 = some 225 ∧ gr S 215 17 = some 226) ∧
  (gr S 215 18 = some 227 ∧ gr S 215 19 = some 228 ∧ gr S 215 20 = some 229 ∧ gr S 215 24 = some 230 ∧ gr S 215 25 = some 231 ∧ gr S 215 26 = some 232 ∧ gr S 215 27 = some 233) ∧
  (ln Y 216 = 877 ∧ ln Y 217 = 877 ∧ ln Y 218 = 877 ∧ ln Y 219 = 877 ∧ ln Y 220 = 17540) ∧
  (ln Y 221 = 288 ∧ ln Y 222 = 12 ∧ ln Y 223 = 12 ∧ ln Y 224 = 12 ∧ ln Y 225 = 24 ∧ ln Y 226 = 288) ∧
  (ln Y 227 = 12 ∧ ln Y 228 = 12 ∧ ln Y 229 = 12 ∧ ln Y 230 = 24 ∧ ln Y 231 = 24 ∧ ln Y 232 = 12 ∧ ln Y 233 = 500)
theorem MSt.fr {Y : XS} {S S' : PS} (h : MSt Y S) (hf : S'.2.2 = S.2.2) : MSt Y S' := by
  have e : MSt Y S' = MSt Y S := by
    unfold MSt gr
    rw [hf]
  rw [e]
  exact h
/-- a law's text that the model reckons as f -/
def MLaw (tx : List Nat) (f : LF) : Prop := ∀ (Y : XS) (n : Nat) (S : PS), 10000 ≤ n → MSt Y S → gi S 216 376 = nI tx.length → (∀ j, j < tx.length → gi S 216 (377 + j) = nI (tx.getD j 0)) → gi S 215 8 = nI 0 →
  ok (fX11_lawSumR Y n 10 S 215) (fun r => r.1 = f (gi S 215 9) (gi S 215 10) (gi S 215 11) (gi S 216 2) ∧ Fr (fun x => x = 215) S r.2 ∧ ∀ j, j ≠ 8 → gi r.2 215 j = gi S 215 j)
def LawR (S : PS) (a o : Nat) : Option LF → Prop
  | none => gi S a (o + 375) = nI 0
  | some f => gi S a (o + 375) = nI 1 ∧ ∃ tx : List Nat, gi S a (o + 376) = nI tx.length ∧ tx.length ≤ 500 ∧ (∀ j, j < tx.length → gi S a (o + (377 + j)) = nI (tx.getD j 0)) ∧ MLaw tx f
/-- a row that holds an election -/
def RV (S : PS) (a o : Nat) (A : EL) : Prop := gi S a (o + 0) = nI (eM A) ∧ gi S a (o + 1) = nI (eP A) ∧ gi S a (o + 2) = nI (eV A) ∧ (∀ p, p < eP A → gi S a (o + (3 + p)) = nI (eC A p)) ∧ (∀ p k, p < eP A → k < 6 → gi S a (o + (15 + 6 * p + k)) = eNm A p k) ∧ (∀ v p, v < eV A → p < eP A → gi S a (o + (87 + 12 * v + p)) = nI (eS A p v)) ∧ LawR S a o (eL A) ∧ EW A
theorem RV.mv {S S' : PS} {a o a' o' : Nat} {A : EL} (h : RV S a o A) (e : ∀ j, j < 877 → gi S' a' (o' + j) = gi S a (o + j)) : RV S' a' o' A := by
  obtain ⟨h0, h1, h2, h3, h4, h5, h6, h7⟩ := h
  have b1 := h7.2.1
  have b2 := h7.2.2.1
  refine ⟨(e 0 (by omega)).trans h0, (e 1 (by omega)).trans h1, (e 2 (by omega)).trans h2, fun p hp => (e _ (by omega)).trans (h3 p hp), fun p k hp hk => (e _ (by omega)).trans (h4 p k hp hk), fun v p hv hp => (e _ (by omega)).trans (h5 v p hv hp), ?_, h7⟩
  cases hl : eL A with
  | none =>
    rw [hl] at h6
    exact (e 375 (by omega)).trans h6
  | some f =>
    rw [hl] at h6
    obtain ⟨x1, tx, x2, x3, x4, x5⟩ := h6
    exact ⟨(e 375 (by omega)).trans x1, tx, (e 376 (by omega)).trans x2, x3, fun j hj => (e (377 + j) (by omega)).trans (x4 j hj), x5⟩
/-- the election at hand -/
def NV (S : PS) (A : EL) : Prop := RV S 216 0 A
theorem NV.fr {S S' : PS} {M : Nat → Prop} {A : EL} (h : NV S A) (hf : Fr M S S') (hd : ¬ M 216) : NV S' A := h.mv (fun j _ => hf.gi hd _)
theorem NV.m {S : PS} {A : EL} (h : NV S A) : gi S 216 0 = nI (eM A) := h.1
theorem NV.p {S : PS} {A : EL} (h : NV S A) : gi S 216 1 = nI (eP A) := h.2.1
theorem NV.v {S : PS} {A : EL} (h : NV S A) : gi S 216 2 = nI (eV A) := h.2.2.1
theorem NV.c {S : PS} {A : EL} (h : NV S A) {p : Nat} (hp : p < eP A) : gi S 216 (3 + p) = nI (eC A p) := by
  have := h.2.2.2.1 p hp
  rwa [Nat.zero_add] at this
theorem NV.n {S : PS} {A : EL} (h : NV S A) {p k : Nat} (hp : p < eP A) (hk : k < 6) : gi S 216 (15 + 6 * p + k) = eNm A p k := by
  have := h.2.2.2.2.1 p k hp hk
  rwa [Nat.zero_add] at this
theorem NV.s {S : PS} {A : EL} (h : NV S A) {p v : Nat} (hp : p < eP A) (hv : v < eV A) : gi S 216 (87 + 12 * v + p) = nI (eS A p v) := by
  have := h.2.2.2.2.2.1 v p hv hp
  rwa [Nat.zero_add] at this
theorem NV.ew {S : PS} {A : EL} (h : NV S A) : EW A := h.2.2.2.2.2.2.2
theorem m_many {Y : XS} {n : Nat} {S : PS} {A : EL} (hM : MSt Y S) (h : NV S A) : fX11_many Y n S 215 = some (nI (eP A)) := by
  have l := hM.2.2.2.1.1
  unfold fX11_many
  rw [kgr_n hM.1.1, show (1 : Int32) = nI 1 from rfl, kai_n (by omega) (by omega), h.p]
theorem m_people {Y : XS} {n : Nat} {S : PS} {A : EL} (hM : MSt Y S) (h : NV S A) : fX11_people Y n S 215 = some (nI (eV A)) := by
  have l := hM.2.2.2.1.1
  unfold fX11_people
  rw [kgr_n hM.1.1, show (2 : Int32) = nI 2 from rfl, kai_n (by omega) (by omega), h.v]
theorem m_costOf {Y : XS} {n : Nat} {S : PS} {A : EL} {p : Nat} (hM : MSt Y S) (h : NV S A) (hp : p < eP A) : fX11_costOf Y n S 215 (nI p) = some (nI (eC A p)) := by
  have l := hM.2.2.2.1.1
  have b1 := h.ew.2.1
  unfold fX11_costOf
  rw [kgr_n hM.1.1, show (3 : Int32) = nI 3 from rfl, nI_add, kai_n (by omega) (by omega), h.c hp]
theorem m_scoreAt {Y : XS} {n : Nat} {S : PS} {v p : Nat} : fX11_scoreAt Y n S (nI v) (nI p) = some (nI (87 + 12 * v + p)) := by
  unfold fX11_scoreAt
  rw [show (87 : Int32) = nI 87 from rfl, show (12 : Int32) = nI 12 from rfl, nmul, nI_add, nI_add]
theorem m_scoreOf {Y : XS} {n : Nat} {S : PS} {A : EL} {v p : Nat} (hM : MSt Y S) (h : NV S A) (hv : v < eV A) (hp : p < eP A) : fX11_scoreOf Y n S 215 (nI v) (nI p) = some (nI (eS A p v)) := by
  have l := hM.2.2.2.1.1
  have b1 := h.ew.2.1
  have b2 := h.ew.2.2.1
  unfold fX11_scoreOf
  rw [kgr_n hM.1.1, m_scoreAt, kc_s, kai_n (by omega) (by omega), h.s hp hv]
theorem m_isIn {Y : XS} {n : Nat} {S : PS} {x : Int32} {t : Nat} (ht : t < 2147483647) : fX11_isIn Y n S x 0 (nI t) = some (if (ix x (t + 1)).isSome = true then 1 else 0) := by
  unfold fX11_isIn jX11_isIn_14 jX11_isIn_15 kzr
  rw [if_pos (Or.inl rfl), if_pos (Or.inr rfl)]
  cases h : ix x (t + 1) with
  | none =>
    rcases ix_none h with h1 | ⟨h1, h2⟩
    · rw [if_pos h1]; rfl
    · rw [if_neg h1, if_pos (by rw [← Int32.not_le]; exact le_ix ht h2)]; rfl
  | some j =>
    obtain ⟨rfl, h2⟩ := ix_some (by omega) h
    rw [if_neg (nI_pos (by omega)), if_neg (by rw [nlt (by omega) (by omega)]; omega)]
    rfl
theorem ix_0 (x : Int32) : ix x 0 = none := by
  cases h : ix x 0 with
  | none => rfl
  | some j => have := (ix_some (by decide) h).2; omega
theorem m_isInM {Y : XS} {n : Nat} {S : PS} {x : Int32} {N : Nat} (hN : N < 2147483647) : fX11_isIn Y n S x 0 (nI N - 1) = some (if (ix x N).isSome = true then 1 else 0) := by
  cases N with
  | zero =>
    rw [ix_0]
    unfold fX11_isIn jX11_isIn_14 jX11_isIn_15 kzr
    rw [if_pos (Or.inl rfl), if_pos (Or.inr rfl)]
    by_cases h : x < 0
    · rw [if_pos h]; rfl
    · rw [if_neg h, if_pos]
      · rfl
      · rw [Int32.not_lt, Int32.le_iff_toInt_le] at h
        rw [Int32.lt_iff_toInt_lt]
        have e0 : (0 : Int32).toInt = 0 := rfl
        have e1 : (nI 0 - 1).toInt = -1 := by decide
        omega
  | succ t =>
    rw [show (1 : Int32) = nI 1 from rfl, nsub (by omega), Nat.add_sub_cancel]
    exact m_isIn (by omega)
theorem kzr_b {α : Type} {c : Bool} {r : Option α} : kzr (if c = true then 1 else 0) r = r := by
  unfold kzr
  rw [if_pos]
  cases c
  · exact Or.inl rfl
  · exact Or.inr rfl
theorem m_isProject {Y : XS} {n : Nat} {S : PS} {A : EL} {x : Int32} (hM : MSt Y S) (h : NV S A) : fX11_isProject Y n S 215 x = some (if (ix x (eP A)).isSome = true then 1 else 0) := by
  have b1 := h.ew.2.1
  unfold fX11_isProject
  rw [m_many hM h, kc_s, m_isInM (by omega), kc_s, kzr_b]
theorem m_isVoter {Y : XS} {n : Nat} {S : PS} {A : EL} {x : Int32} (hM : MSt Y S) (h : NV S A) : fX11_isVoter Y n S 215 x = some (if (ix x (eV A)).isSome = true then 1 else 0) := by
  have b1 := h.ew.2.2.1
  unfold fX11_isVoter
  rw [m_people hM h, kc_s, m_isInM (by omega), kc_s, kzr_b]
theorem m_isRule {Y : XS} {n : Nat} {S : PS} {x : Int32} : fX11_isRule Y n S x = some (if (ix x 9).isSome = true then 1 else 0) := by
  unfold fX11_isRule
  rw [show (8 : Int32) = nI 8 from rfl, m_isIn (by decide), kc_s, kzr_b]
theorem m_isOf {Y : XS} {n : Nat} {S : PS} {s p : Nat} (hs : s < 2147483648) (hp : p < 32) : fX11_isOf Y n S (nI s) (nI p) = some (if s.testBit p = true then 1 else 0) := by
  have h1 : nI s >>> (nI p &&& 31) = nI (s / 2 ^ p) := nshr hs hp
  have h3 : s / 2 ^ p < 2147483648 := Nat.lt_of_le_of_lt (Nat.div_le_self _ _) hs
  have h2 : nI (s / 2 ^ p) &&& 1 = nI (s / 2 ^ p % 2) := nand1 h3
  have h4 : s / 2 ^ p % 2 < 2 := Nat.mod_lt _ (by decide)
  unfold fX11_isOf
  rw [h1, h2, tb_dm]
  by_cases h : s / 2 ^ p % 2 = 1
  · rw [h, if_pos (show nI 1 = 1 from rfl)]
    simp [jX11_isOf_14, kzr]
  · have h0 : s / 2 ^ p % 2 = 0 := by omega
    rw [h0, if_neg (show ¬ nI 0 = 1 by decide)]
    simp [jX11_isOf_14, kzr]
theorem m_likedOf {Y : XS} {n : Nat} {S : PS} {A : EL} {p : Nat} (hn : 100 ≤ n) (hM : MSt Y S) (h : NV S A) (hp : p < eP A) : fX11_likedOf Y n S 215 (nI p) = some (nI (lk A p)) := by
  have b2 := h.ew.2.2.1
  unfold fX11_likedOf
  refine kc_run (fun i => (nI (sm (fun v => if 0 < eS A p v then 1 else 0) i), nI i)) (eV A) (fun i hi => ?_) ?_ (by omega) rfl rfl
  · have hs9 := h.ew.2.2.2.2 p i hp hi
    unfold bX11_likedOf_4 jX11_likedOf_27_4
    rw [m_people hM h, kc_s]
    simp (discharger := omega) only [nle, if_neg]
    rw [m_scoreOf hM h hi hp, kc_s]
    simp (discharger := omega) only [show (0 : Int32) = nI 0 from rfl, show (1 : Int32) = nI 1 from rfl, nle, nI_add, sm_s]
    by_cases c : 0 < eS A p i
    · rw [if_neg (by omega), if_pos c]
    · rw [if_pos (by omega), if_neg c]
  · unfold bX11_likedOf_4
    rw [m_people hM h, kc_s]
    simp (discharger := omega) only [nle, if_pos]
    rfl
