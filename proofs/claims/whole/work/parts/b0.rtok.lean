/-! THE CLASS'S READER: tokens. -/
def sb (b : Nat) : Int32 := (nI b).toInt8.toInt32
theorem sb_lo : ∀ b, b < 128 → sb b = nI b := by decide +kernel
theorem sb_hi : ∀ b, b < 256 → 128 ≤ b → sb b < 0 := by decide +kernel
theorem sb_eq {b c : Nat} (hb : b < 256) (hc : c < 128) : (sb b = nI c) = (b = c) := by
  by_cases h : b < 128
  · rw [sb_lo b h, neq (by omega) (by omega)]
  · apply propext
    refine ⟨fun e => ?_, fun e => by omega⟩
    have := sb_hi b hb (by omega)
    rw [e, npos (by omega)] at this
    exact this.elim
theorem sb_lt {b c : Nat} (hb : b < 256) (hc : c < 128) : (sb b < nI c) = (b < c ∨ 128 ≤ b) := by
  by_cases h : b < 128
  · rw [sb_lo b h, nlt (by omega) (by omega)]
    apply propext
    omega
  · apply propext
    refine ⟨fun _ => Or.inr (by omega), fun _ => ?_⟩
    have := sb_hi b hb (by omega)
    rw [Int32.lt_iff_toInt_lt] at *
    rw [nI_toInt (by omega)]
    have e0 : (0 : Int32).toInt = 0 := rfl
    omega
theorem lt_sb {b c : Nat} (hb : b < 256) (hc : c < 128) : (nI c < sb b) = (c < b ∧ b < 128) := by
  by_cases h : b < 128
  · rw [sb_lo b h, nlt (by omega) (by omega)]
    apply propext
    omega
  · apply propext
    refine ⟨fun e => ?_, fun e => by omega⟩
    have := sb_hi b hb (by omega)
    rw [Int32.lt_iff_toInt_lt] at *
    rw [nI_toInt (by omega)] at e
    have e0 : (0 : Int32).toInt = 0 := rfl
    omega
theorem kzr0 {α : Type} {r : Option α} : kzr (0 : Int32) r = r := by unfold kzr; rw [if_pos (Or.inl rfl)]
theorem kzr1 {α : Type} {r : Option α} : kzr (1 : Int32) r = r := by unfold kzr; rw [if_pos (Or.inr rfl)]
theorem ifF {α : Type} {a b : α} {c : Bool} (h : c = false) : (if (if c = true then (1 : Int32) else 0) = 0 then a else b) = a := by subst h; rfl
theorem ifT {α : Type} {a b : α} {c : Bool} (h : c = true) : (if (if c = true then (1 : Int32) else 0) = 0 then a else b) = b := by subst h; exact if_neg (by decide)
theorem c_isBlank {Y : XS} {n : Nat} {S : PS} {b : Nat} (hb : b < 256) : fX7_isBlank Y n S (sb b) = some (if isBk b = true then 1 else 0) := by
  unfold fX7_isBlank jX7_isBlank_12 jX7_isBlank_17 isBk
  rw [kzr0, kzr1]
  simp only [show (32 : Int32) = nI 32 from rfl, show (10 : Int32) = nI 10 from rfl, sb_eq hb (show 32 < 128 by decide), sb_eq hb (show 10 < 128 by decide), decide_eq_true_eq]
  by_cases h1 : b = 32
  · rw [if_pos h1, if_pos (Or.inl h1)]
  · rw [if_neg h1]
    by_cases h2 : b = 10
    · rw [if_pos h2, if_pos (Or.inr h2)]
    · rw [if_neg h2, if_neg (by omega)]
theorem c_isLetter {Y : XS} {n : Nat} {S : PS} {b : Nat} (hb : b < 256) : fX7_isLetter Y n S (sb b) = some (if isLt b = true then 1 else 0) := by
  unfold fX7_isLetter jX7_isLetter_16 jX7_isLetter_17 isLt
  rw [kzr0, kzr1]
  simp only [show (97 : Int32) = nI 97 from rfl, show (122 : Int32) = nI 122 from rfl, sb_lt hb (show 97 < 128 by decide), lt_sb hb (show 122 < 128 by decide), decide_eq_true_eq]
  by_cases h1 : b < 97 ∨ 128 ≤ b
  · rw [if_pos h1, if_neg (by omega)]
  · rw [if_neg h1]
    by_cases h2 : 122 < b ∧ b < 128
    · rw [if_pos h2, if_neg (by omega)]
    · rw [if_neg h2, if_pos (by omega)]
theorem c_isFigure {Y : XS} {n : Nat} {S : PS} {b : Nat} (hb : b < 256) : fX7_isFigure Y n S (sb b) = some (if isFg b = true then 1 else 0) := by
  unfold fX7_isFigure jX7_isFigure_16 jX7_isFigure_17 isFg
  rw [kzr0, kzr1]
  simp only [show (48 : Int32) = nI 48 from rfl, show (57 : Int32) = nI 57 from rfl, sb_lt hb (show 48 < 128 by decide), lt_sb hb (show 57 < 128 by decide), decide_eq_true_eq]
  by_cases h1 : b < 48 ∨ 128 ≤ b
  · rw [if_pos h1, if_neg (by omega)]
  · rw [if_neg h1]
    by_cases h2 : 57 < b ∧ b < 128
    · rw [if_pos h2, if_neg (by omega)]
    · rw [if_neg h2, if_pos (by omega)]
/-- the reader's cells -/
def RSt (Y : XS) (S : PS) : Prop := gr S 1 0 = some 2 ∧ gr S 1 2 = some 6 ∧ gr S 1 10 = some 7 ∧ gr S 1 12 = some 8 ∧ ln Y 6 = 500 ∧ ln Y 7 = 500 ∧ ln Y 8 = 500 ∧ SE Y S 2
theorem CSt.rst {Y : XS} {S : PS} (h : CSt Y S) : RSt Y S := ⟨h.2.2.2.2.2.2.2.2.2.2.2.1, h.2.2.2.2.2.2.2.2.2.2.2.2.1, h.2.2.2.2.2.2.2.2.2.2.2.2.2.1, h.2.2.2.2.2.2.2.2.2.2.2.2.2.2.1, h.2.2.2.2.2.2.2.2.2.2.2.2.2.2.2.1, h.2.2.2.2.2.2.2.2.2.2.2.2.2.2.2.2.1, h.2.2.2.2.2.2.2.2.2.2.2.2.2.2.2.2.2, h.2.2.2.2.2.2.2.2.1⟩
theorem RSt.fr {Y : XS} {S S' : PS} (h : RSt Y S) (hf : S'.2.2 = S.2.2) : RSt Y S' := by
  obtain ⟨h1, h2, h3, h4, h5, h6, h7, h8⟩ := h
  have e : ∀ b k, gr S' b k = gr S b k := fun b k => by unfold gr; rw [hf]
  exact ⟨by rw [e]; exact h1, by rw [e]; exact h2, by rw [e]; exact h3, by rw [e]; exact h4, h5, h6, h7, h8.fr hf⟩
/-- the text at hand -/
def RX (S : PS) (X : TX) : Prop := gi S 1 5 = nI X.1 ∧ (X.1 ≤ 500 ∧ gi S 1 3 = nI 0) ∧ ∀ j, j < X.1 → gi S 6 j = sb (X.2 j) ∧ X.2 j < 256
/-- the token at k comes next -/
def PT (S : PS) (X : TX) (k : Nat) : Prop := ∃ a, gi S 1 6 = nI a ∧ a ≤ X.1 ∧ sk X isBk a = k
def vl (X : TX) (k : Nat) : Int32 := if tk X k = 1 then nI (te X k - k) else if tk X k = 2 then nI (nv X k) else sb (X.2 k)
/-- the token at k is here -/
def LT (S : PS) (X : TX) (k : Nat) : Prop := k ≤ X.1 ∧ sk X isBk k = k ∧ gi S 1 7 = nI (tk X k) ∧ gi S 1 8 = nI k ∧ gi S 1 6 = nI (te X k) ∧ (tk X k ≠ 0 → gi S 1 9 = vl X k)
theorem LT.nxt {S : PS} {X : TX} {k : Nat} (h : LT S X k) : PT S X (nx X k) := ⟨te X k, h.2.2.2.2.1, te_le h.1, rfl⟩
/-- fields that a token changes -/
def F6 (S S' : PS) : Prop := ∀ j, (j < 6 ∨ 9 < j) → gi S' 1 j = gi S 1 j
theorem F6.rf {S : PS} : F6 S S := fun _ _ => rfl
theorem F6.tr {S S' S'' : PS} (h : F6 S S') (k : F6 S' S'') : F6 S S'' := fun j hj => (k j hj).trans (h j hj)
theorem RX.fr {S S' : PS} {X : TX} {M : Nat → Prop} (h : RX S X) (f : Fr M S S') (h6 : ¬ M 6) (h5 : ∀ j, j = 3 ∨ j = 5 → gi S' 1 j = gi S 1 j) : RX S' X := ⟨(h5 5 (by omega)).trans h.1, ⟨h.2.1.1, (h5 3 (by omega)).trans h.2.1.2⟩, fun j hj => by rw [f.gi h6]; exact h.2.2 j hj⟩
theorem c_readWord {Y : XS} {n : Nat} {S : PS} {X : TX} {k : Nat} (hn : 10000 ≤ n) (hR : RSt Y S) (hX : RX S X) (hk : k < X.1) (h6 : gi S 1 6 = nI k) (h8 : gi S 1 8 = nI k) :
    ok (fX7_readWord Y n S 1) (fun T => Fr (fun x => x = 1) S T ∧ gi T 1 6 = nI (sk X isLt k) ∧ gi T 1 7 = nI 1 ∧ gi T 1 9 = nI (sk X isLt k - k) ∧ ∀ j, j ≠ 6 → j ≠ 7 → j ≠ 9 → gi T 1 j = gi S 1 j) := by
  have x5 := hX.2.1.1
  have l6 := hR.2.2.2.2.1
  have ge := sk_ge (X := X) (P := isLt) k
  have le := sk_le (X := X) (P := isLt) (k := k) (by omega)
  unfold fX7_readWord
  rw [kpi_n]
  generalize hS1 : si S 1 7 1 = S1
  have f1 : Fr (fun x => x = 1) S S1 := by rw [← hS1]; exact Fr.rf.si rfl
  have g1 : gi S1 1 7 = nI 1 := by rw [← hS1, Gp]; rfl
  have gj : ∀ j, j ≠ 7 → gi S1 1 j = gi S 1 j := fun j hj => by rw [← hS1, Gn (by omega)]
  clear hS1
  refine ok_kc (P := fun T => Fr (fun x => x = 1) S1 T ∧ gi T 1 6 = nI (sk X isLt k) ∧ ∀ j, j ≠ 6 → gi T 1 j = gi S1 1 j) (iter_ok (fun i T => Fr (fun x => x = 1) S1 T ∧ gi T 1 6 = nI (k + i) ∧ ∀ j, j ≠ 6 → gi T 1 j = gi S1 1 j) (sk X isLt k - k) (fun i T hi h1 => ?_) (fun T h1 => ?_) (by omega) ⟨Fr.rf, by rw [gj 6 (by decide)]; exact h6, fun _ _ => rfl⟩) ?_
  · obtain ⟨k1, k2, k3⟩ := h1
    have hin := sk_in (X := X) (P := isLt) (k := k) (j := k + i) (by omega) (by omega)
    have hb := hX.2.2 (k + i) hin.1
    unfold bX7_readWord_5
    rw [kgi_n, k2, kgi_n, k3 5 (by decide), gj 5 (by decide), hX.1, i_le (by omega) (by omega), if_neg (by omega), kgr_n (by rw [k1.gr, f1.gr]; exact hR.2.1), kgi_n, k2, kai_n (by omega) (by omega), k1.gi (by omega), f1.gi (by omega), hb.1, c_isLetter hb.2, kc_s, if_pos hin.2, if_neg (by decide), kgi_n, k2, kpi_n, nI_1, ok_some, so_l]
    exact ⟨k1.si rfl, Gp, fun j hj => by rw [Gn (by omega)]; exact k3 j hj⟩
  · obtain ⟨k1, k2, k3⟩ := h1
    rw [show k + (sk X isLt k - k) = sk X isLt k by omega] at k2
    unfold bX7_readWord_5
    rw [kgi_n, k2, kgi_n, k3 5 (by decide), gj 5 (by decide), hX.1, i_le (by omega) (by omega)]
    by_cases c : X.1 ≤ sk X isLt k
    · rw [if_pos c, ok_some, so_r]
      exact ⟨k1, k2, k3⟩
    · have hb := hX.2.2 (sk X isLt k) (by omega)
      have hat := sk_at (X := X) (P := isLt) (k := k) (by omega)
      rw [if_neg c, kgr_n (by rw [k1.gr, f1.gr]; exact hR.2.1), kgi_n, k2, kai_n (by omega) (by omega), k1.gi (by omega), f1.gi (by omega), hb.1, c_isLetter hb.2, kc_s, ifF hat, ok_some, so_r]
      exact ⟨k1, k2, k3⟩
  · rintro T ⟨k1, k2, k3⟩
    unfold jX7_readWord_44
    rw [kgi_n, k2, kgi_n, k3 8 (by decide), gj 8 (by decide), h8, nsub ge, kpi_n]
    refine ok_i ⟨(f1.tr k1).si rfl, by rw [Gn (by omega)]; exact k2, by rw [Gn (by omega), k3 7 (by decide)]; exact g1, Gp, fun j j6 j7 j9 => ?_⟩
    rw [Gn (by omega), k3 j j6, gj j j7]
theorem c_readFigures {Y : XS} {n : Nat} {S : PS} {X : TX} {k : Nat} (hn : 10000 ≤ n) (hR : RSt Y S) (hX : RX S X) (hk : k < X.1) (h6 : gi S 1 6 = nI k) :
    ok (fX7_readFigures Y n S 1) (fun T => Fr (fun x => x = 1) S T ∧ gi T 1 6 = nI (sk X isFg k) ∧ gi T 1 7 = nI 2 ∧ gi T 1 9 = nI (nvl X k (sk X isFg k - k)) ∧ ∀ j, j ≠ 6 → j ≠ 7 → j ≠ 9 → gi T 1 j = gi S 1 j) := by
  have x5 := hX.2.1.1
  have l6 := hR.2.2.2.2.1
  have ge := sk_ge (X := X) (P := isFg) k
  have le := sk_le (X := X) (P := isFg) (k := k) (by omega)
  unfold fX7_readFigures jX7_readFigures_78
  rw [kpi_n, kpi_n]
  generalize hS1 : si (si S 1 7 2) 1 9 0 = S1
  have f1 : Fr (fun x => x = 1) S S1 := by rw [← hS1]; exact (show Fr (fun x => x = 1) S (si S 1 7 2) from Fr.rf.si rfl).si rfl
  have g7 : gi S1 1 7 = nI 2 := by rw [← hS1, Gn (by omega), Gp]; rfl
  have g9 : gi S1 1 9 = nI 0 := by rw [← hS1, Gp]; rfl
  have gj : ∀ j, j ≠ 7 → j ≠ 9 → gi S1 1 j = gi S 1 j := fun j hj h9 => by rw [← hS1, Gn (by omega), Gn (by omega)]
  clear hS1
  refine ok_kc (P := fun T => Fr (fun x => x = 1) S1 T ∧ gi T 1 6 = nI (sk X isFg k) ∧ gi T 1 9 = nI (nvl X k (sk X isFg k - k)) ∧ ∀ j, j ≠ 6 → j ≠ 9 → gi T 1 j = gi S1 1 j) (iter_ok (fun i T => Fr (fun x => x = 1) S1 T ∧ gi T 1 6 = nI (k + i) ∧ gi T 1 9 = nI (nvl X k i) ∧ ∀ j, j ≠ 6 → j ≠ 9 → gi T 1 j = gi S1 1 j) (sk X isFg k - k) (fun i T hi h1 => ?_) (fun T h1 => ?_) (by omega) ⟨Fr.rf, by rw [gj 6 (by decide) (by decide)]; exact h6, g9, fun _ _ _ => rfl⟩) ?_
  · obtain ⟨k1, k2, k4, k3⟩ := h1
    have hin := sk_in (X := X) (P := isFg) (k := k) (j := k + i) (by omega) (by omega)
    have hb := hX.2.2 (k + i) hin.1
    have hf := of_decide_eq_true hin.2
    have nl := nvl_le X k i
    have e6 : gi T 6 (k + i) = nI (X.2 (k + i)) := by rw [k1.gi (by omega), f1.gi (by omega), hb.1, sb_lo _ (by omega)]
    unfold bX7_readFigures_10
    rw [kgi_n, k2, kgi_n, k3 5 (by decide) (by decide), gj 5 (by decide) (by decide), hX.1, i_le (by omega) (by omega), if_neg (by omega), kgr_n (by rw [k1.gr, f1.gr]; exact hR.2.1), kgi_n, k2, kai_n (by omega) (by omega), k1.gi (by omega), f1.gi (by omega), hb.1, c_isFigure hb.2, kc_s, if_pos hin.2, if_neg (by decide), kgi_n, k4, kgr_n (by rw [k1.gr, f1.gr]; exact hR.2.1), kgi_n, k2, kai_n (by omega) (by omega), e6, kpi_n, kgi_n, Gn (by omega), k2, kpi_n, nI_1, ok_some, so_l]
    refine ⟨(k1.si rfl).si rfl, Gp, ?_, fun j j6 j9 => by rw [Gn (by omega), Gn (by omega)]; exact k3 j j6 j9⟩
    rw [Gn (by omega), Gp, show (10 : Int32) = nI 10 from rfl, nmul, nI_add, show (48 : Int32) = nI 48 from rfl, nsub (by omega), show (1000000 : Int32) = nI 1000000 from rfl, nmin (by omega) (by omega)]
    congr 1
    show _ = min 1000000 (10 * nvl X k i + (X.2 (k + i) - 48))
    rw [Nat.mul_comm]
    omega
  · obtain ⟨k1, k2, k4, k3⟩ := h1
    rw [show k + (sk X isFg k - k) = sk X isFg k by omega] at k2
    unfold bX7_readFigures_10
    rw [kgi_n, k2, kgi_n, k3 5 (by decide) (by decide), gj 5 (by decide) (by decide), hX.1, i_le (by omega) (by omega)]
    by_cases c : X.1 ≤ sk X isFg k
    · rw [if_pos c, ok_some, so_r]
      exact ⟨k1, k2, k4, k3⟩
    · have hb := hX.2.2 (sk X isFg k) (by omega)
      have hat := sk_at (X := X) (P := isFg) (k := k) (by omega)
      rw [if_neg c, kgr_n (by rw [k1.gr, f1.gr]; exact hR.2.1), kgi_n, k2, kai_n (by omega) (by omega), k1.gi (by omega), f1.gi (by omega), hb.1, c_isFigure hb.2, kc_s, ifF hat, ok_some, so_r]
      exact ⟨k1, k2, k4, k3⟩
  · rintro T ⟨k1, k2, k4, k3⟩
    exact ok_i ⟨f1.tr k1, k2, by rw [k3 7 (by decide) (by decide)]; exact g7, k4, fun j j6 j7 j9 => by rw [k3 j j6 j9, gj j j7 j9]⟩
theorem c_next {Y : XS} {n : Nat} {S : PS} {X : TX} {k : Nat} (hn : 10000 ≤ n) (hR : RSt Y S) (hX : RX S X) (hP : PT S X k) :
    ok (fX7_next Y n S 1) (fun T => Fr (fun x => x = 1) S T ∧ LT T X k ∧ F6 S T) := by
  obtain ⟨a, p1, p2, p3⟩ := hP
  have x5 := hX.2.1.1
  have l6 := hR.2.2.2.2.1
  have ge := sk_ge (X := X) (P := isBk) a
  have le := sk_le (X := X) (P := isBk) (k := a) p2
  rw [p3] at ge le
  unfold fX7_next
  refine ok_kc (P := fun T => Fr (fun x => x = 1) S T ∧ gi T 1 6 = nI k ∧ ∀ j, j ≠ 6 → gi T 1 j = gi S 1 j) (iter_ok (fun i T => Fr (fun x => x = 1) S T ∧ gi T 1 6 = nI (a + i) ∧ ∀ j, j ≠ 6 → gi T 1 j = gi S 1 j) (k - a) (fun i T hi h1 => ?_) (fun T h1 => ?_) (by omega) ⟨Fr.rf, p1, fun _ _ => rfl⟩) ?_
  · obtain ⟨k1, k2, k3⟩ := h1
    have hin := sk_in (X := X) (P := isBk) (k := a) (j := a + i) (by omega) (by omega)
    have hb := hX.2.2 (a + i) hin.1
    unfold bX7_next_0
    rw [kgi_n, k2, kgi_n, k3 5 (by decide), hX.1, i_le (by omega) (by omega), if_neg (by omega), kgr_n (by rw [k1.gr]; exact hR.2.1), kgi_n, k2, kai_n (by omega) (by omega), k1.gi (by omega), hb.1, c_isBlank hb.2, kc_s, if_pos hin.2, if_neg (by decide), kgi_n, k2, kpi_n, nI_1, ok_some, so_l]
    exact ⟨k1.si rfl, Gp, fun j hj => by rw [Gn (by omega)]; exact k3 j hj⟩
  · obtain ⟨k1, k2, k3⟩ := h1
    rw [show a + (k - a) = k by omega] at k2
    unfold bX7_next_0
    rw [kgi_n, k2, kgi_n, k3 5 (by decide), hX.1, i_le (by omega) (by omega)]
    by_cases c : X.1 ≤ k
    · rw [if_pos c, ok_some, so_r]
      exact ⟨k1, k2, k3⟩
    · have hb := hX.2.2 k (by omega)
      have hat := sk_at (X := X) (P := isBk) (k := a) (by omega)
      rw [p3] at hat
      rw [if_neg c, kgr_n (by rw [k1.gr]; exact hR.2.1), kgi_n, k2, kai_n (by omega) (by omega), k1.gi (by omega), hb.1, c_isBlank hb.2, kc_s, ifF hat, ok_some, so_r]
      exact ⟨k1, k2, k3⟩
  · rintro T ⟨k1, k2, k3⟩
    have kk : sk X isBk k = k := by rw [← p3, sk_sk]
    unfold jX7_next_39 jX7_next_138
    rw [kgi_n, k2, kpi_n]
    generalize hU : si T 1 8 (nI k) = U
    have f1 : Fr (fun x => x = 1) T U := by rw [← hU]; exact Fr.rf.si rfl
    have g8 : gi U 1 8 = nI k := by rw [← hU, Gp]
    have gj : ∀ j, j ≠ 6 → j ≠ 8 → gi U 1 j = gi S 1 j := fun j h6 h8 => by rw [← hU, Gn (by omega)]; exact k3 j h6
    have g6 : gi U 1 6 = nI k := by rw [← hU, Gn (by omega)]; exact k2
    clear hU
    have fU := k1.tr f1
    have hRU := hR.fr fU.2.1
    have hXU : RX U X := hX.fr fU (by omega) (fun j hj => gj j (by omega) (by omega))
    rw [kgi_n, g6, kgi_n, gj 5 (by decide) (by decide), hX.1, i_lt (by omega) (by omega)]
    by_cases c : k < X.1
    · have hb := hXU.2.2 k c
      rw [if_pos c, kgr_n hRU.2.1, kgi_n, g6, kai_n (by omega) (by omega), hb.1, c_isLetter hb.2, kc_s]
      by_cases d : isLt (X.2 k) = true
      · rw [if_pos d, if_neg (by decide)]
        have t1 : tk X k = 1 := by unfold tk; rw [if_neg (by omega), if_pos d]
        have e1 := (tk_1 t1).2.2
        refine ok_kc (c_readWord hn hRU hXU c g6 g8) ?_
        rintro W ⟨w1, w2, w3, w4, w5⟩
        refine ok_i ⟨fU.tr w1, ⟨le, kk, ?_, ?_, ?_, fun _ => ?_⟩, fun j hj => ?_⟩
        · rw [w3, t1]
        · rw [w5 8 (by decide) (by decide) (by decide)]; exact g8
        · rw [w2, e1]
        · rw [w4]
          unfold vl
          rw [if_pos t1, e1]
        · rw [w5 j (by omega) (by omega) (by omega)]
          exact gj j (by omega) (by omega)
      · have d' : isLt (X.2 k) = false := by simpa using d
        rw [if_neg d, if_pos rfl, kgr_n hRU.2.1, kgi_n, g6, kai_n (by omega) (by omega), hb.1, c_isFigure hb.2, kc_s]
        by_cases e : isFg (X.2 k) = true
        · rw [if_pos e, if_neg (by decide)]
          have t1 : tk X k = 2 := by unfold tk; rw [if_neg (by omega), if_neg d, if_pos e]
          have e1 := (tk_2 t1).2.2.2
          refine ok_kc (c_readFigures hn hRU hXU c g6) ?_
          rintro W ⟨w1, w2, w3, w4, w5⟩
          refine ok_i ⟨fU.tr w1, ⟨le, kk, ?_, ?_, ?_, fun _ => ?_⟩, fun j hj => ?_⟩
          · rw [w3, t1]
          · rw [w5 8 (by decide) (by decide) (by decide)]; exact g8
          · rw [w2, e1]
          · rw [w4]
            unfold vl nv
            rw [if_neg (by omega), if_pos t1, e1]
          · rw [w5 j (by omega) (by omega) (by omega)]
            exact gj j (by omega) (by omega)
        · have e' : isFg (X.2 k) = false := by simpa using e
          have t1 : tk X k = 3 := by unfold tk; rw [if_neg (by omega), if_neg d, if_neg e]
          have e1 := (tk_3 t1).2.2.2
          rw [if_neg e, if_pos rfl, kpi_n, kgr_n (by rw [Gr_si]; exact hRU.2.1), kgi_n, Gn (by omega), g6, kai_n (by omega) (by omega), Gn (by omega), hb.1, kpi_n, kgi_n, Gn (by omega), Gn (by omega), g6, kpi_n, nI_1]
          refine ok_i ⟨((fU.si rfl).si rfl).si rfl, ⟨le, kk, ?_, ?_, ?_, fun _ => ?_⟩, fun j hj => ?_⟩
          · rw [Gn (by omega), Gn (by omega), Gp, t1]; rfl
          · rw [Gn (by omega), Gn (by omega), Gn (by omega)]; exact g8
          · rw [Gp, e1]
          · rw [Gn (by omega), Gp]
            unfold vl
            rw [if_neg (by omega), if_neg (by omega)]
          · rw [Gn (by omega), Gn (by omega), Gn (by omega)]
            exact gj j (by omega) (by omega)
    · rw [if_neg c, kpi_n]
      have t1 : tk X k = 0 := tk_0.mpr (by omega)
      refine ok_i ⟨fU.si rfl, ⟨le, kk, ?_, ?_, ?_, fun h => absurd t1 h⟩, fun j hj => ?_⟩
      · rw [Gp, t1]; rfl
      · rw [Gn (by omega)]; exact g8
      · rw [Gn (by omega), g6]
        unfold te
        rw [if_pos (by omega)]
      · rw [Gn (by omega)]
        exact gj j (by omega) (by omega)
