/-! THE CLASS'S ANSWERS: what is asked. -/
abbrev AN : Type := Int32 ⊕ Nat
def outC (P : PS → Prop) (a : AN) : (Int32 × PS) ⊕ (Nat × PS) → Prop
  | .inl q => a = .inl q.1 ∧ P q.2
  | .inr q => a = .inr q.1 ∧ P q.2
/-- a number from 0 to N - 1 -/
def ix (x : Int32) (N : Nat) : Option Nat := if x < 0 then none else if nI N ≤ x then none else some x.toNatClampNeg
theorem ix_some {x : Int32} {N j : Nat} (hN : N < 2147483648) (h : ix x N = some j) : x = nI j ∧ j < N := by
  unfold ix at h
  split at h
  · cases h
  · next h1 =>
    split at h
    · cases h
    · next h2 =>
      cases h
      rcases pk_ix x (n := N) hN with h3 | h3 | ⟨i, i1, i2⟩
      · exact absurd h3 h1
      · exact absurd h3 h2
      · rw [i2, ncl (by omega)]
        exact ⟨rfl, i1⟩
theorem ix_nI {N j : Nat} (hN : N < 2147483648) (h : j < N) : ix (nI j) N = some j := by
  unfold ix
  rw [if_neg (nI_pos (by omega)), if_neg (by rw [nle (by omega) (by omega)]; omega), ncl (by omega)]
theorem ix_none {x : Int32} {N : Nat} (h : ix x N = none) : x < 0 ∨ (¬ x < 0 ∧ nI N ≤ x) := by
  unfold ix at h
  split at h
  · next h1 => exact Or.inl h1
  · next h1 =>
    split at h
    · next h2 => exact Or.inr ⟨h1, h2⟩
    · cases h
theorem nlt_le {a b : Int32} : (¬ a < b) = (b ≤ a) := propext Int32.not_lt
theorem le_nlt {a b : Int32} : (¬ a ≤ b) = (b < a) := propext Int32.not_le
theorem lt_of_ix {x : Int32} {N : Nat} (h : nI N ≤ x) : ¬ x < nI N := by rw [Int32.not_lt]; exact h
theorem s_needRule {Y : XS} {n : Nat} {S : PS} {x : Int32} : fX10_needRule Y n S x = some (if (ix x 9).isSome = true then .inl S else .inr (1, S)) := by
  unfold fX10_needRule jX10_needRule_10
  rw [show (9 : Int32) = nI 9 from rfl]
  cases h : ix x 9 with
  | none =>
    rcases ix_none h with h1 | ⟨h1, h2⟩
    · rw [if_pos h1]; rfl
    · rw [if_neg h1, if_neg (lt_of_ix h2)]; rfl
  | some j =>
    obtain ⟨rfl, h2⟩ := ix_some (by decide) h
    rw [if_neg (nI_pos (by omega)), if_pos (nI_lt (b := 9) h2 (by decide))]
    rfl
theorem s_needPayingRule {Y : XS} {n : Nat} {S : PS} {x : Int32} : fX10_needPayingRule Y n S x = some (if (ix x 4).isSome = true then .inl S else .inr (1, S)) := by
  unfold fX10_needPayingRule jX10_needPayingRule_9
  rw [show (4 : Int32) = nI 4 from rfl]
  cases h : ix x 4 with
  | none =>
    rcases ix_none h with h1 | ⟨h1, h2⟩
    · rw [if_pos h1]; rfl
    · rw [if_neg h1, if_neg (lt_of_ix h2)]; rfl
  | some j =>
    obtain ⟨rfl, h2⟩ := ix_some (by decide) h
    rw [if_neg (nI_pos (by omega)), if_pos (nI_lt (b := 4) h2 (by decide))]
    rfl
theorem le_ix {x : Int32} {t : Nat} (ht : t < 2147483647) (h : nI (t + 1) ≤ x) : ¬ x ≤ nI t := by
  rw [Int32.not_le]
  rw [Int32.le_iff_toInt_le, nI_toInt (by omega)] at h
  rw [Int32.lt_iff_toInt_lt, nI_toInt (by omega)]
  omega
theorem s_needWhat {Y : XS} {n : Nat} {S : PS} {x : Int32} {t : Nat} (ht : t < 2147483647) : fX10_needWhat Y n S x (nI t) = some (if (ix x (t + 1)).isSome = true then .inl S else .inr (1, S)) := by
  unfold fX10_needWhat jX10_needWhat_9
  cases h : ix x (t + 1) with
  | none =>
    rcases ix_none h with h1 | ⟨h1, h2⟩
    · rw [if_pos h1]; rfl
    · rw [if_neg h1, if_neg (le_ix ht h2)]; rfl
  | some j =>
    obtain ⟨rfl, h2⟩ := ix_some (by omega) h
    rw [if_neg (nI_pos (by omega)), if_pos (nI_le (by omega) (by omega))]
    rfl
theorem s_needProject {Y : XS} {n : Nat} {S : PS} {x : Int32} {A : EL} (hC : CSt Y S) (hA : EV Y S 10 A) : fX10_needProject Y n S 0 x = some (if (ix x (eP A)).isSome = true then .inl S else .inr (1, S)) := by
  have b1 := hA.ew.2.1
  unfold fX10_needProject jX10_needProject_18
  rw [kgr_n hC.1.2.1, kgr_n hC.2.1.2.1, kgi_n, hA.2.1]
  cases h : ix x (eP A) with
  | none =>
    rcases ix_none h with h1 | ⟨h1, h2⟩
    · rw [if_pos h1]; rfl
    · rw [if_neg h1, if_neg (lt_of_ix h2)]; rfl
  | some j =>
    obtain ⟨rfl, h2⟩ := ix_some (by omega) h
    rw [if_neg (nI_pos (by omega)), if_pos (nI_lt h2 (by omega))]
    rfl
theorem s_needVoter {Y : XS} {n : Nat} {S : PS} {x : Int32} {A : EL} (hC : CSt Y S) (hA : EV Y S 10 A) : fX10_needVoter Y n S 0 x = some (if (ix x (eV A)).isSome = true then .inl S else .inr (1, S)) := by
  have b1 := hA.ew.2.2.1
  unfold fX10_needVoter jX10_needVoter_18
  rw [kgr_n hC.1.2.1, kgr_n hC.2.1.2.1, kgi_n, hA.2.2.1]
  cases h : ix x (eV A) with
  | none =>
    rcases ix_none h with h1 | ⟨h1, h2⟩
    · rw [if_pos h1]; rfl
    · rw [if_neg h1, if_neg (lt_of_ix h2)]; rfl
  | some j =>
    obtain ⟨rfl, h2⟩ := ix_some (by omega) h
    rw [if_neg (nI_pos (by omega)), if_pos (nI_lt h2 (by omega))]
    rfl
/-- a set from 1 on -/
def gx (x : Int32) (P : Nat) : Option Nat := if x < 1 then none else if nI (2 ^ P) ≤ x then none else some x.toNatClampNeg
theorem gx_some {x : Int32} {P s : Nat} (hP : P ≤ 12) (h : gx x P = some s) : x = nI s ∧ 0 < s ∧ s < 2 ^ P := by
  have hN := p12 hP
  unfold gx at h
  split at h
  · cases h
  · next h1 =>
    split at h
    · cases h
    · next h2 =>
      cases h
      have h1' : ¬ x < 0 := by
        rw [Int32.not_lt] at *
        rw [Int32.le_iff_toInt_le] at *
        have e1 : (1 : Int32).toInt = 1 := rfl
        have e0 : (0 : Int32).toInt = 0 := rfl
        omega
      rcases pk_ix x (n := 2 ^ P) (by omega) with h3 | h3 | ⟨i, i1, i2⟩
      · exact absurd h3 h1'
      · exact absurd h3 h2
      · subst i2
        rw [ncl (by omega)]
        refine ⟨rfl, ?_, i1⟩
        by_cases z : i = 0
        · subst z; exact absurd (show nI 0 < 1 by decide) h1
        · omega
theorem s_needGroup {Y : XS} {n : Nat} {S : PS} {x : Int32} {A : EL} (hC : CSt Y S) (hA : EV Y S 10 A) : fX10_needGroup Y n S 0 x = some (if (gx x (eP A)).isSome = true then .inl S else .inr (1, S)) := by
  have b1 := hA.ew.2.1
  have hN := p12 b1
  unfold fX10_needGroup jX10_needGroup_21
  rw [kgr_n hC.1.2.1, kgr_n hC.2.1.2.1, kgi_n, hA.2.1, n2p (by omega)]
  unfold gx
  by_cases h1 : x < 1
  · rw [if_pos h1, if_pos h1]; rfl
  · rw [if_neg h1, if_neg h1]
    by_cases h2 : nI (2 ^ eP A) ≤ x
    · rw [if_neg (lt_of_ix h2), if_pos h2]; rfl
    · rw [if_pos (by rw [← Int32.not_le]; exact h2), if_neg h2]; rfl
/-- answers -/
def aCount (A : EL) (H : List EL) (tp : List Nat) (x : Int32) : AN := match ix x 7 with
  | none => .inr 1
  | some w => .inl (nI (if w = 0 then eP A else if w = 1 then eV A else if w = 2 then eM A else if w = 3 then csum A (2 ^ eP A - 1) else if w = 4 then H.length else if w = 5 then tp.length else if (eL A).isSome = true then 1 else 0))
theorem c_count {Y : XS} {n : Nat} {S : PS} {A : EL} {H : List EL} {K : Option EL} {tp : List Nat} {fp : Int32} {x : Int32} (hn : 10000 ≤ n) (hC : CSt Y S) (hV : CVs Y S A H K tp fp) :
    ok (fX10_count Y n S 0 x) (outC (fun S' => QR Y S S' A H K tp fp) (aCount A H tp x)) := by
  have hA := hV.1.1
  have b1 := hA.ew.2.1
  have hN := p12 b1
  have hQ : QR Y S S A H K tp fp := ⟨hC, hV, Fr.rf⟩
  obtain ⟨en, e1, e2, e3, e4⟩ := hV.2.1.2
  unfold fX10_count jX10_count_136 aCount
  rw [show (6 : Int32) = nI 6 from rfl, s_needWhat (by decide), kc_s]
  cases h : ix x (6 + 1) with
  | none =>
    exact ok_i ⟨rfl, hQ⟩
  | some w =>
    obtain ⟨rfl, hw⟩ := ix_some (by decide) h
    show ok (if nI w = 0 then _ else _) _
    simp only [kgr_n hC.1.2.1, kgr_n hC.2.1.2.1, kgr_n hC.1.2.2.2.2.2.2.2.1, kgr_n hC.1.1]
    have c7 : w = 0 ∨ w = 1 ∨ w = 2 ∨ w = 3 ∨ w = 4 ∨ w = 5 ∨ w = 6 := by omega
    rcases c7 with rfl | rfl | rfl | rfl | rfl | rfl | rfl
    · rw [if_pos (by decide)]
      exact ok_i ⟨by show _ = Sum.inl (gi S 10 1); rw [hA.2.1]; rfl, hQ⟩
    · rw [if_neg (by decide), if_pos (by decide)]
      exact ok_i ⟨by show _ = Sum.inl (gi S 10 2); rw [hA.2.2.1]; rfl, hQ⟩
    · rw [if_neg (by decide), if_neg (by decide), if_pos (by decide)]
      exact ok_i ⟨by show _ = Sum.inl (gi S 10 0); rw [hA.1]; rfl, hQ⟩
    · rw [if_neg (by decide), if_neg (by decide), if_neg (by decide), if_pos (by decide), kgi_n, hA.2.1, n2p (by omega), show (1 : Int32) = nI 1 from rfl, nsub Nat.one_le_two_pow, s_costOf (by omega) hC.2.1.1 hA (by omega), kc_s]
      exact ok_i ⟨rfl, hQ⟩
    · rw [if_neg (by decide), if_neg (by decide), if_neg (by decide), if_neg (by decide), if_pos (by decide)]
      exact ok_i ⟨by show _ = Sum.inl (gi S 57 2); rw [e3]; rfl, hQ⟩
    · rw [if_neg (by decide), if_neg (by decide), if_neg (by decide), if_neg (by decide), if_neg (by decide), if_pos (by decide)]
      exact ok_i ⟨by show _ = Sum.inl (gi S 1 3); rw [hV.2.2.2.2.2.2.1]; rfl, hQ⟩
    · rw [if_neg (by decide), if_neg (by decide), if_neg (by decide), if_neg (by decide), if_neg (by decide), if_neg (by decide)]
      have hl := hA.2.2.2.2.2.2.1
      unfold kgq kq
      show ok (match gr S 10 3 with
        | none => _
        | some b => _) _
      cases hr : gr S 10 3 with
      | none =>
        rw [hr] at hl
        cases hL : eL A with
        | none => exact ok_i ⟨rfl, hQ⟩
        | some f => rw [hL] at hl; exact hl.elim
      | some l =>
        rw [hr] at hl
        cases hL : eL A with
        | none => rw [hL] at hl; exact hl.elim
        | some f => exact ok_i ⟨rfl, hQ⟩
def aProject (A : EL) (x y : Int32) : AN := match ix x (eP A), ix y 9 with
  | some q, some w => .inl (if w = 0 then nI (eC A q) else if w = 1 then nI (lk A q) else if w = 2 then nI (al A q) else eNm A q (w - 3))
  | _, _ => .inr 1
theorem c_project {Y : XS} {n : Nat} {S : PS} {A : EL} {H : List EL} {K : Option EL} {tp : List Nat} {fp : Int32} {x y : Int32} (hC : CSt Y S) (hV : CVs Y S A H K tp fp) :
    ok (fX10_project Y n S 0 x y) (outC (fun S' => QR Y S S' A H K tp fp) (aProject A x y)) := by
  have hA := hV.1.1
  have b1 := hA.ew.2.1
  have hQ : QR Y S S A H K tp fp := ⟨hC, hV, Fr.rf⟩
  obtain ⟨⟨e1, e2, e3, e4, e5, e6⟩, p0, p1, p2, p3, p4, p5, p6, l1, l2, l3, l4, l5, l6⟩ := hC.2.1
  unfold fX10_project aProject
  rw [s_needProject hC hA, kc_s]
  cases h : ix x (eP A) with
  | none => exact ok_i ⟨rfl, hQ⟩
  | some q =>
    obtain ⟨rfl, hq⟩ := ix_some (by omega) h
    show ok (kc (fX10_needWhat Y n S y 8) _) _
    rw [show (8 : Int32) = nI 8 from rfl, s_needWhat (by decide), kc_s]
    cases h2 : ix y (8 + 1) with
    | none =>
      exact ok_i ⟨rfl, hQ⟩
    | some w =>
      obtain ⟨rfl, hw⟩ := ix_some (by decide) h2
      have t := hV.1.2 q hq
      have a3 := hA.2.2.2.1 q hq
      show ok (if nI w = 0 then _ else _) _
      simp (discharger := omega) only [show (0 : Int32) = nI 0 from rfl, show (1 : Int32) = nI 1 from rfl, show (2 : Int32) = nI 2 from rfl, show (3 : Int32) = nI 3 from rfl, show (6 : Int32) = nI 6 from rfl, neq, kgr_n hC.1.2.1, kgr_n p0, kgr_n e1, kgr_n p1, kgr_n p2, kgr_n e2, nmul, nI_add, kai_n, a3, t.1, t.2.1]
      by_cases w0 : w = 0
      · rw [if_pos w0]
        exact ok_i ⟨by rw [if_pos w0], hQ⟩
      · rw [if_neg w0]
        by_cases w1 : w = 1
        · rw [if_pos w1]
          exact ok_i ⟨by rw [if_neg w0, if_pos w1], hQ⟩
        · rw [if_neg w1]
          by_cases w2 : w = 2
          · rw [if_pos w2]
            exact ok_i ⟨by rw [if_neg w0, if_neg w1, if_pos w2], hQ⟩
          · have a4 := hA.2.2.2.2.1 q (w - 3) hq (by omega)
            rw [if_neg w2, nsub (by omega), kai_n (by omega) (by omega), show q * 6 + w - 3 = q * 6 + (w - 3) by omega, a4]
            exact ok_i ⟨by rw [if_neg w0, if_neg w1, if_neg w2], hQ⟩
def aVote (A : EL) (x y z : Int32) : AN := match ix x (eV A), ix y (eP A) with
  | some v, some q => .inl (nI (if z = 0 then eS A q v else wo A q v))
  | _, _ => .inr 1
theorem c_vote {Y : XS} {n : Nat} {S : PS} {A : EL} {H : List EL} {K : Option EL} {tp : List Nat} {fp : Int32} {x y z : Int32} (hC : CSt Y S) (hV : CVs Y S A H K tp fp) :
    ok (fX10_vote Y n S 0 x y z) (outC (fun S' => QR Y S S' A H K tp fp) (aVote A x y z)) := by
  have hA := hV.1.1
  have b1 := hA.ew.2.1
  have b2 := hA.ew.2.2.1
  have hQ : QR Y S S A H K tp fp := ⟨hC, hV, Fr.rf⟩
  obtain ⟨⟨e1, e2, e3, e4, e5, e6⟩, p0, p1, p2, p3, p4, p5, p6, l1, l2, l3, l4, l5, l6⟩ := hC.2.1
  unfold fX10_vote jX10_vote_48 aVote
  rw [s_needVoter hC hA, kc_s]
  cases h : ix x (eV A) with
  | none => exact ok_i ⟨rfl, hQ⟩
  | some v =>
    obtain ⟨rfl, hv⟩ := ix_some (by omega) h
    show ok (kc (fX10_needProject Y n S 0 y) _) _
    rw [s_needProject hC hA, kc_s]
    cases h2 : ix y (eP A) with
    | none => exact ok_i ⟨rfl, hQ⟩
    | some q =>
      obtain ⟨rfl, hq⟩ := ix_some (by omega) h2
      have t := (hV.1.2 q hq).2.2.2 v hv
      have a5 := hA.2.2.2.2.2.1 q v hq hv
      show ok (if z = 0 then _ else _) _
      simp (discharger := omega) only [show (24 : Int32) = nI 24 from rfl, kgr_n hC.1.2.1, kgr_n p0, kgr_n e3, kgr_n p4, nmul, nI_add, kai_n, a5, t]
      by_cases hz : z = 0
      · rw [if_pos hz]
        exact ok_i ⟨by rw [if_pos hz], hQ⟩
      · rw [if_neg hz]
        exact ok_i ⟨by rw [if_neg hz], hQ⟩
