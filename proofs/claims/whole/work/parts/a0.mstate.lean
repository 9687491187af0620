/-! THE MODEL BETWEEN CALLS; what is asked. -/
def MKp (S : PS) : Option EL → Prop
  | none => gi S 215 5 = nI 0
  | some B => gi S 215 5 = nI 1 ∧ RV S 219 0 B
def MVs (S : PS) (A : EL) (H : List EL) (K : Option EL) (tp : List Nat) (fp : Int32) : Prop :=
  NV S A ∧ (H.length ≤ 20 ∧ gi S 215 6 = nI H.length ∧ ∀ k, k < H.length → RV S 220 (877 * (H.length - 1 - k)) (H.getD k A)) ∧ MKp S K ∧
  (gi S 215 28 = nI tp.length ∧ tp.length ≤ 500 ∧ (∀ j, j < tp.length → gi S 233 j = nI (tp.getD j 0) ∧ tp.getD j 0 < 256) ∧ gi S 215 36 = fp)
theorem MKp.fr {S S' : PS} {M : Nat → Prop} {K : Option EL} (h : MKp S K) (hf : Fr M S S') (h5 : gi S' 215 5 = gi S 215 5) (h1 : ¬ M 219) : MKp S' K := by
  cases K with
  | none => exact h5.trans h
  | some B => exact ⟨h5.trans h.1, h.2.mv (fun j _ => hf.gi h1 _)⟩
/-- what asking keeps, the election aside -/
theorem MVs.fr {S S' : PS} {M : Nat → Prop} {A : EL} {H : List EL} {K : Option EL} {tp : List Nat} {fp : Int32} (h : MVs S A H K tp fp) (hf : Fr M S S') (hk : ∀ j, j = 5 ∨ j = 6 ∨ j = 28 ∨ j = 36 → gi S' 215 j = gi S 215 j) (h1 : ¬ M 219) (h2 : ¬ M 220) (h3 : ¬ M 233) (hA : NV S' A) : MVs S' A H K tp fp := by
  obtain ⟨a1, ⟨a2, a3, a4⟩, a5, a6, a7, a8, a9⟩ := h
  refine ⟨hA, ⟨a2, ?_, fun k hk => (a4 k hk).mv (fun j _ => hf.gi h2 _)⟩, a5.fr hf (hk 5 (by omega)) h1, ?_, a7, fun j hj => ⟨?_, (a8 j hj).2⟩, ?_⟩
  · rw [hk 6 (by omega)]; exact a3
  · rw [hk 28 (by omega)]; exact a6
  · rw [hf.gi h3]; exact (a8 j hj).1
  · rw [hk 36 (by omega)]; exact a9
def Mm (x : Nat) : Prop := 215 ≤ x ∧ x < 234
/-- behind a call of the model -/
def QM (Y : XS) (S T : PS) (A : EL) (H : List EL) (K : Option EL) (tp : List Nat) (fp : Int32) : Prop := MSt Y T ∧ MVs T A H K tp fp ∧ Fr Mm S T
theorem QM.set {Y : XS} {S T : PS} {A : EL} {H : List EL} {K : Option EL} {tp : List Nat} {fp : Int32} {k : Nat} {x : Int32} (h : QM Y S T A H K tp fp) (hk : k ≠ 5 ∧ k ≠ 6 ∧ k ≠ 28 ∧ k ≠ 36) : QM Y S (si T 215 k x) A H K tp fp := by
  have f : Fr (fun x => x = 215) T (si T 215 k x) := Fr.rf.si rfl
  refine ⟨h.1.fr f.2.1, h.2.1.fr f (fun j hj => Gn (by omega)) (by omega) (by omega) (by omega) (h.2.1.1.fr f (by omega)), h.2.2.tr (f.mono (fun b hb => by unfold Mm; omega))⟩
theorem QM.goes {Y : XS} {S T U : PS} {A : EL} {H : List EL} {K : Option EL} {tp : List Nat} {fp : Int32} (h : QM Y S T A H K tp fp) (f : Fr Mg T U) (k : FG T U) : QM Y S U A H K tp fp :=
  ⟨h.1.fr f.2.1, h.2.1.fr f (fun j hj => k j (by omega)) (by unfold Mg; omega) (by unfold Mg; omega) (by unfold Mg; omega) (h.2.1.1.fr f (by unfold Mg; omega)), h.2.2.tr (f.mono (fun b hb => by unfold Mg at hb; unfold Mm; omega))⟩
theorem QM.rf {Y : XS} {S : PS} {A : EL} {H : List EL} {K : Option EL} {tp : List Nat} {fp : Int32} (hM : MSt Y S) (h : MVs S A H K tp fp) : QM Y S S A H K tp fp := ⟨hM, h, Fr.rf⟩
def outM (P : PS → Prop) : AN → Int32 × PS → Prop
  | .inl x, r => r.1 = x ∧ gi r.2 215 7 = nI 0 ∧ P r.2
  | .inr k, r => gi r.2 215 7 = nI k ∧ P r.2
theorem outM_l {P : PS → Prop} {x : Int32} {T : PS} (h7 : gi T 215 7 = nI 0) (h : P T) : ok (some (x, T)) (outM P (.inl x)) := ok_i ⟨rfl, h7, h⟩
theorem m_fail1 {Y : XS} {n : Nat} {S T : PS} {A : EL} {H : List EL} {K : Option EL} {tp : List Nat} {fp : Int32} (h : QM Y S T A H K tp fp) : ok (kc (fX11_fail Y n T 215 (1 : Int32)) (fun q => some (q.1, q.2))) (outM (fun U => QM Y S U A H K tp fp) (.inr 1)) := by
  unfold fX11_fail
  rw [kpi_n, kc_s]
  exact ok_i ⟨Gp, h.set (by decide)⟩
theorem ix_ne {x : Int32} {N k : Nat} (hN : N < 2147483648) (h : ix x N = none) (hk : k < N) : ¬ x = nI k := by
  intro e
  rw [e, ix_nI hN hk] at h
  cases h
theorem ibN {α : Type} {a b : α} : (if (if (none : Option Nat).isSome = true then (1 : Int32) else 0) = 0 then a else b) = a := if_pos rfl
theorem ibS {α : Type} {q : Nat} {a b : α} : (if (if (some q).isSome = true then (1 : Int32) else 0) = 0 then a else b) = b := if_neg (show ¬ (1 : Int32) = 0 by decide)
theorem mi8 {Y : XS} {n : Nat} {S : PS} {x : Int32} : fX11_isIn Y n S x 0 8 = some (if (ix x 9).isSome = true then 1 else 0) := m_isIn (t := 8) (by decide)
theorem mi6 {Y : XS} {n : Nat} {S : PS} {x : Int32} : fX11_isIn Y n S x 0 6 = some (if (ix x 7).isSome = true then 1 else 0) := m_isIn (t := 6) (by decide)
theorem mi4 {Y : XS} {n : Nat} {S : PS} {x : Int32} : fX11_isIn Y n S x 0 4 = some (if (ix x 5).isSome = true then 1 else 0) := m_isIn (t := 4) (by decide)
theorem mi3 {Y : XS} {n : Nat} {S : PS} {x : Int32} : fX11_isIn Y n S x 0 3 = some (if (ix x 4).isSome = true then 1 else 0) := m_isIn (t := 3) (by decide)
theorem mi2 {Y : XS} {n : Nat} {S : PS} {x : Int32} : fX11_isIn Y n S x 0 2 = some (if (ix x 3).isSome = true then 1 else 0) := m_isIn (t := 2) (by decide)
theorem mi1 {Y : XS} {n : Nat} {S : PS} {x : Int32} : fX11_isIn Y n S x 0 1 = some (if (ix x 2).isSome = true then 1 else 0) := m_isIn (t := 1) (by decide)
theorem mi9 {Y : XS} {n : Nat} {S : PS} {x : Int32} : fX11_isIn Y n S x 0 9 = some (if (ix x 10).isSome = true then 1 else 0) := m_isIn (t := 9) (by decide)
theorem miB {Y : XS} {n : Nat} {S : PS} {x : Int32} : fX11_isIn Y n S x 0 99999 = some (if (ix x 100000).isSome = true then 1 else 0) := m_isIn (t := 99999) (by decide)
theorem F8.g {S S' : PS} (h : F8 S S') : FG S S' := fun j hj => h j (by omega)
theorem m_count {Y : XS} {n : Nat} {S : PS} {A : EL} {H : List EL} {K : Option EL} {tp : List Nat} {fp : Int32} {x : Int32} (hn : 10000 ≤ n) (hM : MSt Y S) (hV : MVs S A H K tp fp) :
    ok (fX11_count Y n S 215 x) (outM (fun T => QM Y S T A H K tp fp) (aCount A H tp x)) := by
  have a7 := hV.1.ew
  have b1 := a7.2.1
  have l := hM.2.2.2.1.1
  unfold fX11_count
  rw [kpi_n]
  generalize hS2 : si S 215 7 0 = S2
  have q2 : QM Y S S2 A H K tp fp := by rw [← hS2]; exact (QM.rf hM hV).set (by decide)
  have e7 : gi S2 215 7 = nI 0 := by rw [← hS2, Gp]; rfl
  clear hS2
  have hM2 := q2.1
  have h2 := q2.2.1.1
  unfold aCount
  cases hx : ix x 7 with
  | none =>
    have ne := fun k (hk : k < 7) => ix_ne (x := x) (by decide) hx hk
    rw [if_neg (show ¬ x = 0 from ne 0 (by decide)), if_neg (show ¬ x = 1 from ne 1 (by decide)), if_neg (show ¬ x = 2 from ne 2 (by decide)), if_neg (show ¬ x = 3 from ne 3 (by decide)), if_neg (show ¬ x = 4 from ne 4 (by decide)), if_neg (show ¬ x = 5 from ne 5 (by decide)), if_neg (show ¬ x = 6 from ne 6 (by decide))]
    exact m_fail1 q2
  | some w =>
    obtain ⟨rfl, hw⟩ := ix_some (by decide) hx
    have c7 : w = 0 ∨ w = 1 ∨ w = 2 ∨ w = 3 ∨ w = 4 ∨ w = 5 ∨ w = 6 := by omega
    rcases c7 with rfl | rfl | rfl | rfl | rfl | rfl | rfl
    · rw [if_pos (by decide), m_many hM2 h2, kc_s]
      exact outM_l e7 q2
    · rw [if_neg (by decide), if_pos (by decide), m_people hM2 h2, kc_s]
      exact outM_l e7 q2
    · rw [if_neg (by decide), if_neg (by decide), if_pos (by decide), kgr_n hM2.1.1, show (0 : Int32) = nI 0 from rfl, kai_n (by omega) (by omega), h2.m]
      exact outM_l e7 q2
    · rw [if_neg (by decide), if_neg (by decide), if_neg (by decide), if_pos (by decide), show (4095 : Int32) = nI 4095 from rfl, m_costsOf (by omega) hM2 h2 (by decide), kc_s]
      have e : csum A 4095 = csum A (2 ^ eP A - 1) := by
        unfold csum
        apply sm_ext
        intro p hp
        unfold cst
        rw [show (4095 : Nat) = 2 ^ 12 - 1 by decide, Nat.testBit_two_pow_sub_one, Nat.testBit_two_pow_sub_one, decide_eq_true (show p < 12 by omega), decide_eq_true hp]
      rw [e]
      exact outM_l e7 q2
    · rw [if_neg (by decide), if_neg (by decide), if_neg (by decide), if_neg (by decide), if_pos (by decide), kgi_n, q2.2.1.2.1.2.1]
      exact outM_l e7 q2
    · rw [if_neg (by decide), if_neg (by decide), if_neg (by decide), if_neg (by decide), if_neg (by decide), if_pos (by decide), kgi_n, q2.2.1.2.2.2.1]
      exact outM_l e7 q2
    · rw [if_neg (by decide), if_neg (by decide), if_neg (by decide), if_neg (by decide), if_neg (by decide), if_neg (by decide), if_pos (by decide), kgr_n hM2.1.1, show (375 : Int32) = nI 375 from rfl, kai_n (by omega) (by omega)]
      have hl := h2.2.2.2.2.2.2.1
      have e : gi S2 216 375 = nI (if (eL A).isSome = true then 1 else 0) := by
        cases hL : eL A with
        | none =>
          rw [hL] at hl
          have : gi S2 216 (0 + 375) = nI 0 := hl
          rwa [Nat.zero_add] at this
        | some f =>
          rw [hL] at hl
          have := hl.1
          rwa [Nat.zero_add] at this
      rw [e]
      exact outM_l e7 q2
theorem m_project {Y : XS} {n : Nat} {S : PS} {A : EL} {H : List EL} {K : Option EL} {tp : List Nat} {fp : Int32} {x y : Int32} (hn : 10000 ≤ n) (hM : MSt Y S) (hV : MVs S A H K tp fp) :
    ok (fX11_project Y n S 215 x y) (outM (fun T => QM Y S T A H K tp fp) (aProject A x y)) := by
  have a7 := hV.1.ew
  have b1 := a7.2.1
  have l := hM.2.2.2.1.1
  have l2 := hM.2.2.2.2.1.2.1
  have l3 := hM.2.2.2.2.1.2.2.1
  unfold fX11_project jX11_project_23 jX11_project_87
  rw [kpi_n]
  generalize hS2 : si S 215 7 0 = S2
  have q2 : QM Y S S2 A H K tp fp := by rw [← hS2]; exact (QM.rf hM hV).set (by decide)
  have e7 : gi S2 215 7 = nI 0 := by rw [← hS2, Gp]; rfl
  clear hS2
  have hM2 := q2.1
  have h2 := q2.2.1.1
  rw [m_isProject hM2 h2, kc_s, mi8, kc_s]
  unfold aProject
  cases hx : ix x (eP A) with
  | none =>
    rw [ibN]
    exact m_fail1 q2
  | some q =>
    obtain ⟨rfl, hq⟩ := ix_some (by omega) hx
    rw [ibS]
    cases hy : ix y 9 with
    | none =>
      rw [ibN]
      exact m_fail1 q2
    | some w =>
      obtain ⟨rfl, hw⟩ := ix_some (by decide) hy
      rw [ibS, show (2 : Int32) = nI 2 from rfl, i_le (by omega) (by omega)]
      dsimp only
      by_cases c : w ≤ 2
      · rw [if_pos c]
        refine ok_kc (m_layWorths hn hM2 h2) ?_
        rintro T ⟨t1, t2, t3⟩
        have q3 : QM Y S T A H K tp fp := q2.goes (t1.mono (fun b hb => by unfold Mg; omega)) t2.g
        have e3 : gi T 215 7 = nI 0 := by rw [t2 7 (by omega)]; exact e7
        have c3 : w = 0 ∨ w = 1 ∨ w = 2 := by omega
        rcases c3 with rfl | rfl | rfl
        · rw [if_pos (by decide), m_costOf q3.1 q3.2.1.1 hq, kc_s, if_pos rfl]
          exact outM_l e3 q3
        · rw [if_neg (by decide), if_pos (by decide), kgr_n q3.1.2.1.2.1, kai_n (by omega) (by omega), (t3 q hq).1, if_neg (by decide), if_pos rfl]
          exact outM_l e3 q3
        · rw [if_neg (by decide), if_neg (by decide), kgr_n q3.1.2.1.2.2.1, kai_n (by omega) (by omega), (t3 q hq).2.1, if_neg (by decide), if_neg (by decide), if_pos rfl]
          exact outM_l e3 q3
      · rw [if_neg c, kgr_n hM2.1.1, show (15 : Int32) = nI 15 from rfl, show (6 : Int32) = nI 6 from rfl, show (3 : Int32) = nI 3 from rfl, nmul, nI_add, nI_add, nsub (by omega), kai_n (by omega) (by omega), show 15 + 6 * q + w - 3 = 15 + 6 * q + (w - 3) by omega, h2.n hq (by omega), if_neg (by omega), if_neg (by omega), if_neg (by omega)]
        exact outM_l e7 q2
theorem m_vote {Y : XS} {n : Nat} {S : PS} {A : EL} {H : List EL} {K : Option EL} {tp : List Nat} {fp : Int32} {x y z : Int32} (hn : 10000 ≤ n) (hM : MSt Y S) (hV : MVs S A H K tp fp) :
    ok (fX11_vote Y n S 215 x y z) (outM (fun T => QM Y S T A H K tp fp) (aVote A x y z)) := by
  have a7 := hV.1.ew
  have b1 := a7.2.1
  have b2 := a7.2.2.1
  unfold fX11_vote jX11_vote_21 jX11_vote_51
  rw [kpi_n]
  generalize hS2 : si S 215 7 0 = S2
  have q2 : QM Y S S2 A H K tp fp := by rw [← hS2]; exact (QM.rf hM hV).set (by decide)
  have e7 : gi S2 215 7 = nI 0 := by rw [← hS2, Gp]; rfl
  clear hS2
  have hM2 := q2.1
  have h2 := q2.2.1.1
  rw [m_isVoter hM2 h2, kc_s, m_isProject hM2 h2, kc_s]
  unfold aVote
  cases hx : ix x (eV A) with
  | none =>
    rw [ibN]
    exact m_fail1 q2
  | some v =>
    obtain ⟨rfl, hv⟩ := ix_some (by omega) hx
    rw [ibS]
    cases hy : ix y (eP A) with
    | none =>
      rw [ibN]
      exact m_fail1 q2
    | some q =>
      obtain ⟨rfl, hq⟩ := ix_some (by omega) hy
      rw [ibS]
      dsimp only
      by_cases c : z = 0
      · rw [if_pos c, if_pos c, m_scoreOf hM2 h2 hv hq, kc_s]
        exact outM_l e7 q2
      · rw [if_neg c, if_neg c, m_likedOf (by omega) hM2 h2 hq, kc_s]
        refine ok_kc (m_worthOf hn hM2 h2 hv hq) ?_
        rintro ⟨r1, T⟩ ⟨t1, t2, t3⟩
        simp only at t1 t2 t3
        subst t1
        have q3 : QM Y S T A H K tp fp := q2.goes (t2.mono (fun b hb => by unfold Mg; omega)) t3.g
        have e3 : gi T 215 7 = nI 0 := by rw [t3 7 (by omega)]; exact e7
        exact outM_l e3 q3
