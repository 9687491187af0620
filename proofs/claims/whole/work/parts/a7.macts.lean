/-! THE MODEL'S ANSWERS: acts, undone; images. -/
theorem m_keep52 {Y : XS} {n : Nat} {S : PS} {a : Nat} (hn : 100000 ≤ n) (hM : MSt Y S) (ha : a < 20) (h6 : gi S 215 6 = nI a) :
    ok (jX11_keep_52 Y n S 215) (fun T => Fr (fun x => x = 215 ∨ x = 220) S T ∧ gi T 215 6 = nI (a + 1) ∧ (∀ j, j ≠ 6 → gi T 215 j = gi S 215 j) ∧ (∀ j, j < 877 → gi T 220 (877 * a + j) = gi S 216 j) ∧ ∀ j, j < 877 * a → gi T 220 j = gi S 220 j) := by
  obtain ⟨l1, l2, l3, l4, l5⟩ := hM.2.2.2.1
  unfold jX11_keep_52
  refine ok_kc (P := fun T => Fr (fun x => x = 220) S T ∧ (∀ j, j < 877 → gi T 220 (877 * a + j) = gi S 216 j) ∧ ∀ j, j < 877 * a → gi T 220 j = gi S 220 j) (iter_ok (fun i t => t.1 = nI i ∧ Fr (fun x => x = 220) S t.2 ∧ (∀ j, j < i → gi t.2 220 (877 * a + j) = gi S 216 j) ∧ ∀ j, j < 877 * a → gi t.2 220 j = gi S 220 j) 877 (fun i t hi h1 => ?_) (fun t h1 => ?_) (by omega) ⟨rfl, Fr.rf, fun j hj => absurd hj (Nat.not_lt_zero _), fun j _ => rfl⟩) ?_
  · obtain ⟨t1, T⟩ := t
    obtain ⟨k1, k2, k3, k4⟩ := h1
    simp only at k1 k2 k3 k4
    subst k1
    have hMT : MSt Y T := hM.fr k2.2.1
    unfold bX11_keep_54
    dsimp only
    rw [show (877 : Int32) = nI 877 from rfl, i_le (by omega) (by omega), if_neg (by omega), kgr_n hMT.1.2.2.2.2, kgi_n, k2.gi (by omega), h6, kgr_n hMT.1.1, kai_n (by omega) (by omega), nmul, nI_add, kwi_n (by omega) (by omega), nI_1, ok_some, so_l]
    refine ⟨rfl, k2.si rfl, fun j hj => ?_, fun j hj => ?_⟩
    · dsimp only
      by_cases e : j = i
      · subst e
        rw [Gp, k2.gi (by omega)]
      · rw [Gn (by omega)]
        exact k3 j (by omega)
    · dsimp only
      rw [Gn (by omega)]
      exact k4 j hj
  · obtain ⟨t1, T⟩ := t
    obtain ⟨k1, k2, k3, k4⟩ := h1
    simp only at k1 k2 k3 k4
    subst k1
    unfold bX11_keep_54
    dsimp only
    rw [show (877 : Int32) = nI 877 from rfl, i_le (by omega) (by omega), if_pos (by omega), ok_some, so_r]
    exact ⟨k2, k3, k4⟩
  · rintro T ⟨k2, k3, k4⟩
    rw [kgi_n, k2.gi (by omega), h6, kpi_n, nI_1]
    refine ok_i ⟨(k2.mono (fun b hb => Or.inr hb)).si (Or.inl rfl), Gp, fun j hj => ?_, fun j hj => ?_, fun j hj => ?_⟩
    · rw [Gn (by omega), k2.gi (by omega)]
    · rw [Gn (by omega)]; exact k3 j hj
    · rw [Gn (by omega)]; exact k4 j hj
theorem m_keep {Y : XS} {n : Nat} {S : PS} {A : EL} {H : List EL} {K : Option EL} {tp : List Nat} {fp : Int32} (hn : 100000 ≤ n) (hM : MSt Y S) (hV : MVs S A H K tp fp) :
    ok (fX11_keep Y n S 215) (fun T => QM Y S T A (hadd A H) K tp fp ∧ gi T 215 7 = gi S 215 7) := by
  obtain ⟨l1, l2, l3, l4, l5⟩ := hM.2.2.2.1
  obtain ⟨v1, ⟨v2, v3, v4⟩, v5, v6, v7, v8, v9⟩ := hV
  have hlen : (hadd A H).length = min 20 (H.length + 1) := by unfold hadd; rw [List.length_take, List.length_cons]
  /- behind the shift, if any -/
  have fin : ∀ (T : PS) (a : Nat), a < 20 → a ≤ H.length → (H.length = a ∨ (H.length = 20 ∧ a = 19)) → Fr (fun x => x = 215 ∨ x = 220) S T → gi T 215 6 = nI a → (∀ j, j ≠ 6 → gi T 215 j = gi S 215 j) → (∀ k, k < a → RV T 220 (877 * (a - 1 - k)) (H.getD k A)) → ok (jX11_keep_52 Y n T 215) (fun U => QM Y S U A (hadd A H) K tp fp ∧ gi U 215 7 = gi S 215 7) := by
    intro T a ha ha2 hal f h6 hk hr
    refine ok_mono (m_keep52 hn (hM.fr f.2.1) ha h6) ?_
    rintro U ⟨u1, u2, u3, u4, u5⟩
    have fU : Fr (fun x => x = 215 ∨ x = 220) S U := f.tr u1
    have e7 : ∀ j, j ≠ 6 → gi U 215 j = gi S 215 j := fun j hj => (u3 j hj).trans (hk j hj)
    refine ⟨⟨hM.fr fU.2.1, ⟨v1.fr fU (by omega), ⟨by omega, ?_, fun k hk2 => ?_⟩, v5.fr fU (e7 5 (by decide)) (by omega), by rw [e7 28 (by decide)]; exact v6, v7, fun j hj => ⟨by rw [fU.gi (by omega)]; exact (v8 j hj).1, (v8 j hj).2⟩, by rw [e7 36 (by decide)]; exact v9⟩, fU.mono (fun b hb => by unfold Mm; omega)⟩, e7 7 (by decide)⟩
    · rw [u2, hlen]
      congr 1
      omega
    · have hget : (hadd A H).getD k A = (A :: H).getD k A := by
        unfold hadd
        rw [List.getD_eq_getElem?_getD, List.getD_eq_getElem?_getD, List.getElem?_take_of_lt (by omega)]
      rw [hget]
      have el : (hadd A H).length = a + 1 := by omega
      rw [el]
      cases k with
      | zero =>
        show RV U 220 (877 * (a + 1 - 1 - 0)) A
        refine RV.mv v1 (fun j hj => ?_)
        rw [show 877 * (a + 1 - 1 - 0) + j = 877 * a + j by omega, Nat.zero_add, u4 j hj]
        exact f.gi (by omega) j
      | succ k =>
        have : (A :: H).getD (k + 1) A = H.getD k A := rfl
        rw [this]
        have hka : k < a := by omega
        refine RV.mv (hr k hka) (fun j hj => ?_)
        have e : a + 1 - 1 - (k + 1) = a - 1 - k := by omega
        rw [e]
        have lt : 877 * (a - 1 - k) + 877 ≤ 877 * a := by
          have : a - 1 - k + 1 ≤ a := by omega
          have := Nat.mul_le_mul_left 877 this
          rw [Nat.mul_add] at this
          omega
        exact u5 _ (by omega)
  unfold fX11_keep
  rw [kgi_n, v3, show (20 : Int32) = nI 20 from rfl, i_eq (by omega) (by omega)]
  by_cases c : H.length = 20
  · rw [if_pos c]
    refine ok_kc (P := fun T => Fr (fun x => x = 220) S T ∧ ∀ j, j < 16663 → gi T 220 j = gi S 220 (j + 877)) (iter_ok (fun i t => t.1 = nI (877 + i) ∧ Fr (fun x => x = 220) S t.2 ∧ ∀ j, gi t.2 220 j = if j < i then gi S 220 (j + 877) else gi S 220 j) 16663 (fun i t hi h1 => ?_) (fun t h1 => ?_) (by omega) ⟨rfl, Fr.rf, fun j => by rw [if_neg (by omega)]⟩) ?_
    · obtain ⟨t1, T⟩ := t
      obtain ⟨k1, k2, k3⟩ := h1
      simp only at k1 k2 k3
      subst k1
      have hMT : MSt Y T := hM.fr k2.2.1
      unfold bX11_keep_13
      dsimp only
      rw [show (17540 : Int32) = nI 17540 from rfl, show (877 : Int32) = nI 877 from rfl, i_le (by omega) (by omega), if_neg (by omega), kgr_n hMT.1.2.2.2.2, kgr_n hMT.1.2.2.2.2, kai_n (by omega) (by omega), nsub (by omega), kwi_n (by omega) (by omega), nI_1, ok_some, so_l, show 877 + i - 877 = i by omega]
      refine ⟨rfl, k2.si rfl, fun j => ?_⟩
      dsimp only
      by_cases e : j = i
      · subst e
        rw [Gp, k3, if_neg (by omega), if_pos (by omega), Nat.add_comm]
      · rw [Gn (by omega), k3]
        by_cases d : j < i
        · rw [if_pos d, if_pos (by omega)]
        · rw [if_neg d, if_neg (by omega)]
    · obtain ⟨t1, T⟩ := t
      obtain ⟨k1, k2, k3⟩ := h1
      simp only at k1 k2 k3
      subst k1
      unfold bX11_keep_13
      dsimp only
      rw [show (17540 : Int32) = nI 17540 from rfl, i_le (by omega) (by omega), if_pos (by omega), ok_some, so_r]
      exact ⟨k2, fun j hj => by rw [k3, if_pos hj]⟩
    · rintro T ⟨k2, k3⟩
      rw [kgi_n, k2.gi (by omega), v3, kpi_n, nsub1 (by omega)]
      refine fin _ 19 (by decide) (by omega) (Or.inr ⟨c, rfl⟩) ((k2.mono (fun b hb => Or.inr hb)).si (Or.inl rfl)) (by rw [Gp, c]) (fun j hj => by rw [Gn (by omega), k2.gi (by omega)]) (fun k hk => ?_)
      have hv := v4 k (by omega)
      refine RV.mv hv (fun j hj => ?_)
      rw [Gn (by omega), k3 _ (by omega), c]
      congr 1
      omega
  · rw [if_neg c]
    exact fin S H.length (by omega) (Nat.le_refl _) (Or.inl rfl) Fr.rf v3 (fun j _ => rfl) v4
theorem MVs.dflt {S : PS} {A B : EL} {H : List EL} {K : Option EL} {tp : List Nat} {fp : Int32} (h : MVs S A H K tp fp) (hB : NV S B) : MVs S B H K tp fp := by
  obtain ⟨v1, ⟨v2, v3, v4⟩, v5⟩ := h
  refine ⟨hB, ⟨v2, v3, fun k hk => ?_⟩, v5⟩
  have := v4 k hk
  rw [List.getD_eq_getElem?_getD, List.getElem?_eq_getElem hk, Option.getD_some] at *
  exact this
/-- the election's row alone was changed -/
theorem QM.row {Y : XS} {S T U : PS} {A B : EL} {H : List EL} {K : Option EL} {tp : List Nat} {fp : Int32} (h : QM Y S T A H K tp fp) (f : Fr (fun x => x = 216) T U) (hB : NV U B) : QM Y S U B H K tp fp := by
  have hM := h.1.fr f.2.1
  obtain ⟨v1, ⟨v2, v3, v4⟩, v5, v6, v7, v8, v9⟩ := h.2.1
  refine ⟨hM, ⟨hB, ⟨v2, by rw [f.gi (by omega)]; exact v3, fun k hk => ?_⟩, v5.fr f (f.gi (by omega) _) (by omega), by rw [f.gi (by omega)]; exact v6, v7, fun j hj => ⟨by rw [f.gi (by omega)]; exact (v8 j hj).1, (v8 j hj).2⟩, by rw [f.gi (by omega)]; exact v9⟩, h.2.2.tr (f.mono (fun b hb => by unfold Mm; omega))⟩
  have := v4 k hk
  rw [List.getD_eq_getElem?_getD, List.getElem?_eq_getElem hk, Option.getD_some] at *
  exact this.mv (fun j _ => f.gi (by omega) _)
theorem m_becomes {Y : XS} {n : Nat} {S : PS} {A A' : EL} {H : List EL} {K : Option EL} {tp : List Nat} {fp : Int32} {k : Nat} {x : Int32} (hn : 100000 ≤ n) (hM : MSt Y S) (hV : MVs S A H K tp fp) (h7 : gi S 215 7 = nI 0) (hk : k < 877) (hA : ∀ T : PS, NV T A → NV (si T 216 k x) A') :
    ok (fX11_becomes Y n S 215 (nI k) x) (fun z => (∃ T, NV T A ∧ z.1 = gi T 216 k) ∧ QM Y S z.2 A' (hadd A H) K tp fp ∧ gi z.2 215 7 = nI 0) := by
  have l := hM.2.2.2.1.1
  unfold fX11_becomes
  refine ok_kc (m_keep hn hM hV) ?_
  rintro T ⟨t1, t2⟩
  rw [kgr_n t1.1.1.1, kai_n (by omega) (by omega), kgr_n t1.1.1.1, kwi_n (by omega) (by omega)]
  refine ok_i ⟨⟨T, t1.2.1.1, rfl⟩, t1.row (Fr.rf.si rfl) (hA T t1.2.1.1), ?_⟩
  dsimp only
  rw [Gn (by omega), t2]
  exact h7
/-- budget's and election's answer: what the class throws there counts as the first -/
def as1 : AN → AN
  | .inl x => .inl x
  | .inr _ => .inr 1
theorem m_budget {Y : XS} {n : Nat} {S : PS} {A : EL} {H : List EL} {K : Option EL} {tp : List Nat} {fp : Int32} {x : Int32} (hn : 100000 ≤ n) (hM : MSt Y S) (hV : MVs S A H K tp fp) :
    ok (fX11_budget Y n S 215 x) (outM (fun T => QM Y S T (aBudget A H x).2.1 (aBudget A H x).2.2 K tp fp) (as1 (aBudget A H x).1)) := by
  unfold fX11_budget jX11_budget_30
  rw [kpi_n]
  obtain ⟨q2, e7⟩ := m_start hM hV
  generalize si S 215 7 0 = S2 at *
  rw [miB, kc_s]
  unfold aBudget
  cases hx : ix x 100000 with
  | none =>
    rw [ibN]
    exact m_fail1 q2
  | some m =>
    obtain ⟨rfl, hm⟩ := ix_some (by decide) hx
    rw [ibS]
    refine ok_kc (m_becomes (k := 0) hn q2.1 q2.2.1 e7 (by decide) (fun T hT => hT.setM (m := m) (by omega))) ?_
    rintro ⟨z1, T⟩ ⟨⟨U, u1, u2⟩, t2, t3⟩
    simp only at u2 t2 t3
    subst u2
    dsimp only
    rw [u1.m]
    exact outM_l t3 (q2.tr t2)
theorem m_cost {Y : XS} {n : Nat} {S : PS} {A : EL} {H : List EL} {K : Option EL} {tp : List Nat} {fp : Int32} {x y : Int32} (hn : 100000 ≤ n) (hM : MSt Y S) (hV : MVs S A H K tp fp) :
    ok (fX11_cost Y n S 215 x y) (outM (fun T => QM Y S T (aCost A H x y).2.1 (aCost A H x y).2.2 K tp fp) (aCost A H x y).1) := by
  have a7 := hV.1.ew
  have b1 := a7.2.1
  have bad : ∀ k, 0 < k → k < 3 → ok (jX11_cost_29 Y n S 215 x y (nI k) 215) (outM (fun T => QM Y S T A H K tp fp) (.inr k)) := by
    intro k k0 k3
    unfold jX11_cost_29 jX11_cost_51
    rw [kpi_n, kgi_n, Gp, if_neg (nI_nle k0 (by omega))]
    exact ok_i ⟨Gp, (QM.rf hM hV).set (by decide)⟩
  have mc : fX11_isIn Y n S y 1 9999 = some (if (cx y).isSome = true then 1 else 0) := by
    unfold fX11_isIn jX11_isIn_14 jX11_isIn_15 kzr cx
    rw [if_pos (Or.inl rfl), if_pos (Or.inr rfl)]
    by_cases h1 : y < 1
    · rw [if_pos h1, if_pos h1]; rfl
    · rw [if_neg h1, if_neg h1]
      by_cases h2 : (9999 : Int32) < y
      · rw [if_pos h2, if_pos h2]; rfl
      · rw [if_neg h2, if_neg h2]; rfl
  unfold fX11_cost
  rw [m_isProject hM hV.1, kc_s, mc, kc_s]
  unfold aCost
  cases hx : ix x (eP A) with
  | none =>
    rw [ibN]
    exact bad 1 (by decide) (by decide)
  | some q =>
    obtain ⟨rfl, hq⟩ := ix_some (by omega) hx
    rw [ibS]
    dsimp only
    cases hy : cx y with
    | none =>
      rw [ibN]
      exact bad 2 (by decide) (by decide)
    | some c =>
      obtain ⟨rfl, hc⟩ := cx_some hy
      rw [ibS]
      unfold jX11_cost_29 jX11_cost_51
      rw [kpi_n, kgi_n, Gp, if_pos (by decide)]
      obtain ⟨q2, e7⟩ := m_start hM hV
      generalize si S 215 7 0 = S2 at *
      rw [show (3 : Int32) = nI 3 from rfl, nI_add]
      refine ok_kc (m_becomes hn q2.1 q2.2.1 e7 (by omega) (fun T hT => hT.setC hq hc)) ?_
      rintro ⟨z1, T⟩ ⟨⟨U, u1, u2⟩, t2, t3⟩
      simp only at u2 t2 t3
      subst u2
      dsimp only
      rw [u1.c hq]
      exact outM_l t3 (q2.tr t2)
theorem m_score {Y : XS} {n : Nat} {S : PS} {A : EL} {H : List EL} {K : Option EL} {tp : List Nat} {fp : Int32} {x y z : Int32} (hn : 100000 ≤ n) (hM : MSt Y S) (hV : MVs S A H K tp fp) :
    ok (fX11_score Y n S 215 x y z) (outM (fun T => QM Y S T (aScore A H x y z).2.1 (aScore A H x y z).2.2 K tp fp) (aScore A H x y z).1) := by
  have a7 := hV.1.ew
  have b1 := a7.2.1
  have b2 := a7.2.2.1
  have bad : ∀ k, 0 < k → k < 3 → ok (jX11_score_36 Y n S 215 x y z (nI k) 215) (outM (fun T => QM Y S T A H K tp fp) (.inr k)) := by
    intro k k0 k3
    unfold jX11_score_36 jX11_score_60
    rw [kpi_n, kgi_n, Gp, if_neg (nI_nle k0 (by omega))]
    exact ok_i ⟨Gp, (QM.rf hM hV).set (by decide)⟩
  unfold fX11_score jX11_score_17
  rw [m_isVoter hM hV.1, kc_s, m_isProject hM hV.1, kc_s, mi9, kc_s]
  unfold aScore
  cases hx : ix x (eV A) with
  | none =>
    rw [ibN]
    exact bad 1 (by decide) (by decide)
  | some v =>
    obtain ⟨rfl, hv⟩ := ix_some (by omega) hx
    rw [ibS]
    cases hy : ix y (eP A) with
    | none =>
      rw [ibN]
      exact bad 1 (by decide) (by decide)
    | some q =>
      obtain ⟨rfl, hq⟩ := ix_some (by omega) hy
      rw [ibS]
      dsimp only
      cases hz : ix z 10 with
      | none =>
        rw [ibN]
        exact bad 2 (by decide) (by decide)
      | some s =>
        obtain ⟨rfl, hs⟩ := ix_some (by decide) hz
        rw [ibS]
        unfold jX11_score_36 jX11_score_60
        rw [kpi_n, kgi_n, Gp, if_pos (by decide)]
        obtain ⟨q2, e7⟩ := m_start hM hV
        generalize si S 215 7 0 = S2 at *
        rw [m_scoreAt, kc_s]
        refine ok_kc (m_becomes hn q2.1 q2.2.1 e7 (by omega) (fun T hT => hT.setS hq hv (x := s) (by omega))) ?_
        rintro ⟨z1, T⟩ ⟨⟨U, u1, u2⟩, t2, t3⟩
        simp only at u2 t2 t3
        subst u2
        dsimp only
        rw [u1.s hq hv]
        exact outM_l t3 (q2.tr t2)
theorem m_go {Y : XS} {n : Nat} {S : PS} {A : EL} {H : List EL} {K : Option EL} {tp : List Nat} {fp : Int32} {x y : Int32} (hn : 100000 ≤ n) (hM : MSt Y S) (hV : MVs S A H K tp fp) :
    ok (fX11_go Y n S 215 x y) (outM (fun T => QM Y S T (aGo A H x y).2.1 (aGo A H x y).2.2 K tp fp) (aGo A H x y).1) := by
  have a7 := hV.1.ew
  have b1 := a7.2.1
  have b2 := a7.2.2.1
  unfold fX11_go jX11_go_28 jX11_go_34 jX11_go_55 jX11_go_70
  rw [kpi_n]
  obtain ⟨q2, e7⟩ := m_start hM hV
  generalize si S 215 7 0 = S2 at *
  rw [m_isProject q2.1 q2.2.1.1, kc_s, m_isVoter q2.1 q2.2.1.1, kc_s]
  unfold aGo
  by_cases c : x = 0
  · rw [if_pos c, if_pos c]
    cases hy : ix y (eP A) with
    | none =>
      rw [ibN]
      exact m_fail1 q2
    | some q =>
      obtain ⟨rfl, hq⟩ := ix_some (by omega) hy
      rw [ibS]
      refine ok_kc (m_keep hn q2.1 q2.2.1) ?_
      rintro T ⟨t1, t2⟩
      rw [if_pos c]
      refine ok_kc (m_removeProject (by omega) t1.1 t1.2.1.1 hq) ?_
      rintro U ⟨u1, u2⟩
      rw [if_pos c, m_many (t1.1.fr u1.2.1) u2, kc_s]
      exact outM_l (by rw [u1.gi (by omega), t2]; exact e7) (q2.tr (t1.row u1 u2))
  · rw [if_neg c, if_neg c]
    cases hy : ix y (eV A) with
    | none =>
      rw [ibN]
      exact m_fail1 q2
    | some v =>
      obtain ⟨rfl, hv⟩ := ix_some (by omega) hy
      rw [ibS]
      refine ok_kc (m_keep hn q2.1 q2.2.1) ?_
      rintro T ⟨t1, t2⟩
      rw [if_neg c]
      refine ok_kc (m_removeVoter (by omega) t1.1 t1.2.1.1 hv) ?_
      rintro U ⟨u1, u2⟩
      rw [if_neg c, m_people (t1.1.fr u1.2.1) u2, kc_s]
      exact outM_l (by rw [u1.gi (by omega), t2]; exact e7) (q2.tr (t1.row u1 u2))
theorem m_undo {Y : XS} {n : Nat} {S : PS} {A : EL} {H : List EL} {K : Option EL} {tp : List Nat} {fp : Int32} (hn : 100000 ≤ n) (hM : MSt Y S) (hV : MVs S A H K tp fp) :
    ok (fX11_undo Y n S 215) (fun q => q.1 = (aUndo A H).1 ∧ QM Y S q.2 (aUndo A H).2.1 (aUndo A H).2.2 K tp fp) := by
  obtain ⟨l1, l2, l3, l4, l5⟩ := hM.2.2.2.1
  unfold fX11_undo
  rw [kpi_n]
  obtain ⟨q2, e7⟩ := m_start hM hV
  generalize si S 215 7 0 = S2 at *
  obtain ⟨v1, ⟨v2, v3, v4⟩, v5, v6, v7, v8, v9⟩ := q2.2.1
  rw [kgi_n, v3]
  cases H with
  | nil =>
    rw [if_pos (show nI ([] : List EL).length = 0 from rfl)]
    exact ok_i ⟨rfl, q2⟩
  | cons B R =>
    have hl : (B :: R).length = R.length + 1 := rfl
    rw [if_neg (nI_ne0 (by omega) (by omega)), kgi_n, v3, kpi_n, nsub1 (by omega)]
    have e1 : (B :: R).length - 1 = R.length := rfl
    rw [e1]
    generalize hT : si S2 215 6 (nI R.length) = T
    have f1 : Fr (fun x => x = 215) S2 T := by rw [← hT]; exact Fr.rf.si rfl
    have g6 : gi T 215 6 = nI R.length := by rw [← hT, Gp]
    have gj : ∀ j, j ≠ 6 → gi T 215 j = gi S2 215 j := fun j hj => by rw [← hT, Gn (by omega)]
    clear hT
    refine ok_kc (P := fun U => Fr (fun x => x = 216) T U ∧ ∀ j, j < 877 → gi U 216 j = gi T 220 (877 * R.length + j)) (iter_ok (fun i t => t.1 = nI i ∧ Fr (fun x => x = 216) T t.2 ∧ ∀ j, j < i → gi t.2 216 j = gi T 220 (877 * R.length + j)) 877 (fun i t hi h1 => ?_) (fun t h1 => ?_) (by omega) ⟨rfl, Fr.rf, fun j hj => absurd hj (Nat.not_lt_zero _)⟩) ?_
    · obtain ⟨t1, U⟩ := t
      obtain ⟨k1, k2, k3⟩ := h1
      simp only at k1 k2 k3
      subst k1
      have hMU : MSt Y U := (q2.1.fr f1.2.1).fr k2.2.1
      unfold bX11_undo_26
      dsimp only
      rw [show (877 : Int32) = nI 877 from rfl, i_le (by omega) (by omega), if_neg (by omega), kgr_n hMU.1.1, kgr_n hMU.1.2.2.2.2, kgi_n, k2.gi (by omega), g6, nmul, nI_add, kai_n (by omega) (by omega), kwi_n (by omega) (by omega), nI_1, ok_some, so_l]
      refine ⟨rfl, k2.si rfl, fun j hj => ?_⟩
      dsimp only
      by_cases e : j = i
      · subst e
        rw [Gp, k2.gi (by omega)]
      · rw [Gn (by omega)]
        exact k3 j (by omega)
    · obtain ⟨t1, U⟩ := t
      obtain ⟨k1, k2, k3⟩ := h1
      simp only at k1 k2 k3
      subst k1
      unfold bX11_undo_26
      dsimp only
      rw [show (877 : Int32) = nI 877 from rfl, i_le (by omega) (by omega), if_pos (by omega), ok_some, so_r]
      exact ⟨k2, k3⟩
    · rintro U ⟨k2, k3⟩
      rw [kgi_n, k2.gi (by omega), g6]
      have fU : Fr (fun x => x = 215 ∨ x = 216) S2 U := (f1.mono (fun b hb => Or.inl hb)).tr (k2.mono (fun b hb => Or.inr hb))
      have gU : ∀ j, j ≠ 6 → gi U 215 j = gi S2 215 j := fun j hj => by rw [k2.gi (by omega)]; exact gj j hj
      have r0 := v4 0 (by omega)
      have hB : NV U B := by
        refine RV.mv r0 (fun j hj => ?_)
        rw [Nat.zero_add, k3 j hj, f1.gi (by omega)]
        congr 1
      refine ok_i ⟨rfl, q2.1.fr fU.2.1, ⟨hB, ⟨show R.length ≤ 20 by omega, by rw [k2.gi (by omega)]; exact g6, fun k hk => ?_⟩, v5.fr fU (gU 5 (by decide)) (by omega), by rw [gU 28 (by decide)]; exact v6, v7, fun j hj => ⟨by rw [fU.gi (by omega)]; exact (v8 j hj).1, (v8 j hj).2⟩, by rw [gU 36 (by decide)]; exact v9⟩, q2.2.2.tr (fU.mono (fun b hb => by unfold Mm; omega))⟩
      have rk := v4 (k + 1) (by have : k < R.length := hk; omega)
      have e2 : (B :: R).getD (k + 1) A = R.getD k A := rfl
      rw [e2] at rk
      have hk' : k < R.length := hk
      show RV U 220 (877 * (R.length - 1 - k)) (R.getD k B)
      rw [List.getD_eq_getElem?_getD, List.getElem?_eq_getElem hk', Option.getD_some] at *
      refine RV.mv rk (fun j _ => ?_)
      rw [fU.gi (by omega), show (B :: R).length - 1 - (k + 1) = R.length - 1 - k by omega]
theorem m_image {Y : XS} {n : Nat} {S : PS} {A : EL} {H : List EL} {K : Option EL} {tp : List Nat} {fp : Int32} (hn : 100000 ≤ n) (hM : MSt Y S) (hV : MVs S A H K tp fp) :
    ok (fX11_image Y n S 215) (fun T => QM Y S T A H (some A) tp fp) := by
  obtain ⟨l1, l2, l3, l4, l5⟩ := hM.2.2.2.1
  unfold fX11_image
  rw [kpi_n]
  obtain ⟨q2, e7⟩ := m_start hM hV
  generalize si S 215 7 0 = S2 at *
  obtain ⟨v1, ⟨v2, v3, v4⟩, v5, v6, v7, v8, v9⟩ := q2.2.1
  rw [kgr_n q2.1.1.2.2.2.1, kgr_n q2.1.1.1]
  refine ok_kc (m_copy (by omega) (by decide) l4 l1) ?_
  rintro T ⟨t1, t2⟩
  unfold kpz
  rw [if_pos (Or.inr rfl)]
  have fU : Fr (fun x => x = 215 ∨ x = 219) S2 (si T 215 5 1) := (t1.mono (fun b hb => Or.inr hb)).si (Or.inl rfl)
  have gU : ∀ j, j ≠ 5 → gi (si T 215 5 1) 215 j = gi S2 215 j := fun j hj => by rw [Gn (by omega), t1.gi (by omega)]
  refine ok_i ⟨q2.1.fr fU.2.1, ⟨v1.fr fU (by omega), ⟨v2, by rw [gU 6 (by decide)]; exact v3, fun k hk => (v4 k hk).mv (fun j _ => fU.gi (by omega) _)⟩, ⟨Gp, ?_⟩, by rw [gU 28 (by decide)]; exact v6, v7, fun j hj => ⟨by rw [fU.gi (by omega)]; exact (v8 j hj).1, (v8 j hj).2⟩, by rw [gU 36 (by decide)]; exact v9⟩, q2.2.2.tr (fU.mono (fun b hb => by unfold Mm; omega))⟩
  refine RV.mv v1 (fun j hj => ?_)
  rw [Nat.zero_add, Gn (by omega), t2 j hj]
theorem m_back {Y : XS} {n : Nat} {S : PS} {A : EL} {H : List EL} {K : Option EL} {tp : List Nat} {fp : Int32} (hn : 100000 ≤ n) (hM : MSt Y S) (hV : MVs S A H K tp fp) :
    ok (fX11_back Y n S 215) (fun q => q.1 = (aBack A H K).1 ∧ QM Y S q.2 (aBack A H K).2.1 (aBack A H K).2.2 K tp fp) := by
  obtain ⟨l1, l2, l3, l4, l5⟩ := hM.2.2.2.1
  unfold fX11_back
  rw [kpi_n]
  obtain ⟨q2, e7⟩ := m_start hM hV
  generalize si S 215 7 0 = S2 at *
  obtain ⟨v1, ⟨v2, v3, v4⟩, v5, v6, v7, v8, v9⟩ := q2.2.1
  have z0 : ∀ T : PS, kzr (0 : Int32) (some ((0 : Int32), T)) = some (0, T) := fun T => by unfold kzr; rw [if_pos (Or.inl rfl)]
  have z1 : ∀ T : PS, kzr (1 : Int32) (some ((1 : Int32), T)) = some (1, T) := fun T => by unfold kzr; rw [if_pos (Or.inr rfl)]
  rw [kgi_n]
  cases K with
  | none =>
    have v5' : gi S2 215 5 = nI 0 := v5
    rw [v5', if_pos (show nI 0 = 0 from rfl), z0]
    exact ok_i ⟨rfl, q2⟩
  | some B =>
    have v5' : gi S2 215 5 = nI 1 := v5.1
    rw [v5', if_neg (by decide), kgr_n q2.1.1.1, kgr_n q2.1.1.2.2.2.1]
    refine ok_kc (m_copy (by omega) (by decide) l1 l4) ?_
    rintro T ⟨t1, t2⟩
    rw [kpi_n, z1]
    have fU : Fr (fun x => x = 215 ∨ x = 216) S2 (si T 215 6 0) := (t1.mono (fun b hb => Or.inr hb)).si (Or.inl rfl)
    have gU : ∀ j, j ≠ 6 → gi (si T 215 6 0) 215 j = gi S2 215 j := fun j hj => by rw [Gn (by omega), t1.gi (by omega)]
    refine ok_i ⟨rfl, q2.1.fr fU.2.1, ⟨?_, ⟨Nat.zero_le _, Gp, fun k hk => absurd hk (Nat.not_lt_zero _)⟩, MKp.fr (K := some B) v5 fU (gU 5 (by decide)) (by omega), by rw [gU 28 (by decide)]; exact v6, v7, fun j hj => ⟨by rw [fU.gi (by omega)]; exact (v8 j hj).1, (v8 j hj).2⟩, by rw [gU 36 (by decide)]; exact v9⟩, q2.2.2.tr (fU.mono (fun b hb => by unfold Mm; omega))⟩
    refine RV.mv v5.2 (fun j hj => ?_)
    rw [Nat.zero_add, Gn (by omega), t2 j hj]
theorem m_fault {Y : XS} {n : Nat} {S : PS} {A : EL} {H : List EL} {K : Option EL} {tp : List Nat} {fp : Int32} (hM : MSt Y S) (hV : MVs S A H K tp fp) :
    ok (fX11_fault Y n S 215) (fun q => q.1 = fp ∧ QM Y S q.2 A H K tp fp) := by
  unfold fX11_fault
  rw [kpi_n]
  obtain ⟨q2, e7⟩ := m_start hM hV
  generalize si S 215 7 0 = S2 at *
  rw [kgi_n, q2.2.1.2.2.2.2.2.2]
  exact ok_i ⟨rfl, q2⟩
