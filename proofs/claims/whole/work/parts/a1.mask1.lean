/-! THE MODEL'S ANSWERS: outcomes, steps, prices. -/
theorem m_ruled {Y : XS} {n : Nat} {S T : PS} {A : EL} {H : List EL} {K : Option EL} {tp : List Nat} {fp : Int32} {r : Nat} (hn : 10000 ≤ n) (h : QM Y S T A H K tp fp) (hr : r < 9) (h7 : gi T 215 7 = nI 0) :
    ok (fX11_goes Y n T 215 (nI r)) (fun U => QM Y S U A H K tp fp ∧ gi U 215 7 = nI 0 ∧ MRu U A r) := by
  refine ok_mono (m_goes hn h.1 h.2.1.1 hr) ?_
  rintro U ⟨u1, u2, u3⟩
  exact ⟨h.goes u1 u2, by rw [u2 7 (by omega)]; exact h7, u3⟩
theorem MRu.lt {S : PS} {A : EL} {r : Nat} (h : MRu S A r) (hA : EW A) : lb (RLs A r) < 4096 := h.2.1.2.2.2.lt hA
theorem MRu.ln {S : PS} {A : EL} {r : Nat} (h : MRu S A r) (hA : EW A) : (RLs A r).length ≤ 12 := Nat.le_trans h.2.1.2.2.2.le hA.2.1
theorem m_start {Y : XS} {S : PS} {A : EL} {H : List EL} {K : Option EL} {tp : List Nat} {fp : Int32} (hM : MSt Y S) (hV : MVs S A H K tp fp) : QM Y S (si S 215 7 0) A H K tp fp ∧ gi (si S 215 7 0) 215 7 = nI 0 := ⟨(QM.rf hM hV).set (by decide), Gp⟩
theorem m_outcome {Y : XS} {n : Nat} {S : PS} {A : EL} {H : List EL} {K : Option EL} {tp : List Nat} {fp : Int32} {x y : Int32} (hn : 10000 ≤ n) (hM : MSt Y S) (hV : MVs S A H K tp fp) :
    ok (fX11_outcome Y n S 215 x y) (outM (fun T => QM Y S T A H K tp fp) (aOutcome A x y)) := by
  have a7 := hV.1.ew
  unfold fX11_outcome jX11_outcome_22
  rw [kpi_n]
  obtain ⟨q2, e7⟩ := m_start hM hV
  generalize si S 215 7 0 = S2 at *
  rw [m_isRule, kc_s, mi6, kc_s]
  unfold aOutcome
  cases hx : ix x 9 with
  | none =>
    rw [ibN]
    exact m_fail1 q2
  | some r =>
    obtain ⟨rfl, hr⟩ := ix_some (by decide) hx
    rw [ibS]
    cases hy : ix y 7 with
    | none =>
      rw [ibN]
      exact m_fail1 q2
    | some w =>
      obtain ⟨rfl, hw⟩ := ix_some (by decide) hy
      rw [ibS]
      refine ok_kc (m_ruled hn q2 hr e7) ?_
      rintro T ⟨q3, e3, m3⟩
      have lt := m3.lt a7
      have e21 := m3.2.1.2.1
      have hM3 := q3.1
      have h3 := q3.2.1.1
      have w3 := m3.1
      dsimp only
      unfold oval
      have c7 : w = 0 ∨ w = 1 ∨ w = 2 ∨ w = 3 ∨ w = 4 ∨ w = 5 ∨ w = 6 := by omega
      rcases c7 with rfl | rfl | rfl | rfl | rfl | rfl | rfl
      · rw [if_pos (by decide), kgi_n, e21]
        exact outM_l e3 q3
      · rw [if_neg (by decide), if_pos (by decide), kgi_n, m3.2.1.1]
        exact outM_l e3 q3
      · rw [if_neg (by decide), if_neg (by decide), if_pos (by decide), kgi_n, e21, m_costsOf (by omega) hM3 h3 (by omega), kc_s]
        exact outM_l e3 q3
      · rw [if_neg (by decide), if_neg (by decide), if_neg (by decide), if_pos (by decide), kgi_n, e21, m_worthToAll (by omega) hM3 h3 w3 (by omega), kc_s]
        exact outM_l e3 q3
      · rw [if_neg (by decide), if_neg (by decide), if_neg (by decide), if_neg (by decide), if_pos (by decide), kgi_n, e21, m_leastWorth (by omega) hM3 h3 w3 (by omega), kc_s]
        exact outM_l e3 q3
      · rw [if_neg (by decide), if_neg (by decide), if_neg (by decide), if_neg (by decide), if_neg (by decide), if_pos (by decide), m_unserved (by omega) hM3 h3 w3 e21 (by omega), kc_s]
        exact outM_l e3 q3
      · rw [if_neg (by decide), if_neg (by decide), if_neg (by decide), if_neg (by decide), if_neg (by decide), if_neg (by decide), kgi_n, m3.2.2.1]
        exact outM_l e3 q3
theorem m_chosen {Y : XS} {n : Nat} {S : PS} {A : EL} {H : List EL} {K : Option EL} {tp : List Nat} {fp : Int32} {x y : Int32} (hn : 10000 ≤ n) (hM : MSt Y S) (hV : MVs S A H K tp fp) :
    ok (fX11_chosen Y n S 215 x y) (outM (fun T => QM Y S T A H K tp fp) (aChosen A x y)) := by
  have a7 := hV.1.ew
  unfold fX11_chosen jX11_chosen_51
  rw [kpi_n]
  obtain ⟨q2, e7⟩ := m_start hM hV
  generalize si S 215 7 0 = S2 at *
  rw [m_isRule, kc_s]
  unfold aChosen
  cases hx : ix x 9 with
  | none =>
    rw [ibN]
    exact m_fail1 q2
  | some r =>
    obtain ⟨rfl, hr⟩ := ix_some (by decide) hx
    rw [ibS]
    refine ok_kc (m_ruled hn q2 hr e7) ?_
    rintro T ⟨q3, e3, m3⟩
    have lt := m3.lt a7
    have ll := m3.ln a7
    have l4 := q3.1.2.2.2.2.1.2.2.2.1
    dsimp only
    rw [kgi_n, m3.2.1.1, m_isInM (by omega), kc_s]
    cases hy : ix y (RLs A r).length with
    | none =>
      rw [ibN]
      exact m_fail1 q3
    | some k =>
      obtain ⟨rfl, hk⟩ := ix_some (by omega) hy
      rw [ibS, kgr_n q3.1.2.1.2.2.2.1, kai_n (by omega) (by omega), m3.2.1.2.2.1 k hk]
      exact outM_l e3 q3
theorem m_served {Y : XS} {n : Nat} {S : PS} {A : EL} {H : List EL} {K : Option EL} {tp : List Nat} {fp : Int32} {x y : Int32} (hn : 10000 ≤ n) (hM : MSt Y S) (hV : MVs S A H K tp fp) :
    ok (fX11_served Y n S 215 x y) (outM (fun T => QM Y S T A H K tp fp) (aServed A x y)) := by
  have a7 := hV.1.ew
  have b2 := a7.2.2.1
  unfold fX11_served jX11_served_20
  rw [kpi_n]
  obtain ⟨q2, e7⟩ := m_start hM hV
  generalize si S 215 7 0 = S2 at *
  rw [m_isRule, kc_s, m_isVoter q2.1 q2.2.1.1, kc_s]
  unfold aServed
  cases hx : ix x 9 with
  | none =>
    rw [ibN]
    exact m_fail1 q2
  | some r =>
    obtain ⟨rfl, hr⟩ := ix_some (by decide) hx
    rw [ibS]
    cases hy : ix y (eV A) with
    | none =>
      rw [ibN]
      exact m_fail1 q2
    | some v =>
      obtain ⟨rfl, hv⟩ := ix_some (by omega) hy
      rw [ibS]
      refine ok_kc (m_ruled hn q2 hr e7) ?_
      rintro T ⟨q3, e3, m3⟩
      have lt := m3.lt a7
      dsimp only
      rw [kgi_n, m3.2.1.2.1, m_worthTo (by omega) q3.1 q3.2.1.1 m3.1 hv (by omega), kc_s]
      exact outM_l e3 q3
theorem nI_sm {f : Nat → Nat} {i : Nat} : nI (sm f i) + nI (f i) = nI (sm f (i + 1)) := by rw [nI_add, sm_s]
theorem m_paid {Y : XS} {n : Nat} {S : PS} {A : EL} {H : List EL} {K : Option EL} {tp : List Nat} {fp : Int32} {x y z : Int32} (hn : 10000 ≤ n) (hM : MSt Y S) (hV : MVs S A H K tp fp) :
    ok (fX11_paid Y n S 215 x y z) (outM (fun T => QM Y S T A H K tp fp) (aPaid A x y z)) := by
  have a7 := hV.1.ew
  have b1 := a7.2.1
  have b2 := a7.2.2.1
  unfold fX11_paid jX11_paid_35 jX11_paid_41 jX11_paid_70
  rw [kpi_n]
  obtain ⟨q2, e7⟩ := m_start hM hV
  generalize si S 215 7 0 = S2 at *
  rw [mi3, kc_s, m_isVoter q2.1 q2.2.1.1, kc_s, m_isProject q2.1 q2.2.1.1, kc_s, mm1]
  unfold aPaid
  cases hx : ix x 4 with
  | none =>
    rw [ibN]
    exact m_fail1 q2
  | some r =>
    obtain ⟨rfl, hr⟩ := ix_some (by decide) hx
    rw [ibS]
    cases hy : ix y (eV A) with
    | none =>
      rw [ibN]
      exact m_fail1 q2
    | some v =>
      obtain ⟨rfl, hv⟩ := ix_some (by omega) hy
      rw [ibS]
      dsimp only
      by_cases c : z = m1
      · rw [if_pos c, if_pos c]
        refine ok_kc (m_ruled hn q2 (by omega) e7) ?_
        rintro T ⟨q3, e3, m3⟩
        have l6 := q3.1.2.2.2.2.1.2.2.2.2.2
        have pd := (m3.2.2.2.1 (by omega)).2
        rw [if_pos c]
        have key : fX11_paidInAll Y n T 215 (nI v) = some (nI (sm (fun q => pdk A (fun _ => pu A (rd A r)) q v 12) (eP A))) := by
          unfold fX11_paidInAll
          refine kc_run (fun i => (nI (sm (fun q => pdk A (fun _ => pu A (rd A r)) q v 12) i), nI i)) (eP A) (fun i hi => ?_) ?_ (by omega) rfl rfl
          · unfold bX11_paidInAll_4
            rw [m_many q3.1 q3.2.1.1, kc_s]
            simp (discharger := omega) only [nle, if_neg]
            rw [kgr_n q3.1.2.1.2.2.2.2.2, show (12 : Int32) = nI 12 from rfl, nmul, nI_add, kai_n (by omega) (by omega), pd v i hv hi, nI_1, nI_add, sm_s]
          · unfold bX11_paidInAll_4
            rw [m_many q3.1 q3.2.1.1, kc_s]
            simp (discharger := omega) only [nle, if_pos]
        rw [key, kc_s]
        exact outM_l e3 q3
      · rw [if_neg c, if_neg c]
        cases hz : ix z (eP A) with
        | none =>
          rw [ibN]
          exact m_fail1 q2
        | some q =>
          obtain ⟨rfl, hq⟩ := ix_some (by omega) hz
          rw [ibS]
          refine ok_kc (m_ruled hn q2 (by omega) e7) ?_
          rintro T ⟨q3, e3, m3⟩
          have l6 := q3.1.2.2.2.2.1.2.2.2.2.2
          have pd := (m3.2.2.2.1 (by omega)).2
          rw [if_neg c, kgr_n q3.1.2.1.2.2.2.2.2, show (12 : Int32) = nI 12 from rfl, nmul, nI_add, kai_n (by omega) (by omega), pd v q hv hq]
          exact outM_l e3 q3
theorem m_left {Y : XS} {n : Nat} {S : PS} {A : EL} {H : List EL} {K : Option EL} {tp : List Nat} {fp : Int32} {x y : Int32} (hn : 10000 ≤ n) (hM : MSt Y S) (hV : MVs S A H K tp fp) :
    ok (fX11_left Y n S 215 x y) (outM (fun T => QM Y S T A H K tp fp) (aLeft A x y)) := by
  have a7 := hV.1.ew
  have b2 := a7.2.2.1
  unfold fX11_left jX11_left_27 jX11_left_33 jX11_left_56
  rw [kpi_n]
  obtain ⟨q2, e7⟩ := m_start hM hV
  generalize si S 215 7 0 = S2 at *
  rw [mi3, kc_s, m_isVoter q2.1 q2.2.1.1, kc_s, mm1]
  unfold aLeft
  cases hx : ix x 4 with
  | none =>
    rw [ibN]
    exact m_fail1 q2
  | some r =>
    obtain ⟨rfl, hr⟩ := ix_some (by decide) hx
    rw [ibS]
    dsimp only
    by_cases c : y = m1
    · rw [if_pos c, if_pos c]
      refine ok_kc (m_ruled hn q2 (by omega) e7) ?_
      rintro T ⟨q3, e3, m3⟩
      have l5 := q3.1.2.2.2.2.1.2.2.2.2.1
      have bv := (m3.2.2.2.1 (by omega)).1
      rw [if_pos c]
      have key : fX11_leftInAll Y n T 215 = some (nI (sm (bst A (fun _ => pu A (rd A r)) 12).2 (eV A))) := by
        unfold fX11_leftInAll
        refine kc_run (fun i => (nI (sm (bst A (fun _ => pu A (rd A r)) 12).2 i), nI i)) (eV A) (fun i hi => ?_) ?_ (by omega) rfl rfl
        · unfold bX11_leftInAll_4
          rw [m_people q3.1 q3.2.1.1, kc_s]
          simp (discharger := omega) only [nle, if_neg]
          rw [kgr_n q3.1.2.1.2.2.2.2.1, kai_n (by omega) (by omega), bv i hi, nI_1, nI_add, sm_s]
        · unfold bX11_leftInAll_4
          rw [m_people q3.1 q3.2.1.1, kc_s]
          simp (discharger := omega) only [nle, if_pos]
      rw [key, kc_s]
      exact outM_l e3 q3
    · rw [if_neg c, if_neg c]
      cases hz : ix y (eV A) with
      | none =>
        rw [ibN]
        exact m_fail1 q2
      | some v =>
        obtain ⟨rfl, hv⟩ := ix_some (by omega) hz
        rw [ibS]
        refine ok_kc (m_ruled hn q2 (by omega) e7) ?_
        rintro T ⟨q3, e3, m3⟩
        have l5 := q3.1.2.2.2.2.1.2.2.2.2.1
        have bv := (m3.2.2.2.1 (by omega)).1
        rw [if_neg c, kgr_n q3.1.2.1.2.2.2.2.1, kai_n (by omega) (by omega), bv v hv]
        exact outM_l e3 q3
theorem m_step {Y : XS} {n : Nat} {S : PS} {A : EL} {H : List EL} {K : Option EL} {tp : List Nat} {fp : Int32} {x y : Int32} (hn : 10000 ≤ n) (hM : MSt Y S) (hV : MVs S A H K tp fp) :
    ok (fX11_step Y n S 215 x y) (outM (fun T => QM Y S T A H K tp fp) (aStep A x y)) := by
  have a7 := hV.1.ew
  unfold fX11_step jX11_step_33 jX11_step_72
  rw [kpi_n]
  obtain ⟨q2, e7⟩ := m_start hM hV
  generalize si S 215 7 0 = S2 at *
  refine ok_kc (m_ruled (r := 0) hn q2 (by decide) e7) ?_
  rintro T ⟨q3, e3, m3⟩
  have ll := m3.ln a7
  obtain ⟨m1', m2, m3', m4, m5, m6, m7⟩ := q3.1.2.2.2.2.2
  rw [kgi_n, m3.2.1.1, m_isInM (by omega), kc_s, mi2, kc_s]
  unfold aStep
  cases hx : ix x (RLs A 0).length with
  | none =>
    rw [ibN]
    exact m_fail1 q3
  | some k =>
    obtain ⟨rfl, hk⟩ := ix_some (by omega) hx
    rw [ibS]
    cases hy : ix y 3 with
    | none =>
      rw [ibN]
      exact m_fail1 q3
    | some w =>
      obtain ⟨rfl, hw⟩ := ix_some (by decide) hy
      rw [ibS]
      dsimp only
      obtain ⟨z, f1, f2, f3⟩ := m3.2.2.2.2 rfl
      have lz : (RLs A 0).length = z := by
        have e : RLs A 0 = sl A (fun _ => pu A 0) 12 := rfl
        rw [e, (at_end f1 f3).2.1, sl_len f2.1]
      obtain ⟨q, hq⟩ := f2.1 k (by omega)
      obtain ⟨g1, g2, g3⟩ := f2.2.2.2.2 k q (by omega) hq
      unfold stv
      rw [hq]
      dsimp only
      have c3 : w = 0 ∨ w = 1 ∨ w = 2 := by omega
      rcases c3 with rfl | rfl | rfl
      · rw [if_pos (by decide), if_pos rfl, kgr_n q3.1.2.2.1.1, kai_n (by omega) (by omega), g1]
        exact outM_l e3 q3
      · rw [if_neg (by decide), if_pos (by decide), if_neg (by decide), if_pos rfl, kgr_n q3.1.2.2.1.2.1, kai_n (by omega) (by omega), g2]
        exact outM_l e3 q3
      · rw [if_neg (by decide), if_neg (by decide), if_neg (by decide), if_neg (by decide), kgr_n q3.1.2.2.1.2.2.1, kai_n (by omega) (by omega), g3]
        exact outM_l e3 q3
theorem m_price {Y : XS} {n : Nat} {S : PS} {A : EL} {H : List EL} {K : Option EL} {tp : List Nat} {fp : Int32} {x y : Int32} (hn : 10000 ≤ n) (hM : MSt Y S) (hV : MVs S A H K tp fp) :
    ok (fX11_price Y n S 215 x y) (outM (fun T => QM Y S T A H K tp fp) (aPrice A x y)) := by
  have a7 := hV.1.ew
  have b1 := a7.2.1
  unfold fX11_price jX11_price_30 jX11_price_62
  rw [kpi_n]
  obtain ⟨q2, e7⟩ := m_start hM hV
  generalize si S 215 7 0 = S2 at *
  refine ok_kc (m_ruled (r := 0) hn q2 (by decide) e7) ?_
  rintro T ⟨q3, e3, m3⟩
  have ll := m3.ln a7
  rw [m_isProject q3.1 q3.2.1.1, kc_s, kgi_n, m3.2.1.1, m_isIn (by omega), kc_s]
  unfold aPrice
  cases hx : ix x (eP A) with
  | none =>
    rw [ibN]
    exact m_fail1 q3
  | some q =>
    obtain ⟨rfl, hq⟩ := ix_some (by omega) hx
    rw [ibS]
    cases hy : ix y ((RLs A 0).length + 1) with
    | none =>
      rw [ibN]
      exact m_fail1 q3
    | some k =>
      obtain ⟨rfl, hk⟩ := ix_some (by omega) hy
      rw [ibS]
      dsimp only
      obtain ⟨z, f1, f2, f3⟩ := m3.2.2.2.2 rfl
      have lz : (RLs A 0).length = z := by
        have e : RLs A 0 = sl A (fun _ => pu A 0) 12 := rfl
        rw [e, (at_end f1 f3).2.1, sl_len f2.1]
      refine ok_kc (m_shares (m := 0) (most := k) hn q3.1 q3.2.1.1 m3.1 (by decide) (by omega)) ?_
      rintro U ⟨u1, u2, k', u3, u4, u5⟩
      have ek : k' = k := by
        rcases u5 with u5 | u5
        · exact u5
        · by_cases c : k' < k
          · obtain ⟨q', hq'⟩ := f2.1 k' (by omega)
            rw [u5] at hq'
            cases hq'
          · omega
      subst ek
      have q4 : QM Y S U A H K tp fp := q3.goes (u1.mono (fun b hb => by unfold Ms at hb; unfold Mg; omega)) (FG.k u2)
      have e4 : gi U 215 7 = nI 0 := by rw [u2 7 (by decide) (by decide)]; exact e3
      have w4 : MW U A := m3.1.fr u1 (by unfold Ms; omega) (by unfold Ms; omega) (by unfold Ms; omega)
      have e21 : gi U 215 21 = nI (bst A (fun _ => pu A 0) k').1 := by rw [u4.2.1.2.1, lb_sl]
      have lt : (bst A (fun _ => pu A 0) k').1 < 4096 := by
        rw [← lb_sl]
        exact (sl_gl k').lt a7
      rw [kgi_n, e21, m_isOf (by omega) (by omega), kc_s]
      by_cases c : (bst A (fun _ => pu A 0) k').1.testBit q = true
      · rw [if_pos c, if_neg (by decide), if_pos c]
        exact outM_l e4 q4
      · rw [if_neg c, if_pos rfl, if_neg c]
        refine ok_kc (m_priceOf hn q4.1 q4.2.1.1 w4 u4.2.2.1 (bst_sm (pu_sum a7 (by decide))) hq) ?_
        rintro ⟨r1, W⟩ ⟨y1, y2⟩
        simp only at y1 y2
        subst y1
        have q5 : QM Y S W A H K tp fp := q4.goes (y2.mono (fun b hb => by unfold Mg; omega)) (fun j _ => y2.gi (by omega) j)
        exact outM_l (by rw [y2.gi (by omega)]; exact e4) q5
