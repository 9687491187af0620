/-! THE MODEL'S ANSWERS: groups. -/
theorem m_isGroup {Y : XS} {n : Nat} {S : PS} {A : EL} {x : Int32} (hM : MSt Y S) (h : NV S A) : fX11_isGroup Y n S 215 x = some (if (gx x (eP A)).isSome = true then 1 else 0) := by
  have b1 := h.ew.2.1
  have hP2 : 2 ^ eP A ≤ 4096 := p12 b1
  have hP1 : 0 < 2 ^ eP A := Nat.two_pow_pos _
  unfold fX11_isGroup
  rw [m_many hM h, kc_s, n2m (by omega)]
  have key : fX11_isIn Y n S x 1 (nI (2 ^ eP A - 1)) = some (if (gx x (eP A)).isSome = true then 1 else 0) := by
    unfold fX11_isIn jX11_isIn_14 jX11_isIn_15 kzr gx
    rw [if_pos (Or.inl rfl), if_pos (Or.inr rfl)]
    by_cases h1 : x < 1
    · rw [if_pos h1, if_pos h1]; rfl
    · rw [if_neg h1, if_neg h1]
      have hx : ¬ x < 0 := by
        rw [Int32.not_lt] at *
        rw [Int32.le_iff_toInt_le] at *
        have e1 : (1 : Int32).toInt = 1 := rfl
        have e0 : (0 : Int32).toInt = 0 := rfl
        omega
      obtain ⟨j, j1, rfl⟩ := nI_of hx
      rw [i_lt (by omega) (by omega), i_le (by omega) (by omega)]
      by_cases h2 : 2 ^ eP A - 1 < j
      · rw [if_pos h2, if_pos (show 2 ^ eP A ≤ j by omega)]; rfl
      · rw [if_neg h2, if_neg (show ¬ 2 ^ eP A ≤ j by omega)]; rfl
  rw [key, kc_s, kzr_b]
theorem m_group {Y : XS} {n : Nat} {S : PS} {A : EL} {H : List EL} {K : Option EL} {tp : List Nat} {fp : Int32} {x y : Int32} (hn : 10000 ≤ n) (hM : MSt Y S) (hV : MVs S A H K tp fp) :
    ok (fX11_group Y n S 215 x y) (outM (fun T => QM Y S T A H K tp fp) (aGroup A x y)) := by
  have a7 := hV.1.ew
  have b1 := a7.2.1
  have hP2 : 2 ^ eP A ≤ 4096 := p12 b1
  unfold fX11_group jX11_group_22 jX11_group_84
  rw [kpi_n]
  obtain ⟨q2, e7⟩ := m_start hM hV
  generalize si S 215 7 0 = S2 at *
  rw [m_isGroup q2.1 q2.2.1.1, kc_s, mi3, kc_s]
  unfold aGroup
  cases hx : gx x (eP A) with
  | none =>
    rw [ibN]
    exact m_fail1 q2
  | some s =>
    obtain ⟨rfl, hs0, hs⟩ := gx_some b1 hx
    rw [ibS]
    cases hy : ix y 4 with
    | none =>
      rw [ibN]
      exact m_fail1 q2
    | some w =>
      obtain ⟨rfl, hw⟩ := ix_some (by decide) hy
      rw [ibS]
      dsimp only
      refine ok_kc (m_layWorths hn q2.1 q2.2.1.1) ?_
      rintro T ⟨t1, t2, t3⟩
      have q3 : QM Y S T A H K tp fp := q2.goes (t1.mono (fun b hb => by unfold Mg; omega)) t2.g
      have e3 : gi T 215 7 = nI 0 := by rw [t2 7 (by omega)]; exact e7
      have hM3 := q3.1
      have h3 := q3.2.1.1
      rw [m_membersOf (by omega) hM3 h3 t3 (by omega), kc_s]
      have c4 : w = 0 ∨ w = 1 ∨ w = 2 ∨ w = 3 := by omega
      rcases c4 with rfl | rfl | rfl | rfl
      · rw [if_pos (by decide), if_pos rfl]
        exact outM_l e3 q3
      · rw [if_neg (by decide), if_pos (by decide), if_neg (by decide), if_pos rfl, s_bitsOf (by omega) (show mb A s < 16777216 from mb_lt a7 s _), kc_s]
        exact outM_l e3 q3
      · rw [if_neg (by decide), if_neg (by decide), if_pos (by decide), if_neg (by decide), if_neg (by decide), if_pos rfl, m_costsOf (by omega) hM3 h3 (by omega), kc_s]
        exact outM_l e3 q3
      · rw [if_neg (by decide), if_neg (by decide), if_neg (by decide), if_neg (by decide), if_neg (by decide), if_neg (by decide), m_isDue (by omega) hM3 h3 t3 (by omega), kc_s]
        by_cases d : dueG A s = true
        · rw [if_pos d, if_neg (by decide), if_pos d]
          exact outM_l e3 q3
        · rw [if_neg d, if_pos rfl, if_neg d]
          exact outM_l e3 q3
theorem m_isServed {Y : XS} {n : Nat} {S : PS} {A : EL} {H : List EL} {K : Option EL} {tp : List Nat} {fp : Int32} {x y z : Int32} (hn : 10000 ≤ n) (hz : z = 0 ∨ z = 1) (hM : MSt Y S) (hV : MVs S A H K tp fp) :
    ok (fX11_isServed Y n S 215 x y z) (outM (fun T => QM Y S T A H K tp fp) (aIsServed A x y z)) := by
  have a7 := hV.1.ew
  have b1 := a7.2.1
  have hP2 : 2 ^ eP A ≤ 4096 := p12 b1
  have bad : ok (jX11_isServed_16 Y n S 215 x y z 215) (outM (fun T => QM Y S T A H K tp fp) (.inr 1)) := by
    unfold jX11_isServed_16 jX11_isServed_21
    rw [kpi_n, kgi_n, Gp, if_neg (by decide)]
    unfold kzr
    rw [if_pos (Or.inl rfl)]
    exact ok_i ⟨Gp, (QM.rf hM hV).set (by decide)⟩
  unfold fX11_isServed
  rw [m_isGroup hM hV.1, kc_s, m_isRule, kc_s]
  unfold aIsServed
  cases hx : gx x (eP A) with
  | none =>
    rw [ibN]
    exact bad
  | some s =>
    obtain ⟨rfl, hs0, hs⟩ := gx_some b1 hx
    rw [ibS]
    cases hy : ix y 9 with
    | none =>
      rw [ibN]
      exact bad
    | some r =>
      obtain ⟨rfl, hr⟩ := ix_some (by decide) hy
      rw [ibS]
      dsimp only
      unfold jX11_isServed_21
      rw [kpi_n, kgi_n, Gp, if_pos (by decide)]
      obtain ⟨q2, e7⟩ := m_start hM hV
      generalize si S 215 7 0 = S2 at *
      refine ok_kc (m_ruled hn q2 hr e7) ?_
      rintro T ⟨q3, e3, m3⟩
      have lt := m3.lt a7
      have ez : z = (if decide (z ≠ 0) = true then 1 else 0) := by
        rcases hz with rfl | rfl <;> rfl
      have sv := m_serves (Y := Y) (n := n) (s := s) (nr := decide (z ≠ 0)) (by omega) q3.1 q3.2.1.1 m3.1 (by omega) m3.2.1.2.1 (by omega)
      rw [← ez] at sv
      rw [sv, kc_s, kzr_b]
      exact outM_l e3 q3
/-- the groups that are counted -/
noncomputable def gp (A : EL) (B w s : Nat) : Bool := if w = 0 then gf0 A s else gf1 A B s (decide (w % 2 = 0))
theorem gp_s {A : EL} {B w s : Nat} (hs : 0 < s) : gp A B w s = (dueG A s && !(decide (0 < w) && srv A B s (decide (w % 2 = 0)))) := by
  unfold gp gf0 gf1
  by_cases c : w = 0
  · rw [if_pos c, decide_eq_true hs, decide_eq_false (show ¬ 0 < w by omega)]
    simp
  · rw [if_neg c, decide_eq_true hs, decide_eq_true (show 0 < w by omega)]
    simp
theorem m_groups {Y : XS} {n : Nat} {S : PS} {A : EL} {H : List EL} {K : Option EL} {tp : List Nat} {fp : Int32} {x y : Int32} (hn : 10000 ≤ n) (hM : MSt Y S) (hV : MVs S A H K tp fp) :
    ok (fX11_groups Y n S 215 x y) (outM (fun T => QM Y S T A H K tp fp) (aGroups A x y)) := by
  have a7 := hV.1.ew
  have b1 := a7.2.1
  have hP2 : 2 ^ eP A ≤ 4096 := p12 b1
  have hP1 : 0 < 2 ^ eP A := Nat.two_pow_pos _
  unfold fX11_groups jX11_groups_21 jX11_groups_117
  rw [kpi_n]
  obtain ⟨q2, e7⟩ := m_start hM hV
  generalize si S 215 7 0 = S2 at *
  rw [m_isRule, kc_s, mi4, kc_s]
  unfold aGroups
  cases hx : ix x 9 with
  | none =>
    rw [ibN]
    exact m_fail1 q2
  | some r =>
    obtain ⟨rfl, hr⟩ := ix_some (by decide) hx
    rw [ibS]
    cases hy : ix y 5 with
    | none =>
      rw [ibN]
      exact m_fail1 q2
    | some w =>
      obtain ⟨rfl, hw⟩ := ix_some (by decide) hy
      rw [ibS]
      dsimp only
      refine ok_kc (m_ruled hn q2 hr e7) ?_
      rintro T ⟨q3, e3, m3⟩
      have lt := m3.lt a7
      have hM3 := q3.1
      have h3 := q3.2.1.1
      generalize hB : lb (RLs A r) = B at *
      have e21 : gi T 215 21 = nI B := by rw [m3.2.1.2.1, hB]
      have key : iter (bX11_groups_40 Y n T 215 (nI w)) n ((0 : Int32), (-1 : Int32), (1 : Int32)) = some (nI (nK (gp A B w) (2 ^ eP A)), oI (fsf (gp A B w) (2 ^ eP A))) := by
        refine iter_from (fun i => (nI (nK (gp A B w) i), oI (fsf (gp A B w) i), nI i)) (2 ^ eP A) 1 hP1 (fun i hi1 hi => ?_) ?_ (by omega) ?_
        · have nl := nK_le (K := gp A B w) (V := i)
          have step : ∀ c : Bool, gp A B w i = c → (if c = true then jX11_groups_87_40 Y n T 215 (nI w) (nI (nK (gp A B w) i)) (oI (fsf (gp A B w) i)) (nI i) else jX11_groups_100_40 Y n T 215 (nI w) (nI (nK (gp A B w) i)) (oI (fsf (gp A B w) i)) (nI i)) = some (.inl (nI (nK (gp A B w) (i + 1)), oI (fsf (gp A B w) (i + 1)), nI (i + 1))) := by
            intro c hc
            unfold jX11_groups_87_40 jX11_groups_100_40
            rw [nK_s, fsf_s, hc, nI_1, nI_1]
            cases c with
            | false =>
              rw [if_neg (by decide), if_neg (by decide)]
              cases hf : fsf (gp A B w) i <;> rfl
            | true =>
              rw [if_pos rfl, if_pos rfl]
              cases hf : fsf (gp A B w) i with
              | none => rw [if_pos (show oI none = -1 from rfl)]; rfl
              | some o =>
                have := fsf_lt hf
                have hno : ¬ oI (some o) = -1 := by show ¬ nI o = m1; rw [nm1 (by omega)]; exact fun h => h
                rw [if_neg hno]
          unfold bX11_groups_40
          rw [m_many hM3 h3, kc_s]
          dsimp only
          rw [n2p (by omega), i_le (by omega) (by omega), if_neg (by omega), m_isDue (by omega) hM3 h3 m3.1 (by omega), kc_s]
          have eg := gp_s (A := A) (B := B) (w := w) (s := i) (by omega)
          by_cases d : dueG A i = true
          · rw [if_pos d, if_neg (by decide)]
            rw [d, Bool.true_and] at eg
            by_cases d2 : w = 0
            · subst d2
              rw [if_pos (by decide)]
              exact step true (by rw [eg]; rfl)
            · rw [if_neg (nI_nle (by omega) (by omega))]
              unfold kirem
              rw [if_neg (by decide), show (2 : Int32) = nI 2 from rfl, nmod (by omega) (by decide) (by decide)]
              rw [decide_eq_true (show 0 < w by omega), Bool.true_and] at eg
              have fin : ∀ nr : Bool, nr = decide (w % 2 = 0) → jX11_groups_78_40 Y n T 215 (nI w) (nI (nK (gp A B w) i)) (oI (fsf (gp A B w) i)) (nI i) (if nr = true then 1 else 0) (nI i) 215 = some (.inl (nI (nK (gp A B w) (i + 1)), oI (fsf (gp A B w) (i + 1)), nI (i + 1))) := by
                intro nr hnr
                subst hnr
                unfold jX11_groups_78_40
                rw [m_serves (by omega) hM3 h3 m3.1 (by omega) e21 (by omega), kc_s]
                by_cases d3 : srv A B i (decide (w % 2 = 0)) = true
                · rw [if_pos d3, if_neg (by decide)]
                  rw [d3] at eg
                  exact step false eg
                · rw [if_neg d3, if_pos rfl]
                  rw [(by simpa using d3 : srv A B i (decide (w % 2 = 0)) = false)] at eg
                  exact step true eg
              dsimp only
              by_cases d4 : w % 2 = 0
              · rw [d4, if_pos (by decide)]
                exact fin true (decide_eq_true d4).symm
              · rw [if_neg (nI_ne0 (by omega) (by omega))]
                exact fin false (decide_eq_false d4).symm
          · rw [if_neg d, if_pos rfl]
            rw [(by simpa using d : dueG A i = false), Bool.false_and] at eg
            exact step false eg
        · unfold bX11_groups_40
          rw [m_many hM3 h3, kc_s]
          dsimp only
          rw [n2p (by omega), i_le (by omega) (by omega), if_pos (Nat.le_refl _)]
        · have g0 : gp A B w 0 = false := by
            unfold gp gf0 gf1
            split <;> rfl
          have e1 : nK (gp A B w) 1 = 0 := by
            rw [nK_s, g0]
            rfl
          have e2 : fsf (gp A B w) 1 = none := by
            rw [fsf_s, g0]
            rfl
          rw [e1, e2]
          rfl
      rw [key, kc_s]
      have ew : ∀ w, 0 < w → gp A B w = fun s => gf1 A B s (decide (w % 2 = 0)) := by
        intro w hw
        funext s
        unfold gp
        rw [if_neg (by omega)]
      have e0 : gp A B 0 = gf0 A := by
        funext s
        rfl
      unfold gval
      have c5 : w = 0 ∨ w = 1 ∨ w = 2 ∨ w = 3 ∨ w = 4 := by omega
      rcases c5 with rfl | rfl | rfl | rfl | rfl
      · rw [if_pos (by decide), if_pos rfl, e0]
        exact outM_l e3 q3
      · rw [if_pos (by decide), if_neg (by decide), if_pos rfl, ew 1 (by decide)]
        exact outM_l e3 q3
      · rw [if_pos (by decide), if_neg (by decide), if_neg (by decide), if_pos rfl, ew 2 (by decide)]
        exact outM_l e3 q3
      · rw [if_neg (by decide), if_neg (by decide), if_neg (by decide), if_neg (by decide), if_pos rfl, ew 3 (by decide)]
        exact outM_l e3 q3
      · rw [if_neg (by decide), if_neg (by decide), if_neg (by decide), if_neg (by decide), if_neg (by decide), ew 4 (by decide)]
        exact outM_l e3 q3
