/-! THE MODEL'S ANSWERS: what would be. -/
theorem QM.ask {Y : XS} {S T U : PS} {M : Nat → Prop} {A : EL} {H : List EL} {K : Option EL} {tp : List Nat} {fp : Int32} (h : QM Y S T A H K tp fp) (f : Fr M T U) (k : FG T U) (hm : ∀ b, M b → Mm b) (h1 : ¬ M 219) (h2 : ¬ M 220) (h3 : ¬ M 233) (hA : NV U A) : QM Y S U A H K tp fp :=
  ⟨h.1.fr f.2.1, h.2.1.fr f (fun j hj => k j (by omega)) h1 h2 h3 hA, h.2.2.tr (f.mono hm)⟩
theorem m_chosenBy {Y : XS} {n : Nat} {S : PS} {A : EL} {r : Nat} (hn : 10000 ≤ n) (hM : MSt Y S) (h : NV S A) (hr : r < 9) :
    ok (fX11_chosenBy Y n S 215 (nI r)) (fun q => q.1 = nI (chB A r) ∧ Fr Mg S q.2 ∧ FG S q.2 ∧ chB A r < 4096) := by
  unfold fX11_chosenBy
  refine ok_kc (m_goes hn hM h hr) ?_
  rintro T ⟨t1, t2, t3⟩
  rw [kgi_n, t3.2.1.2.1]
  exact ok_i ⟨rfl, t1, t2, t3.lt h.ew⟩
theorem m_chosenWith {Y : XS} {n : Nat} {S : PS} {A' : EL} {r k : Nat} {x : Int32} (hn : 10000 ≤ n) (hM : MSt Y S) (hk : k < 877) (hA : NV (si S 216 k x) A') (hr : r < 9) :
    ok (fX11_chosenWith Y n S 215 (nI r) (nI k) x) (fun q => q.1 = nI (chB A' r) ∧ Fr Mg S q.2 ∧ FG S q.2 ∧ chB A' r < 4096) := by
  have l := hM.2.2.2.1.1
  unfold fX11_chosenWith
  rw [kgr_n hM.1.1, kai_n (by omega) (by omega), kgr_n hM.1.1, kwi_n (by omega) (by omega)]
  have f1 : Fr (fun x => x = 216) S (si S 216 k x) := Fr.rf.si rfl
  refine ok_kc (m_chosenBy hn (hM.fr f1.2.1) hA hr) ?_
  rintro ⟨q1, T⟩ ⟨t1, t2, t3, t4⟩
  simp only at t1 t2 t3
  subst t1
  have hMT : MSt Y T := (hM.fr f1.2.1).fr t2.2.1
  dsimp only
  rw [kgr_n hMT.1.1, kwi_n (by omega) (by omega)]
  refine ok_i ⟨rfl, ⟨fun b hb => ?_, ?_, fun b hb => ?_⟩, fun j hj => ?_, t4⟩
  · exact t2.1 b hb
  · exact t2.2.1
  · by_cases e : b = 216
    · subst e
      funext j
      show gi (si T 216 k (gi S 216 k)) 216 j = gi S 216 j
      by_cases e2 : j = k
      · subst e2
        exact Gp
      · rw [Gn (by omega), t2.gi (by unfold Mg; omega), Gn (by omega)]
    · funext j
      show gi (si T 216 k (gi S 216 k)) b j = gi S b j
      rw [Gn (by omega), t2.gi hb, Gn (by omega)]
  · dsimp only
    rw [Gn (by omega), t3 j hj, Gn (by omega)]
theorem m_back2 {S T U : PS} (h : ∀ j, j < 877 → gi U 216 j = gi T 218 j) (k : ∀ j, j < 877 → gi T 218 j = gi S 216 j) {A : EL} (hA : NV S A) : NV U A := RV.mv hA (fun j hj => by rw [Nat.zero_add]; exact (h j hj).trans (k j hj))
theorem m_away {Y : XS} {n : Nat} {S : PS} {A : EL} {H : List EL} {K : Option EL} {tp : List Nat} {fp : Int32} {x y : Int32} (hn : 10000 ≤ n) (hM : MSt Y S) (hV : MVs S A H K tp fp) :
    ok (fX11_away Y n S 215 x y) (outM (fun T => QM Y S T A H K tp fp) (aAway A x y)) := by
  have a7 := hV.1.ew
  have b2 := a7.2.2.1
  obtain ⟨l1, l2, l3, l4, l5⟩ := hM.2.2.2.1
  unfold fX11_away jX11_away_20
  rw [kpi_n]
  obtain ⟨q2, e7⟩ := m_start hM hV
  generalize si S 215 7 0 = S2 at *
  rw [m_isRule, kc_s, m_isVoter q2.1 q2.2.1.1, kc_s]
  unfold aAway
  cases hx : ix x 9 with
  | none =>
    rw [ibN]
    exact m_fail1 q2
  | some r =>
    obtain ⟨rfl, hr⟩ := ix_some (by decide) hx
    rw [ibS]
    cases hy : ix y (eV A) with
    | none =>
      rw [ibN]
      exact m_fail1 q2
    | some v =>
      obtain ⟨rfl, hv⟩ := ix_some (by omega) hy
      rw [ibS]
      dsimp only
      rw [kgr_n q2.1.1.2.2.1, kgr_n q2.1.1.1]
      refine ok_kc (m_copy hn (by decide) l3 l1) ?_
      rintro T ⟨t1, t2⟩
      have hT : NV T A := q2.2.1.1.fr t1 (by omega)
      refine ok_kc (m_removeVoter hn (q2.1.fr t1.2.1) hT hv) ?_
      rintro U ⟨u1, u2⟩
      have hMU : MSt Y U := (q2.1.fr t1.2.1).fr u1.2.1
      refine ok_kc (m_chosenBy hn hMU u2 hr) ?_
      rintro ⟨w0, W⟩ ⟨w1, w2, w3, w4⟩
      simp only at w1 w2 w3
      subst w1
      have hMW : MSt Y W := hMU.fr w2.2.1
      dsimp only
      rw [kgr_n hMW.1.1, kgr_n hMW.1.2.2.1]
      refine ok_kc (m_copy hn (by decide) l1 l3) ?_
      rintro X ⟨x1, x2⟩
      have fX : Fr (fun b => Mg b ∨ b = 216 ∨ b = 218) S2 X := (((t1.mono (fun b hb => by omega)).tr (u1.mono (fun b hb => by omega))).tr (w2.mono (fun b hb => Or.inl hb))).tr (x1.mono (fun b hb => by omega))
      have kX : FG S2 X := fun j hj => by rw [x1.gi (by omega), w3 j hj, u1.gi (by omega), t1.gi (by omega)]
      have q3 : QM Y S X A H K tp fp := q2.ask fX kX (fun b hb => by unfold Mg at hb; unfold Mm; omega) (by unfold Mg; omega) (by unfold Mg; omega) (by unfold Mg; omega) (m_back2 x2 (fun j hj => by rw [w2.gi (by unfold Mg; omega), u1.gi (by omega)]; exact t2 j hj) q2.2.1.1)
      exact outM_l (by rw [kX 7 (by omega)]; exact e7) q3
theorem m_tried {Y : XS} {n : Nat} {S : PS} {A A' : EL} {H : List EL} {K : Option EL} {tp : List Nat} {fp : Int32} {r k : Nat} {x : Int32} (hn : 10000 ≤ n) (q : QM Y S S A H K tp fp) (h7 : gi S 215 7 = nI 0) (hk : k < 877) (hA : NV (si S 216 k x) A') (hr : r < 9) :
    ok (fX11_chosenWith Y n S 215 (nI r) (nI k) x) (fun z => z.1 = nI (chB A' r) ∧ chB A' r < 4096 ∧ QM Y S z.2 A H K tp fp ∧ gi z.2 215 7 = nI 0) := by
  refine ok_mono (m_chosenWith hn q.1 hk hA hr) ?_
  rintro ⟨z1, T⟩ ⟨t1, t2, t3, t4⟩
  exact ⟨t1, t4, q.goes t2 t3, by rw [t3 7 (by omega)]; exact h7⟩
theorem QM.from {Y : XS} {S T : PS} {A : EL} {H : List EL} {K : Option EL} {tp : List Nat} {fp : Int32} (h : QM Y S T A H K tp fp) : QM Y T T A H K tp fp := ⟨h.1, h.2.1, Fr.rf⟩
theorem QM.tr {Y : XS} {S T U : PS} {A A' : EL} {H H' : List EL} {K K' : Option EL} {tp tp' : List Nat} {fp fp' : Int32} (h : QM Y S T A H K tp fp) (k : QM Y T U A' H' K' tp' fp') : QM Y S U A' H' K' tp' fp' := ⟨k.1, k.2.1, h.2.2.tr k.2.2⟩
theorem m_with {Y : XS} {n : Nat} {S : PS} {A : EL} {H : List EL} {K : Option EL} {tp : List Nat} {fp : Int32} {x y : Int32} (hn : 10000 ≤ n) (hM : MSt Y S) (hV : MVs S A H K tp fp) :
    ok (fX11_with Y n S 215 x y) (outM (fun T => QM Y S T A H K tp fp) (aWith A x y)) := by
  unfold fX11_with
  rw [m_isRule, kc_s, miB, kc_s]
  unfold aWith
  have bad : ∀ k, 0 < k → k < 3 → ok (jX11_with_28 Y n S 215 x y (nI k) 215) (outM (fun T => QM Y S T A H K tp fp) (.inr k)) := by
    intro k k0 k3
    unfold jX11_with_28 jX11_with_49
    rw [kpi_n, kgi_n, Gp, if_neg (nI_nle k0 (by omega))]
    exact ok_i ⟨Gp, (QM.rf hM hV).set (by decide)⟩
  cases hx : ix x 9 with
  | none =>
    rw [ibN]
    exact bad 1 (by decide) (by decide)
  | some r =>
    obtain ⟨rfl, hr⟩ := ix_some (by decide) hx
    rw [ibS]
    dsimp only
    cases hy : ix y 100000 with
    | none =>
      rw [ibN]
      exact bad 2 (by decide) (by decide)
    | some m =>
      obtain ⟨rfl, hm⟩ := ix_some (by decide) hy
      rw [ibS]
      unfold jX11_with_28 jX11_with_49
      rw [kpi_n, kgi_n, Gp, if_pos (by decide)]
      obtain ⟨q2, e7⟩ := m_start hM hV
      generalize si S 215 7 0 = S2 at *
      refine ok_kc (m_tried (k := 0) hn q2.from e7 (by decide) (q2.2.1.1.setM (by omega)) hr) ?_
      rintro ⟨z1, T⟩ ⟨t1, t2, t3, t4⟩
      simp only at t1 t3 t4
      subst t1
      exact outM_l t4 (q2.tr t3)
theorem m_voting {Y : XS} {n : Nat} {S : PS} {A : EL} {H : List EL} {K : Option EL} {tp : List Nat} {fp : Int32} {x y z w : Int32} (hn : 10000 ≤ n) (hM : MSt Y S) (hV : MVs S A H K tp fp) :
    ok (fX11_voting Y n S 215 x y z w) (outM (fun T => QM Y S T A H K tp fp) (aVoting A x y z w)) := by
  have a7 := hV.1.ew
  have b1 := a7.2.1
  have b2 := a7.2.2.1
  unfold fX11_voting jX11_voting_24
  rw [m_isRule, kc_s, m_isVoter hM hV.1, kc_s, m_isProject hM hV.1, kc_s, mi9, kc_s]
  unfold aVoting
  have bad : ∀ k, 0 < k → k < 3 → ok (jX11_voting_44 Y n S 215 x y z w (nI k) 215) (outM (fun T => QM Y S T A H K tp fp) (.inr k)) := by
    intro k k0 k3
    unfold jX11_voting_44 jX11_voting_70
    rw [kpi_n, kgi_n, Gp, if_neg (nI_nle k0 (by omega))]
    exact ok_i ⟨Gp, (QM.rf hM hV).set (by decide)⟩
  cases hx : ix x 9 with
  | none =>
    rw [ibN]
    exact bad 1 (by decide) (by decide)
  | some r =>
    obtain ⟨rfl, hr⟩ := ix_some (by decide) hx
    rw [ibS]
    cases hy : ix y (eV A) with
    | none =>
      rw [ibN]
      exact bad 1 (by decide) (by decide)
    | some v =>
      obtain ⟨rfl, hv⟩ := ix_some (by omega) hy
      rw [ibS]
      cases hz : ix z (eP A) with
      | none =>
        rw [ibN]
        exact bad 1 (by decide) (by decide)
      | some q =>
        obtain ⟨rfl, hq⟩ := ix_some (by omega) hz
        rw [ibS]
        dsimp only
        cases hw : ix w 10 with
        | none =>
          rw [ibN]
          exact bad 2 (by decide) (by decide)
        | some s =>
          obtain ⟨rfl, hs⟩ := ix_some (by decide) hw
          rw [ibS]
          unfold jX11_voting_44 jX11_voting_70
          rw [kpi_n, kgi_n, Gp, if_pos (by decide)]
          obtain ⟨q2, e7⟩ := m_start hM hV
          generalize si S 215 7 0 = S2 at *
          rw [m_scoreAt, kc_s]
          refine ok_kc (m_tried hn q2.from e7 (by omega) (q2.2.1.1.setS hq hv (by omega)) hr) ?_
          rintro ⟨z1, T⟩ ⟨t1, t2, t3, t4⟩
          simp only at t1 t3 t4
          subst t1
          exact outM_l t4 (q2.tr t3)
theorem m_discount {Y : XS} {n : Nat} {S : PS} {A : EL} {H : List EL} {K : Option EL} {tp : List Nat} {fp : Int32} {x y : Int32} (hn : 10000 ≤ n) (hM : MSt Y S) (hV : MVs S A H K tp fp) :
    ok (fX11_discount Y n S 215 x y) (outM (fun T => QM Y S T A H K tp fp) (aDiscount A x y)) := by
  have a7 := hV.1.ew
  have b1 := a7.2.1
  unfold fX11_discount jX11_discount_20
  rw [kpi_n]
  obtain ⟨q2, e7⟩ := m_start hM hV
  generalize si S 215 7 0 = S2 at *
  rw [m_isRule, kc_s, m_isProject q2.1 q2.2.1.1, kc_s]
  unfold aDiscount
  cases hx : ix x 9 with
  | none =>
    rw [ibN]
    exact m_fail1 q2
  | some r =>
    obtain ⟨rfl, hr⟩ := ix_some (by decide) hx
    rw [ibS]
    cases hy : ix y (eP A) with
    | none =>
      rw [ibN]
      exact m_fail1 q2
    | some q =>
      obtain ⟨rfl, hq⟩ := ix_some (by omega) hy
      have c1 := a7.2.2.2.1 q hq
      rw [ibS, m_costOf q2.1 q2.2.1.1 hq, kc_s]
      dsimp only
      refine ok_kc (P := fun z => ∃ T, QM Y S T A H K tp fp ∧ gi T 215 7 = nI 0 ∧ ((z = .inl T ∧ dsc A r q = none) ∨ ∃ t, z = .inr (nI t, T) ∧ dsc A r q = some t)) (iter_ok (fun i t => t.1 = nI i ∧ QM Y S t.2 A H K tp fp ∧ gi t.2 215 7 = nI 0 ∧ ∀ j, j < i → (chB (aC A q (dct (eC A q) j)) r).testBit q = false) 10 (fun i t hi h1 => ?_) (fun t h1 => ?_) (by omega) ⟨rfl, q2, e7, fun j hj => absurd hj (Nat.not_lt_zero _)⟩) ?_
      · obtain ⟨t1, T⟩ := t
        obtain ⟨k1, k2, k3, k4⟩ := h1
        simp only at k1 k2 k3
        subst k1
        have cm : eC A q * (10 - i) ≤ 9999 * 10 := Nat.mul_le_mul c1.2 (by omega)
        unfold bX11_discount_35 kidiv
        dsimp only
        rw [show (10 : Int32) = nI 10 from rfl, i_le (by omega) (by omega), if_neg (by omega), if_neg (by decide), nsub (by omega), nmul, ndiv (by omega) (by decide), show (3 : Int32) = nI 3 from rfl, nI_add, show imax 1 (nI (eC A q * (10 - i) / 10)) = nI (dct (eC A q) i) from nmax (a := 1) (by decide) (by omega)]
        refine ok_kc (m_tried hn k2.from k3 (by omega) (k2.2.1.1.setC hq (dct_ok c1.2)) hr) ?_
        rintro ⟨z1, U⟩ ⟨u1, u2, u3, u4⟩
        simp only at u1 u3 u4
        subst u1
        dsimp only
        rw [m_isOf (by omega) (by omega), kc_s]
        by_cases c : (chB (aC A q (dct (eC A q) i)) r).testBit q = true
        · rw [if_pos c, if_neg (by decide), ok_some, so_r]
          refine ⟨U, k2.tr u3, u4, Or.inr ⟨i, rfl, ?_⟩⟩
          have := fsf_first (f := fun t => (chB (aC A q (dct (eC A q) t)) r).testBit q) k4 c (9 - i)
          rw [show i + 1 + (9 - i) = 10 by omega] at this
          exact this
        · rw [if_neg c, if_pos rfl, show (1 : Int32) = nI 1 from rfl, nI_add, ok_some, so_l]
          refine ⟨rfl, k2.tr u3, u4, fun j hj => ?_⟩
          by_cases e : j = i
          · subst e
            simpa using c
          · exact k4 j (by omega)
      · obtain ⟨t1, T⟩ := t
        obtain ⟨k1, k2, k3, k4⟩ := h1
        simp only at k1 k2 k3
        subst k1
        unfold bX11_discount_35
        dsimp only
        rw [show (10 : Int32) = nI 10 from rfl, i_le (by omega) (by omega), if_pos (by omega), ok_some, so_r]
        exact ⟨T, k2, k3, Or.inl ⟨rfl, fsf_none k4⟩⟩
      · rintro z ⟨T, k2, k3, e⟩
        rcases e with ⟨rfl, e⟩ | ⟨t, rfl, e⟩
        · rw [e]
          exact outM_l k3 k2
        · rw [e]
          exact outM_l k3 k2
