/-! THE MODEL'S ANSWERS: a vote held back; votes that push. -/
theorem rdf_inv {A : EL} {r v : Nat} : ∀ p, ((rdf A r v p).2 = none → (rdf A r v p).1 = 0) ∧ ∀ q, (rdf A r v p).2 = some q → 0 < eS A q v ∧ wt A v (chB (aS A v q 0) r) = wt A v (chB A r) + (rdf A r v p).1
  | 0 => ⟨fun _ => rfl, fun q e => (by cases e)⟩
  | p + 1 => by
    rw [rdf_s]
    split
    · next h =>
      refine ⟨fun e => (by cases e), fun q e => ?_⟩
      cases e
      exact ⟨h.1, by dsimp only; omega⟩
    · exact rdf_inv p
theorem m_bestHeld {Y : XS} {n : Nat} {S : PS} {A : EL} {v r : Nat} (hn : 10000 ≤ n) (hM : MSt Y S) (h : NV S A) (hW : MW S A) (hv : v < eV A) (hh : ∀ q, q < eP A → gi S 232 q = if 0 < eS A q v then nI (chB (aS A v q 0) r) else m1) (hc : ∀ q, q < eP A → chB (aS A v q 0) r < 4096) :
    fX11_bestHeld Y n S 215 (nI v) (nI (wt A v (chB A r))) = some (oI (rdf A r v (eP A)).2) := by
  have a7 := h.ew
  have b1 := a7.2.1
  have l6 := hM.2.2.2.2.2.2.2.2.2.2.1
  unfold fX11_bestHeld
  refine kc_run (fun i => (nI (wt A v (chB A r) + (rdf A r v i).1), oI (rdf A r v i).2, nI i)) (eP A) (fun i hi => ?_) ?_ (by omega) rfl rfl
  · have e := hh i hi
    have w1 := wt_le a7 v (chB A r)
    have w2 := wt_le a7 v (chB (aS A v i 0) r)
    have w3 := (rdf_le a7 r v i).1
    have c := hc i hi
    unfold bX11_bestHeld_8 jX11_bestHeld_64_8
    rw [m_many hM h, kc_s]
    dsimp only
    rw [i_le (by omega) (by omega), if_neg (by omega), kgr_n hM.2.2.1.2.2.2.2.2.1, kai_n (by omega) (by omega), kgr_n hM.2.2.1.2.2.2.2.2.1, kai_n (by omega) (by omega), e, mm1, rdf_s, nI_1]
    by_cases d : 0 < eS A i v
    · rw [if_pos d, if_neg (by rw [nm1 (by omega)]; exact fun e => e), m_worthTo (by omega) hM h hW hv (by omega), kc_s, i_lt (by omega) (by omega)]
      by_cases d2 : wt A v (chB A r) + (rdf A r v i).1 < wt A v (chB (aS A v i 0) r)
      · rw [if_pos d2, if_pos ⟨d, d2⟩, kgr_n hM.2.2.1.2.2.2.2.2.1, kai_n (by omega) (by omega), e, if_pos d, m_worthTo (by omega) hM h hW hv (by omega), kc_s, show wt A v (chB A r) + (wt A v (chB (aS A v i 0) r) - wt A v (chB A r)) = wt A v (chB (aS A v i 0) r) by omega]
        rfl
      · rw [if_neg d2, if_neg (fun z => d2 z.2)]
    · rw [if_neg d, if_pos rfl, if_neg (fun z => d z.1)]
  · unfold bX11_bestHeld_8
    rw [m_many hM h, kc_s]
    dsimp only
    rw [i_le (by omega) (by omega), if_pos (by omega)]
def Mh (x : Nat) : Prop := Mg x ∨ x = 232
theorem m_ride {Y : XS} {n : Nat} {S : PS} {A : EL} {H : List EL} {K : Option EL} {tp : List Nat} {fp : Int32} {x y z : Int32} (hn : 10000 ≤ n) (hM : MSt Y S) (hV : MVs S A H K tp fp) :
    ok (fX11_ride Y n S 215 x y z) (outM (fun T => QM Y S T A H K tp fp) (aRide A x y z)) := by
  have a7 := hV.1.ew
  have b1 := a7.2.1
  have b2 := a7.2.2.1
  have l6 := hM.2.2.2.2.2.2.2.2.2.2.1
  unfold fX11_ride jX11_ride_29 jX11_ride_149
  rw [kpi_n]
  obtain ⟨q2, e7⟩ := m_start hM hV
  generalize si S 215 7 0 = S2 at *
  rw [m_isRule, kc_s, m_isVoter q2.1 q2.2.1.1, kc_s, mi1, kc_s]
  unfold aRide
  cases hx : ix x 9 with
  | none =>
    rw [ibN]
    exact m_fail1 q2
  | some r =>
    obtain ⟨rfl, hr⟩ := ix_some (by decide) hx
    rw [ibS]
    cases hy : ix y (eV A) with
    | none =>
      rw [ibN]
      exact m_fail1 q2
    | some v =>
      obtain ⟨rfl, hv⟩ := ix_some (by omega) hy
      rw [ibS]
      cases hz : ix z 2 with
      | none =>
        rw [ibN]
        exact m_fail1 q2
      | some w =>
        obtain ⟨rfl, hw⟩ := ix_some (by decide) hz
        rw [ibS]
        dsimp only
        have mv : ∀ T, Fr Mh S2 T → FG S2 T → QM Y S T A H K tp fp := fun T f k => q2.ask f k (fun b hb => by unfold Mh Mg at hb; unfold Mm; omega) (by unfold Mh Mg; omega) (by unfold Mh Mg; omega) (by unfold Mh Mg; omega) (q2.2.1.1.fr f (by unfold Mh Mg; omega))
        refine ok_kc (P := fun T => Fr Mh S2 T ∧ FG S2 T ∧ ∀ q, q < eP A → (gi T 232 q = if 0 < eS A q v then nI (chB (aS A v q 0) r) else m1) ∧ (chB (aS A v q 0) r < 4096 ∨ eS A q v = 0)) (iter_ok (fun i t => t.1 = nI i ∧ Fr Mh S2 t.2 ∧ FG S2 t.2 ∧ ∀ q, q < i → (gi t.2 232 q = if 0 < eS A q v then nI (chB (aS A v q 0) r) else m1) ∧ (chB (aS A v q 0) r < 4096 ∨ eS A q v = 0)) (eP A) (fun i t hi h1 => ?_) (fun t h1 => ?_) (by omega) ⟨rfl, Fr.rf, FG.rf, fun q hq => absurd hq (Nat.not_lt_zero _)⟩) ?_
        · obtain ⟨t1, T⟩ := t
          obtain ⟨k1, k2, k3, k4⟩ := h1
          simp only at k1 k2 k3 k4
          subst k1
          have qT := mv T k2 k3
          have hs9 := a7.2.2.2.2 i v hi hv
          unfold bX11_ride_38 jX11_ride_79_38
          dsimp only
          rw [m_many qT.1 qT.2.1.1, kc_s, i_le (by omega) (by omega), if_neg (by omega), kgr_n qT.1.2.2.1.2.2.2.2.2.1, m_scoreOf qT.1 qT.2.1.1 hv hi, kc_s, show (0 : Int32) = nI 0 from rfl, i_le (by omega) (by omega)]
          by_cases d : eS A i v ≤ 0
          · rw [if_pos d, kwi_n (by omega) (by omega), nI_1, ok_some, so_l]
            refine ⟨rfl, k2.si (Or.inr rfl), fun j hj => ?_, fun q hq => ?_⟩
            · dsimp only
              rw [Gn (by omega)]
              exact k3 j hj
            · dsimp only
              by_cases e : q = i
              · subst e
                rw [Gp, if_neg (by omega)]
                exact ⟨rfl, Or.inr (by omega)⟩
              · rw [Gn (by omega)]
                exact k4 q (by omega)
          · rw [if_neg d, m_scoreAt, kc_s]
            refine ok_kc (m_chosenWith hn qT.1 (by omega) (qT.2.1.1.setS hi hv (x := 0) (by decide)) hr) ?_
            rintro ⟨z1, U⟩ ⟨u1, u2, u3, u4⟩
            simp only at u1 u2 u3
            subst u1
            dsimp only
            rw [kwi_n (by omega) (by omega), nI_1, ok_some, so_l]
            refine ⟨rfl, (k2.tr (u2.mono (fun b hb => Or.inl hb))).si (Or.inr rfl), fun j hj => ?_, fun q hq => ?_⟩
            · dsimp only
              rw [Gn (by omega), u3 j hj]
              exact k3 j hj
            · dsimp only
              by_cases e : q = i
              · subst e
                rw [Gp, if_pos (by omega)]
                exact ⟨rfl, Or.inl u4⟩
              · rw [Gn (by omega), u2.gi (by unfold Mg; omega)]
                exact k4 q (by omega)
        · obtain ⟨t1, T⟩ := t
          obtain ⟨k1, k2, k3, k4⟩ := h1
          simp only at k1 k2 k3 k4
          subst k1
          have qT := mv T k2 k3
          unfold bX11_ride_38
          dsimp only
          rw [m_many qT.1 qT.2.1.1, kc_s, i_le (by omega) (by omega), if_pos (by omega), ok_some, so_r]
          exact ⟨k2, k3, k4⟩
        · rintro T ⟨k2, k3, k4⟩
          have qT := mv T k2 k3
          refine ok_kc (m_chosenBy hn qT.1 qT.2.1.1 hr) ?_
          rintro ⟨z1, U⟩ ⟨u1, u2, u3, u4⟩
          simp only at u1 u2 u3
          subst u1
          dsimp only
          have qU := mv U (k2.tr (u2.mono (fun b hb => Or.inl hb))) (k3.tr u3)
          refine ok_kc (m_layWorths hn qU.1 qU.2.1.1) ?_
          rintro W ⟨w1, w2, w3⟩
          have fW : Fr Mh S2 W := (k2.tr (u2.mono (fun b hb => Or.inl hb))).tr (w1.mono (fun b hb => by unfold Mh Mg; omega))
          have kW : FG S2 W := (k3.tr u3).tr w2.g
          have qW := mv W fW kW
          have eW : gi W 215 7 = nI 0 := by rw [kW 7 (by omega)]; exact e7
          have hh : ∀ q, q < eP A → gi W 232 q = if 0 < eS A q v then nI (chB (aS A v q 0) r) else m1 := fun q hq => by rw [w1.gi (by omega), u2.gi (by unfold Mg; omega)]; exact (k4 q hq).1
          have wl := wt_le a7 v (chB A r)
          have rl := (rdf_le a7 r v (eP A)).1
          rw [m_worthTo (by omega) qW.1 qW.2.1.1 w3 hv (by omega), kc_s]
          have bh : fX11_bestHeld Y n W 215 (nI v) (nI (wt A v (chB A r))) = some (oI (rdf A r v (eP A)).2) := by
            by_cases ex : ∀ q, q < eP A → chB (aS A v q 0) r < 4096
            · exact m_bestHeld hn qW.1 qW.2.1.1 w3 hv hh ex
            · exfalso
              apply ex
              intro q hq
              rcases (k4 q hq).2 with e | e
              · exact e
              · have e1 : aS A v q 0 = A := by
                  unfold aS
                  have : (fun p u => if p = q ∧ u = v then 0 else eS A p u) = eS A := by
                    funext p u
                    by_cases c : p = q ∧ u = v
                    · rw [if_pos c, c.1, c.2, e]
                    · rw [if_neg c]
                  rw [this]
                  rfl
                rw [e1]
                exact u4
          rw [bh, kc_s]
          have c2 : w = 0 ∨ w = 1 := by omega
          rcases c2 with rfl | rfl
          · rw [if_neg (by decide), if_pos rfl]
            cases hb : (rdf A r v (eP A)).2 with
            | none =>
              rw [if_pos (show oI none = -1 from rfl), (rdf_inv (eP A)).1 hb]
              exact outM_l eW qW
            | some q =>
              have hq := (rdf_le a7 r v (eP A)).2 q hb
              obtain ⟨i1, i2⟩ := (rdf_inv (eP A)).2 q hb
              have hno : ¬ oI (some q) = -1 := by show ¬ nI q = m1; rw [nm1 (by omega)]; exact fun h => h
              have hcq : chB (aS A v q 0) r < 4096 := by
                rcases (k4 q hq).2 with e | e
                · exact e
                · omega
              rw [if_neg hno, oI_s, kgr_n qW.1.2.2.1.2.2.2.2.2.1, kai_n (by omega) (by omega), hh q hq, if_pos i1, m_worthTo (by omega) qW.1 qW.2.1.1 w3 hv (by omega), kc_s, kc_s, nsub (by omega), show wt A v (chB (aS A v q 0) r) - wt A v (chB A r) = (rdf A r v (eP A)).1 by omega]
              exact outM_l eW qW
          · rw [if_pos (by decide), if_neg (by decide)]
            exact outM_l eW qW
theorem pA_ew {A : EL} (h : EW A) (q k : Nat) : EW (pA A q k) := by
  refine ⟨h.1, h.2.1, h.2.2.1, h.2.2.2.1, fun p u hp hu => ?_⟩
  show (if p = q ∧ u < k ∧ eS A q u = 0 then 9 else eS A p u) ≤ 9
  split
  · exact Nat.le_refl _
  · exact h.2.2.2.2 p u hp hu
def Mu (x : Nat) : Prop := Mg x ∨ x = 216
theorem m_pushed {Y : XS} {n : Nat} {S : PS} {A : EL} {r q : Nat} (hn : 10000 ≤ n) (hM : MSt Y S) (h : NV S A) (hr : r < 9) (hq : q < eP A) :
    ok (fX11_pushed Y n S 215 (nI r) (nI q)) (fun z => z.1 = oI (psh A r q) ∧ Fr Mu S z.2 ∧ FG S z.2) := by
  have a7 := h.ew
  have b1 := a7.2.1
  have b2 := a7.2.2.1
  have l := hM.2.2.2.1.1
  unfold fX11_pushed
  refine ok_kc (m_chosenBy hn hM h hr) ?_
  rintro ⟨z1, T⟩ ⟨t1, t2, t3, t4⟩
  simp only at t1 t2 t3
  subst t1
  dsimp only
  have f1 : Fr Mu S T := t2.mono (fun b hb => Or.inl hb)
  rw [m_isOf (by omega) (by omega), kc_s]
  by_cases c : (chB A r).testBit q = true
  · rw [if_pos c, if_neg (by decide)]
    refine ok_i ⟨?_, f1, t3⟩
    unfold psh
    rw [if_pos c]
    rfl
  · rw [if_neg c, if_pos rfl]
    refine ok_kc (P := fun z => ∃ U, Fr Mu S U ∧ FG S U ∧ ((z = .inl U ∧ psh A r q = none) ∨ ∃ t, z = .inr (nI t, U) ∧ psh A r q = some t)) (iter_ok (fun i t => t.1 = nI (pz A q i) ∧ t.2.1 = nI i ∧ NV t.2.2 (pA A q i) ∧ Fr Mu S t.2.2 ∧ FG S t.2.2 ∧ ∀ u, u < i → decide (eS A q u = 0 ∧ (chB (pA A q (u + 1)) r).testBit q = true) = false) (eV A) (fun i t hi h1 => ?_) (fun t h1 => ?_) (by omega) ⟨rfl, rfl, by rw [pA_0]; exact h.fr t2 (by unfold Mg; omega), f1, t3, fun j hj => absurd hj (Nat.not_lt_zero _)⟩) ?_
    · obtain ⟨t1, t2', U⟩ := t
      obtain ⟨k1, k2, k3, k4, k5, k6⟩ := h1
      simp only at k1 k2 k3 k4 k5
      subst k1
      subst k2
      have hMU : MSt Y U := hM.fr k4.2.1
      have pzs : pz A q (i + 1) = pz A q i + if eS A q i = 0 then 1 else 0 := rfl
      have hs9 := a7.2.2.2.2 q i hq hi
      have es : eS (pA A q i) q i = eS A q i := by
        show (if q = q ∧ i < i ∧ eS A q i = 0 then 9 else eS A q i) = eS A q i
        rw [if_neg (by omega)]
      unfold bX11_pushed_19 jX11_pushed_71_19
      dsimp only
      rw [m_people hMU k3, kc_s]
      have eV' : eV (pA A q i) = eV A := rfl
      rw [eV', i_le (by omega) (by omega), if_neg (by omega), m_scoreOf hMU k3 (show i < eV (pA A q i) from hi) (show q < eP (pA A q i) from hq), kc_s, es, show (0 : Int32) = nI 0 from rfl, i_le (by omega) (by omega)]
      by_cases d : eS A q i ≤ 0
      · have d0 : eS A q i = 0 := by omega
        rw [if_pos d, kgr_n hMU.1.1, m_scoreAt, kc_s, show (9 : Int32) = nI 9 from rfl, kwi_n (by omega) (by omega)]
        have hA' : NV (si U 216 (87 + 12 * i + q) (nI 9)) (pA A q (i + 1)) := by
          rw [pA_set d0]
          exact k3.setS (show q < eP (pA A q i) from hq) (show i < eV (pA A q i) from hi) (by decide)
        have fU : Fr (fun x => x = 216) U (si U 216 (87 + 12 * i + q) (nI 9)) := Fr.rf.si rfl
        refine ok_kc (m_chosenBy hn (hMU.fr fU.2.1) hA' hr) ?_
        rintro ⟨z1, W⟩ ⟨w1, w2, w3, w4⟩
        simp only at w1 w2 w3
        subst w1
        dsimp only
        have fW : Fr Mu S W := (k4.tr (fU.mono (fun b hb => Or.inr hb))).tr (w2.mono (fun b hb => Or.inl hb))
        have kW : FG S W := (k5.tr (fun j _ => fU.gi (by omega) j)).tr w3
        rw [m_isOf (by omega) (by omega), kc_s, nI_1]
        by_cases d2 : (chB (pA A q (i + 1)) r).testBit q = true
        · rw [if_pos d2, if_neg (by decide), ok_some, so_r]
          refine ⟨W, fW, kW, Or.inr ⟨pz A q (i + 1), ?_, ?_⟩⟩
          · rw [pzs, if_pos d0]
          · unfold psh
            rw [if_neg c]
            have := fsf_first (f := fun v => decide (eS A q v = 0 ∧ (chB (pA A q (v + 1)) r).testBit q = true)) k6 (decide_eq_true ⟨d0, d2⟩) (eV A - (i + 1))
            rw [show i + 1 + (eV A - (i + 1)) = eV A by omega] at this
            rw [this]
            rfl
        · rw [if_neg d2, if_pos (show (0 : Int32) = nI 0 from rfl), nI_1, ok_some, so_l]
          refine ⟨by rw [pzs, if_pos d0], rfl, hA'.fr w2 (by unfold Mg; omega), fW, kW, fun u hu => ?_⟩
          by_cases e : u = i
          · subst e
            exact decide_eq_false (fun z => d2 z.2)
          · exact k6 u (by omega)
      · rw [if_neg d, nI_1, ok_some, so_l]
        refine ⟨by rw [pzs, if_neg (by omega)]; rfl, rfl, ?_, k4, k5, fun u hu => ?_⟩
        · rw [pA_keep (by omega)]
          exact k3
        · by_cases e : u = i
          · subst e
            exact decide_eq_false (fun z => by omega)
          · exact k6 u (by omega)
    · obtain ⟨t1, t2', U⟩ := t
      obtain ⟨k1, k2, k3, k4, k5, k6⟩ := h1
      simp only at k1 k2 k3 k4 k5
      subst k1
      subst k2
      have hMU : MSt Y U := hM.fr k4.2.1
      unfold bX11_pushed_19
      dsimp only
      rw [m_people hMU k3, kc_s]
      have eV' : eV (pA A q (eV A)) = eV A := rfl
      rw [eV', i_le (by omega) (by omega), if_pos (by omega), ok_some, so_r]
      refine ⟨U, k4, k5, Or.inl ⟨rfl, ?_⟩⟩
      unfold psh
      rw [if_neg c, fsf_none k6]
      rfl
    · rintro z ⟨U, k4, k5, e⟩
      rcases e with ⟨rfl, e⟩ | ⟨t, rfl, e⟩
      · refine ok_i ⟨?_, k4, k5⟩
        rw [e]
        rfl
      · refine ok_i ⟨?_, k4, k5⟩
        rw [e]
        rfl
theorem m_push {Y : XS} {n : Nat} {S : PS} {A : EL} {H : List EL} {K : Option EL} {tp : List Nat} {fp : Int32} {x y : Int32} (hn : 10000 ≤ n) (hM : MSt Y S) (hV : MVs S A H K tp fp) :
    ok (fX11_push Y n S 215 x y) (outM (fun T => QM Y S T A H K tp fp) (aPush A x y)) := by
  have a7 := hV.1.ew
  have b1 := a7.2.1
  obtain ⟨l1, l2, l3, l4, l5⟩ := hM.2.2.2.1
  unfold fX11_push jX11_push_20
  rw [kpi_n]
  obtain ⟨q2, e7⟩ := m_start hM hV
  generalize si S 215 7 0 = S2 at *
  rw [m_isRule, kc_s, m_isProject q2.1 q2.2.1.1, kc_s]
  unfold aPush
  cases hx : ix x 9 with
  | none =>
    rw [ibN]
    exact m_fail1 q2
  | some r =>
    obtain ⟨rfl, hr⟩ := ix_some (by decide) hx
    rw [ibS]
    cases hy : ix y (eP A) with
    | none =>
      rw [ibN]
      exact m_fail1 q2
    | some q =>
      obtain ⟨rfl, hq⟩ := ix_some (by omega) hy
      rw [ibS]
      dsimp only
      rw [kgr_n q2.1.1.2.2.1, kgr_n q2.1.1.1]
      refine ok_kc (m_copy hn (by decide) l3 l1) ?_
      rintro T ⟨t1, t2⟩
      have hT : NV T A := q2.2.1.1.fr t1 (by omega)
      refine ok_kc (m_pushed hn (q2.1.fr t1.2.1) hT hr hq) ?_
      rintro ⟨w0, W⟩ ⟨w1, w2, w3⟩
      simp only at w1 w2 w3
      subst w1
      have hMW : MSt Y W := (q2.1.fr t1.2.1).fr w2.2.1
      dsimp only
      rw [kgr_n hMW.1.1, kgr_n hMW.1.2.2.1]
      refine ok_kc (m_copy hn (by decide) l1 l3) ?_
      rintro X ⟨x1, x2⟩
      have fX : Fr (fun b => Mu b ∨ b = 218) S2 X := ((t1.mono (fun b hb => by omega)).tr (w2.mono (fun b hb => Or.inl hb))).tr (x1.mono (fun b hb => Or.inl (Or.inr hb)))
      have kX : FG S2 X := fun j hj => by rw [x1.gi (by omega), w3 j hj, t1.gi (by omega)]
      have q3 : QM Y S X A H K tp fp := q2.ask fX kX (fun b hb => by unfold Mu Mg at hb; unfold Mm; omega) (by unfold Mu Mg; omega) (by unfold Mu Mg; omega) (by unfold Mu Mg; omega) (m_back2 x2 (fun j hj => by rw [w2.gi (by unfold Mu Mg; omega)]; exact t2 j hj) q2.2.1.1)
      exact outM_l (by rw [kX 7 (by omega)]; exact e7) q3
