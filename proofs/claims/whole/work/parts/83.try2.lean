/-! TRIES: another budget, score, cost. -/
theorem EV.setM {Y : XS} {S : PS} {e m : Nat} {A : EL} (h : EV Y S e A) (he : e + 4 ≤ 235) (hm : m ≤ 99999) : EV Y (si S e 0 (nI m)) e (aM A m) := by
  obtain ⟨a0, a1, a2, a3, a4, a5, a6, a7⟩ := h
  have f : Fr (fun x => x = e) S (si S e 0 (nI m)) := Fr.rf.si rfl
  refine ⟨by rw [Gi_si, if_pos ⟨rfl, rfl⟩]; rfl, by rw [Gi_si, if_neg (by omega)]; exact a1, by rw [Gi_si, if_neg (by omega)]; exact a2, fun p hp => by rw [f.gi (by omega)]; exact a3 p hp, fun p k hp hk => by rw [f.gi (by omega)]; exact a4 p k hp hk, fun p v hp hv => by rw [f.gi (by omega)]; exact a5 p v hp hv, ?_, ⟨hm, a7.2⟩⟩
  rw [Gr_si]
  exact a6.mv (LH.fr f (by omega))
theorem EV.setC {Y : XS} {S : PS} {e q x : Nat} {A : EL} (h : EV Y S e A) (he : e + 4 ≤ 235) (hx : 1 ≤ x ∧ x ≤ 9999) : EV Y (si S (e + 1) q (nI x)) e (aC A q x) := by
  obtain ⟨a0, a1, a2, a3, a4, a5, a6, a7⟩ := h
  have f : Fr (fun y => y = e + 1) S (si S (e + 1) q (nI x)) := Fr.rf.si rfl
  refine ⟨by rw [f.gi (by omega)]; exact a0, by rw [f.gi (by omega)]; exact a1, by rw [f.gi (by omega)]; exact a2, fun p hp => ?_, fun p k hp hk => by rw [f.gi (by omega)]; exact a4 p k hp hk, fun p v hp hv => by rw [f.gi (by omega)]; exact a5 p v hp hv, ?_, a7.1, a7.2.1, a7.2.2.1, fun p hp => ?_, a7.2.2.2.2⟩
  · rw [Gi_si]
    show _ = nI (if p = q then x else eC A p)
    by_cases c : p = q
    · rw [if_pos ⟨rfl, c⟩, if_pos c]
    · rw [if_neg (fun z => c z.2), if_neg c]; exact a3 p hp
  · rw [Gr_si]
    exact a6.mv (LH.fr f (by omega))
  · show 1 ≤ (if p = q then x else eC A p) ∧ (if p = q then x else eC A p) ≤ 9999
    split
    · exact hx
    · exact a7.2.2.2.1 p hp
theorem EV.setS {Y : XS} {S : PS} {e v q x : Nat} {A : EL} (h : EV Y S e A) (he : e + 4 ≤ 235) (hq : q < eP A) (hv : v < eV A) (hx : x ≤ 9) : EV Y (si S (e + 3) (q * 24 + v) (nI x)) e (aS A v q x) := by
  obtain ⟨a0, a1, a2, a3, a4, a5, a6, a7⟩ := h
  have b2 := a7.2.2.1
  have f : Fr (fun y => y = e + 3) S (si S (e + 3) (q * 24 + v) (nI x)) := Fr.rf.si rfl
  refine ⟨by rw [f.gi (by omega)]; exact a0, by rw [f.gi (by omega)]; exact a1, by rw [f.gi (by omega)]; exact a2, fun p hp => by rw [f.gi (by omega)]; exact a3 p hp, fun p k hp hk => by rw [f.gi (by omega)]; exact a4 p k hp hk, fun p u hp hu => ?_, ?_, a7.1, a7.2.1, a7.2.2.1, a7.2.2.2.1, fun p u hp hu => ?_⟩
  · have hu' : u < eV A := hu
    rw [Gi_si]
    show _ = nI (if p = q ∧ u = v then x else eS A p u)
    by_cases c : p = q ∧ u = v
    · rw [if_pos ⟨rfl, by omega⟩, if_pos c]
    · rw [if_neg (by omega), if_neg c]; exact a5 p u hp hu'
  · rw [Gr_si]
    exact a6.mv (LH.fr f (by omega))
  · show (if p = q ∧ u = v then x else eS A p u) ≤ 9
    split
    · exact hx
    · exact a7.2.2.2.2 p u hp hu
/-- other projects stay what they are -/
theorem TQ.keep {S S' : PS} {p q' : Nat} {A A' : EL} (h : TQ S p A q') (hV : eV A' = eV A) (hS : ∀ v, eS A' q' v = eS A q' v) (hC : eC A' q' = eC A q') (hL : eL A' = eL A) (k5 : gi S' (p + 5) q' = gi S (p + 5) q') (k6 : gi S' (p + 6) q' = gi S (p + 6) q') (k7 : gi S' (p + 7) q' = gi S (p + 7) q') (k8 : ∀ v, v < eV A → gi S' (p + 8) (q' * 24 + v) = gi S (p + 8) (q' * 24 + v)) : TQ S' p A' q' := by
  have e1 : lk A' q' = lk A q' := by
    unfold lk
    rw [hV]
    exact sm_ext (fun v _ => by rw [hS v])
  have e2 : ∀ s, wS A' q' s = wS A q' s := by
    intro s
    unfold wS
    rw [hL, hC, e1, hV]
  have e3 : ∀ v, wo A' q' v = wo A q' v := by
    intro v
    unfold wo
    rw [hS v, e2]
  have e4 : al A' q' = al A q' := by
    unfold al
    rw [hV]
    exact sm_ext (fun v _ => e3 v)
  have e5 : fb A' q' = fb A q' := by
    unfold fb
    rw [hV]
    exact bs_ext (fun v _ => by rw [e3 v])
  obtain ⟨c1, c2, c3, c4⟩ := h
  refine ⟨by rw [k5, e1]; exact c1, by rw [k6, e4]; exact c2, by rw [k7, e5]; exact c3, fun v hv => ?_⟩
  rw [hV] at hv
  rw [k8 v hv, e3]
  exact c4 v hv
/-- one project of the trial is tallied anew -/
theorem s_retally {Y : XS} {n : Nat} {S S1 : PS} {q : Nat} {A A' : EL} (hn : 1000 ≤ n) (hC : CSt Y S1) (hA : PV Y S 21 A) (hf : Fr (fun x => 22 ≤ x ∧ x < 26) S S1) (hE : EV Y S1 22 A') (hq : q < eP A) (hP : eP A' = eP A) (hV : eV A' = eV A) (hL : eL A' = eL A) (hS : ∀ p, p ≠ q → ∀ v, eS A' p v = eS A p v) (hCo : ∀ p, p ≠ q → eC A' p = eC A p) :
    ok (fX6_tallyOne Y n S1 21 (nI q)) (fun S' => Fr (fun x => 22 ≤ x ∧ x < 32) S S' ∧ PV Y S' 21 A') := by
  have b2 := hA.1.ew.2.2.1
  refine ok_mono (s_tallyOne (p := 21) hn (by omega) hC.2.2.1 hE (by omega)) ?_
  rintro T ⟨t1, t2, t3⟩
  refine ⟨(hf.mono (by omega)).tr (t1.mono (by omega)), hE.fr t1 (by omega) (by omega), fun q' hq' => ?_⟩
  by_cases e : q' = q
  · rw [e]; exact t2
  · obtain ⟨k5, k6, k7, k8⟩ := t3 q' e
    refine (hA.2 q' (by omega)).keep hV (hS q' e) (hCo q' e) hL ?_ ?_ ?_ (fun v hv => ?_)
    · rw [k5, hf.gi (by omega)]
    · rw [k6, hf.gi (by omega)]
    · rw [k7, hf.gi (by omega)]
    · rw [k8 v (by omega), hf.gi (by omega)]
def al2 (x lo hi : Int32) : Prop := ¬ x < lo ∧ x ≤ hi
theorem s_allow {Y : XS} {n : Nat} {S : PS} {x : Int32} {t : Nat} (ht : t < 2147483647) : fX10_allow Y n S x 0 (nI t) = some (if (ix x (t + 1)).isSome = true then .inl S else .inr (2, S)) := by
  unfold fX10_allow jX10_allow_10
  cases h : ix x (t + 1) with
  | none =>
    rcases ix_none h with h1 | ⟨h1, h2⟩
    · rw [if_pos h1]; rfl
    · rw [if_neg h1, if_neg (le_ix ht h2)]; rfl
  | some j =>
    obtain ⟨rfl, h2⟩ := ix_some (by omega) h
    rw [if_neg (nI_pos (by omega)), if_pos (nI_le (by omega) (by omega))]
    rfl
noncomputable def aWith (A : EL) (x y : Int32) : AN := match ix x 9 with
  | none => .inr 1
  | some r => match ix y 100000 with
    | none => .inr 2
    | some m => .inl (nI (chB (aM A m) r))
theorem c_with {Y : XS} {n : Nat} {S : PS} {A : EL} {H : List EL} {K : Option EL} {tp : List Nat} {fp : Int32} {x y : Int32} (hn : 10000 ≤ n) (hC : CSt Y S) (hV : CVs Y S A H K tp fp) :
    ok (fX10_with Y n S 0 x y) (outC (fun S' => QT Y S S' A H K tp fp) (aWith A x y)) := by
  have hQ : QT Y S S A H K tp fp := ⟨hC, hV, TrF.rf⟩
  unfold fX10_with aWith
  rw [s_needRule, kc_s]
  cases h : ix x 9 with
  | none => exact ok_i ⟨rfl, hQ⟩
  | some r =>
    obtain ⟨rfl, hr⟩ := ix_some (by decide) h
    show ok (kc (fX10_allow Y n S y 0 99999) _) _
    rw [show (99999 : Int32) = nI 99999 from rfl, s_allow (by decide), kc_s]
    cases h2 : ix y (99999 + 1) with
    | none => exact ok_i ⟨rfl, hQ⟩
    | some m =>
      obtain ⟨rfl, hm⟩ := ix_some (by decide) h2
      show ok (kgr S 0 5 _) _
      rw [kgr_n hC.1.2.2.2.1, kgr_n hC.1.2.1]
      refine ok_kc (s_pcopy hC hV.1) ?_
      rintro T ⟨t1, t2, t3, t4⟩
      rw [kgr_n t2.1.2.2.2.1, kgr_n t2.2.2.1.2.1, kpi_n]
      have f : Fr (fun y => y = 22) T (si T 22 0 (nI m)) := Fr.rf.si rfl
      have hA' : PV Y (si T 22 0 (nI m)) 21 (aM A m) := ⟨t3.1.setM (by omega) (by omega), fun q hq => (t3.2 q hq).keep rfl (fun _ => rfl) rfl rfl (f.gi (by omega) _) (f.gi (by omega) _) (f.gi (by omega) _) (fun v _ => f.gi (by omega) _)⟩
      have hZ : ZS (si T 22 0 (nI m)) 44 := hV.2.2.2.2.1.same (fun b hb j => by rw [f.gi (by omega)]; exact t4 b hb j)
      refine ok_kc (s_tried hn (t2.fr f.2.1) hZ hA' hr) ?_
      rintro ⟨z1, X⟩ ⟨x1, x2, x3, x4, x5, x6⟩
      simp only at x1 x3 x4 x5
      subst x1
      have fX : TrF S X := (t1.tr (TrF.of f (by omega))).tr x3
      exact ok_i ⟨rfl, x4, hV.tr fX x5, fX⟩
theorem s_triedScore {Y : XS} {n : Nat} {S : PS} {A : EL} {H : List EL} {K : Option EL} {tp : List Nat} {fp : Int32} {r v q x : Nat} (hn : 10000 ≤ n) (hC : CSt Y S) (hV : CVs Y S A H K tp fp) (hr : r < 9) (hv : v < eV A) (hq : q < eP A) (hx : x ≤ 9) :
    ok (fX10_triedScore Y n S 0 (nI r) (nI v) (nI q) (nI x)) (fun z => z.1 = nI (chB (aS A v q x) r) ∧ chB (aS A v q x) r < 4096 ∧ QT Y S z.2 A H K tp fp) := by
  have b1 := hV.1.1.ew.2.1
  have b2 := hV.1.1.ew.2.2.1
  unfold fX10_triedScore
  rw [kgr_n hC.1.2.2.2.1, kgr_n hC.1.2.1]
  refine ok_kc (s_pcopy hC hV.1) ?_
  rintro T ⟨t1, t2, t3, t4⟩
  have l6 := t2.2.2.1.1.2.2.2.2.2
  rw [kgr_n t2.1.2.2.2.1, kgr_n t2.2.2.1.2.1, kgr_n t2.2.2.1.1.2.2.1, show (24 : Int32) = nI 24 from rfl, nmul, nI_add, kwi_n (by omega) (by omega)]
  have f : Fr (fun y => 22 ≤ y ∧ y < 26) T (si T (21 + 1 + 3) (q * 24 + v) (nI x)) := Fr.rf.si (by omega)
  have hC1 : CSt Y (si T (21 + 1 + 3) (q * 24 + v) (nI x)) := t2.fr f.2.1
  rw [kgr_n hC1.1.2.2.2.1]
  refine ok_kc (s_retally (by omega) hC1 t3 f (t3.1.setS (by omega) hq hv hx) hq rfl rfl rfl (fun p hp u => by show (if p = q ∧ u = v then x else eS A p u) = _; rw [if_neg (fun z => hp z.1)]) (fun _ _ => rfl)) ?_
  rintro U ⟨u1, u2⟩
  have hCU : CSt Y U := t2.fr u1.2.1
  have hZ : ZS U 44 := hV.2.2.2.2.1.same (fun b hb j => by rw [u1.gi (by omega)]; exact t4 b hb j)
  obtain ⟨z, h1, x1, x2, x3, x4, x5, x6⟩ := s_tried hn hCU hZ u2 hr
  unfold fX10_tried at h1
  rw [h1]
  have fX : TrF S z.2 := (t1.tr (TrF.of u1 (by omega))).tr x3
  exact ok_i ⟨x1, x2, x4, hV.tr fX x5, fX⟩
noncomputable def aVoting (A : EL) (x y z w : Int32) : AN := match ix x 9, ix y (eV A), ix z (eP A) with
  | some r, some v, some q => (match ix w 10 with
    | none => .inr 2
    | some s => .inl (nI (chB (aS A v q s) r)))
  | _, _, _ => .inr 1
theorem c_voting {Y : XS} {n : Nat} {S : PS} {A : EL} {H : List EL} {K : Option EL} {tp : List Nat} {fp : Int32} {x y z w : Int32} (hn : 10000 ≤ n) (hC : CSt Y S) (hV : CVs Y S A H K tp fp) :
    ok (fX10_voting Y n S 0 x y z w) (outC (fun S' => QT Y S S' A H K tp fp) (aVoting A x y z w)) := by
  have hQ : QT Y S S A H K tp fp := ⟨hC, hV, TrF.rf⟩
  have b1 := hV.1.1.ew.2.1
  have b2 := hV.1.1.ew.2.2.1
  unfold fX10_voting aVoting
  rw [s_needRule, kc_s]
  cases h : ix x 9 with
  | none => exact ok_i ⟨rfl, hQ⟩
  | some r =>
    obtain ⟨rfl, hr⟩ := ix_some (by decide) h
    show ok (kc (fX10_needVoter Y n S 0 y) _) _
    rw [s_needVoter hC hV.1.1, kc_s]
    cases h2 : ix y (eV A) with
    | none => exact ok_i ⟨rfl, hQ⟩
    | some v =>
      obtain ⟨rfl, hv⟩ := ix_some (by omega) h2
      show ok (kc (fX10_needProject Y n S 0 z) _) _
      rw [s_needProject hC hV.1.1, kc_s]
      cases h3 : ix z (eP A) with
      | none => exact ok_i ⟨rfl, hQ⟩
      | some q =>
        obtain ⟨rfl, hq⟩ := ix_some (by omega) h3
        show ok (kc (fX10_allow Y n S w 0 9) _) _
        rw [show (9 : Int32) = nI 9 from rfl, s_allow (by decide), kc_s]
        cases h4 : ix w (9 + 1) with
        | none => exact ok_i ⟨rfl, hQ⟩
        | some s =>
          obtain ⟨rfl, hs⟩ := ix_some (by decide) h4
          show ok (kc (fX10_triedScore Y n S 0 (nI r) (nI v) (nI q) (nI s)) _) _
          refine ok_kc (s_triedScore hn hC hV hr hv hq (by omega)) ?_
          rintro ⟨z1, X⟩ ⟨x1, x2, x3⟩
          simp only at x1 x3
          subst x1
          exact ok_i ⟨rfl, x3⟩
