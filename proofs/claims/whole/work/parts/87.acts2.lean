/-! ACTS, undone; images; the class's answers. -/
/-- a cost from 1 on -/
def cx (x : Int32) : Option Nat := if x < 1 then none else if (9999 : Int32) < x then none else some x.toNatClampNeg
theorem cx_some {x : Int32} {c : Nat} (h : cx x = some c) : x = nI c ∧ 1 ≤ c ∧ c ≤ 9999 := by
  have e1 : (1 : Int32).toInt = 1 := rfl
  have e9 : (9999 : Int32).toInt = 9999 := rfl
  unfold cx at h
  split at h
  · cases h
  · next h1 =>
    split at h
    · cases h
    · next h2 =>
      cases h
      rw [Int32.not_lt, Int32.le_iff_toInt_le] at h1 h2
      have h0 : 0 ≤ x := by rw [Int32.le_iff_toInt_le]; have : (0 : Int32).toInt = 0 := rfl; omega
      refine ⟨(Int32.ofNat_toNatClampNeg x h0).symm, ?_, ?_⟩
      · show 1 ≤ x.toInt.toNat; omega
      · show x.toInt.toNat ≤ 9999; omega
theorem s_allowC {Y : XS} {n : Nat} {S : PS} {x : Int32} : fX10_allow Y n S x 1 9999 = some (if (cx x).isSome = true then .inl S else .inr (2, S)) := by
  unfold fX10_allow jX10_allow_10 cx
  by_cases h1 : x < 1
  · rw [if_pos h1, if_pos h1]; rfl
  · rw [if_neg h1, if_neg h1]
    by_cases h2 : x ≤ 9999
    · have h3 : ¬ (9999 : Int32) < x := by rw [Int32.not_lt]; exact h2
      rw [if_pos h2, if_neg h3]; rfl
    · have h3 : (9999 : Int32) < x := by rw [← Int32.not_le]; exact h2
      rw [if_neg h2, if_pos h3]; rfl
def aCost (A : EL) (H : List EL) (x y : Int32) : AN × EL × List EL := match ix x (eP A) with
  | none => (.inr 1, A, H)
  | some q => match cx y with
    | none => (.inr 2, A, H)
    | some c => (.inl (nI (eC A q)), aC A q c, hadd A H)
theorem c_cost {Y : XS} {n : Nat} {S : PS} {A : EL} {H : List EL} {K : Option EL} {tp : List Nat} {fp : Int32} {x y : Int32} (hn : 10000 ≤ n) (hC : CSt Y S) (hV : CVs Y S A H K tp fp) :
    ok (fX10_cost Y n S 0 x y) (outC (fun S' => QC Y S S' (aCost A H x y).2.1 (aCost A H x y).2.2 K tp fp) (aCost A H x y).1) := by
  have b1 := hV.1.1.ew.2.1
  unfold fX10_cost aCost
  rw [s_needProject hC hV.1.1, kc_s]
  cases h : ix x (eP A) with
  | none => exact ok_i ⟨rfl, hC, hV, CF.rf⟩
  | some q =>
    obtain ⟨rfl, hq⟩ := ix_some (by omega) h
    show ok (kc (fX10_allow Y n S y 1 9999) _) _
    rw [s_allowC, kc_s]
    cases h2 : cx y with
    | none => exact ok_i ⟨rfl, hC, hV, CF.rf⟩
    | some c =>
      obtain ⟨rfl, hc⟩ := cx_some h2
      show ok (kgr S 0 9 _) _
      rw [kgr_n hC.1.2.2.2.2.2.2.2.1, kgr_n hC.1.2.1, kgr_n hC.2.1.2.1]
      refine ok_kc (s_keep hC hV) ?_
      rintro T ⟨hCT, hVT, fT⟩
      have l4 := hCT.2.1.1.2.2.2.1
      have a3 := hVT.1.1.2.2.2.1 q hq
      simp (discharger := omega) only [kgr_n hCT.1.2.1, kgr_n hCT.2.1.2.1, kgr_n hCT.2.1.1.1, kai_n, a3, kwi_n]
      refine ok_kc (s_act hn hCT hVT (Fr.rf.si (a := 11) (by omega)) (hVT.1.1.setC (q := q) (x := c) (by omega) hc)) ?_
      rintro U ⟨u1, u2, u3⟩
      exact ok_i ⟨rfl, u1, u2, fT.tr u3⟩
def aScore (A : EL) (H : List EL) (x y z : Int32) : AN × EL × List EL := match ix x (eV A), ix y (eP A) with
  | some v, some q => (match ix z 10 with
    | none => (.inr 2, A, H)
    | some s => (.inl (nI (eS A q v)), aS A v q s, hadd A H))
  | _, _ => (.inr 1, A, H)
theorem c_score {Y : XS} {n : Nat} {S : PS} {A : EL} {H : List EL} {K : Option EL} {tp : List Nat} {fp : Int32} {x y z : Int32} (hn : 10000 ≤ n) (hC : CSt Y S) (hV : CVs Y S A H K tp fp) :
    ok (fX10_score Y n S 0 x y z) (outC (fun S' => QC Y S S' (aScore A H x y z).2.1 (aScore A H x y z).2.2 K tp fp) (aScore A H x y z).1) := by
  have b1 := hV.1.1.ew.2.1
  have b2 := hV.1.1.ew.2.2.1
  unfold fX10_score aScore
  rw [s_needVoter hC hV.1.1, kc_s]
  cases h : ix x (eV A) with
  | none => exact ok_i ⟨rfl, hC, hV, CF.rf⟩
  | some v =>
    obtain ⟨rfl, hv⟩ := ix_some (by omega) h
    show ok (kc (fX10_needProject Y n S 0 y) _) _
    rw [s_needProject hC hV.1.1, kc_s]
    cases h2 : ix y (eP A) with
    | none => exact ok_i ⟨rfl, hC, hV, CF.rf⟩
    | some q =>
      obtain ⟨rfl, hq⟩ := ix_some (by omega) h2
      show ok (kc (fX10_allow Y n S z 0 9) _) _
      rw [show (9 : Int32) = nI 9 from rfl, s_allow (by decide), kc_s]
      cases h3 : ix z (9 + 1) with
      | none => exact ok_i ⟨rfl, hC, hV, CF.rf⟩
      | some s =>
        obtain ⟨rfl, hs⟩ := ix_some (by decide) h3
        show ok (kgr S 0 9 _) _
        rw [kgr_n hC.1.2.2.2.2.2.2.2.1, kgr_n hC.1.2.1, kgr_n hC.2.1.2.1]
        refine ok_kc (s_keep hC hV) ?_
        rintro T ⟨hCT, hVT, fT⟩
        have l6 := hCT.2.1.1.2.2.2.2.2
        have a5 := hVT.1.1.2.2.2.2.2.1 q v hq hv
        simp (discharger := omega) only [kgr_n hCT.1.2.1, kgr_n hCT.2.1.2.1, kgr_n hCT.2.1.1.2.2.1, show (24 : Int32) = nI 24 from rfl, nmul, nI_add, kai_n, a5, kwi_n]
        refine ok_kc (s_act hn hCT hVT (Fr.rf.si (a := 13) (by omega)) (hVT.1.1.setS (v := v) (q := q) (x := s) (by omega) hq hv (by omega))) ?_
        rintro U ⟨u1, u2, u3⟩
        exact ok_i ⟨rfl, u1, u2, fT.tr u3⟩
def aGo (A : EL) (H : List EL) (x y : Int32) : AN × EL × List EL := if x = 0 then (match ix y (eP A) with
    | none => (.inr 1, A, H)
    | some q => (.inl (nI (eP A - 1)), aDP A q, hadd A H)) else (match ix y (eV A) with
    | none => (.inr 1, A, H)
    | some v => (.inl (nI (eV A - 1)), aDV A v, hadd A H))
theorem c_go {Y : XS} {n : Nat} {S : PS} {A : EL} {H : List EL} {K : Option EL} {tp : List Nat} {fp : Int32} {x y : Int32} (hn : 10000 ≤ n) (hC : CSt Y S) (hV : CVs Y S A H K tp fp) :
    ok (fX10_go Y n S 0 x y) (outC (fun S' => QC Y S S' (aGo A H x y).2.1 (aGo A H x y).2.2 K tp fp) (aGo A H x y).1) := by
  have b1 := hV.1.1.ew.2.1
  have b2 := hV.1.1.ew.2.2.1
  unfold fX10_go aGo jX10_go_67 jX10_go_98
  by_cases hx : x = 0
  · rw [if_pos hx, if_pos hx, s_needProject hC hV.1.1, kc_s]
    cases h : ix y (eP A) with
    | none => exact ok_i ⟨rfl, hC, hV, CF.rf⟩
    | some q =>
      obtain ⟨rfl, hq⟩ := ix_some (by omega) h
      show ok (kgr S 0 9 _) _
      rw [kgr_n hC.1.2.2.2.2.2.2.2.1, kgr_n hC.1.2.1, kgr_n hC.2.1.2.1]
      refine ok_kc (s_keep hC hV) ?_
      rintro T ⟨hCT, hVT, fT⟩
      rw [kgr_n hCT.1.2.1, kgr_n hCT.2.1.2.1]
      refine ok_kc (s_dropProject (e := 10) (by omega) (by omega) hCT.2.1.1 hVT.1.1 hq) ?_
      rintro U ⟨u1, u2⟩
      refine ok_kc (s_act hn hCT hVT (u1.mono (by omega)) u2) ?_
      rintro W ⟨w1, w2, w3⟩
      rw [if_pos hx, kgr_n w1.1.2.1, kgr_n w1.2.1.2.1, kgi_n]
      exact ok_i ⟨by show _ = Sum.inl (gi W 10 1); rw [w2.1.1.2.1]; rfl, w1, w2, fT.tr w3⟩
  · rw [if_neg hx, if_neg hx, s_needVoter hC hV.1.1, kc_s]
    cases h : ix y (eV A) with
    | none => exact ok_i ⟨rfl, hC, hV, CF.rf⟩
    | some v =>
      obtain ⟨rfl, hv⟩ := ix_some (by omega) h
      show ok (kgr S 0 9 _) _
      rw [kgr_n hC.1.2.2.2.2.2.2.2.1, kgr_n hC.1.2.1, kgr_n hC.2.1.2.1]
      refine ok_kc (s_keep hC hV) ?_
      rintro T ⟨hCT, hVT, fT⟩
      rw [kgr_n hCT.1.2.1, kgr_n hCT.2.1.2.1]
      refine ok_kc (s_dropVoter (e := 10) (by omega) (by omega) hCT.2.1.1 hVT.1.1 hv) ?_
      rintro U ⟨u1, u2⟩
      refine ok_kc (s_act hn hCT hVT (u1.mono (by omega)) u2) ?_
      rintro W ⟨w1, w2, w3⟩
      rw [if_neg hx, kgr_n w1.1.2.1, kgr_n w1.2.1.2.1, kgi_n]
      exact ok_i ⟨by show _ = Sum.inl (gi W 10 2); rw [w2.1.1.2.2.1]; rfl, w1, w2, fT.tr w3⟩
