/-! TRIES: push and discount. -/
theorem c_push {Y : XS} {n : Nat} {S : PS} {A : EL} {H : List EL} {K : Option EL} {tp : List Nat} {fp : Int32} {x y : Int32} (hn : 10000 ≤ n) (hC : CSt Y S) (hV : CVs Y S A H K tp fp) :
    ok (fX10_push Y n S 0 x y) (outC (fun S' => QC Y S S' A H K tp fp) (aPush A x y)) := by
  have hQ : QC Y S S A H K tp fp := ⟨hC, hV, CF.rf⟩
  have a7 := hV.1.1.ew
  have b1 := a7.2.1
  have b2 := a7.2.2.1
  unfold fX10_push aPush
  rw [s_needRule, kc_s]
  cases h : ix x 9 with
  | none => exact ok_i ⟨rfl, hQ⟩
  | some r =>
    obtain ⟨rfl, hr⟩ := ix_some (by decide) h
    show ok (kc (fX10_needProject Y n S 0 y) _) _
    rw [s_needProject hC hV.1.1, kc_s]
    cases h2 : ix y (eP A) with
    | none => exact ok_i ⟨rfl, hQ⟩
    | some q =>
      obtain ⟨rfl, hq⟩ := ix_some (by omega) h2
      show ok (kc (fX10_result Y n S 0 (nI r)) _) _
      refine ok_kc (s_result hn hC hV hr) ?_
      rintro ⟨q1, T⟩ ⟨rfl, ⟨hCT, hVT, fT⟩, oT⟩
      have hlt := oT.gl a7
      dsimp only at hCT hVT fT oT hlt ⊢
      rw [kty_o hCT hr, s_has oT.1.2.1 (by omega) (by omega), kc_s]
      by_cases hb : (chB A r).testBit q = true
      · have hb' : (lb (RLs A r)).testBit q = true := hb
        rw [if_pos hb', if_neg (by decide)]
        refine ok_i ⟨?_, hCT, hVT, CF.q fT⟩
        unfold psh
        rw [if_pos hb]
        rfl
      · have hb' : ¬ (lb (RLs A r)).testBit q = true := hb
        rw [if_neg hb', if_pos rfl, kgr_n hCT.1.2.2.2.1, kgr_n hCT.1.2.1]
        refine ok_kc (s_pcopy hCT hVT.1) ?_
        rintro U ⟨u1, u2, u3, u4⟩
        have hVU : CVs Y U A H K tp fp := hVT.tr u1 (hVT.2.2.2.2.1.same u4)
        have key : ok (iter (bX10_push_39 Y n 0 (nI r) (nI q)) n ((0 : Int32), (0 : Int32), U)) (fun t => ∃ W, (t = .inl W ∧ fsf (fun v => decide (eS A q v = 0 ∧ (chB (pA A q (v + 1)) r).testBit q = true)) (eV A) = none ∨ ∃ v, t = .inr (nI (pz A q (v + 1)), W) ∧ fsf (fun v => decide (eS A q v = 0 ∧ (chB (pA A q (v + 1)) r).testBit q = true)) (eV A) = some v) ∧ QT Y U W A H K tp fp) := by
          refine iter_ok (fun i t => t.2.1 = nI i ∧ t.1 = nI (pz A q i) ∧ (∀ v, v < i → decide (eS A q v = 0 ∧ (chB (pA A q (v + 1)) r).testBit q = true) = false) ∧ PV Y t.2.2 21 (pA A q i) ∧ QT Y U t.2.2 A H K tp fp) (eV A) (fun i t hi h => ?_) (fun t h => ?_) (by omega) ⟨rfl, rfl, fun v hv => absurd hv (Nat.not_lt_zero _), by rw [pA_0]; exact u3, u2, hVU, TrF.rf⟩
          · obtain ⟨t1, t2, W⟩ := t
            obtain ⟨k1, k2, k3, k4, hCW, hVW, fW⟩ := h
            simp only at k1 k2 k4 hCW hVW fW
            subst k1 k2
            have a5 := hVW.1.1.2.2.2.2.2.1 q i hq hi
            have hs9 := a7.2.2.2.2 q i hq hi
            have l6 := hCW.2.1.1.2.2.2.2.2
            have l6' := hCW.2.2.1.1.2.2.2.2.2
            have hpz : pz A q (i + 1) = pz A q i + if eS A q i = 0 then 1 else 0 := rfl
            unfold bX10_push_39 jX10_push_120_39
            simp (discharger := omega) only [kgr_n hCW.1.2.1, kgr_n hCW.2.1.2.1, kgr_n hCW.2.1.1.2.2.1, kgr_n hCW.1.2.2.2.1, kgr_n hCW.2.2.1.2.1, kgr_n hCW.2.2.1.1.2.2.1, kgi, hVW.1.1.2.2.1, nle, if_neg, show (24 : Int32) = nI 24 from rfl, show (0 : Int32) = nI 0 from rfl, show (9 : Int32) = nI 9 from rfl, nmul, nI_add, kai_n, a5, neq, kwi_n, nI_1]
            by_cases hs : eS A q i = 0
            · rw [if_pos hs]
              have f : Fr (fun y => 22 ≤ y ∧ y < 26) W (si W (21 + 1 + 3) (q * 24 + i) (nI 9)) := Fr.rf.si (by omega)
              have hC1 : CSt Y (si W (21 + 1 + 3) (q * 24 + i) (nI 9)) := hCW.fr f.2.1
              rw [kgr_n hC1.1.2.2.2.1]
              refine ok_kc (s_retally (A' := aS (pA A q i) i q 9) (by omega) hC1 k4 f (k4.1.setS (by omega) hq hi (by omega)) hq rfl rfl rfl (fun p hp u => by show (if p = q ∧ u = i then 9 else eS (pA A q i) p u) = _; rw [if_neg (fun z => hp z.1)]) (fun _ _ => rfl)) ?_
              rintro X ⟨x1, x2⟩
              rw [← pA_set hs] at x2
              have hCX : CSt Y X := hCW.fr x1.2.1
              have hZX : ZS X 44 := hVW.2.2.2.2.1.fr x1 (by omega)
              refine ok_kc (s_tried hn hCX hZX x2 hr) ?_
              rintro ⟨z1, Z⟩ ⟨y1, y2, y3, y4, y5, y6⟩
              simp only at y1 y3 y4 y5 y6
              subst y1
              have fZ : TrF U Z := (fW.tr (TrF.of x1 (by omega))).tr y3
              have hVZ : CVs Y Z A H K tp fp := hVU.tr fZ y5
              dsimp only
              rw [s_isIn (by omega) (by omega), kc_s]
              by_cases hz : (chB (pA A q (i + 1)) r).testBit q = true
              · have hz' : (lb (RLs (pA A q (i + 1)) r)).testBit q = true := hz
                rw [if_pos hz', if_neg (by decide), ok_some, so_r]
                refine ⟨Z, Or.inr ⟨i, by rw [hpz, if_pos hs], ?_⟩, y4, hVZ, fZ⟩
                have := fsf_first (f := fun v => decide (eS A q v = 0 ∧ (chB (pA A q (v + 1)) r).testBit q = true)) (i := i) k3 (decide_eq_true ⟨hs, hz⟩) (eV A - (i + 1))
                rw [show i + 1 + (eV A - (i + 1)) = eV A by omega] at this
                exact this
              · have hz' : ¬ (lb (RLs (pA A q (i + 1)) r)).testBit q = true := hz
                rw [if_neg hz', if_pos (by decide), ok_some, so_l]
                refine ⟨rfl, by rw [hpz, if_pos hs], fun v hv => ?_, y6, y4, hVZ, fZ⟩
                by_cases e : v = i
                · subst e; exact decide_eq_false (fun y => hz y.2)
                · exact k3 v (by omega)
            · rw [if_neg hs, ok_some, so_l]
              refine ⟨rfl, by rw [hpz, if_neg hs]; rfl, fun v hv => ?_, by rw [pA_keep hs]; exact k4, hCW, hVW, fW⟩
              by_cases e : v = i
              · subst e; exact decide_eq_false (fun y => hs y.1)
              · exact k3 v (by omega)
          · obtain ⟨t1, t2, W⟩ := t
            obtain ⟨k1, k2, k3, k4, hCW, hVW, fW⟩ := h
            simp only at k1 k2 k4 hCW hVW fW
            subst k1 k2
            unfold bX10_push_39
            simp (discharger := omega) only [kgr_n hCW.1.2.1, kgr_n hCW.2.1.2.1, kgi, hVW.1.1.2.2.1, nle, if_pos, ok_some, so_r]
            exact ⟨W, Or.inl ⟨rfl, fsf_none k3⟩, hCW, hVW, fW⟩
        refine ok_kc key ?_
        rintro t ⟨W, ht, hCW, hVW, fW⟩
        have hq' : QC Y S W A H K tp fp := ⟨hCW, hVW, ((CF.q fT).tr (CF.trf u1)).tr (CF.trf fW)⟩
        rcases ht with ⟨rfl, hf⟩ | ⟨v, rfl, hf⟩
        · refine ok_i ⟨?_, hq'⟩
          unfold psh
          rw [if_neg hb, hf]
          rfl
        · refine ok_i ⟨?_, hq'⟩
          unfold psh
          rw [if_neg hb, hf]
          rfl
/-- a cost less by so many tenths -/
def dct (c t : Nat) : Nat := max 1 (c * (10 - t) / 10)
theorem dct_ok {c t : Nat} (h : c ≤ 9999) : 1 ≤ dct c t ∧ dct c t ≤ 9999 := by
  unfold dct
  have h1 : c * (10 - t) ≤ c * 10 := Nat.mul_le_mul_left _ (by omega)
  have h2 : c * (10 - t) / 10 ≤ c := by
    have := Nat.div_le_div_right (c := 10) h1
    rw [Nat.mul_div_cancel _ (by decide)] at this
    exact this
  omega
theorem aC_self (A : EL) (q : Nat) : aC A q (eC A q) = A := by
  have : (fun p => if p = q then eC A q else eC A p) = eC A := by
    funext p
    by_cases e : p = q
    · rw [if_pos e, e]
    · rw [if_neg e]
  unfold aC
  rw [this]
  rfl
theorem aC_aC (A : EL) (q x y : Nat) : aC (aC A q x) q y = aC A q y := by
  have : (fun p => if p = q then y else eC (aC A q x) p) = (fun p => if p = q then y else eC A p) := by
    funext p
    by_cases e : p = q
    · rw [if_pos e, if_pos e]
    · rw [if_neg e, if_neg e]
      show (if p = q then x else eC A p) = _
      rw [if_neg e]
  show (eM A, eP A, eV A, (fun p => if p = q then y else eC (aC A q x) p), eNm A, eS A, eL A) = _
  rw [this]
  rfl
theorem dct_0 {c : Nat} (h : 1 ≤ c) : dct c 0 = c := by
  unfold dct
  rw [Nat.mul_div_cancel _ (by decide)]
  omega
noncomputable def dsc (A : EL) (r q : Nat) : Option Nat := fsf (fun t => (chB (aC A q (dct (eC A q) t)) r).testBit q) 10
noncomputable def aDiscount (A : EL) (x y : Int32) : AN := match ix x 9, ix y (eP A) with
  | some r, some q => .inl (oI (dsc A r q))
  | _, _ => .inr 1
theorem c_discount {Y : XS} {n : Nat} {S : PS} {A : EL} {H : List EL} {K : Option EL} {tp : List Nat} {fp : Int32} {x y : Int32} (hn : 10000 ≤ n) (hC : CSt Y S) (hV : CVs Y S A H K tp fp) :
    ok (fX10_discount Y n S 0 x y) (outC (fun S' => QC Y S S' A H K tp fp) (aDiscount A x y)) := by
  have hQ : QC Y S S A H K tp fp := ⟨hC, hV, CF.rf⟩
  have a7 := hV.1.1.ew
  have b1 := a7.2.1
  unfold fX10_discount aDiscount
  rw [s_needRule, kc_s]
  cases h : ix x 9 with
  | none => exact ok_i ⟨rfl, hQ⟩
  | some r =>
    obtain ⟨rfl, hr⟩ := ix_some (by decide) h
    show ok (kc (fX10_needProject Y n S 0 y) _) _
    rw [s_needProject hC hV.1.1, kc_s]
    cases h2 : ix y (eP A) with
    | none => exact ok_i ⟨rfl, hQ⟩
    | some q =>
      obtain ⟨rfl, hq⟩ := ix_some (by omega) h2
      have hc := a7.2.2.2.1 q hq
      show ok (kc (fX10_result Y n S 0 (nI r)) _) _
      refine ok_kc (s_result hn hC hV hr) ?_
      rintro ⟨q1, T⟩ ⟨rfl, ⟨hCT, hVT, fT⟩, oT⟩
      have hlt := oT.gl a7
      dsimp only at hCT hVT fT oT hlt ⊢
      rw [kty_o hCT hr, s_has oT.1.2.1 (by omega) (by omega), kc_s]
      have e0 : (chB (aC A q (dct (eC A q) 0)) r) = chB A r := by rw [dct_0 hc.1, aC_self]
      by_cases hb : (chB A r).testBit q = true
      · have hb' : (lb (RLs A r)).testBit q = true := hb
        rw [if_pos hb', if_neg (by decide)]
        refine ok_i ⟨?_, hCT, hVT, CF.q fT⟩
        have := fsf_first (f := fun t => (chB (aC A q (dct (eC A q) t)) r).testBit q) (i := 0) (fun j hj => absurd hj (Nat.not_lt_zero _)) (by rw [e0]; exact hb) 9
        unfold dsc
        rw [show 0 + 1 + 9 = 10 from rfl] at this
        rw [this]
        rfl
      · have hb' : ¬ (lb (RLs A r)).testBit q = true := hb
        rw [if_neg hb', if_pos rfl, kgr_n hCT.1.2.2.2.1, kgr_n hCT.1.2.1]
        refine ok_kc (s_pcopy hCT hVT.1) ?_
        rintro U ⟨u1, u2, u3, u4⟩
        have hVU : CVs Y U A H K tp fp := hVT.tr u1 (hVT.2.2.2.2.1.same u4)
        have key : ok (iter (bX10_discount_36 Y n 0 (nI r) (nI q)) n ((1 : Int32), U)) (fun t => ∃ W, (t = .inl W ∧ dsc A r q = none ∨ ∃ v, t = .inr (nI v, W) ∧ dsc A r q = some v) ∧ QT Y U W A H K tp fp) := by
          refine iter_ok (fun i t => t.1 = nI (i + 1) ∧ (∀ v, v < i + 1 → (chB (aC A q (dct (eC A q) v)) r).testBit q = false) ∧ (∃ c, PV Y t.2 21 (aC A q c)) ∧ QT Y U t.2 A H K tp fp) 9 (fun i t hi h => ?_) (fun t h => ?_) (by omega) ⟨rfl, fun v hv => ?_, ⟨eC A q, by rw [aC_self]; exact u3⟩, u2, hVU, TrF.rf⟩
          · obtain ⟨t1, W⟩ := t
            obtain ⟨k1, k3, ⟨c, k4⟩, hCW, hVW, fW⟩ := h
            simp only at k1 k4 hCW hVW fW
            subst k1
            have a3 := hVW.1.1.2.2.2.1 q hq
            have l4 := hCW.2.1.1.2.2.2.1
            have l4' := hCW.2.2.1.1.2.2.2.1
            have hd := dct_ok (c := eC A q) (t := i + 1) hc.2
            have hmul : eC A q * (10 - (i + 1)) ≤ 9999 * 10 := Nat.mul_le_mul hc.2 (by omega)
            have hdiv := Nat.div_le_self (eC A q * (10 - (i + 1))) 10
            have z10 : ¬ (nI 10 : Int32) = 0 := by decide
            unfold bX10_discount_36 kidiv
            simp (discharger := omega) only [show (10 : Int32) = nI 10 from rfl, show (1 : Int32) = nI 1 from rfl, nle, if_neg z10, if_neg, kgr_n hCW.1.2.1, kgr_n hCW.2.1.2.1, kgr_n hCW.2.1.1.1, kgr_n hCW.1.2.2.2.1, kgr_n hCW.2.2.1.2.1, kgr_n hCW.2.2.1.1.1, kai_n, a3, nsub, nmul, ndiv, nmax, kwi_n]
            have hdc : max 1 (eC A q * (10 - (i + 1)) / 10) = dct (eC A q) (i + 1) := rfl
            rw [hdc]
            have f : Fr (fun y => 22 ≤ y ∧ y < 26) W (si W (21 + 1 + 1) q (nI (dct (eC A q) (i + 1)))) := Fr.rf.si (by omega)
            have hC1 : CSt Y (si W (21 + 1 + 1) q (nI (dct (eC A q) (i + 1)))) := hCW.fr f.2.1
            rw [kgr_n hC1.1.2.2.2.1]
            refine ok_kc (s_retally (A' := aC (aC A q c) q (dct (eC A q) (i + 1))) (by omega) hC1 k4 f (k4.1.setC (by omega) hd) hq rfl rfl rfl (fun _ _ _ => rfl) (fun p hp => by show (if p = q then _ else eC (aC A q c) p) = _; rw [if_neg hp])) ?_
            rintro X ⟨x1, x2⟩
            rw [aC_aC] at x2
            have hCX : CSt Y X := hCW.fr x1.2.1
            have hZX : ZS X 44 := hVW.2.2.2.2.1.fr x1 (by omega)
            refine ok_kc (s_tried hn hCX hZX x2 hr) ?_
            rintro ⟨z1, Z⟩ ⟨y1, y2, y3, y4, y5, y6⟩
            simp only at y1 y3 y4 y5 y6
            subst y1
            have fZ : TrF U Z := (fW.tr (TrF.of x1 (by omega))).tr y3
            have hVZ : CVs Y Z A H K tp fp := hVU.tr fZ y5
            dsimp only
            rw [s_isIn (by omega) (by omega), kc_s]
            by_cases hz : (chB (aC A q (dct (eC A q) (i + 1))) r).testBit q = true
            · have hz' : (lb (RLs (aC A q (dct (eC A q) (i + 1))) r)).testBit q = true := hz
              rw [if_pos hz', if_neg (by decide), ok_some, so_r]
              refine ⟨Z, Or.inr ⟨i + 1, rfl, ?_⟩, y4, hVZ, fZ⟩
              have := fsf_first (f := fun t => (chB (aC A q (dct (eC A q) t)) r).testBit q) (i := i + 1) k3 hz (10 - (i + 1 + 1))
              rw [show i + 1 + 1 + (10 - (i + 1 + 1)) = 10 by omega] at this
              exact this
            · have hz' : ¬ (lb (RLs (aC A q (dct (eC A q) (i + 1))) r)).testBit q = true := hz
              rw [if_neg hz', if_pos (by decide), nI_add, ok_some, so_l]
              refine ⟨rfl, fun v hv => ?_, ⟨_, y6⟩, y4, hVZ, fZ⟩
              by_cases e : v = i + 1
              · subst e; simpa using hz
              · exact k3 v (by omega)
          · obtain ⟨t1, W⟩ := t
            obtain ⟨k1, k3, ⟨c, k4⟩, hCW, hVW, fW⟩ := h
            simp only at k1 k4 hCW hVW fW
            subst k1
            unfold bX10_discount_36
            simp (discharger := omega) only [show (10 : Int32) = nI 10 from rfl, nle, if_pos, ok_some, so_r]
            exact ⟨W, Or.inl ⟨rfl, fsf_none k3⟩, hCW, hVW, fW⟩
          · have : v = 0 := by omega
            subst this
            rw [e0]
            simpa using hb
        refine ok_kc key ?_
        rintro t ⟨W, ht, hCW, hVW, fW⟩
        have hq' : QC Y S W A H K tp fp := ⟨hCW, hVW, ((CF.q fT).tr (CF.trf u1)).tr (CF.trf fW)⟩
        rcases ht with ⟨rfl, hf⟩ | ⟨v, rfl, hf⟩
        · refine ok_i ⟨?_, hq'⟩
          rw [hf]
          rfl
        · refine ok_i ⟨?_, hq'⟩
          rw [hf]
          rfl
