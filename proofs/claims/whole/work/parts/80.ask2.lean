/-! THE CLASS'S ANSWERS: outcomes. -/
theorem kty_o {α : Type} {Y : XS} {S : PS} {r : Nat} {x : Option α} (hC : CSt Y S) (hr : r < 9) : kty Y (143 + 8 * r) 5 x = x := by
  unfold kty
  rw [if_pos ⟨by have := hC.2.2.2.2.2.2.2.2.2.2.1; omega, (hC.2.2.2.2.2.2.2.2.2.1.2 r hr).2.2⟩]
noncomputable def oval (A : EL) (r w : Nat) : Nat := if w = 0 then lb (RLs A r) else if w = 1 then (RLs A r).length else if w = 2 then csum A (lb (RLs A r)) else if w = 3 then wa A (lb (RLs A r)) else if w = 4 then ww A (lb (RLs A r)) else if w = 5 then us A (lb (RLs A r)) else rd A r
noncomputable def aOutcome (A : EL) (x y : Int32) : AN := match ix x 9, ix y 7 with
  | some r, some w => .inl (nI (oval A r w))
  | _, _ => .inr 1
theorem ORr.gl {S : PS} {o r : Nat} {A : EL} (h : ORr S o A r) (hA : EW A) : lb (RLs A r) < 4096 := h.1.2.2.2.2.lt hA
theorem c_outcome {Y : XS} {n : Nat} {S : PS} {A : EL} {H : List EL} {K : Option EL} {tp : List Nat} {fp : Int32} {x y : Int32} (hn : 10000 ≤ n) (hC : CSt Y S) (hV : CVs Y S A H K tp fp) :
    ok (fX10_outcome Y n S 0 x y) (outC (fun S' => QR Y S S' A H K tp fp) (aOutcome A x y)) := by
  have hQ : QR Y S S A H K tp fp := ⟨hC, hV, Fr.rf⟩
  unfold fX10_outcome aOutcome
  rw [s_needRule, kc_s]
  cases h : ix x 9 with
  | none => exact ok_i ⟨rfl, hQ⟩
  | some r =>
    obtain ⟨rfl, hr⟩ := ix_some (by decide) h
    show ok (kc (fX10_needWhat Y n S y 6) _) _
    rw [show (6 : Int32) = nI 6 from rfl, s_needWhat (by decide), kc_s]
    cases h2 : ix y (6 + 1) with
    | none => exact ok_i ⟨rfl, hQ⟩
    | some w =>
      obtain ⟨rfl, hw⟩ := ix_some (by decide) h2
      show ok (kc (fX10_result Y n S 0 (nI r)) _) _
      refine ok_kc (s_result hn hC hV hr) ?_
      rintro ⟨q1, T⟩ ⟨rfl, ⟨hCT, hVT, fT⟩, oT⟩
      have hlt := oT.gl hV.1.1.ew
      have o2 := oT.1.2.1
      dsimp only at hCT hVT fT oT hlt o2 ⊢
      rw [kty_o hCT hr]
      simp (discharger := omega) only [show (0 : Int32) = nI 0 from rfl, show (1 : Int32) = nI 1 from rfl, show (2 : Int32) = nI 2 from rfl, show (3 : Int32) = nI 3 from rfl, show (4 : Int32) = nI 4 from rfl, show (5 : Int32) = nI 5 from rfl, neq, kgr_n hCT.1.2.1, kgi, o2, oT.1.1, oT.1.2.2.1, oT.2.1]
      rw [s_worthToAll (by omega) hCT.2.1 hVT.1 (by omega), s_worthToWorst (by omega) hCT.2.1 hVT.1 (by omega), s_unserved (by omega) hCT.2.1 hVT.1 (by omega), kc_s, kc_s, kc_s]
      have fin : ∀ z : Nat, z = oval A r w → ok (some (Sum.inl (nI z, T))) (outC (fun S' => QR Y S S' A H K tp fp) (Sum.inl (nI (oval A r w)))) := fun z hz => ok_i ⟨by rw [hz], hCT, hVT, fT⟩
      have c7 : w = 0 ∨ w = 1 ∨ w = 2 ∨ w = 3 ∨ w = 4 ∨ w = 5 ∨ w = 6 := by omega
      rcases c7 with rfl | rfl | rfl | rfl | rfl | rfl | rfl
      · exact fin _ rfl
      · exact fin _ rfl
      · exact fin _ rfl
      · exact fin _ rfl
      · exact fin _ rfl
      · exact fin _ rfl
      · exact fin _ rfl
noncomputable def aChosen (A : EL) (x y : Int32) : AN := match ix x 9 with
  | none => .inr 1
  | some r => match ix y (RLs A r).length with
    | none => .inr 1
    | some k => .inl (nI ((RLs A r).getD k 0))
theorem c_chosen {Y : XS} {n : Nat} {S : PS} {A : EL} {H : List EL} {K : Option EL} {tp : List Nat} {fp : Int32} {x y : Int32} (hn : 10000 ≤ n) (hC : CSt Y S) (hV : CVs Y S A H K tp fp) :
    ok (fX10_chosen Y n S 0 x y) (outC (fun S' => QR Y S S' A H K tp fp) (aChosen A x y)) := by
  have hQ : QR Y S S A H K tp fp := ⟨hC, hV, Fr.rf⟩
  have b1 := hV.1.1.ew.2.1
  unfold fX10_chosen aChosen jX10_chosen_22
  rw [s_needRule, kc_s]
  cases h : ix x 9 with
  | none => exact ok_i ⟨rfl, hQ⟩
  | some r =>
    obtain ⟨rfl, hr⟩ := ix_some (by decide) h
    show ok (kc (fX10_result Y n S 0 (nI r)) _) _
    refine ok_kc (s_result hn hC hV hr) ?_
    rintro ⟨q1, T⟩ ⟨rfl, ⟨hCT, hVT, fT⟩, oT⟩
    have hle := oT.1.2.2.2.2.le
    have hso := (hCT.2.2.2.2.2.2.2.2.2.1.2 r hr).2.1
    have lo1 := hso.2.2.2.2.2.2.2.1
    dsimp only at hCT hVT fT oT ⊢
    rw [kty_o hCT hr, kgi_n, oT.1.1]
    cases h2 : ix y (RLs A r).length with
    | none =>
      rcases ix_none h2 with h3 | ⟨h3, h4⟩
      · rw [if_pos h3]; exact ok_i ⟨rfl, hCT, hVT, fT⟩
      · rw [if_neg h3, if_neg (lt_of_ix h4)]; exact ok_i ⟨rfl, hCT, hVT, fT⟩
    | some k =>
      obtain ⟨rfl, hk⟩ := ix_some (by omega) h2
      rw [if_neg (nI_pos (by omega)), if_pos (nI_lt hk (by omega)), kgr_n hso.1, kai_n (by omega) (by omega), oT.1.2.2.2.1 k hk]
      exact ok_i ⟨rfl, hCT, hVT, fT⟩
noncomputable def aServed (A : EL) (x y : Int32) : AN := match ix x 9, ix y (eV A) with
  | some r, some v => .inl (nI (wt A v (lb (RLs A r))))
  | _, _ => .inr 1
theorem c_served {Y : XS} {n : Nat} {S : PS} {A : EL} {H : List EL} {K : Option EL} {tp : List Nat} {fp : Int32} {x y : Int32} (hn : 10000 ≤ n) (hC : CSt Y S) (hV : CVs Y S A H K tp fp) :
    ok (fX10_served Y n S 0 x y) (outC (fun S' => QR Y S S' A H K tp fp) (aServed A x y)) := by
  have hQ : QR Y S S A H K tp fp := ⟨hC, hV, Fr.rf⟩
  have b2 := hV.1.1.ew.2.2.1
  unfold fX10_served aServed
  rw [s_needRule, kc_s]
  cases h : ix x 9 with
  | none => exact ok_i ⟨rfl, hQ⟩
  | some r =>
    obtain ⟨rfl, hr⟩ := ix_some (by decide) h
    show ok (kc (fX10_needVoter Y n S 0 y) _) _
    rw [s_needVoter hC hV.1.1, kc_s]
    cases h2 : ix y (eV A) with
    | none => exact ok_i ⟨rfl, hQ⟩
    | some v =>
      obtain ⟨rfl, hv⟩ := ix_some (by omega) h2
      show ok (kgr S 0 2 _) _
      rw [kgr_n hC.1.2.1]
      refine ok_kc (s_result hn hC hV hr) ?_
      rintro ⟨q1, T⟩ ⟨rfl, ⟨hCT, hVT, fT⟩, oT⟩
      have hlt := oT.gl hV.1.1.ew
      dsimp only at hCT hVT fT oT hlt ⊢
      rw [kty_o hCT hr, kgi_n, oT.1.2.1, s_worthTo (by omega) hCT.2.1 hVT.1 hv (by omega), kc_s]
      exact ok_i ⟨rfl, hCT, hVT, fT⟩
/-- what was paid for a project in the first k steps -/
noncomputable def pdk (A : EL) (b0 : Nat → Nat) (q v : Nat) : Nat → Nat
  | 0 => 0
  | k + 1 => if sq A b0 k = some q then itk A b0 k v else pdk A b0 q v k
theorem pdk_s (A : EL) (b0 : Nat → Nat) (q v k : Nat) : pdk A b0 q v (k + 1) = if sq A b0 k = some q then itk A b0 k v else pdk A b0 q v k := rfl
theorem pdk_none {A : EL} {b0 : Nat → Nat} {q v : Nat} : ∀ {k : Nat}, (bst A b0 k).1.testBit q = false → pdk A b0 q v k = 0
  | 0, _ => rfl
  | k + 1, h => by
    have h0 : (bst A b0 k).1.testBit q = false := by
      cases hb : (bst A b0 k).1.testBit q with
      | false => rfl
      | true => have := bst_up hb 1; rw [h] at this; cases this
    have hs : ¬ sq A b0 k = some q := by
      intro hs
      have := bst_in (Nat.lt_succ_self k) hs
      rw [h] at this
      cases this
    rw [pdk_s, if_neg hs]
    exact pdk_none h0
theorem pdk_at {A : EL} {b0 : Nat → Nat} {q v i : Nat} (hs : sq A b0 i = some q) : ∀ d, pdk A b0 q v (i + 1 + d) = itk A b0 i v
  | 0 => by
    show pdk A b0 q v (i + 1) = _
    rw [pdk_s, if_pos hs]
  | d + 1 => by
    rw [← Nat.add_assoc, pdk_s, if_neg]
    · exact pdk_at hs d
    · intro h
      have h1 := (nxt_some h).2.1
      have h2 := bst_in (i := i) (k := i + 1 + d) (by omega) hs
      rw [h1] at h2
      cases h2
theorem SPt.pd {S : PS} {o : Nat} {A : EL} {b0 : Nat → Nat} (h : SPt S o A b0) {q v : Nat} (hv : v < eV A) (hb : (bst A b0 12).1.testBit q = true) : gi S (o + 2) (q * 24 + v) = nI (pdk A b0 q v 12) := by
  obtain ⟨i, i1, i2⟩ := bst_src hb
  have := pdk_at (v := v) i2 (12 - (i + 1))
  rw [show i + 1 + (12 - (i + 1)) = 12 by omega] at this
  rw [this]
  exact h.2.2 i q i1 i2 v hv
theorem s_paidB {Y : XS} {n : Nat} {S : PS} {o q v : Nat} {A : EL} {b0 : Nat → Nat} (hO : SO Y S o) (h : SPt S o A b0) (hA : EW A) (hq : q < eP A) (hv : v < eV A) : fX5_paidBy Y n S o (nI v) (nI q) = some (nI (pdk A b0 q v 12)) := by
  have b1 := hA.2.1
  have b2 := hA.2.2.1
  have hlt : (bst A b0 12).1 < 2147483648 := by
    have := (sl_gl (A := A) (b0 := b0) 12).lt hA
    rw [lb_sl] at this
    omega
  rw [s_paidBy (x := nI (pdk A b0 q v 12)) hO h.1 hlt (by omega) (by omega) (fun hb => h.pd hv hb)]
  by_cases hb : (bst A b0 12).1.testBit q = true
  · rw [if_pos hb]
  · rw [if_neg hb, pdk_none (by simpa using hb)]
noncomputable def aPaid (A : EL) (x y z : Int32) : AN := match ix x 4, ix y (eV A) with
  | some r, some v => if z = m1 then .inl (nI (sm (fun q => pdk A (fun _ => pu A (rd A r)) q v 12) (eP A))) else match ix z (eP A) with
    | some q => .inl (nI (pdk A (fun _ => pu A (rd A r)) q v 12))
    | none => .inr 1
  | _, _ => .inr 1
theorem c_paid {Y : XS} {n : Nat} {S : PS} {A : EL} {H : List EL} {K : Option EL} {tp : List Nat} {fp : Int32} {x y z : Int32} (hn : 10000 ≤ n) (hC : CSt Y S) (hV : CVs Y S A H K tp fp) :
    ok (fX10_paid Y n S 0 x y z) (outC (fun S' => QR Y S S' A H K tp fp) (aPaid A x y z)) := by
  have hQ : QR Y S S A H K tp fp := ⟨hC, hV, Fr.rf⟩
  have b1 := hV.1.1.ew.2.1
  have b2 := hV.1.1.ew.2.2.1
  unfold fX10_paid aPaid
  rw [s_needPayingRule, kc_s]
  cases h : ix x 4 with
  | none => exact ok_i ⟨rfl, hQ⟩
  | some r =>
    obtain ⟨rfl, hr⟩ := ix_some (by decide) h
    show ok (kc (fX10_needVoter Y n S 0 y) _) _
    rw [s_needVoter hC hV.1.1, kc_s]
    cases h2 : ix y (eV A) with
    | none => exact ok_i ⟨rfl, hQ⟩
    | some v =>
      obtain ⟨rfl, hv⟩ := ix_some (by omega) h2
      show ok (kc (fX10_result Y n S 0 (nI r)) _) _
      refine ok_kc (s_result hn hC hV (by omega)) ?_
      rintro ⟨q1, T⟩ ⟨rfl, ⟨hCT, hVT, fT⟩, oT⟩
      have hso := (hCT.2.2.2.2.2.2.2.2.2.1.2 r (by omega)).2.1
      have spt := oT.2.2.2.1 (by omega)
      dsimp only at hCT hVT fT oT spt ⊢
      rw [kty_o hCT (by omega), show (-1 : Int32) = m1 from rfl]
      by_cases hz : z = m1
      · rw [if_pos hz, if_pos hz]
        have key : iter (bX10_paid_40 Y n T 0 (nI v) (143 + 8 * r)) n ((0 : Int32), (0 : Int32)) = some (nI (sm (fun q => pdk A (fun _ => pu A (rd A r)) q v 12) (eP A))) := by
          refine iter_run (fun i => (nI (sm (fun q => pdk A (fun _ => pu A (rd A r)) q v 12) i), nI i)) (eP A) (fun i hi => ?_) ?_ (by omega) rfl
          · unfold bX10_paid_40
            simp (discharger := omega) only [kgr_n hCT.1.2.1, kgr_n hCT.2.1.2.1, kgi, hVT.1.1.2.1, nle, if_neg]
            rw [s_paidB hso spt hV.1.1.ew hi hv, kc_s, nI_add, nI_1]
            rfl
          · unfold bX10_paid_40
            simp (discharger := omega) only [kgr_n hCT.1.2.1, kgr_n hCT.2.1.2.1, kgi, hVT.1.1.2.1, nle, if_pos]
        rw [key, kc_s]
        exact ok_i ⟨rfl, hCT, hVT, fT⟩
      · rw [if_neg hz, if_neg hz, s_needProject hCT hVT.1.1, kc_s]
        cases h3 : ix z (eP A) with
        | none => exact ok_i ⟨rfl, hCT, hVT, fT⟩
        | some q =>
          obtain ⟨rfl, hq⟩ := ix_some (by omega) h3
          show ok (kc (fX5_paidBy Y n T (143 + 8 * r) (nI v) (nI q)) _) _
          rw [s_paidB hso spt hV.1.1.ew hq hv, kc_s]
          exact ok_i ⟨rfl, hCT, hVT, fT⟩
noncomputable def aLeft (A : EL) (x y : Int32) : AN := match ix x 4 with
  | none => .inr 1
  | some r => if y = m1 then .inl (nI (sm (bst A (fun _ => pu A (rd A r)) 12).2 (eV A))) else match ix y (eV A) with
    | some v => .inl (nI ((bst A (fun _ => pu A (rd A r)) 12).2 v))
    | none => .inr 1
theorem c_left {Y : XS} {n : Nat} {S : PS} {A : EL} {H : List EL} {K : Option EL} {tp : List Nat} {fp : Int32} {x y : Int32} (hn : 10000 ≤ n) (hC : CSt Y S) (hV : CVs Y S A H K tp fp) :
    ok (fX10_left Y n S 0 x y) (outC (fun S' => QR Y S S' A H K tp fp) (aLeft A x y)) := by
  have hQ : QR Y S S A H K tp fp := ⟨hC, hV, Fr.rf⟩
  have b2 := hV.1.1.ew.2.2.1
  unfold fX10_left aLeft
  rw [s_needPayingRule, kc_s]
  cases h : ix x 4 with
  | none => exact ok_i ⟨rfl, hQ⟩
  | some r =>
    obtain ⟨rfl, hr⟩ := ix_some (by decide) h
    show ok (kc (fX10_result Y n S 0 (nI r)) _) _
    refine ok_kc (s_result hn hC hV (by omega)) ?_
    rintro ⟨q1, T⟩ ⟨rfl, ⟨hCT, hVT, fT⟩, oT⟩
    have hso := (hCT.2.2.2.2.2.2.2.2.2.1.2 r (by omega)).2.1
    have lo3 := hso.2.2.2.2.2.2.2.2.2.1
    have spt := oT.2.2.2.1 (by omega)
    dsimp only at hCT hVT fT oT spt ⊢
    rw [kty_o hCT (by omega), show (-1 : Int32) = m1 from rfl]
    by_cases hy : y = m1
    · rw [if_pos hy, if_pos hy]
      have key : iter (bX10_left_33 Y n T 0 (143 + 8 * r)) n ((0 : Int32), (0 : Int32)) = some (nI (sm (bst A (fun _ => pu A (rd A r)) 12).2 (eV A))) := by
        refine iter_run (fun i => (nI (sm (bst A (fun _ => pu A (rd A r)) 12).2 i), nI i)) (eV A) (fun i hi => ?_) ?_ (by omega) rfl
        · have := spt.2.1 i hi
          unfold bX10_left_33
          simp (discharger := omega) only [kgr_n hCT.1.2.1, kgr_n hCT.2.1.2.1, kgi, hVT.1.1.2.2.1, nle, if_neg, kgr_n hso.2.2.1, kai_n, this, nI_add, nI_1]
          rfl
        · unfold bX10_left_33
          simp (discharger := omega) only [kgr_n hCT.1.2.1, kgr_n hCT.2.1.2.1, kgi, hVT.1.1.2.2.1, nle, if_pos]
      rw [key, kc_s]
      exact ok_i ⟨rfl, hCT, hVT, fT⟩
    · rw [if_neg hy, if_neg hy, s_needVoter hCT hVT.1.1, kc_s]
      cases h3 : ix y (eV A) with
      | none => exact ok_i ⟨rfl, hCT, hVT, fT⟩
      | some v =>
        obtain ⟨rfl, hv⟩ := ix_some (by omega) h3
        show ok (kgr T (143 + 8 * r) 7 _) _
        rw [kgr_n hso.2.2.1, kai_n (by omega) (by omega), spt.2.1 v hv]
        exact ok_i ⟨rfl, hCT, hVT, fT⟩
