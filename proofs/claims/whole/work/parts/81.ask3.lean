/-! THE CLASS'S ANSWERS: steps, prices, groups. -/
noncomputable def stv (A : EL) (k w : Nat) : Nat := match sq A (fun _ => pu A 0) k with
  | none => 0
  | some q => if w = 0 then spr A (fun _ => pu A 0) k q else if w = 1 then pyN (bst A (fun _ => pu A 0) k).2 (wo A q) (spr A (fun _ => pu A 0) k q) (eC A q * 1000) (eV A) else emN (bst A (fun _ => pu A 0) k).2 (wo A q) (spr A (fun _ => pu A 0) k q) (eC A q * 1000) (eV A)
noncomputable def aStep (A : EL) (x y : Int32) : AN := match ix x (RLs A 0).length, ix y 3 with
  | some k, some w => .inl (nI (stv A k w))
  | _, _ => .inr 1
theorem c_step {Y : XS} {n : Nat} {S : PS} {A : EL} {H : List EL} {K : Option EL} {tp : List Nat} {fp : Int32} {x y : Int32} (hn : 10000 ≤ n) (hC : CSt Y S) (hV : CVs Y S A H K tp fp) :
    ok (fX10_step Y n S 0 x y) (outC (fun S' => QR Y S S' A H K tp fp) (aStep A x y)) := by
  have b1 := hV.1.1.ew.2.1
  unfold fX10_step aStep jX10_step_18
  rw [show (0 : Int32) = nI 0 from rfl]
  refine ok_kc (s_result hn hC hV (r := 0) (by omega)) ?_
  rintro ⟨q1, T⟩ ⟨rfl, ⟨hCT, hVT, fT⟩, oT⟩
  have hle := oT.1.2.2.2.2.le
  obtain ⟨o0, o1, o2, o3, o4, o5, o6, lo1, lo2, lo3, lo4, lo5, lo6, lo7⟩ := (hCT.2.2.2.2.2.2.2.2.2.1.2 0 (by omega)).2.1
  obtain ⟨k0, k1, k2, k3⟩ := oT.2.2.2.2 rfl
  dsimp only at hCT hVT fT oT ⊢
  have hlen : (RLs A 0).length = k0 := by
    show (sl A (fun _ => pu A 0) 12).length = k0
    rw [(at_end (by omega) k3).2.1, sl_len k2.1]
  rw [kty_o hCT (by omega), kgi_n, oT.1.1]
  cases h : ix x (RLs A 0).length with
  | none =>
    rcases ix_none h with h3 | ⟨h3, h4⟩
    · rw [if_pos (show x < nI 0 from h3)]; exact ok_i ⟨rfl, hCT, hVT, fT⟩
    · rw [if_neg (show ¬ x < nI 0 from h3), if_neg (lt_of_ix h4)]; exact ok_i ⟨rfl, hCT, hVT, fT⟩
  | some k =>
    obtain ⟨rfl, hk⟩ := ix_some (by omega) h
    rw [if_neg (show ¬ nI k < nI 0 from nI_pos (by omega)), if_pos (nI_lt hk (by omega)), show (2 : Int32) = nI 2 from rfl, s_needWhat (by decide), kc_s]
    cases h2 : ix y (2 + 1) with
    | none => exact ok_i ⟨rfl, hCT, hVT, fT⟩
    | some w =>
      obtain ⟨rfl, hw⟩ := ix_some (by decide) h2
      obtain ⟨q, hq⟩ := k2.1 k (by omega)
      obtain ⟨y1, y2, y3, _⟩ := k2.2.2.2.2 k q (by omega) hq
      show ok (if nI w = nI 0 then _ else _) _
      rw [kgr_n o3, kgr_n o4, kgr_n o5, kai_n (by omega) (by omega), kai_n (by omega) (by omega), kai_n (by omega) (by omega), y1, y2, y3]
      have c3 : w = 0 ∨ w = 1 ∨ w = 2 := by omega
      have e : ∀ z, stv A k z = if z = 0 then spr A (fun _ => pu A 0) k q else if z = 1 then pyN (bst A (fun _ => pu A 0) k).2 (wo A q) (spr A (fun _ => pu A 0) k q) (eC A q * 1000) (eV A) else emN (bst A (fun _ => pu A 0) k).2 (wo A q) (spr A (fun _ => pu A 0) k q) (eC A q * 1000) (eV A) := by
        intro z
        unfold stv
        rw [hq]
      rcases c3 with rfl | rfl | rfl
      · rw [if_pos rfl]
        exact ok_i ⟨by show Sum.inl (nI (stv A k 0)) = _; rw [e]; rfl, hCT, hVT, fT⟩
      · rw [if_neg (by decide), if_pos (by decide)]
        exact ok_i ⟨by show Sum.inl (nI (stv A k 1)) = _; rw [e]; rfl, hCT, hVT, fT⟩
      · rw [if_neg (by decide), if_neg (by decide)]
        exact ok_i ⟨by show Sum.inl (nI (stv A k 2)) = _; rw [e]; rfl, hCT, hVT, fT⟩
noncomputable def aPrice (A : EL) (x y : Int32) : AN := match ix x (eP A), ix y ((RLs A 0).length + 1) with
  | some q, some k => .inl (oI (if (bst A (fun _ => pu A 0) k).1.testBit q = true then none else prc A (bst A (fun _ => pu A 0) k).2 q))
  | _, _ => .inr 1
theorem c_price {Y : XS} {n : Nat} {S : PS} {A : EL} {H : List EL} {K : Option EL} {tp : List Nat} {fp : Int32} {x y : Int32} (hn : 10000 ≤ n) (hC : CSt Y S) (hV : CVs Y S A H K tp fp) :
    ok (fX10_price Y n S 0 x y) (outC (fun S' => QR Y S S' A H K tp fp) (aPrice A x y)) := by
  have hQ : QR Y S S A H K tp fp := ⟨hC, hV, Fr.rf⟩
  have b1 := hV.1.1.ew.2.1
  unfold fX10_price aPrice jX10_price_23
  rw [s_needProject hC hV.1.1, kc_s]
  cases h : ix x (eP A) with
  | none => exact ok_i ⟨rfl, hQ⟩
  | some q =>
    obtain ⟨rfl, hq⟩ := ix_some (by omega) h
    show ok (kc (fX10_result Y n S 0 0) _) _
    rw [show (0 : Int32) = nI 0 from rfl]
    refine ok_kc (s_result hn hC hV (r := 0) (by omega)) ?_
    rintro ⟨q1, T⟩ ⟨rfl, ⟨hCT, hVT, fT⟩, oT⟩
    have hle := oT.1.2.2.2.2.le
    have hso := (hCT.2.2.2.2.2.2.2.2.2.1.2 0 (by omega)).2.1
    obtain ⟨k0, k1, k2, k3⟩ := oT.2.2.2.2 rfl
    dsimp only at hCT hVT fT oT ⊢
    have hlen : (RLs A 0).length = k0 := by
      show (sl A (fun _ => pu A 0) 12).length = k0
      rw [(at_end (by omega) k3).2.1, sl_len k2.1]
    rw [kty_o hCT (by omega), kgi_n, oT.1.1]
    cases h2 : ix y ((RLs A 0).length + 1) with
    | none =>
      rcases ix_none h2 with h3 | ⟨h3, h4⟩
      · rw [if_pos (show y < nI 0 from h3)]; exact ok_i ⟨rfl, hCT, hVT, fT⟩
      · rw [if_neg (show ¬ y < nI 0 from h3), if_neg (le_ix (by omega) h4)]; exact ok_i ⟨rfl, hCT, hVT, fT⟩
    | some k =>
      obtain ⟨rfl, hk⟩ := ix_some (by omega) h2
      rw [if_neg (show ¬ nI k < nI 0 from nI_pos (by omega)), if_pos (nI_le (by omega) (by omega)), kgr_n hCT.1.2.2.2.2.2.1, kgr_n hCT.2.2.2.2.1.1, kgr_n hCT.1.2.1]
      have := s_priceBehind (n := n) (q := q) (k := k) (s := 41) (p := 9) (o := 143 + 8 * 0) (by omega) (by omega) (by omega) (by omega) (by omega) (by omega) hCT.2.1 hVT.1 hCT.2.2.2.2.1.2.2.2.2.1 hso k2 (pu_sum hV.1.1.ew (by omega)) (by omega) hq
      refine ok_kc this ?_
      rintro ⟨z1, U⟩ ⟨u1, u2⟩
      simp only at u1 u2
      subst u1
      have fQ : Fr Mq T U := u2.mono (by unfold Mq; omega)
      refine ok_i ⟨rfl, hCT.fr u2.2.1, hVT.ask fQ (fun j _ => u2.gi (by omega) j) ?_ (hVT.2.2.2.2.1.fr u2 (by omega)) (hVT.2.2.2.2.2.1.fr u2 (by omega)), fT.tr fQ⟩
      obtain ⟨kn, w1, w2, w3⟩ := hVT.2.2.2.1
      exact ⟨kn, w1, by rw [u2.gi (by omega)]; exact w2, fun r hr hb => (w3 r hr hb).fr u2 (by omega)⟩
def aGroup (A : EL) (x y : Int32) : AN := match gx x (eP A), ix y 4 with
  | some s, some w => .inl (nI (if w = 0 then mb A s else if w = 1 then pcn 24 (mb A s) else if w = 2 then csum A s else if dueG A s = true then 1 else 0))
  | _, _ => .inr 1
theorem c_group {Y : XS} {n : Nat} {S : PS} {A : EL} {H : List EL} {K : Option EL} {tp : List Nat} {fp : Int32} {x y : Int32} (hn : 10000 ≤ n) (hC : CSt Y S) (hV : CVs Y S A H K tp fp) :
    ok (fX10_group Y n S 0 x y) (outC (fun S' => QR Y S S' A H K tp fp) (aGroup A x y)) := by
  have hQ : QR Y S S A H K tp fp := ⟨hC, hV, Fr.rf⟩
  have a7 := hV.1.1.ew
  have b1 := a7.2.1
  have hN := p12 b1
  unfold fX10_group aGroup jX10_group_94
  rw [s_needGroup hC hV.1.1, kc_s]
  cases h : gx x (eP A) with
  | none => exact ok_i ⟨rfl, hQ⟩
  | some s =>
    obtain ⟨rfl, hs0, hs⟩ := gx_some b1 h
    have hmb : mb A s < 16777216 := mb_lt a7 s _
    show ok (kc (fX10_needWhat Y n S y 3) _) _
    rw [show (3 : Int32) = nI 3 from rfl, s_needWhat (by decide), kc_s]
    cases h2 : ix y (3 + 1) with
    | none => exact ok_i ⟨rfl, hQ⟩
    | some w =>
      obtain ⟨rfl, hw⟩ := ix_some (by decide) h2
      show ok (kgr S 0 2 _) _
      simp only [kgr_n hC.1.2.1, kgr_n hC.2.1.2.1]
      rw [s_members (by omega) hC.2.1 hV.1 (by omega), kc_s, s_bitCount hmb, kc_s, s_costOf (by omega) hC.2.1.1 hV.1.1 (by omega), kc_s, kc_s, s_isDue hC.2.1 hV.1.1 hmb (csum_le a7 s), kc_s]
      have hdd : dueG A s = decide (0 < pcn 24 (mb A s) ∧ csum A s * eV A ≤ pcn 24 (mb A s) * eM A) := rfl
      rw [← hdd]
      have c4 : w = 0 ∨ w = 1 ∨ w = 2 ∨ w = 3 := by omega
      rcases c4 with rfl | rfl | rfl | rfl
      · rw [if_pos (by decide)]; exact ok_i ⟨rfl, hQ⟩
      · rw [if_neg (by decide), if_pos (by decide)]; exact ok_i ⟨rfl, hQ⟩
      · rw [if_neg (by decide), if_neg (by decide), if_pos (by decide)]; exact ok_i ⟨rfl, hQ⟩
      · rw [if_neg (by decide), if_neg (by decide), if_neg (by decide)]
        cases hd : dueG A s with
        | true => rw [if_neg (by decide)]; exact ok_i ⟨rfl, hQ⟩
        | false => rw [if_pos (by decide)]; exact ok_i ⟨rfl, hQ⟩
noncomputable def aIsServed (A : EL) (x y z : Int32) : AN := match gx x (eP A), ix y 9 with
  | some s, some r => .inl (if srv A (lb (RLs A r)) s (decide (z ≠ 0)) = true then 1 else 0)
  | _, _ => .inr 1
theorem c_isServed {Y : XS} {n : Nat} {S : PS} {A : EL} {H : List EL} {K : Option EL} {tp : List Nat} {fp : Int32} {x y z : Int32} (hn : 10000 ≤ n) (hz : z = 0 ∨ z = 1) (hC : CSt Y S) (hV : CVs Y S A H K tp fp) :
    ok (fX10_isServed Y n S 0 x y z) (outC (fun S' => QR Y S S' A H K tp fp) (aIsServed A x y z)) := by
  have hQ : QR Y S S A H K tp fp := ⟨hC, hV, Fr.rf⟩
  have a7 := hV.1.1.ew
  have b1 := a7.2.1
  have hN := p12 b1
  unfold fX10_isServed aIsServed
  rw [s_needGroup hC hV.1.1, kc_s]
  cases h : gx x (eP A) with
  | none => exact ok_i ⟨rfl, hQ⟩
  | some s =>
    obtain ⟨rfl, hs0, hs⟩ := gx_some b1 h
    show ok (kc (fX10_needRule Y n S y) _) _
    rw [s_needRule, kc_s]
    cases h2 : ix y 9 with
    | none => exact ok_i ⟨rfl, hQ⟩
    | some r =>
      obtain ⟨rfl, hr⟩ := ix_some (by decide) h2
      show ok (kgr S 0 8 _) _
      rw [kgr_n hC.1.2.2.2.2.2.2.1, kgr_n hC.1.2.1]
      refine ok_kc (s_result hn hC hV hr) ?_
      rintro ⟨q1, T⟩ ⟨rfl, ⟨hCT, hVT, fT⟩, oT⟩
      have hlt := oT.gl a7
      dsimp only at hCT hVT fT oT hlt ⊢
      have ez : z = if decide (z ≠ 0) = true then 1 else 0 := by
        rcases hz with rfl | rfl
        · rfl
        · rfl
      rw [kty_o hCT hr, kgi_n, oT.1.2.1]
      have hsv := s_serves (Y := Y) (n := n) (S := T) (g := 51) (p := 9) (s := s) (B := lb (RLs A r)) (A := A) (nr := decide (z ≠ 0)) (by omega) hCT.2.1 hVT.1 (by omega) (by omega)
      rw [← ez] at hsv
      rw [hsv, kc_s]
      unfold kzr
      rw [if_pos (by split; exact Or.inr rfl; exact Or.inl rfl)]
      exact ok_i ⟨rfl, hCT, hVT, fT⟩
noncomputable def gval (A : EL) (B w : Nat) : Int32 := if w = 0 then nI (nK (gf0 A) (2 ^ eP A)) else if w = 1 then nI (nK (fun x => gf1 A B x false) (2 ^ eP A)) else if w = 2 then nI (nK (fun x => gf1 A B x true) (2 ^ eP A)) else if w = 3 then oI (fsf (fun x => gf1 A B x false) (2 ^ eP A)) else oI (fsf (fun x => gf1 A B x true) (2 ^ eP A))
noncomputable def aGroups (A : EL) (x y : Int32) : AN := match ix x 9, ix y 5 with
  | some r, some w => .inl (gval A (lb (RLs A r)) w)
  | _, _ => .inr 1
theorem GF.at {S : PS} {a : Nat} {A : EL} {B w : Nat} (h : GF S a A B (2 ^ eP A)) (hw : w < 5) : gi S a w = gval A B w := by
  obtain ⟨w1, w2, w3, w4, w5⟩ := h
  have c : w = 0 ∨ w = 1 ∨ w = 2 ∨ w = 3 ∨ w = 4 := by omega
  rcases c with rfl | rfl | rfl | rfl | rfl
  · exact w1
  · exact w2
  · exact w3
  · exact w4
  · exact w5
theorem c_groups {Y : XS} {n : Nat} {S : PS} {A : EL} {H : List EL} {K : Option EL} {tp : List Nat} {fp : Int32} {x y : Int32} (hn : 10000 ≤ n) (hC : CSt Y S) (hV : CVs Y S A H K tp fp) :
    ok (fX10_groups Y n S 0 x y) (outC (fun S' => QR Y S S' A H K tp fp) (aGroups A x y)) := by
  have hQ : QR Y S S A H K tp fp := ⟨hC, hV, Fr.rf⟩
  have a7 := hV.1.1.ew
  unfold fX10_groups aGroups jX10_groups_34
  rw [s_needRule, kc_s]
  cases h : ix x 9 with
  | none => exact ok_i ⟨rfl, hQ⟩
  | some r =>
    obtain ⟨rfl, hr⟩ := ix_some (by decide) h
    show ok (kc (fX10_needWhat Y n S y 4) _) _
    rw [show (4 : Int32) = nI 4 from rfl, s_needWhat (by decide), kc_s]
    cases h2 : ix y (4 + 1) with
    | none => exact ok_i ⟨rfl, hQ⟩
    | some w =>
      obtain ⟨rfl, hw⟩ := ix_some (by decide) h2
      show ok (kc (fX10_result Y n S 0 (nI r)) _) _
      refine ok_kc (s_result hn hC hV hr) ?_
      rintro ⟨q1, T⟩ ⟨rfl, ⟨hCT, hVT, fT⟩, oT⟩
      have hlt := oT.gl a7
      have hso := (hCT.2.2.2.2.2.2.2.2.2.1.2 r hr).2.1
      have lo7 := hso.2.2.2.2.2.2.2.2.2.2.2.2.2
      dsimp only at hCT hVT fT oT hlt ⊢
      rw [kty_o hCT hr, kgi_n]
      rcases oT.2.2.1 with h0 | ⟨h1, hg⟩
      · rw [h0, if_pos (show nI 0 = 0 from rfl), kgr_n hCT.1.2.2.2.2.2.2.1, kgr_n hCT.1.2.1]
        refine ok_kc (s_lookAt hn (by omega) (by omega) (by omega) (by omega) (by omega) (by omega) hCT.2.1 hVT.1 hCT.2.2.2.2.2.1 hso oT.1.2.1 hlt hVT.2.2.2.2.2.1) ?_
        rintro U ⟨u1, u2, u3, u4, u5⟩
        have hCU : CSt Y U := hCT.fr u1.2.1
        have hsoU := (hCU.2.2.2.2.2.2.2.2.2.1.2 r hr).2.1
        have fQ : Fr Mq T U := u1.mono (by unfold Mq; omega)
        rw [kgr_n hsoU.2.2.2.2.2.2.1, kai_n (by omega) (by omega), u3.at hw]
        refine ok_i ⟨rfl, hCU, hVT.ask fQ (fun j _ => u1.gi (by omega) j) ?_ (hVT.2.2.2.2.1.fr u1 (by omega)) u2, fT.tr fQ⟩
        obtain ⟨kn, w1, w2, w3⟩ := hVT.2.2.2.1
        refine ⟨kn, w1, by rw [u1.gi (by omega)]; exact w2, fun q hq hb => ?_⟩
        by_cases e : q = r
        · subst e
          obtain ⟨x1, x2, x3, x4, x5⟩ := w3 q hq hb
          refine ⟨x1.mv (fun j hj => u5 j (by omega)) (fun j => u1.gi (by omega) j), by rw [u5 4 (by decide)]; exact x2, Or.inr ⟨u4, u3⟩, fun hr3 => ?_, fun hr0 => ?_⟩
          · obtain ⟨y1, y2, y3⟩ := x4 hr3
            exact ⟨by rw [u5 5 (by decide)]; exact y1, fun v hv => by rw [u1.gi (by omega)]; exact y2 v hv, fun i q' hi hq' v hv => by rw [u1.gi (by omega)]; exact y3 i q' hi hq' v hv⟩
          · obtain ⟨k0, z1, ⟨z2, z3, z4, z5, z6⟩, z7⟩ := x5 hr0
            refine ⟨k0, z1, ⟨z2, z3.mv (fun j hj => u5 j (by omega)) (fun j => u1.gi (by omega) j), by rw [u5 5 (by decide)]; exact z4, fun v hv => by rw [u1.gi (by omega)]; exact z5 v hv, fun i q' hi hq' => ?_⟩, z7⟩
            obtain ⟨v1, v2, v3, v4⟩ := z6 i q' hi hq'
            exact ⟨by rw [u1.gi (by omega)]; exact v1, by rw [u1.gi (by omega)]; exact v2, by rw [u1.gi (by omega)]; exact v3, fun v hv => by rw [u1.gi (by omega)]; exact v4 v hv⟩
        · exact (w3 q hq hb).fr u1 (by omega)
      · rw [h1, if_neg (show ¬ nI 1 = 0 by decide), kgr_n hso.2.2.2.2.2.2.1, kai_n (by omega) (by omega), hg.at hw]
        exact ok_i ⟨rfl, hCT, hVT, fT⟩
