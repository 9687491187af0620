/-! THE CLASS: what holds between calls. -/
def CSt (Y : XS) (S : PS) : Prop :=
  (gr S 0 0 = some 1 ∧ gr S 0 2 = some 9 ∧ gr S 0 3 = some 20 ∧ gr S 0 5 = some 21 ∧ gr S 0 6 = some 32 ∧ gr S 0 7 = some 40 ∧ gr S 0 8 = some 51 ∧ gr S 0 9 = some 57 ∧ gr S 0 10 = some 139) ∧
  SP Y S 9 ∧ SP Y S 21 ∧ SO Y S 32 ∧ SCh Y S 40 ∧ SG Y S 51 ∧
  (gr S 57 0 = some 58 ∧ ln Y 58 = 20 ∧ ∀ i, i < 20 → gr S 58 i = some (59 + 4 * i) ∧ SE Y S (59 + 4 * i)) ∧ SE Y S 139 ∧ SE Y S 2 ∧
  (ln Y 20 = 9 ∧ ∀ r, r < 9 → gr S 20 r = some (143 + 8 * r) ∧ SO Y S (143 + 8 * r) ∧ kd Y (143 + 8 * r) = 5) ∧ 235 ≤ nX Y ∧
  (gr S 1 0 = some 2 ∧ gr S 1 2 = some 6 ∧ gr S 1 10 = some 7 ∧ gr S 1 12 = some 8 ∧ ln Y 6 = 500 ∧ ln Y 7 = 500 ∧ ln Y 8 = 500)
theorem CSt.fr {Y : XS} {S S' : PS} (h : CSt Y S) (hf : S'.2.2 = S.2.2) : CSt Y S' := by
  have e : CSt Y S' = CSt Y S := by
    unfold CSt SP SE SO SCh SH SR SG gr
    rw [hf]
  rw [e]
  exact h
def KpV (Y : XS) (S : PS) : Option EL → Prop
  | none => gi S 0 11 = nI 0
  | some B => gi S 0 11 = nI 1 ∧ EV Y S 139 B
def HsV (Y : XS) (S : PS) (A : EL) (H : List EL) : Prop := H.length ≤ 20 ∧ ∃ en, en < 20 ∧ gi S 57 1 = nI en ∧ gi S 57 2 = nI H.length ∧ ∀ k, k < H.length → EV Y S (59 + 4 * ((en + 19 - k) % 20)) (H.getD k A)
def KnV (S : PS) (A : EL) : Prop := ∃ kn, kn < 512 ∧ gi S 0 4 = nI kn ∧ ∀ r, r < 9 → kn.testBit r = true → ORr S (143 + 8 * r) A r
def TpV (S : PS) (tp : List Nat) (fp : Int32) : Prop := gi S 1 3 = nI tp.length ∧ tp.length ≤ 500 ∧ (∀ j, j < tp.length → gi S 6 j = (nI (tp.getD j 0)).toInt8.toInt32 ∧ tp.getD j 0 < 256) ∧ gi S 0 1 = fp
def CVs (Y : XS) (S : PS) (A : EL) (H : List EL) (K : Option EL) (tp : List Nat) (fp : Int32) : Prop := PV Y S 9 A ∧ HsV Y S A H ∧ KpV Y S K ∧ KnV S A ∧ ZS S 44 ∧ ZG S 51 ∧ TpV S tp fp
theorem OC.mv {S S' : PS} {o : Nat} {A : EL} {L : List Nat} (h : OC S o A L) (h0 : ∀ j, j = 1 ∨ j = 2 ∨ j = 3 → gi S' o j = gi S o j) (h1 : ∀ j, gi S' (o + 1) j = gi S (o + 1) j) : OC S' o A L := by
  obtain ⟨x1, x2, x3, x4, x5⟩ := h
  exact ⟨(h0 1 (by omega)).trans x1, (h0 2 (by omega)).trans x2, (h0 3 (by omega)).trans x3, fun i hi => (h1 i).trans (x4 i hi), x5⟩
theorem GF.fr {S S' : PS} {a : Nat} {A : EL} {B s : Nat} (h : GF S a A B s) (e : ∀ j, gi S' a j = gi S a j) : GF S' a A B s := by
  obtain ⟨w1, w2, w3, w4, w5⟩ := h
  exact ⟨(e 0).trans w1, (e 1).trans w2, (e 2).trans w3, (e 3).trans w4, (e 4).trans w5⟩
theorem ORr.fr {S S' : PS} {M : Nat → Prop} {o r : Nat} {A : EL} (h : ORr S o A r) (hf : Fr M S S') (hd : ∀ x, o ≤ x → x < o + 8 → ¬ M x) : ORr S' o A r := by
  obtain ⟨h1, h2, h3, h4, h5⟩ := h
  refine ⟨h1.fr hf (hd _ (by omega) (by omega)) (hd _ (by omega) (by omega)), by rw [hf.gi (hd _ (by omega) (by omega))]; exact h2, ?_, fun hr => (h4 hr).fr hf (hd _ (by omega) (by omega)) (hd _ (by omega) (by omega)) (hf.gi (hd _ (by omega) (by omega)) 5), fun hr => ?_⟩
  · rcases h3 with h3 | ⟨h3, h6⟩
    · exact Or.inl (by rw [hf.gi (hd _ (by omega) (by omega))]; exact h3)
    · exact Or.inr ⟨by rw [hf.gi (hd _ (by omega) (by omega))]; exact h3, h6.fr (fun j => hf.gi (hd _ (by omega) (by omega)) j)⟩
  · obtain ⟨k, k1, k2, k3⟩ := h5 hr
    exact ⟨k, k1, k2.fr hf hd, k3⟩
/-- the cells that asking may change -/
def Mq (x : Nat) : Prop := x = 0 ∨ (21 ≤ x ∧ x < 57) ∨ (143 ≤ x ∧ x < 215)
theorem HsV.fr {Y : XS} {S S' : PS} {M : Nat → Prop} {A : EL} {H : List EL} (h : HsV Y S A H) (hf : Fr M S S') (hd : ∀ x, 57 ≤ x → x < 139 → ¬ M x) (hl : ∀ x, 235 ≤ x → ¬ M x) : HsV Y S' A H := by
  obtain ⟨h1, en, h2, h3, h4, h5⟩ := h
  refine ⟨h1, en, h2, by rw [hf.gi (hd _ (by omega) (by omega))]; exact h3, by rw [hf.gi (hd _ (by omega) (by omega))]; exact h4, fun k hk => (h5 k hk).fr hf (fun b hb1 hb2 => hd b ?_ ?_) hl⟩
  · omega
  · have := Nat.mod_lt (en + 19 - k) (show 0 < 20 by decide); omega
theorem KpV.fr {Y : XS} {S S' : PS} {M : Nat → Prop} {K : Option EL} (h : KpV Y S K) (hf : Fr M S S') (h0 : gi S' 0 11 = gi S 0 11) (hd : ∀ x, 139 ≤ x → x < 143 → ¬ M x) (hl : ∀ x, 235 ≤ x → ¬ M x) : KpV Y S' K := by
  cases K with
  | none => exact h0.trans h
  | some B => exact ⟨h0.trans h.1, h.2.fr hf (fun b h1 h2 => hd b h1 (by omega)) hl⟩
theorem ZG.fr {S S' : PS} {M : Nat → Prop} {g : Nat} (h : ZG S g) (hf : Fr M S S') (hd : ∀ b, g ≤ b → b < g + 6 → ¬ M b) : ZG S' g := by
  obtain ⟨z1, z2, z3⟩ := h
  exact ⟨by rw [hf.gi (hd _ (by omega) (by omega))]; exact z1, fun v hv => by rw [hf.gi (hd _ (by omega) (by omega))]; exact z2 v hv, fun v hv => by rw [hf.gi (hd _ (by omega) (by omega))]; exact z3 v hv⟩
theorem TpV.fr {S S' : PS} {M : Nat → Prop} {tp : List Nat} {fp : Int32} (h : TpV S tp fp) (hf : Fr M S S') (h1 : ¬ M 1) (h6 : ¬ M 6) (h0 : gi S' 0 1 = gi S 0 1) : TpV S' tp fp := by
  obtain ⟨x1, x2, x3, x4⟩ := h
  exact ⟨by rw [hf.gi h1]; exact x1, x2, fun j hj => by rw [hf.gi h6]; exact x3 j hj, h0.trans x4⟩
/-- asking changes only what is known -/
theorem CVs.ask {Y : XS} {S S' : PS} {A : EL} {H : List EL} {K : Option EL} {tp : List Nat} {fp : Int32} (h : CVs Y S A H K tp fp) (hf : Fr Mq S S') (h0 : ∀ j, j ≠ 4 → gi S' 0 j = gi S 0 j) (hk : KnV S' A) (hz : ZS S' 44) (hg : ZG S' 51) : CVs Y S' A H K tp fp := by
  obtain ⟨a1, a2, a3, a4, a5, a6, a7⟩ := h
  refine ⟨a1.fr hf ?_ ?_, a2.fr hf ?_ ?_, a3.fr hf (h0 11 (by decide)) ?_ ?_, hk, hz, hg, a7.fr hf ?_ ?_ (h0 1 (by decide))⟩ <;> (unfold Mq; omega)
theorem s_isKnown {Y : XS} {n : Nat} {S : PS} {kn r : Nat} (h : gi S 0 4 = nI kn) (hk : kn < 512) (hr : r < 9) : fX10_isKnown Y n S 0 (nI r) = some (if kn.testBit r = true then 1 else 0) := by
  have h1 : nI kn >>> (nI r &&& 31) = nI (kn / 2 ^ r) := nshr (by omega) (by omega)
  have h3 : kn / 2 ^ r < 2147483648 := Nat.lt_of_le_of_lt (Nat.div_le_self _ _) (by omega)
  have h2 : nI (kn / 2 ^ r) &&& 1 = nI (kn / 2 ^ r % 2) := nand1 h3
  have h4 : kn / 2 ^ r % 2 < 2 := Nat.mod_lt _ (by decide)
  unfold fX10_isKnown
  rw [kgi_n, h, h1, h2, tb_dm]
  by_cases hh : kn / 2 ^ r % 2 = 1
  · rw [hh, if_neg (show ¬ nI 1 = 0 by decide)]
    simp [jX10_isKnown_16, kzr]
  · have h0 : kn / 2 ^ r % 2 = 0 := by omega
    rw [h0, if_pos (show nI 0 = 0 by decide)]
    simp [jX10_isKnown_16, kzr]
theorem RLs_fill (A : EL) {f : Nat} (hf : f = 0 ∨ f = 2) : RLs A (f + 1) = flz A false (RLs A f) ∧ rd A (f + 1) = rd A f := by
  rcases hf with rfl | rfl
  · exact ⟨rfl, rfl⟩
  · exact ⟨rfl, rfl⟩
theorem KnV.add {S : PS} {A : EL} {kn r : Nat} (hk : kn < 512) (hr : r < 9) (h4 : gi S 0 4 = nI (kn ||| 2 ^ r)) (h : ∀ q, q < 9 → kn.testBit q = true → ORr S (143 + 8 * q) A q) (ho : ORr S (143 + 8 * r) A r) : KnV S A := by
  refine ⟨kn ||| 2 ^ r, Nat.or_lt_two_pow (n := 9) hk (Nat.pow_lt_pow_right (by decide) hr), h4, fun q hq hb => ?_⟩
  by_cases e : r = q
  · rw [← e]; exact ho
  · rw [tb_or] at hb
    simp [e] at hb
    exact h q hq hb
/-- what holds behind the asking for an outcome -/
def QR (Y : XS) (S S' : PS) (A : EL) (H : List EL) (K : Option EL) (tp : List Nat) (fp : Int32) : Prop := CSt Y S' ∧ CVs Y S' A H K tp fp ∧ Fr Mq S S'
theorem s_first {Y : XS} {n : Nat} {S : PS} {A : EL} {H : List EL} {K : Option EL} {tp : List Nat} {fp : Int32} {f : Nat} (hn : 10000 ≤ n) (hC : CSt Y S) (hV : CVs Y S A H K tp fp) (hf : f < 9) {Kk : PS → Option (Nat × PS)} {Q : Nat × PS → Prop} (k : ∀ S', QR Y S S' A H K tp fp → ORr S' (143 + 8 * f) A f → (∃ kn, kn < 512 ∧ gi S' 0 4 = nI kn ∧ kn.testBit f = true) → ok (Kk S') Q) :
    ok (kc (fX10_isKnown Y n S 0 (nI f)) (fun q27 => (if q27 = 0 then kgr S 0 7 (fun b34 => kgr S 0 2 (fun b39 => kgr S 0 3 (fun b43 => kar Y S b43 (nI f) (fun b47 => kc (fX0_choose Y n S b34 (nI f) b39 b47) (fun q48 => kgi q48 0 4 (fun x53 => kpi q48 0 4 (x53 ||| ((1 : Int32) <<< (nI f &&& 31))) (fun S60 => Kk S60))))))) else Kk S))) Q := by
  obtain ⟨⟨c0, c2, c3, c5, c6, c7, c8, c9, c10⟩, p9, p21, o32, ch, sg, hist, e139, e2, ⟨lou, outs⟩, nx, rdr⟩ := hC
  have hC0 : CSt Y S := ⟨⟨c0, c2, c3, c5, c6, c7, c8, c9, c10⟩, p9, p21, o32, ch, sg, hist, e139, e2, ⟨lou, outs⟩, nx, rdr⟩
  obtain ⟨a1, a2, a3, ⟨kn, k1, k2, k3⟩, a5, a6, a7⟩ := hV
  have hV0 : CVs Y S A H K tp fp := ⟨a1, a2, a3, ⟨kn, k1, k2, k3⟩, a5, a6, a7⟩
  rw [s_isKnown k2 k1 hf, kc_s]
  by_cases hb : kn.testBit f = true
  · rw [if_pos hb, if_neg (by decide)]
    exact k S ⟨hC0, hV0, Fr.rf⟩ (k3 f hf hb) ⟨kn, k1, k2, hb⟩
  · rw [if_neg hb, if_pos rfl, kgr_n c7, kgr_n c2, kgr_n c3, kar_n (by omega) (by omega) (outs f hf).1]
    refine ok_kc (s_choose hn (by omega) (by omega) (by omega) (by omega) (by omega) (by omega) p9 a1 (outs f hf).2.1 ch a5 hf) ?_
    rintro T ⟨t1, t2, t3, _⟩
    have e4 : gi T 0 4 = nI kn := by rw [t1.gi (by omega)]; exact k2
    rw [kgi_n, e4, kpi_n, n2p (by omega), nor]
    generalize hU : si T 0 4 (nI (kn ||| 2 ^ f)) = U
    have fU : Fr (fun x => x = 0 ∨ (41 ≤ x ∧ x < 51) ∨ (143 + 8 * f ≤ x ∧ x < 143 + 8 * f + 8)) S U := by
      rw [← hU]
      exact (t1.mono (by omega)).si (Or.inl rfl)
    have f0 : Fr (fun x => x = 0) T U := by rw [← hU]; exact Fr.rf.si rfl
    have g0 : ∀ j, j ≠ 4 → gi U 0 j = gi S 0 j := by
      intro j hj
      rw [← hU, Gi_si, if_neg (fun z => hj z.2), t1.gi (by omega)]
    have oU : ORr U (143 + 8 * f) A f := t3.fr f0 (by omega)
    have kU : KnV U A := by
      refine KnV.add k1 hf (by rw [← hU, Gi_si, if_pos ⟨rfl, rfl⟩]) (fun q hq hbq => ?_) oU
      have e : q ≠ f := fun z => hb (by rw [← z]; exact hbq)
      exact (k3 q hq hbq).fr fU (by omega)
    have fQ : Fr Mq S U := fU.mono (by unfold Mq; omega)
    exact k U ⟨hC0.fr fU.2.1, hV0.ask fQ g0 kU (t2.fr f0 (by omega)) (a6.fr fU (by omega)), fQ⟩ oU ⟨kn ||| 2 ^ f, Nat.or_lt_two_pow (n := 9) k1 (Nat.pow_lt_pow_right (by decide) hf), by rw [← hU, Gi_si, if_pos ⟨rfl, rfl⟩], by rw [tb_or]; simp⟩
theorem s_result {Y : XS} {n : Nat} {S : PS} {A : EL} {H : List EL} {K : Option EL} {tp : List Nat} {fp : Int32} {r : Nat} (hn : 10000 ≤ n) (hC : CSt Y S) (hV : CVs Y S A H K tp fp) (hr : r < 9) :
    ok (fX10_result Y n S 0 (nI r)) (fun q => q.1 = 143 + 8 * r ∧ QR Y S q.2 A H K tp fp ∧ ORr q.2 (143 + 8 * r) A r) := by
  have c3 := hC.1.2.2.1
  have outs := hC.2.2.2.2.2.2.2.2.2.1
  unfold fX10_result
  rw [kgr_n c3, kar_n (by have := outs.1; omega) (by have := outs.1; omega) (outs.2 r hr).1]
  by_cases hf : r = 1 ∨ r = 3
  · have e : (if nI r = 1 then jX10_result_17 Y n S 0 (nI r) (143 + 8 * r) else if nI r = 3 then jX10_result_17 Y n S 0 (nI r) (143 + 8 * r) else jX10_result_24 Y n S 0 (nI r) (143 + 8 * r) (nI r)) = jX10_result_24 Y n S 0 (nI r) (143 + 8 * r) (nI (r - 1)) := by
      rcases hf with rfl | rfl
      · rw [if_pos (by decide)]; rfl
      · rw [if_neg (by decide), if_pos (by decide)]; rfl
    rw [e]
    unfold jX10_result_24
    refine s_first hn hC hV (f := r - 1) (by omega) ?_
    rintro T ⟨hCT, hVT, fT⟩ oT _
    obtain ⟨kn, k1, k2, k3⟩ := hVT.2.2.2.1
    have outsT := hCT.2.2.2.2.2.2.2.2.2.1
    unfold jX10_result_63 jX10_result_106
    rw [s_isKnown k2 k1 hr, kc_s]
    by_cases hb : kn.testBit r = true
    · rw [if_pos hb, if_neg (by decide)]
      exact ok_i ⟨rfl, ⟨hCT, hVT, fT⟩, k3 r hr hb⟩
    · rw [if_neg hb, if_pos rfl, kgr_n hCT.1.2.2.1, kar_n (by have := outsT.1; omega) (by have := outsT.1; omega) (outsT.2 (r - 1) (by omega)).1]
      refine ok_kc (s_ocopy (by omega) (outsT.2 r hr).2.1 (outsT.2 (r - 1) (by omega)).2.1) ?_
      rintro U ⟨u1, u2, u3, u4, u5, u6⟩
      have b1 := hVT.1.1.ew.2.1
      have b2 := hVT.1.1.ew.2.2.1
      obtain ⟨rf1, rf2⟩ := RLs_fill A (f := r - 1) (by omega)
      rw [show r - 1 + 1 = r by omega] at rf1 rf2
      have oc : OC U (143 + 8 * r) A (RLs A (r - 1)) := by
        obtain ⟨x1, x2, x3, x4, x5⟩ := oT.1
        refine ⟨by rw [u2 1 (by omega) (by omega)]; exact x1, by rw [u2 2 (by omega) (by omega)]; exact x2, by rw [u2 3 (by omega) (by omega)]; exact x3, fun i hi => ?_, x5⟩
        have := x5.le
        rw [u4 i (by omega)]
        exact x4 i hi
      have spt : SPt U (143 + 8 * r) A (fun _ => pu A (rd A r)) := by
        obtain ⟨x1, x2, x3⟩ := oT.2.2.2.1 (by omega)
        rw [← rf2] at x1 x2 x3
        refine ⟨by rw [u2 5 (by omega) (by omega)]; exact x1, fun v hv => by rw [u6 v (by omega)]; exact x2 v hv, fun i q hi hq v hv => ?_⟩
        have := (nxt_some hq).1
        rw [u5 _ (by omega)]
        exact x3 i q hi hq v hv
      have hPU : SP Y U 9 := hCT.2.1.fr u1.2.1
      have hAU : PV Y U 9 A := hVT.1.fr u1 (by omega) (by omega)
      have hOU : SO Y U (143 + 8 * r) := (outsT.2 r hr).2.1.fr u1.2.1
      rw [kgr_n (b := 40) (by rw [u1.gr]; exact hCT.1.2.2.2.2.2.1), kgr_n (b := 9) (by rw [u1.gr]; exact hCT.1.2.1)]
      refine ok_kc (s_fillUp (bc := false) (by omega) (by omega) (by omega) (by omega) hPU hAU hOU oc) ?_
      rintro W ⟨w1, w2, w3⟩
      have fW : Fr (fun x => 143 + 8 * r ≤ x ∧ x < 143 + 8 * r + 8) T W := u1.tr (w1.mono (by omega))
      have e4 : gi W 0 4 = nI kn := by rw [fW.gi (by omega)]; exact k2
      rw [kgi_n, e4, kpi_n, n2p (by omega), nor]
      generalize hX : si W 0 4 (nI (kn ||| 2 ^ r)) = X
      have f0 : Fr (fun x => x = 0) W X := by rw [← hX]; exact Fr.rf.si rfl
      have fX : Fr (fun x => x = 0 ∨ (143 + 8 * r ≤ x ∧ x < 143 + 8 * r + 8)) T X := by
        rw [← hX]
        exact (fW.mono (by omega)).si (Or.inl rfl)
      have g0 : ∀ j, j ≠ 4 → gi X 0 j = gi T 0 j := by
        intro j hj
        rw [← hX, Gi_si, if_neg (fun z => hj z.2), fW.gi (by omega)]
      have oW : ORr W (143 + 8 * r) A r := by
        refine ⟨by rw [rf1]; exact w2, ?_, Or.inl ?_, fun _ => spt.fr w1 (by omega) (by omega) (w3 5 (by decide) (by decide) (by decide)), fun h => ?_⟩
        · rw [w3 4 (by decide) (by decide) (by decide), u2 4 (by omega) (by omega), rf2]; exact oT.2.1
        · rw [w3 11 (by decide) (by decide) (by decide)]; exact u3
        · omega
      have oX : ORr X (143 + 8 * r) A r := oW.fr f0 (by omega)
      have kX : KnV X A := by
        refine KnV.add k1 hr (by rw [← hX, Gi_si, if_pos ⟨rfl, rfl⟩]) (fun q hq hbq => ?_) oX
        have e : q ≠ r := fun z => hb (by rw [← z]; exact hbq)
        exact (k3 q hq hbq).fr fX (by omega)
      have fQ : Fr Mq T X := fX.mono (by unfold Mq; omega)
      exact ok_i ⟨rfl, ⟨hCT.fr fX.2.1, hVT.ask fQ g0 kX (hVT.2.2.2.2.1.fr fX (by omega)) (hVT.2.2.2.2.2.1.fr fX (by omega)), fT.tr fQ⟩, oX⟩
  · have e : (if nI r = 1 then jX10_result_17 Y n S 0 (nI r) (143 + 8 * r) else if nI r = 3 then jX10_result_17 Y n S 0 (nI r) (143 + 8 * r) else jX10_result_24 Y n S 0 (nI r) (143 + 8 * r) (nI r)) = jX10_result_24 Y n S 0 (nI r) (143 + 8 * r) (nI r) := by
      rw [if_neg (by rw [show (1 : Int32) = nI 1 from rfl, neq (by omega) (by omega)]; omega), if_neg (by rw [show (3 : Int32) = nI 3 from rfl, neq (by omega) (by omega)]; omega)]
    rw [e]
    unfold jX10_result_24
    refine s_first hn hC hV (f := r) hr ?_
    rintro T ⟨hCT, hVT, fT⟩ oT ⟨kn', j1, j2, j3⟩
    obtain ⟨kn, k1, k2, k3⟩ := hVT.2.2.2.1
    unfold jX10_result_63 jX10_result_106
    rw [s_isKnown k2 k1 hr, kc_s]
    by_cases hb : kn.testBit r = true
    · rw [if_pos hb, if_neg (by decide)]
      exact ok_i ⟨rfl, ⟨hCT, hVT, fT⟩, oT⟩
    · exfalso
      rw [k2, neq (by omega) (by omega)] at j2
      rw [j2] at hb
      exact hb j3
