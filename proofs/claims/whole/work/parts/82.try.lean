/-! TRIES: what would be. -/
theorem CSt.fe {Y : XS} {S S' : PS} {e : Nat} {r : Option Nat} (h : CSt Y S) (hf : FE e r S S') (he : ¬ 0 = e ∧ ¬ 9 = e ∧ ¬ 20 = e ∧ ¬ 21 = e ∧ ¬ 44 = e ∧ ¬ 51 = e ∧ ¬ 58 = e) : CSt Y S' := by
  obtain ⟨e0, e9, e20, e21, e44, e51, e58⟩ := he
  have hr : ∀ b k, gr S' b k = if b = e ∧ k = 3 then r else gr S b k := fun b k => hf.gr b k
  unfold CSt SP SE SO SCh SH SR SG at *
  simp only [hr]
  simp [e0, e9, e20, e21, e44, e51, e58]
  simpa using h
/-- only the trial was changed -/
def TrF (S S' : PS) : Prop := (∀ b, (b < 21 ∨ 51 ≤ b) → S'.1 b = S.1 b ∧ S'.2.1 b = S.2.1 b) ∧ ∀ b k, ¬ (b = 22 ∧ k = 3) → gr S' b k = gr S b k
theorem TrF.rf {S : PS} : TrF S S := ⟨fun _ _ => ⟨rfl, rfl⟩, fun _ _ _ => rfl⟩
theorem TrF.tr {S S' S'' : PS} (h : TrF S S') (k : TrF S' S'') : TrF S S'' := ⟨fun b hb => ⟨(k.1 b hb).1.trans (h.1 b hb).1, (k.1 b hb).2.trans (h.1 b hb).2⟩, fun b j hb => (k.2 b j hb).trans (h.2 b j hb)⟩
theorem TrF.of {M : Nat → Prop} {S S' : PS} (h : Fr M S S') (hM : ∀ b, M b → 21 ≤ b ∧ b < 51) : TrF S S' := ⟨fun b hb => ⟨h.2.2 b (fun q => by have := hM b q; omega), h.1 b (fun q => by have := hM b q; omega)⟩, fun b k _ => h.gr b k⟩
theorem TrF.fe {r : Option Nat} {S S' : PS} (h : FE 22 r S S') : TrF S S' := ⟨fun b hb => ⟨h.2.2 b (by omega), by rw [h.1]⟩, fun b k hb => by rw [h.gr, if_neg hb]⟩
theorem TrF.gi {S S' : PS} (h : TrF S S') {b : Nat} (hb : b < 21 ∨ 51 ≤ b) (k : Nat) : gi S' b k = gi S b k := congrFun (h.1 b hb).1 k
theorem TrF.lh {S S' : PS} (h : TrF S S') : LH S S' := fun b hb => ⟨(h.1 b (by omega)).1, funext (fun k => h.2 b k (by omega))⟩
theorem TrF.ev {Y : XS} {S S' : PS} {e : Nat} {A : EL} (h : EV Y S e A) (hf : TrF S S') (he : e + 4 ≤ 21 ∨ 51 ≤ e) : EV Y S' e A :=
  h.mv (hf.1 _ (by omega)).1 (hf.1 _ (by omega)).1 (hf.1 _ (by omega)).1 (hf.1 _ (by omega)).1 (hf.2 _ _ (by omega)) hf.lh
/-- the numbers alone -/
theorem TrF.num {S S' : PS} (h : TrF S S') : Fr (fun x => 21 ≤ x ∧ x < 51) S (S'.1, S'.2.1, S.2.2) := ⟨fun b hb => (h.1 b (by omega)).2, rfl, fun b hb => (h.1 b (by omega)).1⟩
theorem CVs.tr {Y : XS} {S S' : PS} {A : EL} {H : List EL} {K : Option EL} {tp : List Nat} {fp : Int32} (h : CVs Y S A H K tp fp) (hf : TrF S S') (hz : ZS S' 44) : CVs Y S' A H K tp fp := by
  obtain ⟨a1, a2, a3, a4, a5, a6, a7⟩ := h
  refine ⟨⟨hf.ev a1.1 (by omega), fun q hq => ?_⟩, ?_, ?_, ?_, hz, (show ZG (S'.1, S'.2.1, S.2.2) 51 from a6.fr hf.num (by omega)), (show TpV (S'.1, S'.2.1, S.2.2) tp fp from a7.fr hf.num (by omega) (by omega) (hf.gi (by omega) 1))⟩
  · obtain ⟨c1, c2, c3, c4⟩ := a1.2 q hq
    exact ⟨by rw [hf.gi (by omega)]; exact c1, by rw [hf.gi (by omega)]; exact c2, by rw [hf.gi (by omega)]; exact c3, fun v hv => by rw [hf.gi (by omega)]; exact c4 v hv⟩
  · obtain ⟨h1, en, h2, h3, h4, h5⟩ := a2
    refine ⟨h1, en, h2, by rw [hf.gi (by omega)]; exact h3, by rw [hf.gi (by omega)]; exact h4, fun k hk => hf.ev (h5 k hk) (by omega)⟩
  · cases K with
    | none => exact (hf.gi (by omega) 11).trans a3
    | some B => exact ⟨(hf.gi (by omega) 11).trans a3.1, hf.ev a3.2 (by omega)⟩
  · obtain ⟨kn, w1, w2, w3⟩ := a4
    exact ⟨kn, w1, by rw [hf.gi (by omega)]; exact w2, fun r hr hb => (show ORr (S'.1, S'.2.1, S.2.2) (143 + 8 * r) A r from (w3 r hr hb).fr hf.num (by omega))⟩
theorem s_pcopy {Y : XS} {n : Nat} {S : PS} {A : EL} (hC : CSt Y S) (hA : PV Y S 9 A) : ok (fX6_copyFrom Y n S 21 9) (fun S' => TrF S S' ∧ CSt Y S' ∧ PV Y S' 21 A ∧ ∀ b, (44 ≤ b ∧ b < 51) → ∀ j, gi S' b j = gi S b j) := by
  have p9 := hC.2.1
  have p21 := hC.2.2.1
  have b1 := hA.1.ew.2.1
  have b2 := hA.1.ew.2.2.1
  unfold fX6_copyFrom
  rw [kgr_n p21.2.1, kgr_n p9.2.1]
  refine ok_kc (s_copyV (e := 22) (e' := 10) p21.1 p9.1 (by omega) (by omega) hA.1) ?_
  rintro S1 ⟨f1, e1⟩
  have hC1 : CSt Y S1 := hC.fe f1 (by decide)
  obtain ⟨_, _, x1, x2, x3, x4, _, _, l1, l2, l3, l4, _⟩ := hC1.2.1
  obtain ⟨_, _, y1, y2, y3, y4, _, _, m1', m2, m3, m4, _⟩ := hC1.2.2.1
  rw [show (0 : Int32) = nI 0 from rfl, show (12 : Int32) = nI 12 from rfl, show (288 : Int32) = nI 288 from rfl]
  rw [kgr_n x1, kgr_n y1, kcp_n (by omega) (by omega) (by omega) (by omega)]
  rw [kgr_n (b := 9 + 6) (by rw [Gr_sc]; exact x2), kgr_n (b := 21 + 6) (by rw [Gr_sc]; exact y2), kcp_n (by omega) (by omega) (by omega) (by omega)]
  rw [kgr_n (b := 9 + 7) (by rw [Gr_sc, Gr_sc]; exact x3), kgr_n (b := 21 + 7) (by rw [Gr_sc, Gr_sc]; exact y3), kcp_n (by omega) (by omega) (by omega) (by omega)]
  rw [kgr_n (b := 9 + 8) (by rw [Gr_sc, Gr_sc, Gr_sc]; exact x4), kgr_n (b := 21 + 8) (by rw [Gr_sc, Gr_sc, Gr_sc]; exact y4), kcp_n (by omega) (by omega) (by omega) (by omega)]
  generalize hS5 : sc _ (21 + 8) _ = S5
  have f5 : Fr (fun x => 26 ≤ x ∧ x < 30) S1 S5 := by
    rw [← hS5]
    exact ((((Fr.rf (M := fun x => 26 ≤ x ∧ x < 30)).sc (by omega)).sc (by omega)).sc (by omega)).sc (by omega)
  have q5 : ∀ j, j < 12 → gi S5 26 j = gi S1 14 j := by
    intro j hj
    rw [← hS5]
    simp (discharger := omega) only [Gi_sc, if_neg, if_pos]
    exact cpy0 hj
  have q6 : ∀ j, j < 12 → gi S5 27 j = gi S1 15 j := by
    intro j hj
    rw [← hS5]
    simp (discharger := omega) only [Gi_sc, if_neg, if_pos]
    rw [cpy0 hj]
    show gi _ 15 j = _
    simp (discharger := omega) only [Gi_sc, if_neg]
  have q7 : ∀ j, j < 12 → gi S5 28 j = gi S1 16 j := by
    intro j hj
    rw [← hS5]
    simp (discharger := omega) only [Gi_sc, if_neg, if_pos]
    rw [cpy0 hj]
    show gi _ 16 j = _
    simp (discharger := omega) only [Gi_sc, if_neg]
  have q8 : ∀ j, j < 288 → gi S5 29 j = gi S1 17 j := by
    intro j hj
    rw [← hS5]
    simp (discharger := omega) only [Gi_sc, if_pos]
    rw [cpy0 hj]
    show gi _ 17 j = _
    simp (discharger := omega) only [Gi_sc, if_neg]
  refine ok_i ⟨(TrF.fe f1).tr (TrF.of f5 (by omega)), hC1.fr f5.2.1, ⟨e1.fr f5 (by omega) (by omega), fun q hq => ?_⟩, fun b hb j => by rw [f5.gi (by omega), f1.gi (by omega)]⟩
  obtain ⟨c1, c2, c3, c4⟩ := hA.2 q hq
  refine ⟨?_, ?_, ?_, fun v hv => ?_⟩
  · show gi S5 26 q = _
    rw [q5 q (by omega), f1.gi (by omega)]; exact c1
  · show gi S5 27 q = _
    rw [q6 q (by omega), f1.gi (by omega)]; exact c2
  · show gi S5 28 q = _
    rw [q7 q (by omega), f1.gi (by omega)]; exact c3
  · show gi S5 29 (q * 24 + v) = _
    rw [q8 _ (by omega), f1.gi (by omega)]; exact c4 v hv
theorem s_tried {Y : XS} {n : Nat} {S : PS} {A : EL} {r : Nat} (hn : 10000 ≤ n) (hC : CSt Y S) (hZ : ZS S 44) (hA : PV Y S 21 A) (hr : r < 9) :
    ok (fX10_tried Y n S 0 (nI r)) (fun q => q.1 = nI (lb (RLs A r)) ∧ lb (RLs A r) < 4096 ∧ TrF S q.2 ∧ CSt Y q.2 ∧ ZS q.2 44 ∧ PV Y q.2 21 A) := by
  have a7 := hA.1.ew
  unfold fX10_tried
  rw [kgr_n hC.1.2.2.2.2.2.1, kgr_n hC.1.2.2.2.1, kgr_n hC.1.2.2.2.2.1]
  refine ok_kc (s_choose hn (by omega) (by omega) (by omega) (by omega) (by omega) (by omega) hC.2.2.1 hA hC.2.2.2.1 hC.2.2.2.2.1 hZ hr) ?_
  rintro T ⟨t1, t2, t3, _⟩
  rw [kgr_n (b := 32) (by rw [t1.gr]; exact hC.1.2.2.2.2.1), kgi_n, t3.1.2.1]
  exact ok_i ⟨rfl, t3.gl a7, TrF.of t1 (by omega), hC.fr t1.2.1, t2, hA.fr t1 (by omega) (by omega)⟩
/-- behind a try -/
def QT (Y : XS) (S S' : PS) (A : EL) (H : List EL) (K : Option EL) (tp : List Nat) (fp : Int32) : Prop := CSt Y S' ∧ CVs Y S' A H K tp fp ∧ TrF S S'
theorem ZS.same {S S' : PS} (h : ZS S 44) (e : ∀ b, (44 ≤ b ∧ b < 51) → ∀ j, gi S' b j = gi S b j) : ZS S' 44 := by
  obtain ⟨z1, z2, z3, z4, z5⟩ := h
  exact ⟨by rw [e _ (by omega)]; exact z1, by rw [e _ (by omega)]; exact z2, fun v hv => by rw [e _ (by omega)]; exact z3 v hv, by rw [e _ (by omega)]; exact z4, fun v hv => by rw [e _ (by omega)]; exact z5 v hv⟩
noncomputable def chB (A : EL) (r : Nat) : Nat := lb (RLs A r)
noncomputable def aAway (A : EL) (x y : Int32) : AN := match ix x 9, ix y (eV A) with
  | some r, some v => .inl (nI (chB (aDV A v) r))
  | _, _ => .inr 1
theorem c_away {Y : XS} {n : Nat} {S : PS} {A : EL} {H : List EL} {K : Option EL} {tp : List Nat} {fp : Int32} {x y : Int32} (hn : 10000 ≤ n) (hC : CSt Y S) (hV : CVs Y S A H K tp fp) :
    ok (fX10_away Y n S 0 x y) (outC (fun S' => QT Y S S' A H K tp fp) (aAway A x y)) := by
  have hQ : QT Y S S A H K tp fp := ⟨hC, hV, TrF.rf⟩
  have b2 := hV.1.1.ew.2.2.1
  unfold fX10_away aAway
  rw [s_needRule, kc_s]
  cases h : ix x 9 with
  | none => exact ok_i ⟨rfl, hQ⟩
  | some r =>
    obtain ⟨rfl, hr⟩ := ix_some (by decide) h
    show ok (kc (fX10_needVoter Y n S 0 y) _) _
    rw [s_needVoter hC hV.1.1, kc_s]
    cases h2 : ix y (eV A) with
    | none => exact ok_i ⟨rfl, hQ⟩
    | some v =>
      obtain ⟨rfl, hv⟩ := ix_some (by omega) h2
      show ok (kgr S 0 5 _) _
      rw [kgr_n hC.1.2.2.2.1, kgr_n hC.1.2.1]
      refine ok_kc (s_pcopy hC hV.1) ?_
      rintro T ⟨t1, t2, t3, t4⟩
      rw [kgr_n t2.1.2.2.2.1, kgr_n t2.2.2.1.2.1]
      refine ok_kc (s_dropVoter (e := 22) (by omega) (by omega) t2.2.2.1.1 t3.1 hv) ?_
      rintro U ⟨u1, u2⟩
      have hCU : CSt Y U := t2.fr u1.2.1
      rw [kgr_n hCU.1.2.2.2.1]
      refine ok_kc (s_tally (p := 21) (by omega) (by omega) hCU.2.2.1 u2) ?_
      rintro W ⟨w1, w2⟩
      have hCW : CSt Y W := hCU.fr w1.2.1
      have hZW : ZS W 44 := (hV.2.2.2.2.1.same (fun b hb j => by rw [w1.gi (by omega), u1.gi (by omega)]; exact t4 b hb j))
      refine ok_kc (s_tried hn hCW hZW w2 hr) ?_
      rintro ⟨z1, X⟩ ⟨x1, x2, x3, x4, x5, x6⟩
      simp only at x1 x3 x4 x5
      subst x1
      have fX : TrF S X := ((t1.tr (TrF.of u1 (by omega))).tr (TrF.of w1 (by omega))).tr x3
      exact ok_i ⟨rfl, x4, hV.tr fX x5, fX⟩
