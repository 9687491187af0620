/-! THE LAW'S OTHER CASES, its turn. -/
theorem QC.gm {Y : XS} {S S' : PS} {A A' : EL} {H H' : List EL} {K K' : Option EL} {tp tp' : List Nat} {fp fp' : Int32} (q : QC Y S S' A' H' K' tp' fp') (hG : Gd Y S A H K tp fp) : CSt Y S' ∧ CVs Y S' A' H' K' tp' fp' ∧ MSt Y S' ∧ MVs S' A H K tp fp := ⟨q.1, q.2.1, (q.2.2.ms hG.2.2.1 hG.2.2.2.1).1, (q.2.2.ms hG.2.2.1 hG.2.2.2.1).2⟩
theorem lg_0 {xs : Nat → Int32} {L n : Nat} {i : Int32} {Y : XS} {S : PS} {A : EL} {H : List EL} {K : Option EL} {tp : List Nat} {fp : Int32} (hn : 100000 ≤ n) (h1 : inb (i + 1) L = true) (h2 : inb (i + 2) L = true) (h3 : inb (i + 3) L = true) (h4 : inb (i + 4) L = true) (h5 : inb (i + 5) L = true) (hG : Gd Y S A H K tp fp) : ok (g0 xs L n 0 215 234 i Y S) (fun r => GG r.1 r.2) := by
  unfold g0
  simp only [ksc_n h1, ksc_n h2, ksc_n h3, ksc_n h4, ksc_n h5]
  refine ok_kc (c_feed (by omega) hG.1 hG.2.1) ?_
  rintro ⟨q1, q2⟩ ⟨e1, q⟩
  obtain ⟨d1, d2, d3, d4⟩ := QC.gm q hG
  refine ok_kc (m_feed (by omega) d3 d4) ?_
  rintro ⟨t1, t2⟩ ⟨e2, t⟩
  dsimp only at e1 e2 ⊢
  rw [if_pos (e1.trans e2.symm)]
  exact ok_i (t.gd d1 d2 hG.2.2.2.2).gg
theorem lg_2 {xs : Nat → Int32} {L n : Nat} {i : Int32} {Y : XS} {S : PS} {A : EL} {H : List EL} {K : Option EL} {tp : List Nat} {fp : Int32} (hG : Gd Y S A H K tp fp) : ok (g2 xs L n 0 215 234 i Y S) (fun r => GG r.1 r.2) := by
  unfold g2 fX10_fault
  rw [kgi_n, kc_s]
  refine ok_kc (m_fault hG.2.2.1 hG.2.2.2.1) ?_
  rintro ⟨t1, t2⟩ ⟨e2, t⟩
  dsimp only at e2 ⊢
  rw [if_pos (hG.2.1.2.2.2.2.2.2.2.2.2.trans e2.symm)]
  exact ok_i (t.gd hG.1 hG.2.1 hG.2.2.2.2).gg
theorem lg_26 {xs : Nat → Int32} {L n : Nat} {i : Int32} {Y : XS} {S : PS} {A : EL} {H : List EL} {K : Option EL} {tp : List Nat} {fp : Int32} (hn : 100000 ≤ n) (hG : Gd Y S A H K tp fp) : ok (g26 xs L n 0 215 234 i Y S) (fun r => GG r.1 r.2) := by
  unfold g26
  refine ok_kc (c_undo (by omega) hG.1 hG.2.1) ?_
  rintro ⟨q1, q2⟩ ⟨e1, q⟩
  obtain ⟨d1, d2, d3, d4⟩ := QC.gm q hG
  refine ok_kc (m_undo (by omega) d3 d4) ?_
  rintro ⟨t1, t2⟩ ⟨e2, t⟩
  dsimp only at e1 e2 ⊢
  rw [if_pos (e1.trans e2.symm)]
  exact ok_i (t.gd d1 d2 hG.2.2.2.2).gg
theorem lg_27 {xs : Nat → Int32} {L n : Nat} {i : Int32} {Y : XS} {S : PS} {A : EL} {H : List EL} {K : Option EL} {tp : List Nat} {fp : Int32} (hn : 100000 ≤ n) (hG : Gd Y S A H K tp fp) : ok (g27 xs L n 0 215 234 i Y S) (fun r => GG r.1 r.2) := by
  unfold g27
  refine ok_kc (c_image hG.1 hG.2.1) ?_
  intro q2 q
  obtain ⟨d1, d2, d3, d4⟩ := QC.gm q hG
  refine ok_kc (m_image (by omega) d3 d4) ?_
  intro t2 t
  exact ok_i (t.gd d1 d2 hG.2.2.2.2).gg
theorem lg_28 {xs : Nat → Int32} {L n : Nat} {i : Int32} {Y : XS} {S : PS} {A : EL} {H : List EL} {K : Option EL} {tp : List Nat} {fp : Int32} (hn : 100000 ≤ n) (hG : Gd Y S A H K tp fp) : ok (g28 xs L n 0 215 234 i Y S) (fun r => GG r.1 r.2) := by
  unfold g28
  refine ok_kc (c_back (by omega) hG.1 hG.2.1) ?_
  rintro ⟨q1, q2⟩ ⟨e1, q⟩
  obtain ⟨d1, d2, d3, d4⟩ := QC.gm q hG
  refine ok_kc (m_back (by omega) d3 d4) ?_
  rintro ⟨t1, t2⟩ ⟨e2, t⟩
  dsimp only at e1 e2 ⊢
  rw [if_pos (e1.trans e2.symm)]
  exact ok_i (t.gd d1 d2 hG.2.2.2.2).gg
theorem lg_1 {xs : Nat → Int32} {L n : Nat} {i : Int32} {Y : XS} {S : PS} {A : EL} {H : List EL} {K : Option EL} {tp : List Nat} {fp : Int32} (hn : 100000 ≤ n) (h1 : inb (i + 1) L = true) (hG : Gd Y S A H K tp fp) : ok (g1 xs L n 0 215 234 i Y S) (fun r => GG r.1 r.2) := by
  obtain ⟨w1, w2, w3, w4, w5⟩ := hG
  have nx : 235 ≤ nX Y := w1.2.2.2.2.2.2.2.2.2.2.1
  unfold g1 fL_election
  simp only [ksc_n h1]
  generalize xs (i + 1).toNatClampNeg = x
  obtain ⟨r, hr, hq⟩ := c_election (n := n) (x := x) (by omega) w1 w2
  rw [hr, kc_s]
  cases r with
  | inl q =>
    obtain ⟨e1, c1, c2, c3, c4, c5⟩ := hq
    have l5 : ln q.2.1 234 = 1 := by rw [(c3.2 234 (by omega)).1]; exact w5
    have e2 : kwl q.2.1 q.2.2 234 (0 : Int32) (Int32.toInt64 q.1) (fun S2 => some ((0 : Int32), q.2.1, S2)) = some ((0 : Int32), q.2.1, sj q.2.2 234 0 (Int32.toInt64 q.1)) := kwl_n (k := 0) (by omega) (by omega)
    rw [ks_inl, e2, kc_s]
    obtain ⟨d1, d2⟩ := sj_cs (x := Int32.toInt64 q.1) c1 c2
    have d3 : MSt q.2.1 q.2.2 := w3.mv (c5 215 (by omega) (by omega)).2.2 (fun b _ hb => (c3.2 b (by omega)).1)
    have d4 : MVs q.2.2 A H K tp fp := w4.mv (fun b hb hc => (c5 b hb (by omega)).1)
    obtain ⟨d5, d6⟩ := sj_ms (x := Int32.toInt64 q.1) d3 d4
    refine ok_mono (law_tail (f := Int32.toInt64) d1 d2 l5 (m_election (x := x) (by omega) d5 d6) (fun y hy => ?_) (fun k hk => ?_)) (fun r h => h.gg)
    · rw [e1] at hy
      cases hy
      exact ⟨rfl, by rw [gl_sj, if_pos ⟨rfl, rfl⟩]⟩
    · rw [e1] at hk
      cases hk
  | inr q =>
    obtain ⟨e1, c1, c2, c3, c4, c5⟩ := hq
    have k2 : q.1 = 2 := by
      unfold aElection at e1
      split at e1
      · exact (Sum.inr.inj e1).symm
      · split at e1
        · cases e1
        · cases e1
    rw [ks_inr, if_pos k2, kc_s]
    have d3 : MSt Y q.2 := w3.mv (c5 215 (by omega) (by omega)).2.2 (fun b _ hb => rfl)
    have d4 : MVs q.2 A H K tp fp := w4.mv (fun b hb hc => (c5 b hb (by omega)).1)
    refine ok_mono (law_tail (f := Int32.toInt64) c1 c2 w5 (m_election (x := x) (by omega) d3 d4) (fun y hy => ?_) (fun k hk => ?_)) (fun r h => h.gg)
    · rw [e1] at hy
      cases hy
    · rw [e1] at hk
      cases hk
      exact ⟨rfl, show ¬ (1 : Int32) = 0 by decide⟩
theorem GG.step {xs : Nat → Int32} {L n : Nat} {i c : Int32} {Y : XS} {S : PS} (hn : 100000 ≤ n) (h1 : inb (i + 1) L = true) (h2 : inb (i + 2) L = true) (h3 : inb (i + 3) L = true) (h4 : inb (i + 4) L = true) (h5 : inb (i + 5) L = true) (h : GG Y S) : ok (gsel xs L n 0 215 234 c i Y S) (fun r => GG r.1 r.2) := by
  obtain ⟨A, H, K, tp, fp, hG⟩ := h
  unfold gsel
  refine ok_ite (fun _ => lg_0 hn h1 h2 h3 h4 h5 hG) (fun _ => ?_)
  refine ok_ite (fun _ => lg_1 hn h1 hG) (fun _ => ?_)
  refine ok_ite (fun _ => lg_2 hG) (fun _ => ?_)
  refine ok_ite (fun _ => lg_3 hn h1 hG) (fun _ => ?_)
  refine ok_ite (fun _ => lg_4 hn h1 h2 hG) (fun _ => ?_)
  refine ok_ite (fun _ => lg_5 hn h1 h2 h3 hG) (fun _ => ?_)
  refine ok_ite (fun _ => lg_6 hn h1 h2 hG) (fun _ => ?_)
  refine ok_ite (fun _ => lg_7 hn h1 h2 hG) (fun _ => ?_)
  refine ok_ite (fun _ => lg_8 hn h1 h2 hG) (fun _ => ?_)
  refine ok_ite (fun _ => lg_9 hn h1 h2 h3 hG) (fun _ => ?_)
  refine ok_ite (fun _ => lg_10 hn h1 h2 hG) (fun _ => ?_)
  refine ok_ite (fun _ => lg_11 hn h1 h2 hG) (fun _ => ?_)
  refine ok_ite (fun _ => lg_12 hn h1 h2 hG) (fun _ => ?_)
  refine ok_ite (fun _ => lg_13 hn h1 h2 hG) (fun _ => ?_)
  refine ok_ite (fun _ => lg_14 hn h1 h2 h3 hG) (fun _ => ?_)
  refine ok_ite (fun _ => lg_15 hn h1 h2 hG) (fun _ => ?_)
  refine ok_ite (fun _ => lg_16 hn h1 h2 hG) (fun _ => ?_)
  refine ok_ite (fun _ => lg_17 hn h1 h2 hG) (fun _ => ?_)
  refine ok_ite (fun _ => lg_18 hn h1 h2 h3 h4 hG) (fun _ => ?_)
  refine ok_ite (fun _ => lg_19 hn h1 h2 h3 hG) (fun _ => ?_)
  refine ok_ite (fun _ => lg_20 hn h1 h2 hG) (fun _ => ?_)
  refine ok_ite (fun _ => lg_21 hn h1 h2 hG) (fun _ => ?_)
  refine ok_ite (fun _ => lg_22 hn h1 hG) (fun _ => ?_)
  refine ok_ite (fun _ => lg_23 hn h1 h2 hG) (fun _ => ?_)
  refine ok_ite (fun _ => lg_24 hn h1 h2 h3 hG) (fun _ => ?_)
  refine ok_ite (fun _ => lg_25 hn h1 h2 hG) (fun _ => ?_)
  refine ok_ite (fun _ => lg_26 hn hG) (fun _ => ?_)
  refine ok_ite (fun _ => lg_27 hn hG) (fun _ => ?_)
  refine ok_ite (fun _ => lg_28 hn hG) (fun _ => ?_)
  exact ok_i hG.gg
