/-! SHARES, CLASS: share. -/
def bdZ (A : EL) : Nat → Option Nat := fbd A
theorem bd_first {A : EL} (h : EW A) (b : Nat → Nat) : BdOK A 0 b (fbd A) := by
  intro q hq
  refine ⟨fun hn => Or.inr (fbd_none h hq hn), fun r hr => ⟨by simp, ?_, fbd_low hr⟩⟩
  have := fbd_le h hq hr
  omega
theorem s_bounds {Y : XS} {n : Nat} {S : PS} {p s o : Nat} {A : EL} (hn : 100 ≤ n) (hs : s + 3 ≤ 235) (hd : p + 11 ≤ s ∨ s + 3 ≤ p) (hP : SP Y S p) (hA : PV Y S p A) (hS : SH Y S s) :
    ok (iter (bX9_share_30 Y n s p o (p + 1)) n ((0 : Int32), S)) (fun S' => Fr (fun x => x = s + 1) S S' ∧ ∀ q, q < eP A → gi S' (s + 1) q = oI (fbd A q)) := by
  have a7 := hA.1.2.2.2.2.2.2.2
  have b1 := a7.2.1
  have l1 := hS.2.2.1
  refine iter_ok (fun i t => t.1 = nI i ∧ Fr (fun x => x = s + 1) S t.2 ∧ ∀ q, q < i → gi t.2 (s + 1) q = oI (fbd A q)) (eP A) (fun i t hi h => ?_) (fun t h => ?_) (by omega) ⟨rfl, Fr.rf, fun q hq => absurd hq (Nat.not_lt_zero _)⟩
  · obtain ⟨t1, T⟩ := t
    obtain ⟨k1, k2, k3⟩ := h
    simp only at k1 k2 k3
    subst k1
    have hPT : SP Y T p := hP.fr k2.2.1
    have hAT : PV Y T p A := hA.fr k2 (by omega) (by omega)
    have hST : SH Y T s := hS.fr k2.2.1
    have g1 := hAT.1.2.1
    unfold bX9_share_30
    simp (discharger := omega) only [kgi, g1, nle, if_neg, kgr_n hST.1]
    rw [s_firstBound hPT hAT hi, kc_s, kwi_n (by omega) (by omega), nI_1, ok_some, so_l]
    refine ⟨rfl, k2.si rfl, fun q hq => ?_⟩
    rw [Gi_si]
    by_cases e : q = i
    · rw [if_pos ⟨rfl, e⟩, e]
    · rw [if_neg (fun z => e z.2)]
      exact k3 q (by omega)
  · obtain ⟨t1, T⟩ := t
    obtain ⟨k1, k2, k3⟩ := h
    simp only at k1 k2 k3
    subst k1
    have hAT : PV Y T p A := hA.fr k2 (by omega) (by omega)
    have g1 := hAT.1.2.1
    unfold bX9_share_30
    simp (discharger := omega) only [kgi, g1, nle, if_pos, ok_some, so_r]
    exact ⟨k2, k3⟩
theorem OC.fr {S S' : PS} {M : Nat → Prop} {o : Nat} {A : EL} {L : List Nat} (h : OC S o A L) (hf : Fr M S S') (h0 : ¬ M o) (h1 : ¬ M (o + 1)) : OC S' o A L := by
  obtain ⟨x1, x2, x3, x4, x5⟩ := h
  exact ⟨by rw [hf.gi h0]; exact x1, by rw [hf.gi h0]; exact x2, by rw [hf.gi h0]; exact x3, fun i hi => by rw [hf.gi h1]; exact x4 i hi, x5⟩
theorem ShO.fr {S S' : PS} {M : Nat → Prop} {o k : Nat} {A : EL} {b0 : Nat → Nat} (h : ShO S o A b0 k) (hf : Fr M S S') (hd : ∀ x, o ≤ x → x < o + 8 → ¬ M x) : ShO S' o A b0 k := by
  obtain ⟨h1, h2, h3, h4, h5⟩ := h
  refine ⟨h1, h2.fr hf (hd _ (by omega) (by omega)) (hd _ (by omega) (by omega)), by rw [hf.gi (hd _ (by omega) (by omega))]; exact h3, fun v hv => by rw [hf.gi (hd _ (by omega) (by omega))]; exact h4 v hv, fun i q hi hq => ?_⟩
  obtain ⟨y1, y2, y3, y4⟩ := h5 i q hi hq
  exact ⟨by rw [hf.gi (hd _ (by omega) (by omega))]; exact y1, by rw [hf.gi (hd _ (by omega) (by omega))]; exact y2, by rw [hf.gi (hd _ (by omega) (by omega))]; exact y3, fun v hv => by rw [hf.gi (hd _ (by omega) (by omega))]; exact y4 v hv⟩
theorem s_shareL {Y : XS} {n : Nat} {S : PS} {p s o : Nat} {A : EL} {b0 : Nat → Nat} (hn : 100 ≤ n) (hp : p + 11 ≤ 235) (ho : o + 8 ≤ 235) (hs : s + 3 ≤ 235) (hpo : p + 11 ≤ o ∨ o + 8 ≤ p) (hps : p + 11 ≤ s ∨ s + 3 ≤ p) (hos : o + 8 ≤ s ∨ s + 3 ≤ o) (hP : SP Y S p) (hA : PV Y S p A) (hS : SH Y S s) (hO : SO Y S o) (hB : sm b0 (eV A) ≤ 200000000) (hb : ∀ q, q < eP A → gi S (s + 1) q = oI (fbd A q)) (h0 : ShO S o A b0 0) :
    ok (iter (bX9_share_62 Y n s p o (p + 1)) n ((0 : Int32), S)) (fun r => ∃ S', (r = .inl S' ∨ r = .inr S') ∧ Fr (fun x => x = s + 1 ∨ (o ≤ x ∧ x < o + 8)) S S' ∧ gi S' o 4 = gi S o 4 ∧ gi S' o 11 = gi S o 11 ∧ ∃ k, k ≤ eP A ∧ ShO S' o A b0 k ∧ (sq A b0 k = none ∨ eM A < csum A (bst A b0 k).1)) := by
  have a7 := hA.1.2.2.2.2.2.2.2
  have b0' := a7.1
  have b1 := a7.2.1
  have l1 := hS.2.2.1
  refine iter_ok (fun i t => t.1 = nI i ∧ Fr (fun x => x = s + 1 ∨ (o ≤ x ∧ x < o + 8)) S t.2 ∧ gi t.2 o 4 = gi S o 4 ∧ gi t.2 o 11 = gi S o 11 ∧ ShO t.2 o A b0 i ∧ ∃ bd, (∀ q, q < eP A → gi t.2 (s + 1) q = oI (bd q)) ∧ BdOK A (bst A b0 i).1 (bst A b0 i).2 bd) (eP A) (fun i t hi h => ?_) (fun t h => ?_) (by omega) ⟨rfl, Fr.rf, rfl, rfl, h0, fbd A, hb, bd_first a7 _⟩
  · obtain ⟨t1, T⟩ := t
    obtain ⟨k1, k2, k3, k3', k4, bd, k5, k6⟩ := h
    simp only at k1 k2 k3 k3' k4 k5
    subst k1
    have hPT : SP Y T p := hP.fr k2.2.1
    have hAT : PV Y T p A := hA.fr k2 (by omega) (by omega)
    have hST : SH Y T s := hS.fr k2.2.1
    have hOT : SO Y T o := hO.fr k2.2.1
    have g0 := hAT.1.1
    have g1 := hAT.1.2.1
    have gs := k4.2.1.2.2.1
    rw [lb_sl] at gs
    have hcl := csum_le a7 (bst A b0 i).1
    unfold bX9_share_62
    simp (discharger := omega) only [kgi, g0, g1, gs, nle, nlt, if_neg, kgr_n hOT.2.2.1]
    by_cases hm : eM A < csum A (bst A b0 i).1
    · rw [if_pos hm, ok_some, so_r]
      exact ⟨T, Or.inl rfl, k2, k3, k3', i, by omega, k4, Or.inr hm⟩
    · rw [if_neg hm]
      refine ok_kc (s_cheapest hn hPT hAT hST (by omega) (by omega) k5 k6 hOT.2.2.2.2.2.2.2.2.2.1 (by omega) k4.2.2.2.1 (bst_sm hB)) ?_
      rintro ⟨c1, U⟩ ⟨m1', m2, bd', m3, m4, m5⟩
      simp only at m1' m2 m3
      subst m1'
      have m5' : ∀ q, sq A b0 i = some q → bd' q = prc A (bst A b0 i).2 q := m5
      have fU : Fr (fun x => x = s + 1 ∨ (o ≤ x ∧ x < o + 8)) S U := k2.tr (m2.mono (by omega))
      have hU : ShO U o A b0 i := k4.fr m2 (by omega)
      rw [show nxt A (bst A b0 i).1 (bst A b0 i).2 = sq A b0 i from rfl]
      cases hq : sq A b0 i with
      | none =>
        rw [if_pos (show oI none = -1 from rfl), ok_some, so_r]
        refine ⟨U, Or.inr rfl, fU, ?_, ?_, i, by omega, hU, Or.inl hq⟩
        · rw [m2.gi (by omega)]; exact k3
        · rw [m2.gi (by omega)]; exact k3'
      | some q =>
        obtain ⟨q1, q2, r, q3⟩ := nxt_some hq
        have hbq : gi U (s + 1) q = nI (spr A b0 i q) := by
          rw [m3 q q1, m5' q hq]
          unfold spr
          rw [q3]
          rfl
        have hno : ¬ oI (some q) = -1 := by show ¬ nI q = m1; rw [nm1 (by omega)]; exact fun h => h
        have hPU : SP Y U p := hP.fr fU.2.1
        have hAU : PV Y U p A := hA.fr fU (by omega) (by omega)
        have hSU : SH Y U s := hS.fr fU.2.1
        have hOU : SO Y U o := hO.fr fU.2.1
        rw [if_neg hno]
        dsimp only
        simp (discharger := omega) only [oI_s, kgr_n hSU.1, kai_n, hbq]
        refine ok_kc (s_buy hn hp ho hpo hPU hAU hOU hB hU hq) ?_
        rintro W ⟨w1, w2, w3, w4⟩
        have hSW : SH Y W s := hSU.fr w1.2.1
        have fW : Fr (fun x => x = s + 1 ∨ (o ≤ x ∧ x < o + 8)) S W := fU.tr (w1.mono (by omega))
        simp (discharger := omega) only [kgr_n hSW.1, kwi_n, nI_1]
        rw [ok_some, so_l]
        refine ⟨rfl, fW.si (by omega), ?_, ?_, w2.fr ((Fr.rf (M := fun x => x = s + 1)).si rfl) (by omega), fun j => if j = q then none else bd' j, fun j hj => ?_, ?_⟩
        · rw [Gi_si, if_neg (by omega), w3, m2.gi (by omega)]; exact k3
        · rw [Gi_si, if_neg (by omega), w4, m2.gi (by omega)]; exact k3'
        · dsimp only
          rw [Gi_si]
          by_cases e : j = q
          · rw [if_pos ⟨rfl, e⟩, if_pos e]
            rfl
          · rw [if_neg (fun z => e z.2), if_neg e, w1.gi (by omega)]
            exact m3 j hj
        · rw [bst_s hq]
          exact m4.next (fun v _ => pay_le _ _ _ _ _)
  · obtain ⟨t1, T⟩ := t
    obtain ⟨k1, k2, k3, k3', k4, bd, k5, k6⟩ := h
    simp only at k1 k2 k3 k3' k4 k5
    subst k1
    have hAT : PV Y T p A := hA.fr k2 (by omega) (by omega)
    have g1 := hAT.1.2.1
    unfold bX9_share_62
    simp (discharger := omega) only [kgi, g1, nle, if_pos, ok_some, so_r]
    exact ⟨T, Or.inl rfl, k2, k3, k3', eP A, Nat.le_refl _, k4, Or.inl (sq_all k4.1 (Nat.le_refl _))⟩
theorem s_share {Y : XS} {n : Nat} {S : PS} {p s o m : Nat} {A : EL} (hn : 100 ≤ n) (hm : m ≤ 300) (hp : p + 11 ≤ 235) (ho : o + 8 ≤ 235) (hs : s + 3 ≤ 235) (hpo : p + 11 ≤ o ∨ o + 8 ≤ p) (hps : p + 11 ≤ s ∨ s + 3 ≤ p) (hos : o + 8 ≤ s ∨ s + 3 ≤ o) (hP : SP Y S p) (hA : PV Y S p A) (hS : SH Y S s) (hO : SO Y S o) :
    ok (fX9_share Y n S s p o (nI m)) (fun S' => Fr (fun x => x = s + 1 ∨ (o ≤ x ∧ x < o + 8)) S S' ∧ gi S' o 4 = nI m ∧ gi S' o 11 = nI 0 ∧ ∃ k, k ≤ eP A ∧ ShO S' o A (fun _ => pu A m) k ∧ (sq A (fun _ => pu A m) k = none ∨ eM A < csum A (bst A (fun _ => pu A m) k).1)) := by
  have a7 := hA.1.2.2.2.2.2.2.2
  unfold fX9_share
  rw [kgr_n hP.2.1]
  refine ok_kc (s_oclear (A := A)) ?_
  rintro S1 ⟨f1, c1, c2, c3, c4⟩
  rw [kpi_n]
  generalize hS2 : si S1 o 4 (nI m) = S2
  have f2 : Fr (fun b => b = o) S S2 := by rw [← hS2]; exact f1.si rfl
  have hP2 : SP Y S2 p := hP.fr f2.2.1
  have hA2 : PV Y S2 p A := hA.fr f2 (by omega) (by omega)
  have hO2 : SO Y S2 o := hO.fr f2.2.1
  have lo3 := hO.2.2.2.2.2.2.2.2.2.1
  rw [kgr_n hO2.2.2.1, s_purseOf hP2 hA2.1, kc_s, s_fill (by omega) (by omega), kc_s]
  generalize hS3 : sc S2 (o + 3) (fun j => if j < ln Y (o + 3) then nI (pu A m) else gi S2 (o + 3) j) = S3
  have f3 : Fr (fun x => o ≤ x ∧ x < o + 8) S S3 := by rw [← hS3]; exact (f2.mono (by omega)).sc (by omega)
  have hP3 : SP Y S3 p := hP.fr f3.2.1
  have hA3 : PV Y S3 p A := hA.fr f3 (by omega) (by omega)
  have hO3 : SO Y S3 o := hO.fr f3.2.1
  have hS3' : SH Y S3 s := hS.fr f3.2.1
  refine ok_kc (s_bounds (o := o) hn hs hps hP3 hA3 hS3') ?_
  rintro S4 ⟨f4, hb4⟩
  have f4' : Fr (fun x => x = s + 1 ∨ (o ≤ x ∧ x < o + 8)) S S4 := (f3.mono (by omega)).tr (f4.mono (by omega))
  have e3 : ∀ j, j ≠ 4 → gi S3 o j = gi S1 o j := by
    intro j hj
    rw [← hS3, Gi_sc, if_neg (by omega), ← hS2, Gi_si, if_neg (by omega)]
  have e4 : gi S3 o 4 = nI m := by rw [← hS3, Gi_sc, if_neg (by omega), ← hS2, Gi_si, if_pos ⟨rfl, rfl⟩]
  have oc3 : OC S3 o A [] := by
    obtain ⟨x1, x2, x3, x4, x5⟩ := c1
    refine ⟨by rw [e3 1 (by omega)]; exact x1, by rw [e3 2 (by omega)]; exact x2, by rw [e3 3 (by omega)]; exact x3, fun i hi => absurd hi (Nat.not_lt_zero _), x5⟩
  have sh3 : ShO S3 o A (fun _ => pu A m) 0 := by
    refine ⟨fun i hi => absurd hi (Nat.not_lt_zero _), oc3, ?_, fun v hv => ?_, fun i q hi => absurd hi (Nat.not_lt_zero _)⟩
    · rw [e3 5 (by omega)]; exact c3
    · have := a7.2.2.1
      rw [← hS3, Gi_sc, if_pos rfl, if_pos (by omega)]
      rfl
  have sh4 : ShO S4 o A (fun _ => pu A m) 0 := sh3.fr f4 (by omega)
  refine ok_kc (s_shareL hn hp ho hs hpo hps hos (hP.fr f4'.2.1) (hA.fr f4' (by omega) (by omega)) (hS.fr f4'.2.1) (hO.fr f4'.2.1) (pu_sum a7 hm) hb4 sh4) ?_
  rintro r ⟨S5, hr, f5, g4, g11, k, k1, k2, k3⟩
  have fin : Fr (fun x => x = s + 1 ∨ (o ≤ x ∧ x < o + 8)) S S5 ∧ gi S5 o 4 = nI m ∧ gi S5 o 11 = nI 0 ∧ ∃ k, k ≤ eP A ∧ ShO S5 o A (fun _ => pu A m) k ∧ (sq A (fun _ => pu A m) k = none ∨ eM A < csum A (bst A (fun _ => pu A m) k).1) := by
    refine ⟨f4'.tr f5, ?_, ?_, k, k1, k2, k3⟩
    · rw [g4, f4.gi (by omega)]; exact e4
    · rw [g11, f4.gi (by omega), e3 11 (by omega)]; exact c4
  rcases hr with rfl | rfl
  · exact ok_i fin
  · exact ok_i fin
