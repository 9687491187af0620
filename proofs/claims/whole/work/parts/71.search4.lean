/-! SEARCH, CLASS: bestSet. -/
theorem csum_0 (A : EL) : csum A 0 = 0 := by
  have z : ∀ n, sm (cst A 0) n = 0 := by
    intro n
    induction n with
    | zero => rfl
    | succ n ih => rw [sm_s, ih]; simp [cst]
  exact z _
theorem wa_0 (A : EL) : wa A 0 = 0 := by
  have z : ∀ n, sm (fun q => if (0 : Nat).testBit q = true then al A q else 0) n = 0 := by
    intro n
    induction n with
    | zero => rfl
    | succ n ih => rw [sm_s, ih]; simp
  exact z _
theorem wt_0 (A : EL) (v : Nat) : wt A v 0 = 0 := by
  have z : ∀ n, sm (fun q => if (0 : Nat).testBit q = true then wo A q v else 0) n = 0 := by
    intro n
    induction n with
    | zero => rfl
    | succ n ih => rw [sm_s, ih]; simp
  exact z _
theorem ww_0 (A : EL) : ww A 0 = 0 := by
  unfold ww
  split
  · rfl
  · have := mw_at (f := fun v => wt A v 0) (v := 0) (n := eV A - 1) (by omega)
    rw [wt_0] at this
    omega
theorem uk_0 (A : EL) (wf : Bool) : uk A wf 0 = 0 := by
  unfold uk
  split
  · exact ww_0 A
  · rfl
theorem bq_1 (A : EL) (wf : Bool) : bq A wf 1 = 0 := by
  rw [bq_s]
  split <;> rfl
theorem ent_0 {T : PS} {se : Nat} {A : EL} {wf : Bool} (hV : eV A ≤ 24) (hZ : ZS T se) : Ent T se A wf 0 := by
  obtain ⟨z1, z2, z3, z4, z5⟩ := hZ
  refine ⟨?_, ?_, fun _ v hv => ?_⟩
  · rw [csum_0]; exact z1
  · rw [wa_0]; exact z2
  · rw [wt_0]; exact z3 v (by omega)
theorem lo_12 {u : Nat} (h : u < 4096) : lo u ≤ 12 := by
  by_cases h0 : u = 0
  · subst h0; decide
  · have := (lo_bits u h (by omega)).1; omega
theorem s_bestSet {Y : XS} {n : Nat} {S : PS} {p se : Nat} {A : EL} {wf : Bool} (hn : 10000 ≤ n) (hp : p + 11 ≤ 235) (hs : se + 6 ≤ 235) (hd : p + 11 ≤ se ∨ se + 6 ≤ p) (hP : SP Y S p) (hA : PV Y S p A) (hS : SR Y S se) (hZ : ZS S se) :
    ok (fX8_bestSet Y n S se p (if wf = true then 1 else 0)) (fun r => r.1 = nI (bq A wf (2 ^ eP A)) ∧ Fr (fun x => se ≤ x ∧ x < se + 6) S r.2 ∧ ZS r.2 se) := by
  have a7 := hA.1.2.2.2.2.2.2.2
  have b0 := a7.1
  have b1 := a7.2.1
  have b2 := a7.2.2.1
  have hN := p12 b1
  have hN0 : 0 < 2 ^ eP A := Nat.two_pow_pos _
  have lc := hP.1.2.2.2.1
  have l6 := hP.2.2.2.2.2.2.2.2.2.1
  have hS0 := hS
  obtain ⟨s0, s1, s2, s3, s4, l1, l2, l3, l4, l5⟩ := hS
  unfold fX8_bestSet
  refine ok_kc (s_sumLesser (by omega) hs hd hP hA hS0 hZ) ?_
  rintro S1 ⟨f1, hZ1, hL⟩
  refine ok_kc (P := fun r => ∃ r2, (r = .inl (nI (bq A wf (2 ^ eP A)), r2) ∨ r = .inr (nI (bq A wf (2 ^ eP A)), r2)) ∧ Fr (fun x => se ≤ x ∧ x < se + 6) S r2 ∧ ZS r2 se) ?_ ?_
  · refine iter_mu (fun t => ∃ s T, t = (nI (bq A wf s), nI (uk A wf (bq A wf s)), nI (wa A (bq A wf s)), nI (csum A (bq A wf s)), nI s, T) ∧ 1 ≤ s ∧ s ≤ 2 ^ eP A ∧ Fr (fun x => x = se + 1 ∨ x = se + 2 ∨ x = se + 3) S1 T ∧ ZS T se ∧ PI T se A wf s) (fun t => 2 ^ eP A - t.2.2.2.2.1.toNatClampNeg) ?_ n _ ?_ ⟨1, S1, ?_, Nat.le_refl _, hN0, Fr.rf, hZ1, ?_⟩
    · rintro t ⟨s, T, rfl, hs1, hsN, fT, zT, pT⟩
      have fS : Fr (fun x => se ≤ x ∧ x < se + 6) S T := (f1.mono (by omega)).tr (fT.mono (by omega))
      have hPT : SP Y T p := hP.fr fS.2.1
      have hAT : PV Y T p A := hA.fr fS (by omega) (by omega)
      have hST : SR Y T se := hS0.fr fS.2.1
      have g1 := hAT.1.2.1
      by_cases hend : s = 2 ^ eP A
      · unfold bX8_bestSet_22
        dsimp only
        rw [kgr_n hPT.2.1, kgi_n, g1, n2p (by omega), if_pos (nI_le (by omega) (by omega)), ok_some, so_r, hend]
        exact ⟨T, Or.inl rfl, fS, zT⟩
      · have hlt : s < 2 ^ eP A := by omega
        have hsb : s < 4096 := by omega
        have hl := lo_lt hlt b1 hs1
        obtain ⟨c1, c2, c3, c4, c5, c6, c7⟩ := lo_bits s hsb hs1
        have hpo := pre_own hsb hs1
        have eu := pT (lo s + 1) (by rw [hpo.1]; exact hpo.2)
        rw [hpo.1] at eu
        have hlu := (pre_lo (t := lo s + 1) hsb hs1 (by rw [hpo.1]; exact hpo.2)).2
        rw [hpo.1] at hlu
        generalize hu : s - 2 ^ lo s = u at *
        have hub : u < 4096 := by omega
        have hlu12 := lo_12 hub
        have eC1 : csum A s = csum A u + eC A (lo s) := by rw [← hu]; exact lo_csum hsb hs1 hl
        have eW1 : wa A s = wa A u + al A (lo s) := by rw [← hu]; exact lo_wa hsb hs1 hl
        have hb4 : bq A wf s < 4096 := by have := bq_le A wf s; omega
        have x1 := csum_le a7 s
        have x2 := wa_le a7 s
        have x3 := csum_le a7 (bq A wf s)
        have x4 := wa_le a7 (bq A wf s)
        have x5 := uk_le a7 wf (bq A wf s)
        have x6 := uk_le a7 wf s
        have x7 := al_le a7 (lo s)
        have hsl : sm (al A) (lo s) ≤ 12 * 239976 := by
          have := sm_le (f := al A) (c := 239976) (n := lo s) (fun i _ => al_le a7 i)
          exact Nat.le_trans this (Nat.mul_le_mul_right _ (by omega))
        have v1 := hAT.1.2.2.2.1 (lo s) hl
        have v2 := (hAT.2 (lo s) hl).2.1
        have v3 : gi T (se + 4) (lo s) = nI (sm (al A) (lo s)) := by rw [fT.gi (by omega)]; exact (hL (lo s) hl).1
        have v0 := hAT.1.1
        have hand : nI s &&& (nI s - 1) = nI u := by rw [show (1 : Int32) = nI 1 from rfl, nsub hs1, nand, c2]
        have hskN := skip_le hlt b1 hs1
        have hpl : 1 ≤ 2 ^ lo s := Nat.one_le_two_pow
        have hadv : nI s + imax 1 (nI s &&& (-nI s)) = nI (s + 2 ^ lo s) := by
          rw [lo_neg s hsb, if_neg (by omega), show (1 : Int32) = nI 1 from rfl, nmax (by omega) (by omega), Nat.max_eq_right hpl, nI_add]
        -- what a jump over s and those with lesser projects gives
        have jump : ∀ (T' : PS), Fr (fun x => x = se + 1 ∨ x = se + 2 ∨ x = se + 3) S1 T' → ZS T' se → (∀ r, lo s < lo r → Ent T se A wf r → Ent T' se A wf r) → (∀ x, s ≤ x → x < s + 2 ^ lo s → upq A wf x (bq A wf s) = false) → so (fun (t' : Int32 × Int32 × Int32 × Int32 × Int32 × PS) => (∃ s' T'', t' = (nI (bq A wf s'), nI (uk A wf (bq A wf s')), nI (wa A (bq A wf s')), nI (csum A (bq A wf s')), nI s', T'') ∧ 1 ≤ s' ∧ s' ≤ 2 ^ eP A ∧ Fr (fun x => x = se + 1 ∨ x = se + 2 ∨ x = se + 3) S1 T'' ∧ ZS T'' se ∧ PI T'' se A wf s') ∧ 2 ^ eP A - t'.2.2.2.2.1.toNatClampNeg < 2 ^ eP A - (nI s).toNatClampNeg) (fun (r : (Int32 × PS) ⊕ (Int32 × PS)) => ∃ r2, (r = .inl (nI (bq A wf (2 ^ eP A)), r2) ∨ r = .inr (nI (bq A wf (2 ^ eP A)), r2)) ∧ Fr (fun x => se ≤ x ∧ x < se + 6) S r2 ∧ ZS r2 se) (Sum.inl (nI (bq A wf s), nI (uk A wf (bq A wf s)), nI (wa A (bq A wf s)), nI (csum A (bq A wf s)), nI (s + 2 ^ lo s), T')) := by
          intro T' h1 h2 h3 h4
          rw [so_l]
          have e := bq_skip (2 ^ lo s) h4
          refine ⟨⟨s + 2 ^ lo s, T', by rw [e], by omega, hskN, h1, h2, pT.skip hsb hs1 h3⟩, ?_⟩
          dsimp only
          rw [ncl (by omega), ncl (by omega)]
          omega
        -- what is kept of s, and the step to the next set
        have keep : ∀ (T' : PS), Fr (fun x => x = se + 3) T T' → (∀ j, (j < lo s * 24 ∨ lo s * 24 + 24 ≤ j) → gi T' (se + 3) j = gi T (se + 3) j) → (wf = true → ∀ v, v < eV A → gi T' (se + 3) (lo s * 24 + v) = nI (wt A v s)) → csum A s ≤ eM A → ok (jX8_bestSet_163_22 Y n T' se p (if wf = true then 1 else 0) (nI (bq A wf s)) (nI (uk A wf (bq A wf s))) (nI (wa A (bq A wf s))) (nI (csum A (bq A wf s))) (nI s) (nI (lo s)) (nI (csum A s)) (nI (wa A s)) 0 (nI (uk A wf s))) (so (fun t' => (∃ s' T'', t' = (nI (bq A wf s'), nI (uk A wf (bq A wf s')), nI (wa A (bq A wf s')), nI (csum A (bq A wf s')), nI s', T'') ∧ 1 ≤ s' ∧ s' ≤ 2 ^ eP A ∧ Fr (fun x => x = se + 1 ∨ x = se + 2 ∨ x = se + 3) S1 T'' ∧ ZS T'' se ∧ PI T'' se A wf s') ∧ 2 ^ eP A - t'.2.2.2.2.1.toNatClampNeg < 2 ^ eP A - (nI s).toNatClampNeg) (fun r => ∃ r2, (r = .inl (nI (bq A wf (2 ^ eP A)), r2) ∨ r = .inr (nI (bq A wf (2 ^ eP A)), r2)) ∧ Fr (fun x => se ≤ x ∧ x < se + 6) S r2 ∧ ZS r2 se)) := by
          intro T' k1 k2 k3 k4
          rw [bs163 (hST.fr k1.2.1) c1 (by omega) (by omega) (by omega) (by omega) (by omega) (by omega)]
          generalize hT2 : si (si T' (se + 1) (lo s) (nI (csum A s))) (se + 2) (lo s) (nI (wa A s)) = T2
          have f2 : Fr (fun x => x = se + 1 ∨ x = se + 2 ∨ x = se + 3) S1 T2 := by
            rw [← hT2]
            exact ((fT.tr (k1.mono (by omega))).si (by omega)).si (by omega)
          have q1 : ∀ j, gi T2 (se + 1) j = if j = lo s then nI (csum A s) else gi T (se + 1) j := by
            intro j
            rw [← hT2, Gi_si, if_neg (by omega), Gi_si]
            by_cases e : j = lo s
            · rw [if_pos ⟨rfl, e⟩, if_pos e]
            · rw [if_neg (fun y => e y.2), if_neg e, k1.gi (by omega)]
          have q2 : ∀ j, gi T2 (se + 2) j = if j = lo s then nI (wa A s) else gi T (se + 2) j := by
            intro j
            rw [← hT2, Gi_si]
            by_cases e : j = lo s
            · rw [if_pos ⟨rfl, e⟩, if_pos e]
            · rw [if_neg (fun y => e y.2), if_neg e, Gi_si, if_neg (by omega), k1.gi (by omega)]
          have q3 : ∀ j, gi T2 (se + 3) j = gi T' (se + 3) j := by
            intro j
            rw [← hT2, Gi_si, if_neg (by omega), Gi_si, if_neg (by omega)]
          have zT2 : ZS T2 se := by
            obtain ⟨z1, z2, z3, z4, z5⟩ := zT
            refine ⟨?_, ?_, fun v hv => ?_, ?_, fun v hv => ?_⟩
            · rw [q1, if_neg (by omega)]; exact z1
            · rw [q2, if_neg (by omega)]; exact z2
            · rw [q3, k2 _ (by omega)]; exact z3 v hv
            · rw [f2.gi (by omega)]; exact hZ1.2.2.2.1
            · rw [f2.gi (by omega)]; exact hZ1.2.2.2.2 v hv
          have eS : Ent T2 se A wf s := ⟨by rw [q1, if_pos rfl], by rw [q2, if_pos rfl], fun hw v hv => by rw [q3]; exact k3 hw v hv⟩
          have eK : ∀ r, lo s < lo r → Ent T se A wf r → Ent T2 se A wf r := by
            rintro r hr ⟨y1, y2, y3⟩
            refine ⟨by rw [q1, if_neg (by omega)]; exact y1, by rw [q2, if_neg (by omega)]; exact y2, fun hw v hv => ?_⟩
            rw [q3, k2 _ (by omega)]
            exact y3 hw v hv
          have pN := pT.next hsb hs1 eS eK
          have hm : 2 ^ eP A - (nI (s + 1)).toNatClampNeg < 2 ^ eP A - (nI s).toNatClampNeg := by
            rw [ncl (by omega), ncl (by omega)]
            omega
          by_cases hc : uk A wf (bq A wf s) < uk A wf s ∨ (uk A wf s = uk A wf (bq A wf s) ∧ (wa A (bq A wf s) < wa A s ∨ (wa A s = wa A (bq A wf s) ∧ csum A s < csum A (bq A wf s))))
          · rw [if_pos hc, ok_some, so_l]
            have e : bq A wf (s + 1) = s := by rw [bq_s, if_pos (show upq A wf s (bq A wf s) = true from decide_eq_true ⟨k4, hc⟩)]
            exact ⟨⟨s + 1, T2, by rw [e], by omega, by omega, f2, zT2, pN⟩, hm⟩
          · rw [if_neg hc, ok_some, so_l]
            have e : bq A wf (s + 1) = bq A wf s := by rw [bq_s, if_neg (fun y => hc (of_decide_eq_true y).2)]
            exact ⟨⟨s + 1, T2, by rw [e], by omega, by omega, f2, zT2, pN⟩, hm⟩
        unfold bX8_bestSet_22
        dsimp only
        simp (discharger := omega) only [kgr_n hPT.2.1, kgi, g1, n2p, nle, if_neg, s_least, kc_s, hand, show (12 : Int32) = nI 12 from rfl, nlt, if_pos, kgr_n hST.1, kai_n, eu.1, eu.2.1, kgr_n hPT.1.1, v1, kgr_n hST.2.1, kgr_n hPT.2.2.2.1, v2, v0, nI_add, kgr_n hST.2.2.2.1, v3]
        rw [← eC1, ← eW1]
        simp only [bs132]
        rw [hadv]
        by_cases hcost : eM A < csum A s
        · rw [if_pos hcost, ok_some]
          refine jump T fT zT (fun r _ h => h) (fun x h1 h2 => decide_eq_false ?_)
          have := up_cost (A := A) hsb hs1 h1 h2
          omega
        · rw [if_neg hcost]
          unfold jX8_bestSet_136_22 jX8_bestSet_137_22 jX8_bestSet_148_22
          cases wf with
          | false =>
            have u0 : ∀ y, uk A false y = 0 := fun _ => rfl
            rw [if_pos (show (if false = true then (1 : Int32) else 0) = 0 from rfl), if_pos (show (0 : Int32) = 0 from rfl), if_pos (show (if false = true then (1 : Int32) else 0) = 0 from rfl)]
            by_cases hw : wa A (bq A false s) ≤ wa A s + sm (al A) (lo s)
            · rw [if_pos hw]
              exact keep T Fr.rf (fun _ _ => rfl) (fun h => by cases h) (by omega)
            · rw [if_neg hw, ok_some]
              refine jump T fT zT (fun r _ h => h) (fun x h1 h2 => decide_eq_false ?_)
              have := up_wa (A := A) hsb hs1 h1 h2
              rw [u0, u0]
              omega
          | true =>
            rw [if_neg (show ¬ (if true = true then (1 : Int32) else 0) = 0 by decide), if_pos (show (0 : Int32) = 0 from rfl), if_neg (show ¬ (if true = true then (1 : Int32) else 0) = 0 by decide)]
            have hW := s_worstWith (n := n) (s := s) (by omega) hs hd hPT hAT hST hlt hs1 x5 (by rw [hu]; exact eu.2.2 rfl) (fun v hv => by rw [fT.gi (by omega)]; exact (hL (lo s) hl).2 v hv) (by rw [hu]; exact hlu) (by rw [hu]; exact hlu12)
            rw [hu] at hW
            refine ok_kc hW ?_
            rintro ⟨r1, T'⟩ ⟨m2, m3, m4⟩
            simp only at m2 m3 m4
            rcases m4 with ⟨m4, v, hv, m5⟩ | ⟨m4, m5⟩
            · subst m4
              rw [show jX8_bestSet_163_22 Y n T' se p (if true = true then 1 else 0) (nI (bq A true s)) (nI (uk A true (bq A true s))) (nI (wa A (bq A true s))) (nI (csum A (bq A true s))) (nI s) (nI (lo s)) (nI (csum A s)) (nI (wa A s)) 0 m1 = _ from bs163n, hadv, ok_some]
              have zT' : ZS T' se := by
                obtain ⟨z1, z2, z3, z4, z5⟩ := zT
                refine ⟨by rw [m2.gi (by omega)]; exact z1, by rw [m2.gi (by omega)]; exact z2, fun v hv => by rw [m3 _ (by omega)]; exact z3 v hv, by rw [m2.gi (by omega)]; exact z4, fun v hv => by rw [m2.gi (by omega)]; exact z5 v hv⟩
              refine jump T' (fT.tr (m2.mono (by omega))) zT' (fun r hr h => ?_) (fun x h1 h2 => decide_eq_false ?_)
              · obtain ⟨y1, y2, y3⟩ := h
                exact ⟨by rw [m2.gi (by omega)]; exact y1, by rw [m2.gi (by omega)]; exact y2, fun hw v hv => by rw [m3 _ (by omega)]; exact y3 hw v hv⟩
              · have y1 := up_wt (A := A) (v := v) hsb hs1 h1 h2
                have y2 := ww_at (A := A) (s := x) hv
                have y3 : uk A true x = ww A x := rfl
                omega
            · subst m4
              exact keep T' m2 m3 (fun _ => m5) (by omega)
    · dsimp only
      have : (1 : Int32).toNatClampNeg = 1 := by decide
      rw [this]
      omega
    · rw [bq_1, uk_0, wa_0, csum_0]
      rfl
    · intro t ht
      have : (1 : Nat) / 2 ^ t * 2 ^ t = 0 := by omega
      rw [this]
      exact ent_0 b2 hZ1
  · rintro r ⟨r2, hr, h1, h2⟩
    rcases hr with rfl | rfl
    · exact ok_i ⟨rfl, h1, h2⟩
    · exact ok_i ⟨rfl, h1, h2⟩
