/-! GROUPS, CLASS: lookAt, the loop. -/
def EntG (T : PS) (g : Nat) (A : EL) (B r : Nat) : Prop := gi T (g + 1) (lo r) = nI (csum A r) ∧ gi T (g + 2) (lo r) = nI (mb A r) ∧ ∀ v, v < eV A → (mb A r).testBit v = true → gi T (g + 3) (lo r * 24 + v) = nI (wt A v r) ∧ gi T (g + 4) (lo r * 24 + v) = nI (bmi A B v r)
def PG (T : PS) (g : Nat) (A : EL) (B s : Nat) : Prop := ∀ t, s / 2 ^ t * 2 ^ t < s → EntG T g A B (s / 2 ^ t * 2 ^ t)
theorem PG.next {T T' : PS} {g s B : Nat} {A : EL} (h : s < 4096) (h0 : 0 < s) (hP : PG T g A B s) (hs : EntG T' g A B s) (hk : ∀ r, lo s < lo r → EntG T g A B r → EntG T' g A B r) : PG T' g A B (s + 1) := by
  intro t ht
  have e := dm_in (s := s) (y := s + 1) (d := 2 ^ t) (Nat.two_pow_pos _) (by omega) (by omega)
  rw [← e]
  by_cases z : s / 2 ^ t * 2 ^ t = s
  · rw [z]; exact hs
  · have hz : s / 2 ^ t * 2 ^ t < s := by have := dm_le s (2 ^ t); omega
    exact hk _ (pre_lo h h0 hz).2 (hP t hz)
/-- of the set behind a jump: what is cut off is cut off of s too -/
theorem skip_pre {s t : Nat} (h : s < 4096) (h0 : 0 < s) (ht : (s + 2 ^ lo s) / 2 ^ t * 2 ^ t < s + 2 ^ lo s) : (s + 2 ^ lo s) / 2 ^ t * 2 ^ t = s / 2 ^ t * 2 ^ t ∧ s / 2 ^ t * 2 ^ t < s := by
  -- by PI.skip at a heap that holds just the sets below s
  have hp : PI (fun a k => if a = 1 then nI 0 else 0, fun _ _ => 0, fun _ _ => none) 0 (0, 0, 0, fun _ => 0, fun _ _ => 0, fun _ _ => 0, none) false s → True := fun _ => trivial
  obtain ⟨_, _, b3, _, _, b6, b7⟩ := lo_bits s h h0
  have hpp : 0 < 2 ^ lo s := Nat.two_pow_pos _
  have hle : (s + 2 ^ lo s) / 2 ^ t * 2 ^ t ≤ s := by
    by_cases z : t ≤ lo s
    · exfalso
      have h1 : s % 2 ^ t = 0 := pw_dvd b6 z
      have h2 : 2 ^ lo s % 2 ^ t = 0 := by
        have : 2 ^ lo s = 2 ^ t * 2 ^ (lo s - t) := by rw [← Nat.pow_add, show t + (lo s - t) = lo s by omega]
        rw [this]
        exact Nat.mul_mod_right _ _
      have h3 : (s + 2 ^ lo s) % 2 ^ t = 0 := by rw [Nat.add_mod, h1, h2]; simp
      have h4 := Nat.div_add_mod (s + 2 ^ lo s) (2 ^ t)
      rw [h3, Nat.mul_comm] at h4
      omega
    · have h5 : ((s + 2 ^ lo s) / 2 ^ t * 2 ^ t) % 2 ^ lo s = 0 := pw_dvd (b := t) (Nat.mul_mod_left _ _) (by omega)
      generalize (s + 2 ^ lo s) / 2 ^ t * 2 ^ t = r at *
      have h6 := Nat.div_add_mod r (2 ^ lo s)
      have h7 := Nat.div_add_mod s (2 ^ lo s)
      rw [h5, Nat.add_zero] at h6
      rw [b6, Nat.add_zero] at h7
      have h8 : r / 2 ^ lo s < s / 2 ^ lo s + 1 := by
        apply Nat.lt_of_mul_lt_mul_left (a := 2 ^ lo s)
        rw [h6, Nat.mul_add, Nat.mul_one, h7]
        exact ht
      have h9 : 2 ^ lo s * (r / 2 ^ lo s) ≤ 2 ^ lo s * (s / 2 ^ lo s) := Nat.mul_le_mul_left _ (by omega)
      omega
  have e := dm_in (s := s) (y := s + 2 ^ lo s) (d := 2 ^ t) (Nat.two_pow_pos _) hle (by omega)
  refine ⟨e.symm, ?_⟩
  by_cases z : s / 2 ^ t * 2 ^ t = s
  · exfalso
    have hm : s % 2 ^ t = 0 := by rw [← z]; exact Nat.mul_mod_left _ _
    by_cases y : lo s < t
    · have h1 := pw_dvd hm (show lo s + 1 ≤ t by omega)
      have h2 := (pre_own h h0).1
      have h3 := Nat.div_add_mod s (2 ^ (lo s + 1))
      rw [h1, Nat.mul_comm] at h3
      omega
    · have h2 : 2 ^ lo s % 2 ^ t = 0 := by
        have : 2 ^ lo s = 2 ^ t * 2 ^ (lo s - t) := by rw [← Nat.pow_add, show t + (lo s - t) = lo s by omega]
        rw [this]
        exact Nat.mul_mod_right _ _
      have h3 : (s + 2 ^ lo s) % 2 ^ t = 0 := by rw [Nat.add_mod, hm, h2]; simp
      have h4 := Nat.div_add_mod (s + 2 ^ lo s) (2 ^ t)
      rw [h3, Nat.mul_comm] at h4
      omega
  · have := dm_le s (2 ^ t); omega
theorem PG.skip {T : PS} {g s B : Nat} {A : EL} (h : s < 4096) (h0 : 0 < s) (hP : PG T g A B s) : PG T g A B (s + 2 ^ lo s) := by
  intro t ht
  obtain ⟨e1, e2⟩ := skip_pre h h0 ht
  rw [e1]
  exact hP t e2
theorem s_lookAt {Y : XS} {n : Nat} {S : PS} {g p o B : Nat} {A : EL} (hn : 10000 ≤ n) (hg : g + 6 ≤ 235) (hp : p + 11 ≤ 235) (ho : o + 8 ≤ 235) (hpg : p + 11 ≤ g ∨ g + 6 ≤ p) (hpo : p + 11 ≤ o ∨ o + 8 ≤ p) (hgo : g + 6 ≤ o ∨ o + 8 ≤ g) (hP : SP Y S p) (hA : PV Y S p A) (hG : SG Y S g) (hO : SO Y S o) (hB : gi S o 2 = nI B) (hB2 : B < 4096) (hZ : ZG S g) :
    ok (fX2_lookAt Y n S g p o) (fun S' => Fr (fun x => (g ≤ x ∧ x < g + 6) ∨ x = o ∨ x = o + 7) S S' ∧ ZG S' g ∧ GF S' (o + 7) A B (2 ^ eP A) ∧ gi S' o 11 = 1 ∧ ∀ j, j ≠ 11 → gi S' o j = gi S o j) := by
  have a7 := hA.1.2.2.2.2.2.2.2
  have b1 := a7.2.1
  have b2 := a7.2.2.1
  have hN := p12 b1
  have hN0 : 0 < 2 ^ eP A := Nat.two_pow_pos _
  have lc := hP.1.2.2.2.1
  have l7 := hP.2.2.2.2.2.2.2.2.2.2.1
  have lo7 := hO.2.2.2.2.2.2.2.2.2.2.2.2.2
  have hG0 := hG
  obtain ⟨s0, s1, s2, s3, s4, l1, l2, l3, l4, l5⟩ := hG
  unfold fX2_lookAt
  refine ok_kc (s_begin (by omega) hg hp ho hpg hpo hgo hP hA hG0 hO hB hB2) ?_
  rintro S1 ⟨f1, m12, hh, gf, e11, eo⟩
  have f1' : Fr (fun x => (g ≤ x ∧ x < g + 6) ∨ x = o ∨ x = o + 7) S S1 := f1.mono (by omega)
  have hZ1 : ZG S1 g := by
    obtain ⟨z1, z2, z3⟩ := hZ
    exact ⟨by rw [f1.gi (by omega)]; exact z1, fun v hv => by rw [f1.gi (by omega)]; exact z2 v hv, fun v hv => by rw [f1.gi (by omega)]; exact z3 v hv⟩
  refine ok_kc (P := fun r => ∃ S', (r = .inl S' ∨ r = .inr S') ∧ Fr (fun x => (g ≤ x ∧ x < g + 6) ∨ x = o ∨ x = o + 7) S S' ∧ ZG S' g ∧ GF S' (o + 7) A B (2 ^ eP A) ∧ gi S' o 11 = 1 ∧ ∀ j, j ≠ 11 → gi S' o j = gi S o j) ?_ ?_
  · refine iter_mu (fun t => ∃ s T, t = (nI s, T) ∧ 1 ≤ s ∧ s ≤ 2 ^ eP A ∧ Fr (fun x => (g ≤ x ∧ x < g + 5) ∨ x = o + 7) S1 T ∧ ZG T g ∧ gi T (g + 2) 12 = nI (mb A 0) ∧ GF T (o + 7) A B s ∧ PG T g A B s) (fun t => 2 ^ eP A - t.1.toNatClampNeg) ?_ n _ ?_ ⟨1, S1, rfl, Nat.le_refl _, hN0, Fr.rf, hZ1, m12, gf, ?_⟩
    · rintro t ⟨s, T, rfl, hs1, hsN, fT, zT, mT, gT, pT⟩
      have fS : Fr (fun x => (g ≤ x ∧ x < g + 6) ∨ x = o ∨ x = o + 7) S T := f1'.tr (fT.mono (by omega))
      have hPT : SP Y T p := hP.fr fS.2.1
      have hAT : PV Y T p A := hA.fr fS (by omega) (by omega)
      have hGT : SG Y T g := hG0.fr fS.2.1
      have hOT : SO Y T o := hO.fr fS.2.1
      have g1 := hAT.1.2.1
      have t11 : gi T o 11 = 1 := by rw [fT.gi (by omega)]; exact e11
      have tso : ∀ j, j ≠ 11 → gi T o j = gi S o j := fun j hj => by rw [fT.gi (by omega)]; exact eo j hj
      by_cases hend : s = 2 ^ eP A
      · unfold bX2_lookAt_11
        dsimp only
        rw [kgr_n hPT.2.1, kgi_n, g1, n2p (by omega), if_pos (nI_le (by omega) (by omega)), ok_some, so_r]
        rw [hend] at gT
        exact ⟨T, Or.inl rfl, fS, zT, gT, t11, tso⟩
      · have hlt : s < 2 ^ eP A := by omega
        have hsb : s < 4096 := by omega
        have hl := lo_lt hlt b1 hs1
        obtain ⟨c1, c2, c3, c4, c5, c6, c7⟩ := lo_bits s hsb hs1
        have hpo' := pre_own hsb hs1
        have eu := pT (lo s + 1) (by rw [hpo'.1]; exact hpo'.2)
        rw [hpo'.1] at eu
        have hlu := (pre_lo (t := lo s + 1) hsb hs1 (by rw [hpo'.1]; exact hpo'.2)).2
        rw [hpo'.1] at hlu
        have hlu12 := lo_12 (show s - 2 ^ lo s < 4096 by omega)
        have eC1 : csum A s = csum A (s - 2 ^ lo s) + eC A (lo s) := lo_csum hsb hs1 hl
        have eM1 : mb A s = mb A (s - 2 ^ lo s) &&& fb A (lo s) := mb_low hsb hs1 hl
        have hmb : mb A s < 16777216 := mb_lt a7 s _
        have x1 := csum_le a7 s
        have v1 := hAT.1.2.2.2.1 (lo s) hl
        have v2 := (hAT.2 (lo s) hl).2.2.1
        have hand : nI s &&& (nI s - 1) = nI (s - 2 ^ lo s) := by rw [show (1 : Int32) = nI 1 from rfl, nsub hs1, nand, c2]
        have hskN := skip_le hlt b1 hs1
        have hpl : 1 ≤ 2 ^ lo s := Nat.one_le_two_pow
        have hadv : nI s + imax 1 (nI s &&& (-nI s)) = nI (s + 2 ^ lo s) := by
          rw [lo_neg s hsb, if_neg (by omega), show (1 : Int32) = nI 1 from rfl, nmax (by omega) (by omega), Nat.max_eq_right hpl, nI_add]
        have hadv1 : nI s + imax 1 1 = nI (s + 1) := by
          rw [show imax (1 : Int32) 1 = 1 by decide]
          exact nI_1 s
        generalize hu : s - 2 ^ lo s = u at *
        unfold bX2_lookAt_11 jX2_lookAt_155_11
        dsimp only
        simp (discharger := omega) only [kgr_n hPT.2.1, kgi, g1, n2p, nle, if_neg, s_least, kc_s, hand, show (12 : Int32) = nI 12 from rfl, nlt, if_pos, kgr_n hGT.1, kai_n, eu.1, eu.2.1, kgr_n hPT.1.1, v1, kgr_n hGT.2.1, kgr_n hPT.2.2.2.2.1, v2, nI_add, nand]
        rw [← eC1, ← eM1, s_isDue hPT hAT.1 hmb x1, kc_s, hadv, hadv1]
        have hdd : dueG A s = decide (0 < pcn 24 (mb A s) ∧ csum A s * eV A ≤ pcn 24 (mb A s) * eM A) := rfl
        rw [← hdd]
        by_cases hd : dueG A s = true
        · rw [if_pos hd, if_neg (by decide), kwi_n (by omega) (by omega)]
          generalize hT1 : si T (g + 1) (lo s) (nI (csum A s)) = T1
          have r1 : gr T1 g 1 = some (g + 2) := by rw [← hT1, Gr_si]; exact hGT.2.1
          rw [kgr_n r1, kwi_n (by omega) (by omega)]
          generalize hT2 : si T1 (g + 2) (lo s) (nI (mb A s)) = T2
          have f2 : Fr (fun x => x = g + 1 ∨ x = g + 2) T T2 := by rw [← hT2, ← hT1]; exact (Fr.rf.si (Or.inl rfl)).si (Or.inr rfl)
          have f2' : Fr (fun x => (g ≤ x ∧ x < g + 5) ∨ x = o + 7) S1 T2 := fT.tr (f2.mono (by omega))
          have fS2 : Fr (fun x => (g ≤ x ∧ x < g + 6) ∨ x = o ∨ x = o + 7) S T2 := f1'.tr (f2'.mono (by omega))
          have hP2 : SP Y T2 p := hP.fr fS2.2.1
          have hA2 : PV Y T2 p A := hA.fr fS2 (by omega) (by omega)
          have hG2 : SG Y T2 g := hG0.fr fS2.2.1
          have hO2 : SO Y T2 o := hO.fr fS2.2.1
          have y1 : ∀ j, gi T2 (g + 1) j = if j = lo s then nI (csum A s) else gi T (g + 1) j := by
            intro j
            rw [← hT2, Gi_si, if_neg (by omega), ← hT1, Gi_si]
            by_cases e : j = lo s
            · rw [if_pos ⟨rfl, e⟩, if_pos e]
            · rw [if_neg (fun y => e y.2), if_neg e]
          have y2 : ∀ j, gi T2 (g + 2) j = if j = lo s then nI (mb A s) else gi T (g + 2) j := by
            intro j
            rw [← hT2, Gi_si]
            by_cases e : j = lo s
            · rw [if_pos ⟨rfl, e⟩, if_pos e]
            · rw [if_neg (fun y => e y.2), if_neg e, ← hT1, Gi_si, if_neg (by omega)]
          have hB' : gi T2 o 2 = nI B := by rw [f2.gi (by omega), tso 2 (by decide)]; exact hB
          rw [s_has hB' (by omega) (by omega), kc_s]
          have hask := s_ask (n := n) (B := B) (s := s) (by omega) hg hp hpg hP2 hA2 hG2 hlt hs1 (by rw [y2, if_pos rfl]) (fun v hv => by rw [f2'.gi (by omega)]; exact hh v hv) (by rw [hu]; exact hlu) (by rw [hu]; exact hlu12) (by
            rw [hu]
            intro v hv hm
            rw [f2.gi (by omega), f2.gi (by omega)]
            exact eu.2.2 v hv hm)
          rw [hu] at hask
          refine ok_kc hask ?_
          rintro T3 ⟨f3, q5, q6, q7, q8⟩
          have f3' : Fr (fun x => (g ≤ x ∧ x < g + 5) ∨ x = o + 7) S1 T3 := f2'.tr (f3.mono (by omega))
          have hO3 : gr T3 o 12 = some (o + 7) := by rw [f3.gr]; exact hO2.2.2.2.2.2.2.1
          rw [kgr_n hO3]
          have gT3 : GF T3 (o + 7) A B s := by
            have e : ∀ j, gi T3 (o + 7) j = gi T (o + 7) j := fun j => by rw [f3.gi (by omega), f2.gi (by omega)]
            obtain ⟨w1, w2, w3, w4, w5⟩ := gT
            exact ⟨by rw [e]; exact w1, by rw [e]; exact w2, by rw [e]; exact w3, by rw [e]; exact w4, by rw [e]; exact w5⟩
          refine ok_kc (s_note (A := A) (B := B) hsb hs1 lo7 (by omega) hd q5 q6 gT3) ?_
          rintro T4 ⟨f4, g4⟩
          rw [ok_some, so_l]
          have z13 : ∀ (x j : Nat), x ≠ o + 7 → gi T4 x j = gi T3 x j := fun x j hx => f4.gi hx j
          have eN : EntG T4 g A B s := by
            refine ⟨?_, ?_, fun v hv hm => ?_⟩
            · rw [z13 _ _ (by omega), f3.gi (by omega), y1, if_pos rfl]
            · rw [z13 _ _ (by omega), f3.gi (by omega), y2, if_pos rfl]
            · rw [z13 _ _ (by omega), z13 _ _ (by omega)]
              exact q8 v hv hm
          have eK : ∀ r, lo s < lo r → EntG T g A B r → EntG T4 g A B r := by
            rintro r hr ⟨w1, w2, w3⟩
            refine ⟨?_, ?_, fun v hv hm => ?_⟩
            · rw [z13 _ _ (by omega), f3.gi (by omega), y1, if_neg (by omega)]; exact w1
            · rw [z13 _ _ (by omega), f3.gi (by omega), y2, if_neg (by omega)]; exact w2
            · rw [z13 _ _ (by omega), z13 _ _ (by omega), (q7 _ (by omega)).1, (q7 _ (by omega)).2, f2.gi (by omega), f2.gi (by omega)]
              exact w3 v hv hm
          refine ⟨⟨s + 1, T4, rfl, by omega, by omega, f3'.tr (f4.mono (by omega)), ?_, ?_, g4, pT.next hsb hs1 eN eK⟩, ?_⟩
          · obtain ⟨z1, z2, z3⟩ := zT
            refine ⟨?_, fun v hv => ?_, fun v hv => ?_⟩
            · rw [z13 _ _ (by omega), f3.gi (by omega), y1, if_neg (by omega)]; exact z1
            · rw [z13 _ _ (by omega), (q7 _ (by omega)).1, f2.gi (by omega)]; exact z2 v hv
            · rw [z13 _ _ (by omega), (q7 _ (by omega)).2, f2.gi (by omega)]; exact z3 v hv
          · rw [z13 _ _ (by omega), f3.gi (by omega), y2, if_neg (by omega)]; exact mT
          · dsimp only
            rw [ncl (by omega), ncl (by omega)]
            omega
        · have hd' : dueG A s = false := by simpa using hd
          rw [if_neg hd, if_pos rfl, ok_some, so_l]
          have hx0 : ∀ x, s ≤ x → x < s + 2 ^ lo s → gf0 A x = false := by
            intro x w1 w2
            unfold gf0
            rw [up_due hsb hs1 w1 w2 hd', Bool.and_false]
          have hx1 : ∀ nr x, s ≤ x → x < s + 2 ^ lo s → gf1 A B x nr = false := by
            intro nr x w1 w2
            unfold gf1
            rw [up_due hsb hs1 w1 w2 hd', Bool.false_and, Bool.and_false]
          refine ⟨⟨s + 2 ^ lo s, T, rfl, by omega, hskN, fT, zT, mT, ?_, pT.skip hsb hs1⟩, ?_⟩
          · obtain ⟨w1, w2, w3, w4, w5⟩ := gT
            refine ⟨?_, ?_, ?_, ?_, ?_⟩
            · rw [(gf_skip (f := gf0 A) (2 ^ lo s) hx0).1]; exact w1
            · rw [(gf_skip (f := fun x => gf1 A B x false) (2 ^ lo s) (hx1 false)).1]; exact w2
            · rw [(gf_skip (f := fun x => gf1 A B x true) (2 ^ lo s) (hx1 true)).1]; exact w3
            · rw [(gf_skip (f := fun x => gf1 A B x false) (2 ^ lo s) (hx1 false)).2]; exact w4
            · rw [(gf_skip (f := fun x => gf1 A B x true) (2 ^ lo s) (hx1 true)).2]; exact w5
          · dsimp only
            rw [ncl (by omega), ncl (by omega)]
            omega
    · dsimp only
      have : (1 : Int32).toNatClampNeg = 1 := by decide
      rw [this]
      omega
    · intro t ht
      have : (1 : Nat) / 2 ^ t * 2 ^ t = 0 := by omega
      rw [this]
      have b0 : ∀ v, bmi A B v 0 = 0 := by
        intro v
        unfold bmi
        have z : ∀ n, mxf (fun q => if (0 : Nat).testBit q = true ∧ B.testBit q = false then wo A q v else 0) n = 0 := by
          intro n
          induction n with
          | zero => rfl
          | succ n ih => rw [mxf_s, ih]; simp
        exact z _
      refine ⟨?_, ?_, fun v hv _ => ⟨?_, ?_⟩⟩
      · rw [csum_0]; exact hZ1.1
      · exact m12
      · rw [wt_0]; exact hZ1.2.1 v (by omega)
      · rw [b0]; exact hZ1.2.2 v (by omega)
  · rintro r ⟨S', hr, h1⟩
    rcases hr with rfl | rfl
    · exact ok_i h1
    · exact ok_i h1
