/-! THE MODEL: worths. -/
/-- fields of the model that reckoning a law changes -/
def F8 (S S' : PS) : Prop := ∀ j, (j < 8 ∨ 12 ≤ j) → gi S' 215 j = gi S 215 j
theorem F8.rf {S : PS} : F8 S S := fun _ _ => rfl
theorem F8.tr {S S' S'' : PS} (h : F8 S S') (k : F8 S' S'') : F8 S S'' := fun j hj => (k j hj).trans (h j hj)
theorem m_worthOf {Y : XS} {n : Nat} {S : PS} {A : EL} {v p : Nat} (hn : 10000 ≤ n) (hM : MSt Y S) (h : NV S A) (hv : v < eV A) (hp : p < eP A) :
    ok (fX11_worthOf Y n S 215 (nI v) (nI p) (nI (lk A p))) (fun r => r.1 = nI (wo A p v) ∧ Fr (fun x => x = 215) S r.2 ∧ F8 S r.2) := by
  have l := hM.2.2.2.1.1
  have hs9 := h.ew.2.2.2.2 p v hp hv
  have hl := h.2.2.2.2.2.2.1
  unfold fX11_worthOf
  rw [m_scoreOf hM h hv hp, kc_s]
  by_cases h0 : eS A p v = 0
  · rw [h0, if_pos (show nI 0 = 0 from rfl)]
    refine ok_i ⟨?_, Fr.rf, F8.rf⟩
    unfold wo
    rw [if_pos h0]
    rfl
  · rw [if_neg (nI_ne0 (by omega) (by omega)), kgr_n hM.1.1, show (375 : Int32) = nI 375 from rfl, kai_n (by omega) (by omega)]
    cases hL : eL A with
    | none =>
      rw [hL] at hl
      have e : gi S 216 375 = nI 0 := by have : gi S 216 (0 + 375) = nI 0 := hl; rwa [Nat.zero_add] at this
      rw [e, if_pos (show nI 0 = 0 from rfl)]
      refine ok_i ⟨?_, Fr.rf, F8.rf⟩
      unfold wo wS
      rw [if_neg h0, hL]
      rfl
    | some f =>
      rw [hL] at hl
      obtain ⟨x1, tx, x2, x3, x4, x5⟩ := hl
      rw [Nat.zero_add] at x1 x2
      rw [x1, if_neg (show ¬ nI 1 = 0 by decide), kpi_n]
      generalize hS1 : si S 215 8 0 = S1
      have f1 : Fr (fun x => x = 215) S S1 := by rw [← hS1]; exact Fr.rf.si rfl
      rw [m_scoreOf (hM.fr f1.2.1) (h.fr f1 (by omega)) hv hp, kc_s, kpi_n]
      generalize hS2 : si S1 215 9 (nI (eS A p v)) = S2
      have f2 : Fr (fun x => x = 215) S S2 := by rw [← hS2]; exact f1.si rfl
      rw [m_costOf (hM.fr f2.2.1) (h.fr f2 (by omega)) hp, kc_s, kpi_n, kpi_n]
      generalize hS4 : si (si S2 215 10 (nI (eC A p))) 215 11 (nI (lk A p)) = S4
      have f4 : Fr (fun x => x = 215) S S4 := by rw [← hS4]; exact (f2.si rfl).si rfl
      have h4 : NV S4 A := h.fr f4 (by omega)
      have g8 : gi S4 215 8 = nI 0 := by rw [← hS4, Gi_si, if_neg (by decide), Gi_si, if_neg (by decide), ← hS2, Gi_si, if_neg (by decide), ← hS1, Gi_si, if_pos ⟨rfl, rfl⟩]; rfl
      have g9 : gi S4 215 9 = nI (eS A p v) := by rw [← hS4, Gi_si, if_neg (by decide), Gi_si, if_neg (by decide), ← hS2, Gi_si, if_pos ⟨rfl, rfl⟩]
      have g10 : gi S4 215 10 = nI (eC A p) := by rw [← hS4, Gi_si, if_neg (by decide), Gi_si, if_pos ⟨rfl, rfl⟩]
      have g11 : gi S4 215 11 = nI (lk A p) := by rw [← hS4, Gi_si, if_pos ⟨rfl, rfl⟩]
      refine ok_kc (x5 Y n S4 hn (hM.fr f4.2.1) (by rw [f4.gi (by omega)]; exact x2) (fun j hj => by rw [f4.gi (by omega)]; have := x4 j hj; rwa [Nat.zero_add] at this) g8) ?_
      rintro ⟨r1, T⟩ ⟨y1, y2, y3⟩
      simp only at y1 y2 y3
      rw [g9, g10, g11, h4.v] at y1
      subst y1
      refine ok_i ⟨?_, f4.tr y2, fun j hj => ?_⟩
      · unfold wo wS
        rw [if_neg h0, hL]
        exact clp_n _
      · dsimp only
        rw [y3 j (by omega), ← hS4, Gi_si, if_neg (by omega), Gi_si, if_neg (by omega), ← hS2, Gi_si, if_neg (by omega), ← hS1, Gi_si, if_neg (by omega)]
/-- the tables of worths are laid -/
def MW (S : PS) (A : EL) : Prop := ∀ p, p < eP A → gi S 222 p = nI (lk A p) ∧ gi S 223 p = nI (al A p) ∧ ∀ v, v < eV A → gi S 221 (12 * v + p) = nI (wo A p v)
theorem MW.fr {S S' : PS} {M : Nat → Prop} {A : EL} (h : MW S A) (hf : Fr M S S') (h1 : ¬ M 221) (h2 : ¬ M 222) (h3 : ¬ M 223) : MW S' A := fun p hp => ⟨by rw [hf.gi h2]; exact (h p hp).1, by rw [hf.gi h3]; exact (h p hp).2.1, fun v hv => by rw [hf.gi h1]; exact (h p hp).2.2 v hv⟩
theorem m_layWorths {Y : XS} {n : Nat} {S : PS} {A : EL} (hn : 10000 ≤ n) (hM : MSt Y S) (h : NV S A) :
    ok (fX11_layWorths Y n S 215) (fun S' => Fr (fun x => x = 215 ∨ x = 221 ∨ x = 222 ∨ x = 223) S S' ∧ F8 S S' ∧ MW S' A) := by
  have a7 := h.ew
  have b1 := a7.2.1
  have b2 := a7.2.2.1
  obtain ⟨l1, l2, l3, l4, l5, l6⟩ := hM.2.2.2.2.1
  unfold fX11_layWorths
  refine ok_kc (iter_ok (fun i t => t.1 = nI i ∧ Fr (fun x => x = 215 ∨ x = 221 ∨ x = 222 ∨ x = 223) S t.2 ∧ F8 S t.2 ∧ ∀ p, p < i → gi t.2 222 p = nI (lk A p) ∧ gi t.2 223 p = nI (al A p) ∧ ∀ v, v < eV A → gi t.2 221 (12 * v + p) = nI (wo A p v)) (Q := fun S' => Fr (fun x => x = 215 ∨ x = 221 ∨ x = 222 ∨ x = 223) S S' ∧ F8 S S' ∧ MW S' A) (eP A) (fun i t hi h1 => ?_) (fun t h1 => ?_) (by omega) ⟨rfl, Fr.rf, F8.rf, fun p hp => absurd hp (Nat.not_lt_zero _)⟩) (fun r h => ok_i h)
  · obtain ⟨t1, T⟩ := t
    obtain ⟨k1, k2, k3, k4⟩ := h1
    simp only at k1 k2 k3 k4
    subst k1
    have hMT : MSt Y T := hM.fr k2.2.1
    have hT : NV T A := h.fr k2 (by omega)
    unfold bX11_layWorths_2
    rw [m_many hMT hT, kc_s]
    simp (discharger := omega) only [nle, if_neg]
    rw [kgr_n hMT.2.1.2.1, m_likedOf (by omega) hMT hT hi, kc_s, kwi_n (by omega) (by omega), kgr_n (b := 223) (by rw [Gr_si]; exact hMT.2.1.2.2.1), kwi_n (by omega) (by omega)]
    generalize hT2 : si (si T 222 i (nI (lk A i))) 223 i 0 = T2
    have f2 : Fr (fun x => x = 222 ∨ x = 223) T T2 := by rw [← hT2]; exact (Fr.rf.si (Or.inl rfl)).si (Or.inr rfl)
    have e222 : ∀ j, gi T2 222 j = if j = i then nI (lk A i) else gi T 222 j := by
      intro j
      rw [← hT2, Gi_si, if_neg (by omega), Gi_si]
      by_cases e : j = i
      · rw [if_pos ⟨rfl, e⟩, if_pos e]
      · rw [if_neg (fun z => e z.2), if_neg e]
    have e223 : ∀ j, gi T2 223 j = if j = i then nI 0 else gi T 223 j := by
      intro j
      rw [← hT2, Gi_si]
      by_cases e : j = i
      · rw [if_pos ⟨rfl, e⟩, if_pos e]; rfl
      · rw [if_neg (fun z => e z.2), if_neg e, Gi_si, if_neg (by omega)]
    refine ok_kc (iter_ok (fun j u => u.1 = nI j ∧ Fr (fun x => x = 215 ∨ x = 221 ∨ x = 223) T2 u.2 ∧ F8 T2 u.2 ∧ gi u.2 223 i = nI (sm (wo A i) j) ∧ (∀ q, q ≠ i → gi u.2 223 q = gi T2 223 q) ∧ (∀ v, v < j → gi u.2 221 (12 * v + i) = nI (wo A i v)) ∧ ∀ v q, q < 12 → q ≠ i → gi u.2 221 (12 * v + q) = gi T2 221 (12 * v + q)) (Q := fun S' => Fr (fun x => x = 215 ∨ x = 221 ∨ x = 223) T2 S' ∧ F8 T2 S' ∧ gi S' 223 i = nI (al A i) ∧ (∀ q, q ≠ i → gi S' 223 q = gi T2 223 q) ∧ (∀ v, v < eV A → gi S' 221 (12 * v + i) = nI (wo A i v)) ∧ ∀ v q, q < 12 → q ≠ i → gi S' 221 (12 * v + q) = gi T2 221 (12 * v + q)) (eV A) (fun j u hj h2 => ?_) (fun u h2 => ?_) (by omega) ⟨rfl, Fr.rf, F8.rf, by rw [e223, if_pos rfl]; rfl, fun _ _ => rfl, fun v hv => absurd hv (Nat.not_lt_zero _), fun _ _ _ _ => rfl⟩) ?_
    · obtain ⟨u1, U⟩ := u
      obtain ⟨m1', m2, m3, m4, m5, m6, m7⟩ := h2
      simp only at m1' m2 m3 m4 m5 m6 m7
      subst m1'
      have fU : Fr (fun x => x = 215 ∨ x = 221 ∨ x = 222 ∨ x = 223) S U := (k2.tr (f2.mono (by omega))).tr (m2.mono (by omega))
      have hMU : MSt Y U := hM.fr fU.2.1
      have hU : NV U A := h.fr fU (by omega)
      have c1 : gi U 222 i = nI (lk A i) := by rw [m2.gi (by omega), e222, if_pos rfl]
      unfold bX11_layWorths_30
      rw [m_people hMU hU, kc_s]
      simp (discharger := omega) only [nle, if_neg]
      rw [kgr_n hMU.2.1.1, kgr_n hMU.2.1.2.1, kai_n (by omega) (by omega), c1]
      refine ok_kc (m_worthOf hn hMU hU hj hi) ?_
      rintro ⟨w1, W⟩ ⟨y1, y2, y3⟩
      simp only at y1 y2 y3
      subst y1
      have hMW : MSt Y W := hMU.fr y2.2.1
      rw [show (12 : Int32) = nI 12 from rfl, nmul, nI_add, kwi_n (by omega) (by omega)]
      dsimp only
      generalize hX : si W 221 (12 * j + i) (nI (wo A i j)) = X
      have x14 : gr X 215 14 = some 223 := by rw [← hX, Gr_si]; exact hMW.2.1.2.2.1
      have x12 : gr X 215 12 = some 221 := by rw [← hX, Gr_si]; exact hMW.2.1.1
      have c2 : gi X 223 i = nI (sm (wo A i) j) := by rw [← hX, Gi_si, if_neg (by omega), y2.gi (by omega)]; exact m4
      have c3 : gi X 221 (12 * j + i) = nI (wo A i j) := by rw [← hX, Gi_si, if_pos ⟨rfl, rfl⟩]
      rw [kgr_n x14, kai_n (by omega) (by omega), c2, kgr_n x12, kai_n (by omega) (by omega), c3, nI_add, kwi_n (by omega) (by omega), nI_1, ok_some, so_l]
      have fX : Fr (fun x => x = 215 ∨ x = 221 ∨ x = 223) T2 X := by rw [← hX]; exact (m2.tr (y2.mono (by omega))).si (by omega)
      refine ⟨rfl, fX.si (by omega), fun q hq => ?_, ?_, fun q hq => ?_, fun v hv => ?_, fun v q hq1 hq2 => ?_⟩
      · rw [Gi_si, if_neg (by omega), ← hX, Gi_si, if_neg (by omega), y3 q hq]; exact m3 q hq
      · rw [Gi_si, if_pos ⟨rfl, rfl⟩]; rfl
      · rw [Gi_si, if_neg (fun z => hq z.2), ← hX, Gi_si, if_neg (by omega), y2.gi (by omega)]; exact m5 q hq
      · rw [Gi_si, if_neg (by omega), ← hX, Gi_si]
        by_cases e : v = j
        · rw [if_pos ⟨rfl, by omega⟩, e]
        · rw [if_neg (by omega), y2.gi (by omega)]; exact m6 v (by omega)
      · rw [Gi_si, if_neg (by omega), ← hX, Gi_si, if_neg (by omega), y2.gi (by omega)]; exact m7 v q hq1 hq2
    · obtain ⟨u1, U⟩ := u
      obtain ⟨m1', m2, m3, m4, m5, m6, m7⟩ := h2
      simp only at m1' m2 m3 m4 m5 m6 m7
      subst m1'
      have fU : Fr (fun x => x = 215 ∨ x = 221 ∨ x = 222 ∨ x = 223) S U := (k2.tr (f2.mono (by omega))).tr (m2.mono (by omega))
      unfold bX11_layWorths_30
      rw [m_people (hM.fr fU.2.1) (h.fr fU (by omega)), kc_s]
      simp (discharger := omega) only [nle, if_pos, ok_some, so_r]
      exact ⟨m2, m3, m4, m5, m6, m7⟩
    · rintro U ⟨m2, m3, m4, m5, m6, m7⟩
      rw [nI_1, ok_some, so_l]
      refine ⟨rfl, (k2.tr (f2.mono (by omega))).tr (m2.mono (by omega)), fun q hq => ?_, fun p hp => ?_⟩
      · dsimp only
        rw [m3 q hq, f2.gi (by omega)]; exact k3 q hq
      · dsimp only
        by_cases e : p = i
        · subst e
          exact ⟨by rw [m2.gi (by omega), e222, if_pos rfl], m4, m6⟩
        · obtain ⟨c1, c2, c3⟩ := k4 p (by omega)
          refine ⟨by rw [m2.gi (by omega), e222, if_neg e]; exact c1, by rw [m5 p e, e223, if_neg e]; exact c2, fun v hv => ?_⟩
          rw [m7 v p (by omega) e, f2.gi (by omega)]
          exact c3 v hv
  · obtain ⟨t1, T⟩ := t
    obtain ⟨k1, k2, k3, k4⟩ := h1
    simp only at k1 k2 k3 k4
    subst k1
    unfold bX11_layWorths_2
    rw [m_many (hM.fr k2.2.1) (h.fr k2 (by omega)), kc_s]
    simp (discharger := omega) only [nle, if_pos, ok_some, so_r]
    exact ⟨k2, k3, k4⟩
