/-! THE MODEL: who pays what. -/
theorem m_payL {Y : XS} {n : Nat} {S : PS} {A : EL} {b : Nat → Nat} {q r L : Nat} (hn : 10000 ≤ n) (hM : MSt Y S) (h : NV S A) (hW : MW S A) (hb : BV S A b) (hB : ∀ v, v < eV A → b v ≤ 200000000) (hq : q < eP A) (hr : r ≤ 20000000) (hL : gi S 215 22 = nI L) (hL2 : L < 12) (h28 : gi S 228 L = nI 0) (h29 : gi S 229 L = nI 0) :
    ok (iter (bX11_pay_43 Y n 215 (nI q) (nI r)) n (nI (eC A q * 1000), (0 : Int32), S)) (fun T => Fr (fun x => x = 225 ∨ x = 226 ∨ x = 228 ∨ x = 229) S T ∧ BV T A (pay b (wo A q) r (eC A q * 1000)) ∧ (∀ v p, v < eV A → p < eP A → gi T 226 (12 * v + p) = if p = q then nI (its b (wo A q) r (eC A q * 1000) v) else gi S 226 (12 * v + p)) ∧ gi T 228 L = nI (pyN b (wo A q) r (eC A q * 1000) (eV A)) ∧ gi T 229 L = nI (emN b (wo A q) r (eC A q * 1000) (eV A)) ∧ ∀ j, j ≠ L → gi T 228 j = gi S 228 j ∧ gi T 229 j = gi S 229 j) := by
  have a7 := h.ew
  have b1 := a7.2.1
  have b2 := a7.2.2.1
  have c1 := (a7.2.2.2.1 q hq)
  obtain ⟨l1, l2, l3, l4, l5, l6⟩ := hM.2.2.2.2.1
  obtain ⟨m1', m2, m3, m4, m5, m6, m7⟩ := hM.2.2.2.2.2
  generalize hT : eC A q * 1000 = T0
  have hT0 : T0 ≤ 9999000 := by omega
  refine iter_ok (fun i t => t.1 = nI (rs b (wo A q) r T0 i) ∧ t.2.1 = nI i ∧ Fr (fun x => x = 225 ∨ x = 226 ∨ x = 228 ∨ x = 229) S t.2.2 ∧ (∀ v, v < i → gi t.2.2 225 v = nI (pay b (wo A q) r T0 v)) ∧ (∀ v, i ≤ v → v < eV A → gi t.2.2 225 v = nI (b v)) ∧ (∀ v p, v < eV A → p < eP A → gi t.2.2 226 (12 * v + p) = if p = q ∧ v < i then nI (its b (wo A q) r T0 v) else gi S 226 (12 * v + p)) ∧ gi t.2.2 228 L = nI (pyN b (wo A q) r T0 i) ∧ gi t.2.2 229 L = nI (emN b (wo A q) r T0 i) ∧ ∀ j, j ≠ L → gi t.2.2 228 j = gi S 228 j ∧ gi t.2.2 229 j = gi S 229 j) (eV A) (fun i t hi h1 => ?_) (fun t h1 => ?_) (by omega) ⟨rfl, rfl, Fr.rf, fun p hp => absurd hp (Nat.not_lt_zero _), fun v _ hv => hb v hv, fun v p _ _ => by rw [if_neg (by omega)], h28, h29, fun j _ => ⟨rfl, rfl⟩⟩
  · obtain ⟨t1, t2, U⟩ := t
    obtain ⟨k1, k2, k3, k4, k5, k6, k7, k8, k9⟩ := h1
    simp only at k1 k2 k3 k4 k5 k6 k7 k8 k9
    subst k1
    subst k2
    have hMU : MSt Y U := hM.fr k3.2.1
    have hU : NV U A := h.fr k3 (by omega)
    have w1 := (hW q hq).2.2 i hi
    have w2 : gi U 221 (12 * i + q) = nI (wo A q i) := by rw [k3.gi (by omega)]; exact w1
    have w3 := wo_le A q i
    have v2 := k5 i (Nat.le_refl _) hi
    have v3 := hB i hi
    have pm : r * wo A q i ≤ 20000000 * 9999 := Nat.mul_le_mul hr w3
    have rl := rs_le b (wo A q) r T0 i
    have il := its_le b (wo A q) r T0 i
    have eL : gi U 215 22 = nI L := by rw [k3.gi (by omega)]; exact hL
    have ei : lmin (Int32.toInt64 (nI (rs b (wo A q) r T0 i))) (lmin (Int32.toInt64 (nI (b i))) ((Int32.toInt64 (nI r)) * (Int32.toInt64 (nI (wo A q i))))) = lN (its b (wo A q) r T0 i) := by
      rw [nI_l (by omega), nI_l (by omega), nI_l (by omega), nI_l (by omega), lN_mul, lmin_n (by omega) (by omega), lmin_n (by omega) (by omega)]
      rfl
    have pl : pyN b (wo A q) r T0 i ≤ i * 1 := sm_le (fun j _ => by split <;> omega)
    have el : emN b (wo A q) r T0 i ≤ i * 1 := sm_le (fun j _ => by split <;> omega)
    generalize hI : its b (wo A q) r T0 i = I at *
    have hpay : pay b (wo A q) r T0 i = b i - I := by unfold pay; rw [hI]
    have fin : ∀ (U2 : PS) (x : Nat), Fr (fun x => x = 225 ∨ x = 226 ∨ x = 228 ∨ x = 229) U U2 → (∀ v, gi U2 225 v = if v = i then nI (b i - I) else gi U 225 v) → (∀ v p, v < eV A → p < eP A → gi U2 226 (12 * v + p) = if p = q ∧ v = i then nI I else gi U 226 (12 * v + p)) → (∀ j, gi U2 228 j = gi U 228 j) → (∀ j, gi U2 229 j = gi U 229 j) → (x = if 0 < I then 1 else 0) → ok (jX11_pay_142_43 Y n U2 215 (nI q) (nI r) (nI (rs b (wo A q) r T0 i) - nI I) (nI i) (lN I) (nI x) (nI (pyN b (wo A q) r T0 i)) (nI L) 228) (so (fun t => t.1 = nI (rs b (wo A q) r T0 (i + 1)) ∧ t.2.1 = nI (i + 1) ∧ Fr (fun x => x = 225 ∨ x = 226 ∨ x = 228 ∨ x = 229) S t.2.2 ∧ (∀ v, v < i + 1 → gi t.2.2 225 v = nI (pay b (wo A q) r T0 v)) ∧ (∀ v, i + 1 ≤ v → v < eV A → gi t.2.2 225 v = nI (b v)) ∧ (∀ v p, v < eV A → p < eP A → gi t.2.2 226 (12 * v + p) = if p = q ∧ v < i + 1 then nI (its b (wo A q) r T0 v) else gi S 226 (12 * v + p)) ∧ gi t.2.2 228 L = nI (pyN b (wo A q) r T0 (i + 1)) ∧ gi t.2.2 229 L = nI (emN b (wo A q) r T0 (i + 1)) ∧ ∀ j, j ≠ L → gi t.2.2 228 j = gi S 228 j ∧ gi t.2.2 229 j = gi S 229 j) (fun T => Fr (fun x => x = 225 ∨ x = 226 ∨ x = 228 ∨ x = 229) S T ∧ BV T A (pay b (wo A q) r T0) ∧ (∀ v p, v < eV A → p < eP A → gi T 226 (12 * v + p) = if p = q then nI (its b (wo A q) r T0 v) else gi S 226 (12 * v + p)) ∧ gi T 228 L = nI (pyN b (wo A q) r T0 (eV A)) ∧ gi T 229 L = nI (emN b (wo A q) r T0 (eV A)) ∧ ∀ j, j ≠ L → gi T 228 j = gi S 228 j ∧ gi T 229 j = gi S 229 j)) := by
      intro U2 x f2 g5 g6 g8 g9 hx
      have hx1 : x ≤ 1 := by rw [hx]; split <;> omega
      have hMU2 : MSt Y U2 := hMU.fr f2.2.1
      have last : ∀ (y : Nat), (y = if 0 < I ∧ b i - I = 0 then 1 else 0) → ok (jX11_pay_176_43 Y n (si U2 228 L (nI (pyN b (wo A q) r T0 i + x))) 215 (nI q) (nI r) (nI (rs b (wo A q) r T0 i - I)) (nI i) (nI y) (nI (emN b (wo A q) r T0 i)) (nI L) 229) (so (fun t => t.1 = nI (rs b (wo A q) r T0 (i + 1)) ∧ t.2.1 = nI (i + 1) ∧ Fr (fun x => x = 225 ∨ x = 226 ∨ x = 228 ∨ x = 229) S t.2.2 ∧ (∀ v, v < i + 1 → gi t.2.2 225 v = nI (pay b (wo A q) r T0 v)) ∧ (∀ v, i + 1 ≤ v → v < eV A → gi t.2.2 225 v = nI (b v)) ∧ (∀ v p, v < eV A → p < eP A → gi t.2.2 226 (12 * v + p) = if p = q ∧ v < i + 1 then nI (its b (wo A q) r T0 v) else gi S 226 (12 * v + p)) ∧ gi t.2.2 228 L = nI (pyN b (wo A q) r T0 (i + 1)) ∧ gi t.2.2 229 L = nI (emN b (wo A q) r T0 (i + 1)) ∧ ∀ j, j ≠ L → gi t.2.2 228 j = gi S 228 j ∧ gi t.2.2 229 j = gi S 229 j) (fun T => Fr (fun x => x = 225 ∨ x = 226 ∨ x = 228 ∨ x = 229) S T ∧ BV T A (pay b (wo A q) r T0) ∧ (∀ v p, v < eV A → p < eP A → gi T 226 (12 * v + p) = if p = q then nI (its b (wo A q) r T0 v) else gi S 226 (12 * v + p)) ∧ gi T 228 L = nI (pyN b (wo A q) r T0 (eV A)) ∧ gi T 229 L = nI (emN b (wo A q) r T0 (eV A)) ∧ ∀ j, j ≠ L → gi T 228 j = gi S 228 j ∧ gi T 229 j = gi S 229 j)) := by
        intro y hy
        unfold jX11_pay_176_43
        rw [nI_add, kwi_n (by omega) (by omega), nI_1, ok_some, so_l]
        refine ⟨?_, rfl, ((k3.tr f2).si (by omega)).si (by omega), fun v hv => ?_, fun v hv hv2 => ?_, fun v p hv hp => ?_, ?_, ?_, fun j hj => ⟨?_, ?_⟩⟩
        · dsimp only
          rw [rs_s, hI]
        · dsimp only
          rw [Gn (by omega), Gn (by omega), g5]
          by_cases e : v = i
          · rw [if_pos e, e, hpay]
          · rw [if_neg e]
            exact k4 v (by omega)
        · dsimp only
          rw [Gn (by omega), Gn (by omega), g5, if_neg (by omega)]
          exact k5 v (by omega) hv2
        · dsimp only
          rw [Gn (by omega), Gn (by omega), g6 v p hv hp, k6 v p hv hp]
          by_cases e : p = q
          · by_cases e2 : v = i
            · rw [if_pos ⟨e, e2⟩, if_pos ⟨e, by omega⟩, e2, hI]
            · rw [if_neg (by omega)]
              by_cases e3 : v < i
              · rw [if_pos ⟨e, e3⟩, if_pos ⟨e, by omega⟩]
              · rw [if_neg (by omega), if_neg (by omega)]
          · rw [if_neg (by omega), if_neg (by omega), if_neg (by omega)]
        · dsimp only
          rw [Gn (by omega), Gp]
          unfold pyN
          rw [sm_s, hI, hx]
        · dsimp only
          rw [Gp]
          unfold emN
          rw [sm_s, hI, hpay, hy]
        · dsimp only
          rw [Gn (by omega), Gn (by omega), g8]
          exact (k9 j hj).1
        · dsimp only
          rw [Gn (by omega), Gn (by omega), g9]
          exact (k9 j hj).2
      unfold jX11_pay_142_43 jX11_pay_175_43
      rw [nI_add, kwi_n (by omega) (by omega), kgr_n (b := 229) (by rw [Gr_si]; exact hMU2.2.2.1.2.2.1), kgi_n, Gn (by omega), f2.gi (by omega), eL, kai_n (by omega) (by omega), Gn (by omega), g9, k8, nsub il.2]
      rw [show (0 : Int64) = lN 0 from rfl, show (0 : Int32) = nI 0 from rfl, j_le (by omega) (by decide)]
      by_cases e : I ≤ 0
      · rw [if_pos e]
        exact last 0 (by rw [if_neg (by omega)])
      · rw [if_neg e, kgr_n (b := 225) (by rw [Gr_si]; exact hMU2.2.1.2.2.2.2.1), kai_n (by omega) (by omega), Gn (by omega), g5, if_pos rfl, i_eq (by omega) (by omega)]
        by_cases e2 : b i - I = 0
        · rw [if_pos e2]
          exact last 1 (by rw [if_pos ⟨by omega, e2⟩])
        · rw [if_neg e2]
          exact last 0 (by rw [if_neg (by omega)])
    unfold bX11_pay_43
    rw [m_people hMU hU, kc_s]
    simp (discharger := omega) only [nle, if_neg]
    rw [kgr_n hMU.2.1.2.2.2.2.1, kai_n (by omega) (by omega), kgr_n hMU.2.1.1, show (12 : Int32) = nI 12 from rfl, nmul, nI_add, kai_n (by omega) (by omega), w2, v2, ei, kgr_n hMU.2.1.2.2.2.2.1, kai_n (by omega) (by omega), v2, lN_i, nsub il.1, kwi_n (by omega) (by omega), kgr_n (b := 226) (by rw [Gr_si]; exact hMU.2.1.2.2.2.2.2), kwi_n (by omega) (by omega), kgr_n (b := 228) (by rw [Gr_si, Gr_si]; exact hMU.2.2.1.2.1), kgi_n, Gn (by omega), Gn (by omega), eL, kai_n (by omega) (by omega), Gn (by omega), Gn (by omega), k7]
    rw [show (0 : Int64) = lN 0 from rfl, show (0 : Int32) = nI 0 from rfl, show (1 : Int32) = nI 1 from rfl, j_le (by omega) (by decide)]
    have G := fin (si (si U 225 i (nI (b i - I))) 226 (12 * i + q) (nI I))
    have G2 := fun x => G x ((Fr.rf.si (by omega)).si (by omega)) (fun v => by
      rw [Gn (by omega), Gi_si]
      by_cases e : v = i
      · rw [if_pos ⟨rfl, e⟩, if_pos e]
      · rw [if_neg (by omega), if_neg e]) (fun v p hv hp => by
      rw [Gi_si]
      by_cases e : p = q ∧ v = i
      · rw [if_pos ⟨rfl, by rw [e.1, e.2]⟩, if_pos e]
      · rw [if_neg (by omega), if_neg e, Gn (by omega)]) (fun j => by rw [Gn (by omega), Gn (by omega)]) (fun j => by rw [Gn (by omega), Gn (by omega)])
    by_cases e : I ≤ 0
    · rw [if_pos e]
      exact G2 0 (by rw [if_neg (by omega)])
    · rw [if_neg e]
      exact G2 1 (by rw [if_pos (by omega)])
  · obtain ⟨t1, t2, U⟩ := t
    obtain ⟨k1, k2, k3, k4, k5, k6, k7, k8, k9⟩ := h1
    simp only at k1 k2 k3 k4 k5 k6 k7 k8 k9
    subst k1
    subst k2
    unfold bX11_pay_43
    rw [m_people (hM.fr k3.2.1) (h.fr k3 (by omega)), kc_s]
    simp (discharger := omega) only [nle, if_pos, ok_some, so_r]
    refine ⟨k3, k4, fun v p hv hp => ?_, k7, k8, k9⟩
    rw [k6 v p hv hp]
    by_cases e : p = q
    · rw [if_pos ⟨e, hv⟩, if_pos e]
    · rw [if_neg (by omega), if_neg e]
/-- the first k steps, as the model holds them -/
def MSh (S : PS) (A : EL) (b0 : Nat → Nat) (k : Nat) : Prop :=
  (∀ i, i < k → ∃ q, sq A b0 i = some q) ∧ MO S A (sl A b0 k) ∧ BV S A (bst A b0 k).2 ∧ (∀ v p, v < eV A → p < eP A → gi S 226 (12 * v + p) = nI (pdk A b0 p v k)) ∧
  ∀ i q, i < k → sq A b0 i = some q → gi S 227 i = nI (spr A b0 i q) ∧ gi S 228 i = nI (pyN (bst A b0 i).2 (wo A q) (spr A b0 i q) (eC A q * 1000) (eV A)) ∧ gi S 229 i = nI (emN (bst A b0 i).2 (wo A q) (spr A b0 i q) (eC A q * 1000) (eV A))
theorem MO.fr {S S' : PS} {M : Nat → Prop} {A : EL} {L : List Nat} (h : MO S A L) (hf : Fr M S S') (h0 : ∀ j, j = 21 ∨ j = 22 → gi S' 215 j = gi S 215 j) (h1 : ¬ M 224) : MO S' A L := by
  obtain ⟨h2, h3, h4, h5⟩ := h
  exact ⟨by rw [h0 22 (by omega)]; exact h2, by rw [h0 21 (by omega)]; exact h3, fun i hi => by rw [hf.gi h1]; exact h4 i hi, h5⟩
theorem MSh.fr {S S' : PS} {M : Nat → Prop} {A : EL} {b0 : Nat → Nat} {k : Nat} (h : MSh S A b0 k) (hf : Fr M S S') (h0 : ∀ j, j = 21 ∨ j = 22 → gi S' 215 j = gi S 215 j) (hd : ∀ x, 224 ≤ x → x < 230 → ¬ M x) : MSh S' A b0 k := by
  obtain ⟨h1, h2, h3, h4, h5⟩ := h
  refine ⟨h1, h2.fr hf h0 (hd _ (by omega) (by omega)), h3.fr hf (hd _ (by omega) (by omega)), fun v p hv hp => ?_, fun i q hi hq => ?_⟩
  · rw [hf.gi (hd _ (by omega) (by omega))]
    exact h4 v p hv hp
  · rw [hf.gi (hd _ (by omega) (by omega)), hf.gi (hd _ (by omega) (by omega)), hf.gi (hd _ (by omega) (by omega))]
    exact h5 i q hi hq
theorem m_pay {Y : XS} {n : Nat} {S : PS} {A : EL} {b0 : Nat → Nat} {k q : Nat} (hn : 10000 ≤ n) (hM : MSt Y S) (h : NV S A) (hW : MW S A) (hB : sm b0 (eV A) ≤ 200000000) (hk : MSh S A b0 k) (hq : sq A b0 k = some q) :
    ok (fX11_pay Y n S 215 (nI q) (nI (spr A b0 k q))) (fun T => Fr (fun x => x = 215 ∨ (224 ≤ x ∧ x < 230)) S T ∧ MSh T A b0 (k + 1) ∧ ∀ j, j ≠ 21 → j ≠ 22 → gi T 215 j = gi S 215 j) := by
  have a7 := h.ew
  have b1 := a7.2.1
  have b2 := a7.2.2.1
  obtain ⟨hq1, hq2, r, hq3⟩ := nxt_some hq
  have hr : spr A b0 k q = r := by unfold spr; rw [hq3]; rfl
  have hr2 := (prc_le a7 hq1 hq3).2
  have c1 := (a7.2.2.2.1 q hq1)
  obtain ⟨s1, s2, s3, s4, s5⟩ := hk
  have sk : (sl A b0 k).length = k := sl_len s1
  have klt : k < 12 := by
    have := (s2.2.2.2.add hq1 (by rw [lb_sl]; exact hq2)).2.2
    omega
  have e22 : gi S 215 22 = nI k := by rw [s2.1, sk]
  obtain ⟨m1', m2, m3, m4, m5, m6, m7⟩ := hM.2.2.2.2.2
  unfold fX11_pay
  rw [m_costOf hM h hq1, kc_s, kgr_n hM.2.2.1.2.1, kgi_n, e22, kwi_n (by omega) (by omega), kgr_n (b := 229) (by rw [Gr_si]; exact hM.2.2.1.2.2.1), kgi_n, Gn (by omega), e22, kwi_n (by omega) (by omega), kgr_n (b := 227) (by rw [Gr_si, Gr_si]; exact hM.2.2.1.1), kgi_n, Gn (by omega), Gn (by omega), e22, kwi_n (by omega) (by omega)]
  generalize hU : si (si (si S 228 k 0) 229 k 0) 227 k (nI (spr A b0 k q)) = U
  have f1 : Fr (fun x => x = 227 ∨ x = 228 ∨ x = 229) S U := by rw [← hU]; exact ((Fr.rf.si (by omega)).si (by omega)).si (by omega)
  have u7 : ∀ j, gi U 227 j = if j = k then nI (spr A b0 k q) else gi S 227 j := by
    intro j
    rw [← hU, Gi_si]
    by_cases e : j = k
    · rw [if_pos ⟨rfl, e⟩, if_pos e]
    · rw [if_neg (by omega), if_neg e, Gn (by omega), Gn (by omega)]
  have u8 : ∀ j, gi U 228 j = if j = k then nI 0 else gi S 228 j := by
    intro j
    rw [← hU, Gn (by omega), Gn (by omega), Gi_si]
    by_cases e : j = k
    · rw [if_pos ⟨rfl, e⟩, if_pos e]; rfl
    · rw [if_neg (by omega), if_neg e]
  have u9 : ∀ j, gi U 229 j = if j = k then nI 0 else gi S 229 j := by
    intro j
    rw [← hU, Gn (by omega), Gi_si]
    by_cases e : j = k
    · rw [if_pos ⟨rfl, e⟩, if_pos e]; rfl
    · rw [if_neg (by omega), if_neg e, Gn (by omega)]
  have hMU : MSt Y U := hM.fr f1.2.1
  have hU' : NV U A := h.fr f1 (by omega)
  have hWU : MW U A := hW.fr f1 (by omega) (by omega) (by omega)
  have hbU : BV U A (bst A b0 k).2 := s3.fr f1 (by omega)
  have eU : gi U 215 22 = nI k := by rw [f1.gi (by omega)]; exact e22
  rw [show (1000 : Int32) = nI 1000 from rfl, nmul, Nat.mul_comm]
  refine ok_kc (m_payL hn hMU hU' hWU hbU (fun v hv => Nat.le_trans (sm_at hv) (bst_sm hB)) hq1 (by omega) eU klt (by rw [u8, if_pos rfl]) (by rw [u9, if_pos rfl])) ?_
  rintro T ⟨t1, t2, t3, t4, t5, t6⟩
  have f2 : Fr (fun x => x = 215 ∨ (224 ≤ x ∧ x < 230)) S T := (f1.mono (fun b hb => by omega)).tr (t1.mono (fun b hb => by omega))
  have oT : MO T A (sl A b0 k) := s2.fr (M := fun x => 225 ≤ x ∧ x < 230) ((f1.mono (fun b hb => by omega)).tr (t1.mono (fun b hb => by omega))) (fun j _ => by rw [t1.gi (by omega), f1.gi (by omega)]) (by omega)
  refine ok_kc (m_choose a7 (hM.fr f2.2.1) oT hq1 (by rw [lb_sl]; exact hq2)) ?_
  rintro T' ⟨x1, x2, x3⟩
  refine ok_i ⟨f2.tr (x1.mono (fun b hb => by omega)), ⟨fun i hi => ?_, ?_, ?_, fun v p hv hp => ?_, fun i q' hi hq' => ?_⟩, fun j j1 j2 => ?_⟩
  · by_cases e : i = k
    · subst e
      exact ⟨q, hq⟩
    · exact s1 i (by omega)
  · rw [sl_s hq]
    exact x2
  · intro v hv
    rw [x1.gi (by omega), bst_s hq]
    exact t2 v hv
  · rw [x1.gi (by omega), t3 v p hv hp, pdk_s, hq]
    by_cases e : p = q
    · subst e
      rw [if_pos rfl, if_pos rfl, itk_eq hq]
    · rw [if_neg e, if_neg (fun z => e (Option.some.inj z).symm), f1.gi (by omega)]
      exact s4 v p hv hp
  · rw [x1.gi (by omega), x1.gi (by omega), x1.gi (by omega), t1.gi (by omega), u7]
    by_cases e : i = k
    · subst e
      rw [hq] at hq'
      have eq' := Option.some.inj hq'
      subst eq'
      rw [if_pos rfl]
      exact ⟨rfl, t4, t5⟩
    · rw [if_neg e, (t6 i e).1, (t6 i e).2, u8, u9, if_neg e, if_neg e]
      exact s5 i q' (by omega) hq'
  · rw [x3 j j1 j2, t1.gi (by omega), f1.gi (by omega)]
