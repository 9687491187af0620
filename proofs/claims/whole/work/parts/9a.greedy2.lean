/-! THE MODEL: greedy ways; the projects of a set. -/
theorem m_numberOf {Y : XS} {n : Nat} {S : PS} {A : EL} {q : Nat} {bc : Bool} (hM : MSt Y S) (h : NV S A) (hW : MW S A) (hq : q < eP A) : fX11_numberOf Y n S 215 (nI q) (if bc = true then 1 else 0) = some (nI (nmb A bc q)) := by
  have a7 := h.ew
  have b1 := a7.2.1
  have hal := al_le a7 q
  have hc := a7.2.2.2.1 q hq
  have t := (hW q hq).2.1
  have l3 := hM.2.2.2.2.1.2.2.1
  unfold fX11_numberOf jX11_numberOf_29 kidiv nmb
  rw [m_costOf hM h hq]
  simp (discharger := omega) only [kgr_n hM.2.1.2.2.1, kai_n, t, kc_s]
  cases bc with
  | false => rfl
  | true =>
    rw [if_pos rfl, if_pos rfl, if_neg (by decide), if_neg (nI_ne0 (by omega) (by omega)), show (1000 : Int32) = nI 1000 from rfl, nmul, ndiv (by omega) (by omega)]
theorem m_isGreater {Y : XS} {n : Nat} {S : PS} {A : EL} {q o : Nat} {bc : Bool} (hM : MSt Y S) (h : NV S A) (hW : MW S A) (hq : q < eP A) (ho : o < q) : fX11_isGreater Y n S 215 (nI q) (nI o) (if bc = true then 1 else 0) = some (if (1000000000 - nmb A bc q < 1000000000 - nmb A bc o ∨ (1000000000 - nmb A bc q = 1000000000 - nmb A bc o ∧ 10000 - eC A o < 10000 - eC A q)) then 1 else 0) := by
  have a7 := h.ew
  have b1 := a7.2.1
  have n1 := nmb_le a7 bc q
  have n2 := nmb_le a7 bc o
  have c1 := a7.2.2.2.1 q hq
  have c2 := a7.2.2.2.1 o (by omega)
  unfold fX11_isGreater jX11_isGreater_80 jX11_isGreater_35
  have z0 : kzr (0 : Int32) (some (0 : Int32)) = some 0 := by unfold kzr; rw [if_pos (Or.inl rfl)]
  have z1 : kzr (1 : Int32) (some (1 : Int32)) = some 1 := by unfold kzr; rw [if_pos (Or.inr rfl)]
  rw [z0, z1, m_numberOf hM h hW hq, kc_s, m_numberOf hM h hW (by omega), kc_s, m_costOf hM h hq, kc_s, m_costOf hM h (by omega), kc_s, kc_s, kc_s]
  simp (discharger := omega) only [nle, neq]
  by_cases x1 : nmb A bc q = nmb A bc o
  · rw [if_pos x1]
    by_cases x2 : eC A q = eC A o
    · rw [if_pos x2, if_pos (by omega), if_neg (by omega)]
    · rw [if_neg x2]
      by_cases x3 : eC A o ≤ eC A q
      · rw [if_pos x3, if_neg (by omega)]
      · rw [if_neg x3, if_pos (by omega)]
  · rw [if_neg x1]
    by_cases x3 : nmb A bc q ≤ nmb A bc o
    · rw [if_pos x3, if_neg (by omega)]
    · rw [if_neg x3, if_pos (by omega)]
theorem m_greatest {Y : XS} {n : Nat} {S : PS} {A : EL} {seen : Nat} {bc : Bool} (hn : 100 ≤ n) (hM : MSt Y S) (h : NV S A) (hW : MW S A) (hs : seen < 4096) : fX11_greatest Y n S 215 (nI seen) (if bc = true then 1 else 0) = some (oI (gq A bc seen (eP A))) := by
  have a7 := h.ew
  have b1 := a7.2.1
  unfold fX11_greatest
  refine kc_run (fun i => (oI (gq A bc seen i), nI i)) (eP A) (fun i hi => ?_) ?_ (by omega) rfl rfl
  · unfold bX11_greatest_5 jX11_greatest_42_5 jX11_greatest_45_5
    rw [m_many hM h, kc_s]
    simp (discharger := omega) only [nle, if_neg, m_isOf, kc_s, nI_1]
    have hs' : gq A bc seen (i + 1) = if (!seen.testBit i) = true then (match gq A bc seen i with
      | none => some i
      | some o => if (1000000000 - nmb A bc i < 1000000000 - nmb A bc o ∨ (1000000000 - nmb A bc i = 1000000000 - nmb A bc o ∧ 10000 - eC A o < 10000 - eC A i)) then some i else some o) else gq A bc seen i := rfl
    rw [hs']
    by_cases hb : seen.testBit i = true
    · rw [if_pos hb, if_neg (by decide), if_neg (by rw [hb]; decide)]
    · have hb' : seen.testBit i = false := by simpa using hb
      rw [if_neg hb, if_pos rfl, if_pos (show (!seen.testBit i) = true by rw [hb']; rfl)]
      cases hg : gq A bc seen i with
      | none => rw [if_pos (show oI none = -1 from rfl)]; rfl
      | some o' =>
        obtain ⟨q1, q2, _⟩ := amf_some hg
        have hno : ¬ oI (some o') = -1 := by show ¬ nI o' = m1; rw [nm1 (by omega)]; exact fun h => h
        rw [if_neg hno, oI_s, m_isGreater hM h hW hi q1, kc_s]
        dsimp only
        split
        · rw [if_neg (by decide)]; rfl
        · rw [if_pos rfl]; rfl
  · unfold bX11_greatest_5
    rw [m_many hM h, kc_s]
    simp (discharger := omega) only [nle, if_pos]
theorem n2m {P : Nat} (h : P < 31) : ((1 : Int32) <<< (nI P &&& 31)) - 1 = nI (2 ^ P - 1) := by
  rw [n2p h]
  exact nsub (b := 1) (Nat.two_pow_pos P)
theorem full_set {B P : Nat} (h : B < 2 ^ P) : B = 2 ^ P - 1 ↔ ∀ q, q < P → B.testBit q = true := by
  constructor
  · intro e q hq
    rw [e, Nat.testBit_two_pow_sub_one]
    exact decide_eq_true hq
  · intro e
    apply Nat.eq_of_testBit_eq
    intro i
    rw [Nat.testBit_two_pow_sub_one]
    by_cases c : i < P
    · rw [e i c, decide_eq_true c]
    · rw [decide_eq_false c]
      exact Nat.testBit_lt_two_pow (Nat.lt_of_lt_of_le h (Nat.pow_le_pow_right (by decide) (by omega)))
theorem m_fills {Y : XS} {n : Nat} {S : PS} {A : EL} {bc : Bool} {L : List Nat} (hn : 10000 ≤ n) (hM : MSt Y S) (h : NV S A) (hW : MW S A) (hO : MO S A L) :
    ok (fX11_fills Y n S 215 (if bc = true then 1 else 0)) (fun T => Fr (fun b => b = 215 ∨ b = 224) S T ∧ MO T A (flz A bc L) ∧ FK S T) := by
  have a7 := h.ew
  have b0 := a7.1
  have b1 := a7.2.1
  have l := hM.2.2.2.1.1
  have hP2 : 2 ^ eP A ≤ 4096 := p12 b1
  have hP1 : 0 < 2 ^ eP A := Nat.pow_pos (by decide)
  have hfl := fls_ok (A := A) (bc := bc) (s0 := lb L) (L0 := L) (fun j hj => hj) hO.2.2.2.1 hO.2.2.2
  have stop : ∀ r, r ≤ eP A → (fls A bc (lb L) L r).1 = 2 ^ eP A - 1 → flz A bc L = (fls A bc (lb L) L r).2 := by
    intro r hr e
    have g : gq A bc (fls A bc (lb L) L r).1 (eP A) = none := by
      unfold gq
      rw [amf_none]
      intro j hj
      rw [(full_set (hfl r).2.1).mp e j hj]
      rfl
    have e2 := fls_stay g (eP A - r)
    rw [show r + (eP A - r) = eP A by omega] at e2
    unfold flz
    rw [e2]
  unfold fX11_fills
  rw [kgi_n, hO.2.1]
  refine ok_kc (iter_ok (fun r t => t.1 = nI (fls A bc (lb L) L r).1 ∧ Fr (fun b => b = 215 ∨ b = 224) S t.2 ∧ MO t.2 A (fls A bc (lb L) L r).2 ∧ FK S t.2 ∧ r ≤ nK (fun q => (fls A bc (lb L) L r).1.testBit q) (eP A)) (Q := fun T => Fr (fun b => b = 215 ∨ b = 224) S T ∧ MO T A (flz A bc L) ∧ FK S T) (eP A) (fun r t hr h1 => ?_) (fun t h1 => ?_) (by omega) ⟨rfl, Fr.rf, hO, FK.rf, Nat.zero_le _⟩) (fun r h => ok_i h)
  · obtain ⟨t1, T⟩ := t
    obtain ⟨k1, k2, k3, k4, k5⟩ := h1
    simp only at k1 k2 k3 k4
    subst k1
    obtain ⟨f1, f2, f3⟩ := hfl r
    have hMT : MSt Y T := hM.fr k2.2.1
    have hT : NV T A := h.fr k2 (by omega)
    have hWT : MW T A := hW.fr k2 (by omega) (by omega) (by omega)
    have hcl := csum_le a7 (lb (fls A bc (lb L) L r).2)
    have lbl := f3.lt a7
    unfold bX11_fills_5 jX11_fills_58_5
    dsimp only
    rw [m_many hMT hT, kc_s, n2m (by omega), i_eq (by omega) (by omega)]
    by_cases c : (fls A bc (lb L) L r).1 = 2 ^ eP A - 1
    · rw [if_pos c, ok_some, so_r]
      refine ⟨k2, ?_, k4⟩
      rw [stop r (by omega) c]
      exact k3
    · rw [if_neg c, m_greatest (by omega) hMT hT hWT (by omega), kc_s]
      cases hg : gq A bc (fls A bc (lb L) L r).1 (eP A) with
      | none =>
        exfalso
        apply c
        rw [full_set f2]
        intro q hq
        have := amf_none.mp hg q hq
        simpa using this
      | some q =>
        obtain ⟨q1, q2, _⟩ := amf_some hg
        have q2' : (fls A bc (lb L) L r).1.testBit q = false := by simpa using q2
        have q3 : (lb (fls A bc (lb L) L r).2).testBit q = false := by
          cases hb : (lb (fls A bc (lb L) L r).2).testBit q with
          | false => rfl
          | true => rw [f1 q hb] at q2'; cases q2'
        have hc := a7.2.2.2.1 q q1
        have es := fls_s hg
        have nk : r + 1 ≤ nK (fun i => (fls A bc (lb L) L (r + 1)).1.testBit i) (eP A) := by
          rw [es]
          have := nK_add q1 q2'
          dsimp only
          omega
        rw [oI_s, kgi_n, k3.2.1, m_costsOf (by omega) hMT hT (by omega), kc_s, m_costOf hMT hT q1, kc_s, kgr_n hMT.1.1, show (0 : Int32) = nI 0 from rfl, kai_n (by omega) (by omega), hT.m, nI_add, i_lt (by omega) (by omega), n2p (by omega), nor]
        by_cases hx : eM A < csum A (lb (fls A bc (lb L) L r).2) + eC A q
        · rw [if_pos hx, ok_some, so_l]
          have e2 : fls A bc (lb L) L (r + 1) = ((fls A bc (lb L) L r).1 ||| 2 ^ q, (fls A bc (lb L) L r).2) := by
            rw [es, if_neg (by omega)]
          refine ⟨by rw [e2], k2, by rw [e2]; exact k3, k4, nk⟩
        · rw [if_neg hx]
          have e2 : fls A bc (lb L) L (r + 1) = ((fls A bc (lb L) L r).1 ||| 2 ^ q, (fls A bc (lb L) L r).2 ++ [q]) := by
            rw [es, if_pos (by omega)]
          refine ok_kc (m_choose a7 hMT k3 q1 q3) ?_
          rintro U ⟨u1, u2, u3⟩
          rw [ok_some, so_l]
          exact ⟨by rw [e2], k2.tr u1, by rw [e2]; exact u2, k4.tr u3, nk⟩
  · obtain ⟨t1, T⟩ := t
    obtain ⟨k1, k2, k3, k4, k5⟩ := h1
    simp only at k1 k2 k3 k4
    subst k1
    obtain ⟨f1, f2, f3⟩ := hfl (eP A)
    have hMT : MSt Y T := hM.fr k2.2.1
    have hT : NV T A := h.fr k2 (by omega)
    have c : (fls A bc (lb L) L (eP A)).1 = 2 ^ eP A - 1 := by
      rw [full_set f2]
      exact nK_full k5
    unfold bX11_fills_5
    dsimp only
    rw [m_many hMT hT, kc_s, n2m (by omega), i_eq (by omega) (by omega), if_pos c, ok_some, so_r]
    refine ⟨k2, ?_, k4⟩
    rw [stop _ (Nat.le_refl _) c]
    exact k3
theorem m_takes {Y : XS} {n : Nat} {S : PS} {A : EL} {s : Nat} (hn : 10000 ≤ n) (hM : MSt Y S) (h : NV S A) (hO : MO S A []) (hs : s < 4096) :
    ok (fX11_takes Y n S 215 (nI s)) (fun T => Fr (fun b => b = 215 ∨ b = 224) S T ∧ MO T A (sel s (eP A)) ∧ FK S T) := by
  have a7 := h.ew
  have b1 := a7.2.1
  unfold fX11_takes
  refine ok_kc (iter_ok (fun i t => t.1 = nI i ∧ Fr (fun b => b = 215 ∨ b = 224) S t.2 ∧ MO t.2 A (sel s i) ∧ FK S t.2) (Q := fun T => Fr (fun b => b = 215 ∨ b = 224) S T ∧ MO T A (sel s (eP A)) ∧ FK S T) (eP A) (fun i t hi h1 => ?_) (fun t h1 => ?_) (by omega) ⟨rfl, Fr.rf, hO, FK.rf⟩) (fun r h => ok_i h)
  · obtain ⟨t1, T⟩ := t
    obtain ⟨k1, k2, k3, k4⟩ := h1
    simp only at k1 k2 k3 k4
    subst k1
    have hMT : MSt Y T := hM.fr k2.2.1
    have hT : NV T A := h.fr k2 (by omega)
    have es : sel s (i + 1) = if s.testBit i = true then sel s i ++ [i] else sel s i := rfl
    unfold bX11_takes_2 jX11_takes_23_2
    rw [m_many hMT hT, kc_s]
    simp (discharger := omega) only [nle, if_neg, m_isOf, kc_s]
    by_cases c : s.testBit i = true
    · rw [if_pos c, if_neg (by decide)]
      have c2 : (lb (sel s i)).testBit i = false := by
        rw [sel_tb, decide_eq_false (by omega)]
        rfl
      refine ok_kc (m_choose a7 hMT k3 hi c2) ?_
      rintro U ⟨u1, u2, u3⟩
      rw [nI_1, ok_some, so_l]
      exact ⟨rfl, k2.tr u1, by rw [es, if_pos c]; exact u2, k4.tr u3⟩
    · rw [if_neg c, if_pos rfl, nI_1, ok_some, so_l]
      exact ⟨rfl, k2, by rw [es, if_neg c]; exact k3, k4⟩
  · obtain ⟨t1, T⟩ := t
    obtain ⟨k1, k2, k3, k4⟩ := h1
    simp only at k1 k2 k3 k4
    subst k1
    unfold bX11_takes_2
    rw [m_many (hM.fr k2.2.1) (h.fr k2 (by omega)), kc_s]
    simp (discharger := omega) only [nle, if_pos, ok_some, so_r]
    exact ⟨k2, k3, k4⟩
