/-! GREEDY: fillUp; addAll. -/
def nmb (A : EL) (bc : Bool) (q : Nat) : Nat := if bc = true then al A q * 1000 / eC A q else al A q
theorem nmb_le {A : EL} (h : EW A) (bc : Bool) (q : Nat) : nmb A bc q ≤ 239976000 := by
  have := al_le h q
  unfold nmb
  split
  · have := Nat.div_le_self (al A q * 1000) (eC A q)
    omega
  · omega
/-- the greatest of all that aren't seen -/
def gq (A : EL) (bc : Bool) (seen : Nat) : Nat → Option Nat := amf (fun q => !seen.testBit q) (fun q => 1000000000 - nmb A bc q) (fun q => 10000 - eC A q)
def fls (A : EL) (bc : Bool) (s0 : Nat) (L0 : List Nat) : Nat → Nat × List Nat
  | 0 => (s0, L0)
  | r + 1 => match gq A bc (fls A bc s0 L0 r).1 (eP A) with
    | none => fls A bc s0 L0 r
    | some q => ((fls A bc s0 L0 r).1 ||| 2 ^ q, if csum A (lb (fls A bc s0 L0 r).2) + eC A q ≤ eM A then (fls A bc s0 L0 r).2 ++ [q] else (fls A bc s0 L0 r).2)
/-- what is chosen when L is filled up -/
def flz (A : EL) (bc : Bool) (L : List Nat) : List Nat := (fls A bc (lb L) L (eP A)).2
theorem fls_s {A : EL} {bc : Bool} {s0 : Nat} {L0 : List Nat} {r q : Nat} (h : gq A bc (fls A bc s0 L0 r).1 (eP A) = some q) : fls A bc s0 L0 (r + 1) = ((fls A bc s0 L0 r).1 ||| 2 ^ q, if csum A (lb (fls A bc s0 L0 r).2) + eC A q ≤ eM A then (fls A bc s0 L0 r).2 ++ [q] else (fls A bc s0 L0 r).2) := by
  show (match gq A bc (fls A bc s0 L0 r).1 (eP A) with
    | none => fls A bc s0 L0 r
    | some q => ((fls A bc s0 L0 r).1 ||| 2 ^ q, if csum A (lb (fls A bc s0 L0 r).2) + eC A q ≤ eM A then (fls A bc s0 L0 r).2 ++ [q] else (fls A bc s0 L0 r).2)) = _
  rw [h]
theorem fls_0 {A : EL} {bc : Bool} {s0 : Nat} {L0 : List Nat} {r : Nat} (h : gq A bc (fls A bc s0 L0 r).1 (eP A) = none) : fls A bc s0 L0 (r + 1) = fls A bc s0 L0 r := by
  show (match gq A bc (fls A bc s0 L0 r).1 (eP A) with
    | none => fls A bc s0 L0 r
    | some q => ((fls A bc s0 L0 r).1 ||| 2 ^ q, if csum A (lb (fls A bc s0 L0 r).2) + eC A q ≤ eM A then (fls A bc s0 L0 r).2 ++ [q] else (fls A bc s0 L0 r).2)) = _
  rw [h]
theorem fls_stay {A : EL} {bc : Bool} {s0 : Nat} {L0 : List Nat} {r : Nat} (h : gq A bc (fls A bc s0 L0 r).1 (eP A) = none) : ∀ d, fls A bc s0 L0 (r + d) = fls A bc s0 L0 r
  | 0 => rfl
  | d + 1 => by
    have ih := fls_stay h d
    rw [← Nat.add_assoc, fls_0 (by rw [ih]; exact h), ih]
/-- what is seen holds what is chosen -/
theorem fls_ok {A : EL} {bc : Bool} {s0 : Nat} {L0 : List Nat} (h0 : ∀ j, (lb L0).testBit j = true → s0.testBit j = true) (hs : s0 < 2 ^ eP A) (hL : GL A L0) : ∀ r, (∀ j, (lb (fls A bc s0 L0 r).2).testBit j = true → (fls A bc s0 L0 r).1.testBit j = true) ∧ (fls A bc s0 L0 r).1 < 2 ^ eP A ∧ GL A (fls A bc s0 L0 r).2
  | 0 => ⟨h0, hs, hL⟩
  | r + 1 => by
    obtain ⟨i1, i2, i3⟩ := fls_ok (bc := bc) h0 hs hL r
    cases h : gq A bc (fls A bc s0 L0 r).1 (eP A) with
    | none => rw [fls_0 h]; exact ⟨i1, i2, i3⟩
    | some q =>
      obtain ⟨q1, q2, _⟩ := amf_some h
      have q2' : (fls A bc s0 L0 r).1.testBit q = false := by simpa using q2
      have q3 : (lb (fls A bc s0 L0 r).2).testBit q = false := by
        cases hb : (lb (fls A bc s0 L0 r).2).testBit q with
        | false => rfl
        | true => rw [i1 q hb] at q2'; cases q2'
      rw [fls_s h]
      refine ⟨fun j hj => ?_, Nat.or_lt_two_pow i2 (Nat.pow_lt_pow_right (by decide) q1), ?_⟩
      · dsimp only at hj ⊢
        rw [tb_or]
        split at hj
        · rw [lb_app, tb_or] at hj
          rw [Bool.or_eq_true] at hj ⊢
          rcases hj with hj | hj
          · exact Or.inl (i1 j hj)
          · exact Or.inr hj
        · rw [i1 j hj]; rfl
      · dsimp only
        split
        · exact (i3.add q1 q3).1
        · exact i3
theorem s_greed {Y : XS} {n : Nat} {S : PS} {p q : Nat} {A : EL} {bc : Bool} (hP : SP Y S p) (hA : PV Y S p A) (hq : q < eP A) : fX0_greed Y n S p (nI q) (if bc = true then 1 else 0) = some (nI (nmb A bc q)) := by
  obtain ⟨⟨e1, e2, e3, e4, e5, e6⟩, h0, h1, h2, h3, h4, h5, h6, l1, l2, l3, l4, l5, l6⟩ := hP
  obtain ⟨⟨a0, a1, a2, a3, a4, a5, a6, a7⟩, hT⟩ := hA
  have b1 := a7.2.1
  have hal := al_le a7 q
  have hc := a7.2.2.2.1 q hq
  have t := (hT q hq).2.1
  have a3' := a3 q hq
  unfold fX0_greed jX0_greed_33 jX0_greed_39 kidiv nmb
  simp (discharger := omega) only [kgr_n h0, kgr_n e1, kgr_n h2, kai_n, a3', t]
  cases bc with
  | false => rfl
  | true =>
    rw [if_pos rfl, if_pos rfl, if_neg (by decide), if_neg (nI_nle (by omega) (by omega)), if_neg (nI_ne0 (by omega) (by omega)), show (1000 : Int32) = nI 1000 from rfl, nmul, ndiv (by omega) (by omega)]
theorem s_isGreedier {Y : XS} {n : Nat} {S : PS} {p q o : Nat} {A : EL} {bc : Bool} (hP : SP Y S p) (hA : PV Y S p A) (hq : q < eP A) (ho : o < eP A) : fX0_isGreedier Y n S p (nI q) (nI o) (if bc = true then 1 else 0) = some (if (1000000000 - nmb A bc q < 1000000000 - nmb A bc o ∨ (1000000000 - nmb A bc q = 1000000000 - nmb A bc o ∧ 10000 - eC A o < 10000 - eC A q)) then 1 else 0) := by
  have a7 := hA.1.2.2.2.2.2.2.2
  have b1 := a7.2.1
  have n1 := nmb_le a7 bc q
  have n2 := nmb_le a7 bc o
  have c1 := a7.2.2.2.1 q hq
  have c2 := a7.2.2.2.1 o ho
  have d1 := hA.1.2.2.2.1 q hq
  have d2 := hA.1.2.2.2.1 o ho
  have l := hP.1.2.2.2.1
  unfold fX0_isGreedier jX0_isGreedier_51 jX0_isGreedier_55 jX0_isGreedier_56
  rw [s_greed hP hA hq, kc_s, s_greed hP hA ho, kc_s]
  simp (discharger := omega) only [nlt, neq, kgr_n hP.2.1, kgr_n hP.1.1, kai_n, d1, d2, nle]
  by_cases x1 : nmb A bc o < nmb A bc q
  · rw [if_pos x1, if_pos (by omega)]; rfl
  · rw [if_neg x1]
    by_cases x2 : nmb A bc q = nmb A bc o
    · rw [if_pos x2]
      by_cases x3 : eC A o ≤ eC A q
      · rw [if_pos x3, if_neg (by omega)]; rfl
      · rw [if_neg x3, if_pos (by omega)]; rfl
    · rw [if_neg x2, if_neg (by omega)]; rfl
theorem s_fillIn {Y : XS} {n : Nat} {S : PS} {p o seen : Nat} {x : Int32} {A : EL} {bc : Bool} (hn : 100 ≤ n) (hP : SP Y S p) (hA : PV Y S p A) (hs : seen < 4096) : iter (bX0_fillUp_27 Y n S p o (if bc = true then 1 else 0) (nI seen) x) n ((-1 : Int32), (0 : Int32)) = some (oI (gq A bc seen (eP A))) := by
  have a7 := hA.1.2.2.2.2.2.2.2
  have b1 := a7.2.1
  have a1 := hA.1.2.1
  refine iter_run (fun i => (oI (gq A bc seen i), nI i)) (eP A) (fun i hi => ?_) ?_ (by omega) rfl
  · unfold bX0_fillUp_27 jX0_fillUp_67_27 jX0_fillUp_71_27
    simp (discharger := omega) only [kgr_n hP.2.1, kgi, a1, nle, if_neg, s_isIn, kc_s, nI_1]
    have hs' : gq A bc seen (i + 1) = if (!seen.testBit i) = true then (match gq A bc seen i with
      | none => some i
      | some o => if (1000000000 - nmb A bc i < 1000000000 - nmb A bc o ∨ (1000000000 - nmb A bc i = 1000000000 - nmb A bc o ∧ 10000 - eC A o < 10000 - eC A i)) then some i else some o) else gq A bc seen i := rfl
    rw [hs']
    by_cases hb : seen.testBit i = true
    · rw [if_pos hb, if_neg (by decide), if_neg (by rw [hb]; decide)]
    · have hb' : seen.testBit i = false := by simpa using hb
      rw [if_neg hb, if_pos rfl, if_pos (show (!seen.testBit i) = true by rw [hb']; rfl)]
      cases hg : gq A bc seen i with
      | none => rw [if_pos (show oI none = -1 from rfl)]; rfl
      | some o' =>
        obtain ⟨q1, q2, _⟩ := amf_some hg
        have hno : ¬ oI (some o') = -1 := by show ¬ nI o' = m1; rw [nm1 (by omega)]; exact fun h => h
        rw [if_neg hno, oI_s, s_isGreedier hP hA hi (by omega), kc_s]
        dsimp only
        split
        · rw [if_neg (by decide)]; rfl
        · rw [if_pos rfl]; rfl
  · unfold bX0_fillUp_27
    simp (discharger := omega) only [kgr_n hP.2.1, kgi, a1, nle, if_pos]
theorem s_fillUp {Y : XS} {n : Nat} {S : PS} {a p o : Nat} {A : EL} {bc : Bool} {L : List Nat} (hn : 100 ≤ n) (hp : p + 11 ≤ 235) (ho : o + 8 ≤ 235) (hd : p + 11 ≤ o ∨ o + 8 ≤ p) (hP : SP Y S p) (hA : PV Y S p A) (hO : SO Y S o) (h : OC S o A L) :
    ok (fX0_fillUp Y n S a p o (if bc = true then 1 else 0)) (fun S' => Fr (fun b => b = o ∨ b = o + 1) S S' ∧ OC S' o A (flz A bc L) ∧ ∀ j, j ≠ 1 → j ≠ 2 → j ≠ 3 → gi S' o j = gi S o j) := by
  have a7 := hA.1.2.2.2.2.2.2.2
  have b0 := a7.1
  have b1 := a7.2.1
  have hfl := fls_ok (A := A) (bc := bc) (s0 := lb L) (L0 := L) (fun j hj => hj) h.2.2.2.2.1 h.2.2.2.2
  unfold fX0_fillUp
  rw [kgi_n, h.2.1]
  refine ok_kc (iter_ok (fun r t => t.2.1 = nI r ∧ t.1 = nI (fls A bc (lb L) L r).1 ∧ Fr (fun b => b = o ∨ b = o + 1) S t.2.2 ∧ OC t.2.2 o A (fls A bc (lb L) L r).2 ∧ ∀ j, j ≠ 1 → j ≠ 2 → j ≠ 3 → gi t.2.2 o j = gi S o j) (Q := fun r => ∃ S', (r = .inl S' ∨ r = .inr S') ∧ Fr (fun b => b = o ∨ b = o + 1) S S' ∧ OC S' o A (flz A bc L) ∧ ∀ j, j ≠ 1 → j ≠ 2 → j ≠ 3 → gi S' o j = gi S o j) (eP A) (fun r t hr h1 => ?_) (fun t h1 => ?_) (by omega) ⟨rfl, rfl, Fr.rf, h, fun _ _ _ _ => rfl⟩) ?_
  · obtain ⟨t1, t2, T⟩ := t
    obtain ⟨k1, k2, k3, k4, k5⟩ := h1
    simp only at k1 k2 k3 k4 k5
    subst k1 k2
    obtain ⟨f1, f2, f3⟩ := hfl r
    have hPT : SP Y T p := hP.fr k3.2.1
    have hAT : PV Y T p A := hA.fr k3 (by omega) (by omega)
    have hOT : SO Y T o := hO.fr k3.2.1
    have g0 := hAT.1.1
    have g1 := hAT.1.2.1
    have gs := k4.2.2.1
    have hcl := csum_le a7 (lb (fls A bc (lb L) L r).2)
    have hs12 : (fls A bc (lb L) L r).1 < 4096 := Nat.lt_of_lt_of_le f2 (p12 b1)
    have l := hP.1.2.2.2.1
    unfold bX0_fillUp_9 jX0_fillUp_134_9
    simp (discharger := omega) only [kgr_n hPT.2.1, kgi, g1, nle, if_neg]
    rw [s_fillIn hn hPT hAT hs12, kc_s]
    cases hg : gq A bc (fls A bc (lb L) L r).1 (eP A) with
    | none =>
      rw [if_pos (show oI none = -1 from rfl), ok_some, so_r]
      have e := fls_stay hg (eP A - r)
      rw [show r + (eP A - r) = eP A by omega] at e
      refine ⟨T, Or.inr rfl, k3, ?_, k5⟩
      unfold flz
      rw [e]
      exact k4
    | some q =>
      obtain ⟨q1, q2, _⟩ := amf_some hg
      have q2' : (fls A bc (lb L) L r).1.testBit q = false := by simpa using q2
      have q3 : (lb (fls A bc (lb L) L r).2).testBit q = false := by
        cases hb : (lb (fls A bc (lb L) L r).2).testBit q with
        | false => rfl
        | true => rw [f1 q hb] at q2'; cases q2'
      have hno : ¬ oI (some q) = -1 := by show ¬ nI q = m1; rw [nm1 (by omega)]; exact fun h => h
      have d1 := hAT.1.2.2.2.1 q q1
      have hc := a7.2.2.2.1 q q1
      rw [if_neg hno]
      simp (discharger := omega) only [oI_s, gs, kgr_n hPT.1.1, kai_n, d1, g0, nI_add, nlt, n2p, nor, nI_1]
      by_cases hx : eM A < csum A (lb (fls A bc (lb L) L r).2) + eC A q
      · rw [if_pos hx, ok_some, so_l]
        refine ⟨rfl, by rw [fls_s hg], k3, ?_, k5⟩
        rw [fls_s hg]
        dsimp only
        rw [if_neg (by omega)]
        exact k4
      · rw [if_neg hx]
        refine ok_kc (s_add a7 hOT k4 q1 q3) ?_
        rintro U ⟨u1, u2, u3⟩
        rw [ok_some, so_l]
        refine ⟨rfl, by rw [fls_s hg], k3.tr u1, ?_, fun j j1 j2 j3 => (u3 j j1 j2 j3).trans (k5 j j1 j2 j3)⟩
        rw [fls_s hg]
        dsimp only
        rw [if_pos (by omega)]
        exact u2
  · obtain ⟨t1, t2, T⟩ := t
    obtain ⟨k1, k2, k3, k4, k5⟩ := h1
    simp only at k1 k2 k3 k4 k5
    subst k1 k2
    have hPT : SP Y T p := hP.fr k3.2.1
    have hAT : PV Y T p A := hA.fr k3 (by omega) (by omega)
    have g1 := hAT.1.2.1
    unfold bX0_fillUp_9
    simp (discharger := omega) only [kgr_n hPT.2.1, kgi, g1, nle, if_pos, ok_some, so_r]
    exact ⟨T, Or.inl rfl, k3, k4, k5⟩
  · rintro r ⟨S', hr, h1, h2, h3⟩
    rcases hr with rfl | rfl
    · exact ok_i ⟨h1, h2, h3⟩
    · exact ok_i ⟨h1, h2, h3⟩
/-- the projects of a set, by numbers -/
def sel (s : Nat) : Nat → List Nat
  | 0 => []
  | i + 1 => if s.testBit i = true then sel s i ++ [i] else sel s i
theorem sel_tb (s : Nat) (j : Nat) : ∀ i, (lb (sel s i)).testBit j = (decide (j < i) && s.testBit j)
  | 0 => by simp [sel, lb]
  | i + 1 => by
    have ih := sel_tb s j i
    unfold sel
    by_cases hb : s.testBit i = true
    · rw [if_pos hb, lb_app, tb_or, ih]
      by_cases e : i = j
      · subst e; simp [hb]
      · have : (decide (j < i + 1)) = decide (j < i) := by
          by_cases z : j < i
          · simp [z, Nat.lt_succ_of_lt z]
          · have : ¬ j < i + 1 := by omega
            simp [z, this]
        rw [this]
        simp [e]
    · rw [if_neg hb, ih]
      by_cases e : i = j
      · subst e; simp [hb]
      · have : (decide (j < i + 1)) = decide (j < i) := by
          by_cases z : j < i
          · simp [z, Nat.lt_succ_of_lt z]
          · have : ¬ j < i + 1 := by omega
            simp [z, this]
        rw [this]
theorem sel_lb {s P : Nat} (h : s < 2 ^ P) : lb (sel s P) = s := by
  apply Nat.eq_of_testBit_eq
  intro j
  rw [sel_tb]
  by_cases hj : j < P
  · simp [hj]
  · rw [Nat.testBit_lt_two_pow (Nat.lt_of_lt_of_le h (Nat.pow_le_pow_right (by decide) (by omega)))]
    simp
theorem s_addAll {Y : XS} {n : Nat} {S : PS} {p o s : Nat} {A : EL} (hn : 100 ≤ n) (hp : p + 11 ≤ 235) (ho : o + 8 ≤ 235) (hd : p + 11 ≤ o ∨ o + 8 ≤ p) (hP : SP Y S p) (hA : PV Y S p A) (hO : SO Y S o) (h : OC S o A []) (hs : s < 4096) :
    ok (fX0_addAll Y n S p o (nI s)) (fun S' => Fr (fun b => b = o ∨ b = o + 1) S S' ∧ OC S' o A (sel s (eP A)) ∧ ∀ j, j ≠ 1 → j ≠ 2 → j ≠ 3 → gi S' o j = gi S o j) := by
  have a7 := hA.1.2.2.2.2.2.2.2
  have b1 := a7.2.1
  have l := hP.1.2.2.2.1
  unfold fX0_addAll
  refine ok_kc (iter_ok (fun r t => t.1 = nI r ∧ Fr (fun b => b = o ∨ b = o + 1) S t.2 ∧ OC t.2 o A (sel s r) ∧ ∀ j, j ≠ 1 → j ≠ 2 → j ≠ 3 → gi t.2 o j = gi S o j) (Q := fun S' => Fr (fun b => b = o ∨ b = o + 1) S S' ∧ OC S' o A (sel s (eP A)) ∧ ∀ j, j ≠ 1 → j ≠ 2 → j ≠ 3 → gi S' o j = gi S o j) (eP A) (fun r t hr h1 => ?_) (fun t h1 => ?_) (by omega) ⟨rfl, Fr.rf, h, fun _ _ _ _ => rfl⟩) (fun r h => ok_i h)
  · obtain ⟨t1, T⟩ := t
    obtain ⟨k1, k3, k4, k5⟩ := h1
    simp only at k1 k3 k4 k5
    subst k1
    have hPT : SP Y T p := hP.fr k3.2.1
    have hAT : PV Y T p A := hA.fr k3 (by omega) (by omega)
    have hOT : SO Y T o := hO.fr k3.2.1
    have g1 := hAT.1.2.1
    have d1 := hAT.1.2.2.2.1 r hr
    unfold bX0_addAll_2 jX0_addAll_35_2
    simp (discharger := omega) only [kgr_n hPT.2.1, kgr_n hPT.1.1, kgi, g1, nle, if_neg, s_isIn, kc_s, kai_n, d1, nI_1]
    have hs' : sel s (r + 1) = if s.testBit r = true then sel s r ++ [r] else sel s r := rfl
    by_cases hb : s.testBit r = true
    · rw [if_pos hb, if_neg (by decide)]
      refine ok_kc (s_add a7 hOT k4 hr (by rw [sel_tb]; simp)) ?_
      rintro U ⟨u1, u2, u3⟩
      rw [ok_some, so_l]
      refine ⟨rfl, k3.tr u1, ?_, fun j j1 j2 j3 => (u3 j j1 j2 j3).trans (k5 j j1 j2 j3)⟩
      rw [hs', if_pos hb]
      exact u2
    · rw [if_neg hb, if_pos rfl, ok_some, so_l]
      refine ⟨rfl, k3, ?_, k5⟩
      rw [hs', if_neg hb]
      exact k4
  · obtain ⟨t1, T⟩ := t
    obtain ⟨k1, k3, k4, k5⟩ := h1
    simp only at k1 k3 k4 k5
    subst k1
    have hPT : SP Y T p := hP.fr k3.2.1
    have hAT : PV Y T p A := hA.fr k3 (by omega) (by omega)
    have g1 := hAT.1.2.1
    unfold bX0_addAll_2
    simp (discharger := omega) only [kgr_n hPT.2.1, kgi, g1, nle, if_pos, ok_some, so_r]
    exact ⟨k3, k4, k5⟩
