/-! OUTCOMES: what is chosen in which order, and who paid. -/
theorem lmin_n {a b : Nat} (ha : a < 9223372036854775808) (hb : b < 9223372036854775808) : lmin (lN a) (lN b) = lN (min a b) := by
  unfold lmin
  simp only [l_lt hb ha]
  by_cases h : b < a
  · rw [if_pos h, Nat.min_eq_right (by omega)]
  · rw [if_neg h, Nat.min_eq_left (by omega)]
theorem lmax_n {a b : Nat} (ha : a < 9223372036854775808) (hb : b < 9223372036854775808) : lmax (lN a) (lN b) = lN (max a b) := by
  unfold lmax
  simp only [l_lt hb ha]
  by_cases h : b < a
  · rw [if_pos h, Nat.max_eq_left (by omega)]
  · rw [if_neg h, Nat.max_eq_right (by omega)]
theorem sm_upd {f g : Nat → Nat} {q d : Nat} : ∀ {n : Nat}, q < n → (∀ i, i < n → i ≠ q → g i = f i) → g q = f q + d → sm g n = sm f n + d
  | 0, h, _, _ => absurd h (Nat.not_lt_zero _)
  | n + 1, h, h1, h2 => by
    rw [sm_s, sm_s]
    by_cases e : q = n
    · subst e
      rw [sm_ext (n := q) (f := g) (g := f) (fun i hi => h1 i (by omega) (by omega)), h2]
      omega
    · rw [sm_upd (n := n) (by omega) (fun i hi hne => h1 i (by omega) hne) h2, h1 n (by omega) (fun z => e z.symm)]
      omega
theorem nK_add {B q P : Nat} (hq : q < P) (hb : B.testBit q = false) : nK (fun i => (B ||| 2 ^ q).testBit i) P = nK (fun i => B.testBit i) P + 1 := by
  refine sm_upd hq (fun i _ hne => ?_) ?_
  · have e : decide (q = i) = false := decide_eq_false (fun z => hne z.symm)
    simp only [tb_or, e, Bool.or_false]
  · simp [tb_or, hb]
theorem csum_add {A : EL} {B q : Nat} (hq : q < eP A) (hb : B.testBit q = false) : csum A (B ||| 2 ^ q) = csum A B + eC A q := by
  refine sm_upd hq (fun i _ hne => ?_) ?_
  · have e : decide (q = i) = false := decide_eq_false (fun z => hne z.symm)
    unfold cst
    rw [tb_or, e, Bool.or_false]
  · unfold cst
    rw [tb_or, hb]
    simp
def lb : List Nat → Nat
  | [] => 0
  | q :: L => lb L ||| 2 ^ q
theorem lb_app (L : List Nat) (q : Nat) : lb (L ++ [q]) = lb L ||| 2 ^ q := by
  induction L with
  | nil => rfl
  | cons a L ih =>
    show lb (L ++ [q]) ||| 2 ^ a = (lb L ||| 2 ^ a) ||| 2 ^ q
    rw [ih, Nat.or_assoc, Nat.or_assoc, Nat.or_comm (2 ^ q)]
def GL (A : EL) (L : List Nat) : Prop := lb L < 2 ^ eP A ∧ nK (fun q => (lb L).testBit q) (eP A) = L.length
theorem GL.nil {A : EL} : GL A [] := by
  refine ⟨Nat.two_pow_pos _, ?_⟩
  have : ∀ n, nK (fun q => (lb []).testBit q) n = 0 := by
    intro n
    induction n with
    | zero => rfl
    | succ n ih =>
      unfold nK at *
      rw [sm_s, ih]
      simp [lb]
  exact this _
theorem GL.add {A : EL} {L : List Nat} {q : Nat} (h : GL A L) (hq : q < eP A) (hb : (lb L).testBit q = false) : GL A (L ++ [q]) ∧ csum A (lb (L ++ [q])) = csum A (lb L) + eC A q ∧ L.length < eP A := by
  have h1 := nK_add hq hb
  have h2 := nK_le (K := fun i => (lb L ||| 2 ^ q).testBit i) (V := eP A)
  have h3 := h.2
  refine ⟨⟨?_, ?_⟩, ?_, by omega⟩
  · rw [lb_app]
    exact Nat.or_lt_two_pow h.1 (Nat.pow_lt_pow_right (by decide) hq)
  · rw [lb_app, h1, h3, List.length_append]
    rfl
  · rw [lb_app]
    exact csum_add hq hb
theorem GL.le {A : EL} {L : List Nat} (h : GL A L) : L.length ≤ eP A := by
  have h2 := nK_le (K := fun i => (lb L).testBit i) (V := eP A)
  have := h.2
  omega
theorem GL.lt {A : EL} {L : List Nat} (h : GL A L) (hA : EW A) : lb L < 4096 := Nat.lt_of_lt_of_le h.1 (p12 hA.2.1)
def SO (Y : XS) (S : PS) (o : Nat) : Prop := gr S o 0 = some (o + 1) ∧ gr S o 6 = some (o + 2) ∧ gr S o 7 = some (o + 3) ∧ gr S o 8 = some (o + 4) ∧ gr S o 9 = some (o + 5) ∧ gr S o 10 = some (o + 6) ∧ gr S o 12 = some (o + 7) ∧ ln Y (o + 1) = 12 ∧ ln Y (o + 2) = 288 ∧ ln Y (o + 3) = 24 ∧ ln Y (o + 4) = 12 ∧ ln Y (o + 5) = 12 ∧ ln Y (o + 6) = 12 ∧ ln Y (o + 7) = 5
theorem SO.fr {Y : XS} {S S' : PS} {o : Nat} (h : SO Y S o) (hf : S'.2.2 = S.2.2) : SO Y S' o := by
  unfold SO gr at *
  rw [hf]
  exact h
theorem PV.fr {Y : XS} {S S' : PS} {M : Nat → Prop} {p : Nat} {A : EL} (h : PV Y S p A) (hf : Fr M S S') (hd : ∀ b, p ≤ b → b < p + 9 → ¬ M b) (hl : ∀ b, 235 ≤ b → ¬ M b) : PV Y S' p A := by
  refine ⟨h.1.fr hf (fun b h1 h2 => hd b (by omega) (by omega)) hl, fun q hq => ?_⟩
  obtain ⟨c1, c2, c3, c4⟩ := h.2 q hq
  refine ⟨?_, ?_, ?_, fun v hv => ?_⟩
  · rw [hf.gi (hd _ (by omega) (by omega))]; exact c1
  · rw [hf.gi (hd _ (by omega) (by omega))]; exact c2
  · rw [hf.gi (hd _ (by omega) (by omega))]; exact c3
  · rw [hf.gi (hd _ (by omega) (by omega))]; exact c4 v hv
/-- what is chosen, in its order -/
def OC (S : PS) (o : Nat) (A : EL) (L : List Nat) : Prop := gi S o 1 = nI L.length ∧ gi S o 2 = nI (lb L) ∧ gi S o 3 = nI (csum A (lb L)) ∧ (∀ i, i < L.length → gi S (o + 1) i = nI (L.getD i 0)) ∧ GL A L
theorem s_oclear {Y : XS} {n : Nat} {S : PS} {o : Nat} {A : EL} : ok (fX5_clear Y n S o) (fun S' => Fr (fun b => b = o) S S' ∧ OC S' o A [] ∧ gi S' o 4 = nI 0 ∧ gi S' o 5 = nI 0 ∧ gi S' o 11 = nI 0) := by
  unfold fX5_clear kpi kpz
  dsimp only
  rw [if_pos (Or.inl rfl)]
  refine ok_i ⟨((((((Fr.rf (M := fun b => b = o)).si rfl).si rfl).si rfl).si rfl).si rfl).si rfl, ⟨?_, ?_, ?_, fun i hi => absurd hi (Nat.not_lt_zero _), GL.nil⟩, ?_, ?_, ?_⟩
  · simp [Gi_si]; rfl
  · simp [Gi_si]; rfl
  rotate_left
  · simp [Gi_si]; rfl
  · simp [Gi_si]; rfl
  · simp [Gi_si]; rfl
  have z : ∀ n, sm (cst A (lb [])) n = 0 := by
    intro n
    induction n with
    | zero => rfl
    | succ n ih => rw [sm_s, ih]; simp [cst, lb]
  show _ = nI (sm (cst A (lb [])) (eP A))
  rw [z]
  simp [Gi_si]; rfl
theorem n2p {q : Nat} (h : q < 31) : (1 : Int32) <<< (nI q &&& 31) = nI (2 ^ q) := by
  have h1 : 2 ^ q < 4294967296 := Nat.lt_of_lt_of_le (Nat.pow_lt_pow_right (by decide) (show q < 32 by omega)) (by decide)
  have := nshl (s := 1) (p := q) (by omega) (by omega)
  rw [Nat.one_mul] at this
  exact this
theorem s_add {Y : XS} {n : Nat} {S : PS} {o q : Nat} {A : EL} {L : List Nat} (hA : EW A) (hO : SO Y S o) (h : OC S o A L) (hq : q < eP A) (hb : (lb L).testBit q = false) :
    ok (fX5_add Y n S o (nI q) (nI (eC A q))) (fun S' => Fr (fun b => b = o ∨ b = o + 1) S S' ∧ OC S' o A (L ++ [q]) ∧ ∀ j, j ≠ 1 → j ≠ 2 → j ≠ 3 → gi S' o j = gi S o j) := by
  obtain ⟨o0, _, _, _, _, _, _, l1, _⟩ := hO
  obtain ⟨h1, h2, h3, h4, h5⟩ := h
  obtain ⟨g1, g2, g3⟩ := h5.add hq hb
  have hP := hA.2.1
  unfold fX5_add jX5_add_51
  simp (discharger := omega) only [kgi, kpi, h1, show (12 : Int32) = nI 12 from rfl, nle, if_neg, kgr_n o0, kwi_n, Gi_si, h2, h3, and_self, if_true, if_pos, n2p, nor, nI_add, nI_1]
  refine ok_i ⟨((((Fr.rf.si (Or.inr rfl)).si (Or.inl rfl)).si (Or.inl rfl)).si (Or.inl rfl)), ⟨?_, ?_, ?_, fun i hi => ?_, g1⟩, fun j j1 j2 j3 => ?_⟩
  · simp (discharger := omega) only [Gi_si, if_neg, if_pos, and_self, if_true]
    rw [List.length_append]
    rfl
  · simp (discharger := omega) only [Gi_si, if_neg, if_pos, and_self, if_true]
    rw [lb_app]
  · simp (discharger := omega) only [Gi_si, if_neg, if_pos, and_self, if_true]
    rw [g2]
  · simp (discharger := omega) only [Gi_si, if_neg]
    rw [List.length_append] at hi
    by_cases e : i = L.length
    · rw [if_pos ⟨trivial, e⟩, e]
      simp
    · have hi2 : i < L.length := by simp at hi; omega
      rw [if_neg (fun z => e z.2), h4 i hi2]
      simp [List.getElem?_append_left hi2]
  · simp (discharger := omega) only [Gi_si, if_neg]
theorem s_has {Y : XS} {n : Nat} {S : PS} {o q B : Nat} (h : gi S o 2 = nI B) (hB : B < 2147483648) (hq : q < 32) : fX5_has Y n S o (nI q) = some (if B.testBit q = true then 1 else 0) := by
  have h1 : nI B >>> (nI q &&& 31) = nI (B / 2 ^ q) := nshr hB hq
  have h3 : B / 2 ^ q < 2147483648 := Nat.lt_of_le_of_lt (Nat.div_le_self _ _) hB
  have h2 : nI (B / 2 ^ q) &&& 1 = nI (B / 2 ^ q % 2) := nand1 h3
  have h4 : B / 2 ^ q % 2 < 2 := Nat.mod_lt _ (by decide)
  unfold fX5_has
  rw [kgi_n, h, h1, h2, tb_dm]
  by_cases hh : B / 2 ^ q % 2 = 1
  · rw [hh, if_neg (show ¬ nI 1 = 0 by decide)]
    simp [jX5_has_16, kzr]
  · have h0 : B / 2 ^ q % 2 = 0 := by omega
    rw [h0, if_pos (show nI 0 = 0 by decide)]
    simp [jX5_has_16, kzr]
/-! payments -/
def rs (b w : Nat → Nat) (r T : Nat) : Nat → Nat
  | 0 => T
  | v + 1 => rs b w r T v - min (rs b w r T v) (min (b v) (r * w v))
def its (b w : Nat → Nat) (r T v : Nat) : Nat := min (rs b w r T v) (min (b v) (r * w v))
def pay (b w : Nat → Nat) (r T v : Nat) : Nat := b v - its b w r T v
def pyN (b w : Nat → Nat) (r T : Nat) : Nat → Nat := sm (fun v => if 0 < its b w r T v then 1 else 0)
def emN (b w : Nat → Nat) (r T : Nat) : Nat → Nat := sm (fun v => if 0 < its b w r T v ∧ pay b w r T v = 0 then 1 else 0)
theorem rs_s (b w : Nat → Nat) (r T v : Nat) : rs b w r T (v + 1) = rs b w r T v - its b w r T v := rfl
theorem rs_le (b w : Nat → Nat) (r T : Nat) : ∀ v, rs b w r T v ≤ T
  | 0 => Nat.le_refl _
  | v + 1 => by have := rs_le b w r T v; rw [rs_s]; omega
theorem its_le (b w : Nat → Nat) (r T v : Nat) : its b w r T v ≤ b v ∧ its b w r T v ≤ rs b w r T v := by
  unfold its
  omega
theorem its_n {b w : Nat → Nat} {r T v : Nat} (hb : b v ≤ 200000000) (hr : r ≤ 20000000) (hw : w v ≤ 9999) (hT : T ≤ 9999000) : lmin ((nI r).toInt64 * (nI (w v)).toInt64) (Int32.toInt64 (imin (nI (b v)) (nI (rs b w r T v)))) = lN (its b w r T v) := by
  have h1 : r * w v ≤ 20000000 * 9999 := Nat.mul_le_mul hr hw
  have h2 := rs_le b w r T v
  rw [nmin (by omega) (by omega), nI_l (by omega), nI_l (by omega), nI_l (by omega), lN_mul, lmin_n (by omega) (by omega)]
  unfold its
  congr 1
  omega
theorem s_buyIn {Y : XS} {n : Nat} {S : PS} {p o q r : Nat} {b : Nat → Nat} {A : EL} (hn : 100 ≤ n) (hp : p + 11 ≤ 235) (ho : o + 8 ≤ 235) (hd : p + 11 ≤ o ∨ o + 8 ≤ p) (hP : SP Y S p) (hA : PV Y S p A) (hO : SO Y S o) (hb : ∀ v, v < eV A → gi S (o + 3) v = nI (b v)) (hB : sm b (eV A) ≤ 200000000) (hq : q < eP A) (hr : r ≤ 20000000) :
    ok (iter (bX5_buy_30 Y n o p (nI q) (nI r) (nI (q * 24))) n (nI (eC A q * 1000), (0 : Int32), (0 : Int32), (0 : Int32), S)) (fun t => t.1 = nI (pyN b (wo A q) r (eC A q * 1000) (eV A)) ∧ t.2.1 = nI (emN b (wo A q) r (eC A q * 1000) (eV A)) ∧ Fr (fun x => x = o + 2 ∨ x = o + 3) S t.2.2 ∧ (∀ v, v < eV A → gi t.2.2 (o + 3) v = nI (pay b (wo A q) r (eC A q * 1000) v)) ∧ (∀ v, v < eV A → gi t.2.2 (o + 2) (q * 24 + v) = nI (its b (wo A q) r (eC A q * 1000) v)) ∧ ∀ j, (j < q * 24 ∨ q * 24 + 24 ≤ j) → gi t.2.2 (o + 2) j = gi S (o + 2) j) := by
  have hA0 := hA
  have a7 := hA.1.2.2.2.2.2.2.2
  have b1 := a7.2.1
  have b2 := a7.2.2.1
  have hc := a7.2.2.2.1 q hq
  have l4 := hP.2.2.2.2.2.2.2.2.2.2.2.1
  obtain ⟨o0, o1, o2, o3, o4, o5, o6, lo1, lo2, lo3, lo4, lo5, lo6, lo7⟩ := hO
  generalize hT : eC A q * 1000 = T at *
  have hT2 : T ≤ 9999000 := by omega
  have common : ∀ (i : Nat) (U : PS), Fr (fun x => x = o + 2 ∨ x = o + 3) S U → SP Y U p ∧ PV Y U p A ∧ gr U o 6 = some (o + 2) ∧ gr U o 7 = some (o + 3) := by
    intro i U hU
    exact ⟨hP.fr hU.2.1, hA0.fr hU (by omega) (by omega), by rw [hU.gr]; exact o1, by rw [hU.gr]; exact o2⟩
  refine iter_ok (fun i t => t.1 = nI (rs b (wo A q) r T i) ∧ t.2.1 = nI (pyN b (wo A q) r T i) ∧ t.2.2.1 = nI (emN b (wo A q) r T i) ∧ t.2.2.2.1 = nI i ∧ Fr (fun x => x = o + 2 ∨ x = o + 3) S t.2.2.2.2 ∧ (∀ v, v < eV A → gi t.2.2.2.2 (o + 3) v = nI (if v < i then pay b (wo A q) r T v else b v)) ∧ (∀ v, v < i → gi t.2.2.2.2 (o + 2) (q * 24 + v) = nI (its b (wo A q) r T v)) ∧ ∀ j, (j < q * 24 ∨ q * 24 + 24 ≤ j) → gi t.2.2.2.2 (o + 2) j = gi S (o + 2) j) (eV A) (fun i t hi h => ?_) (fun t h => ?_) (by omega) ⟨rfl, rfl, rfl, rfl, Fr.rf, fun v hv => by rw [if_neg (by omega)]; exact hb v hv, fun v hv => absurd hv (Nat.not_lt_zero _), fun _ _ => rfl⟩
  · obtain ⟨t1, t2, t3, t4, U⟩ := t
    obtain ⟨k1, k2, k3, k4, k5, k6, k7, k8⟩ := h
    simp only at k1 k2 k3 k4 k5 k6 k7 k8
    subst k1 k2 k3 k4
    obtain ⟨c1, c2, c3, c4⟩ := common i U k5
    have hbi : b i ≤ 200000000 := Nat.le_trans (sm_at hi) hB
    have hw := (c2.2 q hq).2.2.2 i hi
    have hpi := k6 i hi
    rw [if_neg (by omega)] at hpi
    have hit := its_n (b := b) (w := wo A q) (r := r) (T := T) (v := i) hbi hr (wo_le A q i) hT2
    have hil := its_le b (wo A q) r T i
    have hrl := rs_le b (wo A q) r T i
    have hgV := c2.1.2.2.1
    unfold bX5_buy_30 jX5_buy_135_30 jX5_buy_138_30
    simp (discharger := omega) only [kgr_n c1.2.1, kgi, hgV, nle, if_neg, kgr_n c1.2.2.2.2.2.1, nI_add, kai_n, hw, kgr_n c4, hpi, kgr_n c3, kwi_n, hit, lN_i]
    generalize hU1 : si U (o + 2) (q * 24 + i) (nI (its b (wo A q) r T i)) = U1
    have g3 : gr U1 o 7 = some (o + 3) := by rw [← hU1, Gr_si]; exact c4
    have hp1 : gi U1 (o + 3) i = nI (b i) := by rw [← hU1, Gi_si, if_neg (by omega)]; exact hpi
    simp (discharger := omega) only [kgr_n g3, kai_n, hp1, kwi_n, nsub]
    generalize hU2 : si U1 (o + 3) i (nI (b i - its b (wo A q) r T i)) = U2
    have g4 : gr U2 o 7 = some (o + 3) := by rw [← hU2, Gr_si]; exact g3
    have hp2 : gi U2 (o + 3) i = nI (b i - its b (wo A q) r T i) := by rw [← hU2, Gi_si, if_pos ⟨rfl, rfl⟩]
    have F2 : Fr (fun x => x = o + 2 ∨ x = o + 3) S U2 := by
      rw [← hU2, ← hU1]
      exact (k5.si (Or.inl rfl)).si (Or.inr rfl)
    have H6 : ∀ v, v < eV A → gi U2 (o + 3) v = nI (if v < i + 1 then pay b (wo A q) r T v else b v) := by
      intro v hv
      rw [← hU2, ← hU1, Gi_si]
      by_cases e : v = i
      · rw [if_pos ⟨rfl, e⟩, if_pos (by omega), e]
        rfl
      · rw [if_neg (fun z => e z.2), Gi_si, if_neg (by omega), k6 v hv]
        by_cases z : v < i
        · rw [if_pos z, if_pos (by omega)]
        · rw [if_neg z, if_neg (by omega)]
    have H7 : ∀ v, v < i + 1 → gi U2 (o + 2) (q * 24 + v) = nI (its b (wo A q) r T v) := by
      intro v hv
      rw [← hU2, ← hU1, Gi_si, if_neg (by omega), Gi_si]
      by_cases e : v = i
      · rw [if_pos ⟨rfl, by omega⟩, e]
      · rw [if_neg (by omega)]
        exact k7 v (by omega)
    have H8 : ∀ j, (j < q * 24 ∨ q * 24 + 24 ≤ j) → gi U2 (o + 2) j = gi S (o + 2) j := by
      intro j hj
      rw [← hU2, ← hU1, Gi_si, if_neg (by omega), Gi_si, if_neg (by omega)]
      exact k8 j hj
    simp (discharger := omega) only [show (0 : Int64) = lN 0 from rfl, show (0 : Int32) = nI 0 from rfl, show (1 : Int32) = nI 1 from rfl, cmp_le, l_le, kgr_n g4, kai_n, hp2, neq, nI_add]
    have hpy : pyN b (wo A q) r T (i + 1) = pyN b (wo A q) r T i + if 0 < its b (wo A q) r T i then 1 else 0 := rfl
    have hem : emN b (wo A q) r T (i + 1) = emN b (wo A q) r T i + if 0 < its b (wo A q) r T i ∧ pay b (wo A q) r T i = 0 then 1 else 0 := rfl
    by_cases h0 : its b (wo A q) r T i ≤ 0
    · rw [if_pos h0, ok_some, so_l]
      refine ⟨rfl, ?_, ?_, rfl, F2, H6, H7, H8⟩
      · rw [hpy, if_neg (by omega)]; rfl
      · rw [hem, if_neg (by omega)]; rfl
    · rw [if_neg h0]
      by_cases h9 : b i - its b (wo A q) r T i = 0
      · rw [if_pos h9, ok_some, so_l]
        refine ⟨rfl, ?_, ?_, rfl, F2, H6, H7, H8⟩
        · rw [hpy, if_pos (by omega)]
        · rw [hem, if_pos ⟨by omega, h9⟩]
      · rw [if_neg h9, ok_some, so_l]
        refine ⟨rfl, ?_, ?_, rfl, F2, H6, H7, H8⟩
        · rw [hpy, if_pos (by omega)]
        · rw [hem, if_neg (fun z => h9 z.2)]
  · obtain ⟨t1, t2, t3, t4, U⟩ := t
    obtain ⟨k1, k2, k3, k4, k5, k6, k7, k8⟩ := h
    simp only at k1 k2 k3 k4 k5 k6 k7 k8
    subst k1 k2 k3 k4
    obtain ⟨c1, c2, c3, c4⟩ := common 0 U k5
    have hgV := c2.1.2.2.1
    unfold bX5_buy_30
    simp (discharger := omega) only [kgr_n c1.2.1, kgi, hgV, nle, if_pos, ok_some, so_r]
    exact ⟨trivial, trivial, k5, fun v hv => by rw [k6 v hv, if_pos hv], k7, k8⟩
