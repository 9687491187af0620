/-! EQUAL SHARES, step by step. -/
noncomputable def bst (A : EL) (b0 : Nat → Nat) : Nat → Nat × (Nat → Nat)
  | 0 => (0, b0)
  | k + 1 => match nxt A (bst A b0 k).1 (bst A b0 k).2 with
    | none => bst A b0 k
    | some q => ((bst A b0 k).1 ||| 2 ^ q, pay (bst A b0 k).2 (wo A q) ((prc A (bst A b0 k).2 q).getD 0) (eC A q * 1000))
noncomputable def sq (A : EL) (b0 : Nat → Nat) (k : Nat) : Option Nat := nxt A (bst A b0 k).1 (bst A b0 k).2
noncomputable def spr (A : EL) (b0 : Nat → Nat) (k q : Nat) : Nat := (prc A (bst A b0 k).2 q).getD 0
noncomputable def sl (A : EL) (b0 : Nat → Nat) : Nat → List Nat
  | 0 => []
  | k + 1 => match sq A b0 k with
    | none => sl A b0 k
    | some q => sl A b0 k ++ [q]
theorem bst_s {A : EL} {b0 : Nat → Nat} {k q : Nat} (h : sq A b0 k = some q) : bst A b0 (k + 1) = ((bst A b0 k).1 ||| 2 ^ q, pay (bst A b0 k).2 (wo A q) (spr A b0 k q) (eC A q * 1000)) := by
  show (match sq A b0 k with
    | none => bst A b0 k
    | some q => ((bst A b0 k).1 ||| 2 ^ q, pay (bst A b0 k).2 (wo A q) ((prc A (bst A b0 k).2 q).getD 0) (eC A q * 1000))) = _
  rw [h]
  rfl
theorem bst_0 {A : EL} {b0 : Nat → Nat} {k : Nat} (h : sq A b0 k = none) : bst A b0 (k + 1) = bst A b0 k := by
  show (match sq A b0 k with
    | none => bst A b0 k
    | some q => ((bst A b0 k).1 ||| 2 ^ q, pay (bst A b0 k).2 (wo A q) ((prc A (bst A b0 k).2 q).getD 0) (eC A q * 1000))) = _
  rw [h]
theorem sl_s {A : EL} {b0 : Nat → Nat} {k q : Nat} (h : sq A b0 k = some q) : sl A b0 (k + 1) = sl A b0 k ++ [q] := by
  show (match sq A b0 k with
    | none => sl A b0 k
    | some q => sl A b0 k ++ [q]) = _
  rw [h]
theorem sl_0 {A : EL} {b0 : Nat → Nat} {k : Nat} (h : sq A b0 k = none) : sl A b0 (k + 1) = sl A b0 k := by
  show (match sq A b0 k with
    | none => sl A b0 k
    | some q => sl A b0 k ++ [q]) = _
  rw [h]
theorem nxt_some {A : EL} {ch : Nat} {b : Nat → Nat} {q : Nat} (h : nxt A ch b = some q) : q < eP A ∧ ch.testBit q = false ∧ ∃ r, prc A b q = some r := by
  obtain ⟨h1, h2, _⟩ := amf_some h
  rw [Bool.and_eq_true] at h2
  refine ⟨h1, by simpa using h2.1, ?_⟩
  cases hp : prc A b q with
  | none => rw [hp] at h2; exact absurd h2.2 (by simp)
  | some r => exact ⟨r, rfl⟩
theorem lb_sl {A : EL} {b0 : Nat → Nat} : ∀ k, lb (sl A b0 k) = (bst A b0 k).1
  | 0 => rfl
  | k + 1 => by
    cases h : sq A b0 k with
    | none => rw [sl_0 h, bst_0 h, lb_sl k]
    | some q => rw [sl_s h, bst_s h, lb_app, lb_sl k]
theorem sl_gl {A : EL} {b0 : Nat → Nat} : ∀ k, GL A (sl A b0 k)
  | 0 => GL.nil
  | k + 1 => by
    cases h : sq A b0 k with
    | none => rw [sl_0 h]; exact sl_gl k
    | some q =>
      obtain ⟨h1, h2, _⟩ := nxt_some h
      rw [sl_s h]
      exact ((sl_gl k).add h1 (by rw [lb_sl]; exact h2)).1
theorem sl_len {A : EL} {b0 : Nat → Nat} : ∀ {k : Nat}, (∀ i, i < k → ∃ q, sq A b0 i = some q) → (sl A b0 k).length = k
  | 0, _ => rfl
  | k + 1, h => by
    obtain ⟨q, hq⟩ := h k (by omega)
    rw [sl_s hq, List.length_append, sl_len (k := k) (fun i hi => h i (by omega))]
    rfl
theorem sq_stay {A : EL} {b0 : Nat → Nat} {k : Nat} (h : sq A b0 k = none) : ∀ d, sq A b0 (k + d) = none ∧ bst A b0 (k + d) = bst A b0 k ∧ sl A b0 (k + d) = sl A b0 k
  | 0 => ⟨h, rfl, rfl⟩
  | d + 1 => by
    obtain ⟨i1, i2, i3⟩ := sq_stay h d
    have e1 : bst A b0 (k + (d + 1)) = bst A b0 k := by rw [← Nat.add_assoc, bst_0 i1, i2]
    refine ⟨?_, e1, ?_⟩
    · unfold sq
      rw [e1]
      exact h
    · rw [← Nat.add_assoc, sl_0 i1, i3]
theorem sq_before {A : EL} {b0 : Nat → Nat} {k i : Nat} (h : ∃ q, sq A b0 k = some q) (hi : i ≤ k) : ∃ q, sq A b0 i = some q := by
  cases hs : sq A b0 i with
  | some q => exact ⟨q, rfl⟩
  | none =>
    obtain ⟨q, hq⟩ := h
    have := (sq_stay hs (k - i)).1
    rw [show i + (k - i) = k by omega, hq] at this
    cases this
theorem bst_up {A : EL} {b0 : Nat → Nat} {k q : Nat} (h : (bst A b0 k).1.testBit q = true) : ∀ d, (bst A b0 (k + d)).1.testBit q = true
  | 0 => h
  | d + 1 => by
    have ih := bst_up h d
    rw [← Nat.add_assoc]
    cases hs : sq A b0 (k + d) with
    | none => rw [bst_0 hs]; exact ih
    | some q' => rw [bst_s hs]; dsimp only; rw [tb_or, ih]; rfl
theorem bst_in {A : EL} {b0 : Nat → Nat} {i k q : Nat} (hi : i < k) (h : sq A b0 i = some q) : (bst A b0 k).1.testBit q = true := by
  have h1 : (bst A b0 (i + 1)).1.testBit q = true := by rw [bst_s h]; dsimp only; rw [tb_or]; simp
  have := bst_up h1 (k - (i + 1))
  rw [show i + 1 + (k - (i + 1)) = k by omega] at this
  exact this
theorem sq_all {A : EL} {b0 : Nat → Nat} {k : Nat} (h : ∀ i, i < k → ∃ q, sq A b0 i = some q) (hk : eP A ≤ k) : sq A b0 k = none := by
  unfold sq nxt
  rw [amf_none]
  intro j hj
  have h1 := (sl_gl (A := A) (b0 := b0) k).2
  rw [sl_len h, lb_sl] at h1
  have := nK_full (K := fun q => (bst A b0 k).1.testBit q) (V := eP A) (by omega) j hj
  simp [this]
theorem pay_le (b w : Nat → Nat) (r T v : Nat) : pay b w r T v ≤ b v := Nat.sub_le _ _
theorem bst_le {A : EL} {b0 : Nat → Nat} : ∀ k v, (bst A b0 k).2 v ≤ b0 v
  | 0, _ => Nat.le_refl _
  | k + 1, v => by
    have ih := bst_le (A := A) (b0 := b0) k v
    cases h : sq A b0 k with
    | none => rw [bst_0 h]; exact ih
    | some q =>
      rw [bst_s h]
      exact Nat.le_trans (pay_le _ _ _ _ _) ih
theorem bst_sm {A : EL} {b0 : Nat → Nat} {k c : Nat} (h : sm b0 (eV A) ≤ c) : sm (bst A b0 k).2 (eV A) ≤ c := Nat.le_trans (sm_mono (fun v _ => bst_le k v)) h
theorem Gv_b {b b' w : Nat → Nat} {V x : Nat} (h : ∀ v, v < V → b' v ≤ b v) : Gv b' w V x ≤ Gv b w V x := sm_mono (fun v hv => by have := h v hv; omega)
theorem prc_none {A : EL} {b b' : Nat → Nat} {q : Nat} (h : ∀ v, v < eV A → b' v ≤ b v) (hn : prc A b q = none) : prc A b' q = none := by
  have hs := pr_spec b (wo A q) (eV A) (eC A q * 1000)
  have e : pr b (wo A q) (eV A) (eC A q * 1000) = none := hn
  rw [e] at hs
  exact pr_eq (fun r => Nat.lt_of_le_of_lt (Gv_b h) (hs r))
theorem BdOK.next {A : EL} {ch q : Nat} {b b' : Nat → Nat} {bd : Nat → Option Nat} (h : BdOK A ch b bd) (hb : ∀ v, v < eV A → b' v ≤ b v) : BdOK A (ch ||| 2 ^ q) b' (fun j => if j = q then none else bd j) := by
  intro j hj
  dsimp only
  by_cases e : j = q
  · rw [if_pos e]
    refine ⟨fun _ => Or.inl ?_, fun r hr => by cases hr⟩
    rw [tb_or, e]
    simp
  · rw [if_neg e]
    have e' : decide (q = j) = false := decide_eq_false (fun z => e z.symm)
    obtain ⟨h1, h2⟩ := h j hj
    refine ⟨fun hn => ?_, fun r hr => ?_⟩
    · rcases h1 hn with z | z
      · left; rw [tb_or, z]; rfl
      · right; exact prc_none hb z
    · obtain ⟨z1, z2, z3⟩ := h2 r hr
      refine ⟨by rw [tb_or, z1, e']; rfl, z2, fun x hx => Nat.lt_of_le_of_lt (Gv_b hb) (z3 x hx)⟩
/-- the outcome o holds the first k steps -/
def ShO (S : PS) (o : Nat) (A : EL) (b0 : Nat → Nat) (k : Nat) : Prop :=
  (∀ i, i < k → ∃ q, sq A b0 i = some q) ∧ OC S o A (sl A b0 k) ∧ gi S o 5 = nI (bst A b0 k).1 ∧ (∀ v, v < eV A → gi S (o + 3) v = nI ((bst A b0 k).2 v)) ∧
  ∀ i q, i < k → sq A b0 i = some q → gi S (o + 4) i = nI (spr A b0 i q) ∧ gi S (o + 5) i = nI (pyN (bst A b0 i).2 (wo A q) (spr A b0 i q) (eC A q * 1000) (eV A)) ∧ gi S (o + 6) i = nI (emN (bst A b0 i).2 (wo A q) (spr A b0 i q) (eC A q * 1000) (eV A)) ∧ ∀ v, v < eV A → gi S (o + 2) (q * 24 + v) = nI (its (bst A b0 i).2 (wo A q) (spr A b0 i q) (eC A q * 1000) v)
theorem s_buy {Y : XS} {n : Nat} {S : PS} {p o q k : Nat} {b0 : Nat → Nat} {A : EL} (hn : 100 ≤ n) (hp : p + 11 ≤ 235) (ho : o + 8 ≤ 235) (hd : p + 11 ≤ o ∨ o + 8 ≤ p) (hP : SP Y S p) (hA : PV Y S p A) (hO : SO Y S o) (hB : sm b0 (eV A) ≤ 200000000) (h : ShO S o A b0 k) (hq : sq A b0 k = some q) :
    ok (fX5_buy Y n S o p (nI q) (nI (spr A b0 k q))) (fun S' => Fr (fun x => o ≤ x ∧ x < o + 8) S S' ∧ ShO S' o A b0 (k + 1) ∧ gi S' o 4 = gi S o 4 ∧ gi S' o 11 = gi S o 11) := by
  obtain ⟨h1, h2, h3, h4, h5⟩ := h
  have a7 := hA.1.2.2.2.2.2.2.2
  have b1 := a7.2.1
  have b2 := a7.2.2.1
  obtain ⟨q1, q2, r, q3⟩ := nxt_some hq
  have hr : spr A b0 k q = r := by unfold spr; rw [q3]; rfl
  have hrl := prc_le a7 q1 q3
  have hc := a7.2.2.2.1 q q1
  have a3' := hA.1.2.2.2.1 q q1
  have hO0 := hO
  have hk12 : k < 12 := by
    have := ((sl_gl (A := A) (b0 := b0) k).add q1 (by rw [lb_sl]; exact q2)).2.2
    rw [sl_len h1] at this
    omega
  obtain ⟨o0, o1, o2, o3, o4, o5, o6, lo1, lo2, lo3, lo4, lo5, lo6, lo7⟩ := hO
  obtain ⟨⟨e1, e2, e3, e4, e5, e6⟩, p0, _⟩ := hP
  have hP0 : SP Y S p := ⟨⟨e1, e2, e3, e4, e5, e6⟩, p0, by assumption⟩
  unfold fX5_buy
  simp (discharger := omega) only [kgr_n p0, kgr_n e1, kai_n, a3', show (24 : Int32) = nI 24 from rfl, show (1000 : Int32) = nI 1000 from rfl, nmul]
  refine ok_kc (s_buyIn hn hp ho hd hP0 hA hO0 h4 (bst_sm hB) q1 (by omega)) ?_
  rintro ⟨t1, t2, U⟩ ⟨k1, k2, k5, k6, k7, k8⟩
  simp only at k1 k2 k5 k6 k7 k8
  subst k1 k2
  have oc1 : gi U o 1 = nI k := by rw [k5.gi (by omega), h2.1, sl_len h1]
  have g8 : gr U o 8 = some (o + 4) := by rw [k5.gr]; exact o3
  simp (discharger := omega) only [kgi, oc1, show (12 : Int32) = nI 12 from rfl, nle, if_neg, kgr_n g8, kwi_n]
  generalize hU1 : si U (o + 4) k (nI (spr A b0 k q)) = U1
  have g9 : gr U1 o 9 = some (o + 5) := by rw [← hU1, Gr_si, k5.gr]; exact o4
  have oc2 : gi U1 o 1 = nI k := by rw [← hU1, Gi_si, if_neg (by omega)]; exact oc1
  simp (discharger := omega) only [kgr_n g9, oc2, kwi_n]
  generalize hU2 : si U1 (o + 5) k (nI (pyN (bst A b0 k).2 (wo A q) (spr A b0 k q) (eC A q * 1000) (eV A))) = U2
  have g10 : gr U2 o 10 = some (o + 6) := by rw [← hU2, Gr_si, ← hU1, Gr_si, k5.gr]; exact o5
  have oc3 : gi U2 o 1 = nI k := by rw [← hU2, Gi_si, if_neg (by omega)]; exact oc2
  simp (discharger := omega) only [kgr_n g10, oc3, kwi_n]
  generalize hU3 : si U2 (o + 6) k (nI (emN (bst A b0 k).2 (wo A q) (spr A b0 k q) (eC A q * 1000) (eV A))) = U3
  have f3 : Fr (fun x => x = o + 2 ∨ x = o + 3 ∨ x = o + 4 ∨ x = o + 5 ∨ x = o + 6) S U3 := by
    rw [← hU3, ← hU2, ← hU1]
    exact (((k5.mono (by omega)).si (by omega)).si (by omega)).si (by omega)
  have b3 : gi U3 o 5 = nI (bst A b0 k).1 := by rw [f3.gi (by omega)]; exact h3
  unfold jX5_buy_185
  simp (discharger := omega) only [kgi, kpi, b3, n2p, nor]
  generalize hU4 : si U3 o 5 (nI ((bst A b0 k).1 ||| 2 ^ q)) = U4
  have f4 : Fr (fun x => x = o ∨ x = o + 2 ∨ x = o + 3 ∨ x = o + 4 ∨ x = o + 5 ∨ x = o + 6) S U4 := by
    rw [← hU4]
    exact (f3.mono (by omega)).si (by omega)
  have hP4 : SP Y U4 p := hP0.fr f4.2.1
  have hA4 : PV Y U4 p A := hA.fr f4 (by omega) (by omega)
  have hO4 : SO Y U4 o := hO0.fr f4.2.1
  have a4' := hA4.1.2.2.2.1 q q1
  have oc4 : OC U4 o A (sl A b0 k) := by
    obtain ⟨x1, x2, x3, x4, x5⟩ := h2
    have z : ∀ j, j ≠ 5 → gi U4 o j = gi S o j := by
      intro j hj
      rw [← hU4, Gi_si, if_neg (by omega), f3.gi (by omega)]
    refine ⟨by rw [z 1 (by omega)]; exact x1, by rw [z 2 (by omega)]; exact x2, by rw [z 3 (by omega)]; exact x3, fun i hi => by rw [f4.gi (by omega)]; exact x4 i hi, x5⟩
  simp (discharger := omega) only [kgr_n hP4.2.1, kgr_n hP4.1.1, kai_n, a4']
  refine ok_kc (s_add a7 hO4 oc4 q1 (by rw [lb_sl]; exact q2)) ?_
  rintro U5 ⟨f5, oc5, z5⟩
  have F5 : Fr (fun x => o ≤ x ∧ x < o + 8) S U5 := (f4.mono (by omega)).tr (f5.mono (by omega))
  have fx : ∀ (x j : Nat), x ≠ o → x ≠ o + 1 → gi U5 x j = gi U3 x j := by
    intro x j hx1 hx2
    rw [f5.gi (by omega), ← hU4, Gi_si, if_neg (by omega)]
  refine ok_i ⟨F5, ⟨fun i hi => ?_, ?_, ?_, fun v hv => ?_, fun i q' hi hq' => ?_⟩, ?_, ?_⟩
  · by_cases e : i = k
    · rw [e]; exact ⟨q, hq⟩
    · exact h1 i (by omega)
  · rw [sl_s hq]; exact oc5
  · rw [z5 5 (by omega) (by omega) (by omega), ← hU4, Gi_si, if_pos ⟨rfl, rfl⟩, bst_s hq]
  · rw [bst_s hq, fx _ _ (by omega) (by omega), ← hU3, Gi_si, if_neg (by omega), ← hU2, Gi_si, if_neg (by omega), ← hU1, Gi_si, if_neg (by omega)]
    exact k6 v hv
  · by_cases e : i = k
    · subst e
      rw [hq] at hq'
      cases hq'
      refine ⟨?_, ?_, ?_, fun v hv => ?_⟩
      · rw [fx _ _ (by omega) (by omega), ← hU3, Gi_si, if_neg (by omega), ← hU2, Gi_si, if_neg (by omega), ← hU1, Gi_si, if_pos ⟨rfl, rfl⟩]
      · rw [fx _ _ (by omega) (by omega), ← hU3, Gi_si, if_neg (by omega), ← hU2, Gi_si, if_pos ⟨rfl, rfl⟩]
      · rw [fx _ _ (by omega) (by omega), ← hU3, Gi_si, if_pos ⟨rfl, rfl⟩]
      · rw [fx _ _ (by omega) (by omega), ← hU3, Gi_si, if_neg (by omega), ← hU2, Gi_si, if_neg (by omega), ← hU1, Gi_si, if_neg (by omega)]
        exact k7 v hv
    · have hne : q' ≠ q := by
        intro z
        have := bst_in (k := k) (by omega) hq'
        rw [z, q2] at this
        cases this
      obtain ⟨y1, y2, y3, y4⟩ := h5 i q' (by omega) hq'
      have hq'P := (nxt_some hq').1
      refine ⟨?_, ?_, ?_, fun v hv => ?_⟩
      · rw [fx _ _ (by omega) (by omega), ← hU3, Gi_si, if_neg (by omega), ← hU2, Gi_si, if_neg (by omega), ← hU1, Gi_si, if_neg (by omega), k5.gi (by omega)]
        exact y1
      · rw [fx _ _ (by omega) (by omega), ← hU3, Gi_si, if_neg (by omega), ← hU2, Gi_si, if_neg (by omega), ← hU1, Gi_si, if_neg (by omega), k5.gi (by omega)]
        exact y2
      · rw [fx _ _ (by omega) (by omega), ← hU3, Gi_si, if_neg (by omega), ← hU2, Gi_si, if_neg (by omega), ← hU1, Gi_si, if_neg (by omega), k5.gi (by omega)]
        exact y3
      · rw [fx _ _ (by omega) (by omega), ← hU3, Gi_si, if_neg (by omega), ← hU2, Gi_si, if_neg (by omega), ← hU1, Gi_si, if_neg (by omega), k8 _ (by omega)]
        exact y4 v hv
  · rw [z5 4 (by omega) (by omega) (by omega), ← hU4, Gi_si, if_neg (by omega), f3.gi (by omega)]
  · rw [z5 11 (by omega) (by omega) (by omega), ← hU4, Gi_si, if_neg (by omega), f3.gi (by omega)]
