/-! POLLS: what follows from an election for each project and voter. -/
def bs (f : Nat → Bool) : Nat → Nat
  | 0 => 0
  | n + 1 => if f n = true then bs f n ||| 2 ^ n else bs f n
theorem bs_s (f : Nat → Bool) (n : Nat) : bs f (n + 1) = if f n = true then bs f n ||| 2 ^ n else bs f n := rfl
theorem bs_lt (f : Nat → Bool) : ∀ n, bs f n < 2 ^ n
  | 0 => Nat.one_pos
  | n + 1 => by
    have h := bs_lt f n
    have h2 : 2 ^ n < 2 ^ (n + 1) := Nat.pow_lt_pow_right (by decide) (by omega)
    rw [bs_s]
    split
    · exact Nat.or_lt_two_pow (Nat.lt_trans h h2) h2
    · exact Nat.lt_trans h h2
theorem bs_tb (f : Nat → Bool) (i : Nat) : ∀ n, (bs f n).testBit i = (decide (i < n) && f i)
  | 0 => by simp [bs]
  | n + 1 => by
    have h := bs_tb f i n
    rw [bs_s]
    by_cases e : n = i
    · subst e
      by_cases hf : f n = true
      · simp [hf, h]
      · simp [hf, h]
    · have e2 : (decide (i < n + 1)) = decide (i < n) := by
        by_cases q : i < n
        · simp [q, Nat.lt_succ_of_lt q]
        · have : ¬ i < n + 1 := by omega
          simp [q, this]
      rw [e2]
      split
      · rw [Nat.testBit_or, h, Nat.testBit_two_pow_of_ne e]
        simp
      · exact h
theorem bs_ext {f g : Nat → Bool} {n : Nat} (h : ∀ i, i < n → f i = g i) : bs f n = bs g n := by
  apply Nat.eq_of_testBit_eq
  intro i
  rw [bs_tb, bs_tb]
  by_cases hi : i < n
  · rw [h i hi]
  · simp [hi]
def lk (A : EL) (q : Nat) : Nat := sm (fun v => if 0 < eS A q v then 1 else 0) (eV A)
def wS (A : EL) (q s : Nat) : Nat := match eL A with
  | none => 1
  | some f => clN (f (nI s) (nI (eC A q)) (nI (lk A q)) (nI (eV A)))
def wo (A : EL) (q v : Nat) : Nat := if eS A q v = 0 then 0 else wS A q (eS A q v)
def al (A : EL) (q : Nat) : Nat := sm (wo A q) (eV A)
def fb (A : EL) (q : Nat) : Nat := bs (fun v => decide (0 < wo A q v)) (eV A)
theorem wS_le (A : EL) (q s : Nat) : wS A q s ≤ 9999 := by
  unfold wS
  split
  · decide
  · exact clN_le _
theorem wo_le (A : EL) (q v : Nat) : wo A q v ≤ 9999 := by
  unfold wo
  split
  · exact Nat.zero_le _
  · exact wS_le A q _
theorem lk_le {A : EL} (h : EW A) (q : Nat) : lk A q ≤ 24 := by
  have := sm_le (f := fun v => if 0 < eS A q v then 1 else 0) (c := 1) (n := eV A) (fun i _ => by split <;> omega)
  have := h.2.2.1
  unfold lk
  omega
theorem al_le {A : EL} (h : EW A) (q : Nat) : al A q ≤ 239976 := by
  have := sm_le (f := wo A q) (c := 9999) (n := eV A) (fun i _ => wo_le A q i)
  have := h.2.2.1
  unfold al
  omega
theorem p24 {n : Nat} (h : n ≤ 24) : 2 ^ n ≤ 16777216 := Nat.le_trans (Nat.pow_le_pow_right (by decide) h) (by decide)
theorem p12 {n : Nat} (h : n ≤ 12) : 2 ^ n ≤ 4096 := Nat.le_trans (Nat.pow_le_pow_right (by decide) h) (by decide)
theorem fb_lt {A : EL} (h : EW A) (q : Nat) : fb A q < 16777216 := Nat.lt_of_lt_of_le (bs_lt _ _) (p24 h.2.2.1)
def SP (Y : XS) (S : PS) (p : Nat) : Prop := SE Y S (p + 1) ∧ gr S p 0 = some (p + 1) ∧ gr S p 1 = some (p + 5) ∧ gr S p 2 = some (p + 6) ∧ gr S p 3 = some (p + 7) ∧ gr S p 4 = some (p + 8) ∧ gr S p 5 = some (p + 9) ∧ gr S p 6 = some (p + 10) ∧ ln Y (p + 5) = 12 ∧ ln Y (p + 6) = 12 ∧ ln Y (p + 7) = 12 ∧ ln Y (p + 8) = 288 ∧ ln Y (p + 9) = 10 ∧ ln Y (p + 10) = 15
theorem SP.fr {Y : XS} {S S' : PS} {p : Nat} (h : SP Y S p) (hf : S'.2.2 = S.2.2) : SP Y S' p := by
  obtain ⟨h1, h2⟩ := h
  refine ⟨h1.fr hf, ?_⟩
  unfold gr at *
  rw [hf]
  exact h2
theorem SP.fe {Y : XS} {S S' : PS} {p e' : Nat} {r : Option Nat} (h : SP Y S p) (hf : FE e' r S S') (hp : p ≠ e') : SP Y S' p := by
  obtain ⟨h0, h1, h2, h3, h4, h5, h6, h7, h8⟩ := h
  refine ⟨h0.fe hf, ?_, ?_, ?_, ?_, ?_, ?_, ?_, h8⟩ <;> (rw [hf.gr, if_neg (fun q => hp q.1)]; assumption)
/-- what is kept of one project -/
def TQ (S : PS) (p : Nat) (A : EL) (q : Nat) : Prop := gi S (p + 5) q = nI (lk A q) ∧ gi S (p + 6) q = nI (al A q) ∧ gi S (p + 7) q = nI (fb A q) ∧ ∀ v, v < eV A → gi S (p + 8) (q * 24 + v) = nI (wo A q v)
def TP (S : PS) (p : Nat) (A : EL) : Prop := ∀ q, q < eP A → TQ S p A q
def PV (Y : XS) (S : PS) (p : Nat) (A : EL) : Prop := EV Y S (p + 1) A ∧ TP S p A
theorem s_countLiked {Y : XS} {n : Nat} {S : PS} {p q : Nat} {A : EL} (hn : 100 ≤ n) (hP : SP Y S p) (hA : EV Y S (p + 1) A) (hq : q < eP A) : fX6_countLiked Y n S p (nI (q * 24)) = some (nI (lk A q)) := by
  obtain ⟨⟨e1, e2, e3, e4, e5, e6⟩, h0, _⟩ := hP
  obtain ⟨a0, a1, a2, a3, a4, a5, a6, a7⟩ := hA
  have b1 := a7.2.1
  have b2 := a7.2.2.1
  unfold fX6_countLiked
  refine kc_run (fun i => (nI (sm (fun v => if 0 < eS A q v then 1 else 0) i), nI i)) (eV A) (fun i hi => ?_) ?_ (by omega) rfl rfl
  · have a5' := a5 q i hq hi
    have hs := a7.2.2.2.2 q i hq hi
    simp (discharger := omega) only [bX6_countLiked_4, kgr_n h0, kgr_n e3, kgi, a2, nle, if_neg, nI_add, kai_n, a5', jX6_countLiked_32_4, nI_1, sm_s, show (0 : Int32) = nI 0 from rfl]
    by_cases hb : 0 < eS A q i
    · rw [if_neg (by omega), if_pos hb]
    · rw [if_pos (by omega), if_neg hb]
      rfl
  · simp (discharger := omega) only [bX6_countLiked_4, kgr_n h0, kgi, a2, nle, if_pos]
    rfl
/-- what byScore holds while a project is tallied -/
def Memo (S : PS) (p : Nat) (A : EL) (q : Nat) : Prop := ∀ s, 1 ≤ s → s ≤ 9 → gi S (p + 9) s = m1 ∨ gi S (p + 9) s = nI (wS A q s)
theorem s_worthByScore {Y : XS} {n : Nat} {S : PS} {p q s : Nat} {A : EL} (hn : 1000 ≤ n) (hp : p + 11 ≤ 235) (hP : SP Y S p) (hA : EV Y S (p + 1) A) (hq : q < eP A) (hl : gi S (p + 5) q = nI (lk A q)) (hm : Memo S p A q) (hs : s ≤ 9) :
    ok (fX6_worthByScore Y n S p (nI q) (nI s)) (fun r => r.1 = nI (if s = 0 then 0 else wS A q s) ∧ Fr (fun b => b = p + 9 ∨ b = p + 10) S r.2 ∧ Memo r.2 p A q) := by
  obtain ⟨⟨e1, e2, e3, e4, e5, e6⟩, h0, h1, h2, h3, h4, h5, h6, l1, l2, l3, l4, l5, l6⟩ := hP
  obtain ⟨a0, a1, a2, a3, a4, a5, a6, a7⟩ := hA
  have b1 := a7.2.1
  have b2 := a7.2.2.1
  have hlk := lk_le a7 q
  unfold fX6_worthByScore
  by_cases hs0 : s = 0
  · subst hs0
    rw [if_pos (by decide)]
    unfold jX6_worthByScore_11
    exact ok_i ⟨rfl, Fr.rf, hm⟩
  · simp (discharger := omega) only [show (1 : Int32) = nI 1 from rfl, negm, show (9 : Int32) = nI 9 from rfl, nlt, nle, if_neg, if_pos, kgr_n h0, kgq]
    cases hr : gr S (p + 1) 3 with
    | none =>
      rw [hr] at a6
      cases hL : eL A with
      | some f => rw [hL] at a6; exact a6.elim
      | none =>
        unfold kq
        refine ok_i ⟨?_, Fr.rf, hm⟩
        unfold wS
        rw [hL]
    | some l =>
      rw [hr] at a6
      cases hL : eL A with
      | none => rw [hL] at a6; exact a6.elim
      | some f =>
        rw [hL] at a6
        obtain ⟨c, code, c1, c2, c3, c4, c5, c6, c7, c8, c9⟩ := a6
        have hw : wS A q s = clN (f (nI s) (nI (eC A q)) (nI (lk A q)) (nI (eV A))) := by
          unfold wS
          rw [hL]
        have h9 : ∀ (T : PS), S.2.2 = T.2.2 → gr T p 5 = some (p + 9) := by
          intro T e
          unfold gr at *
          rw [← e]
          exact h5
        unfold kq
        dsimp only
        have a3' := a3 q hq
        simp (discharger := omega) only [kgr_n h5, kgr_n h1, kgr_n h6, kgr_n h0, kgr_n e1, kgi, kai_n, a3', hl, a2]
        by_cases hmm : gi S (p + 9) s = m1
        · rw [if_pos hmm]
          refine ok_kc (s_worthFor (t := p + 10) hn c5 c6 c7 c8 c9 l6 (by omega)) ?_
          rintro ⟨r1, r2⟩ ⟨k1, k2⟩
          simp only at k1 k2
          subst k1
          rw [kwi_n (by omega) (by omega)]
          unfold jX6_worthByScore_74
          rw [kgr_n (h9 _ (by show S.2.2 = r2.2.2; rw [k2.2.1])), kai_n (by omega) (by omega), Gi_si, if_pos ⟨rfl, rfl⟩]
          refine ok_i ⟨?_, (k2.mono (fun b hb => Or.inr hb)).si (Or.inl rfl), fun z hz1 hz2 => ?_⟩
          · rw [hw]
          · rw [Gi_si]
            by_cases hz : z = s
            · rw [if_pos ⟨rfl, hz⟩, hz, hw]
              exact Or.inr rfl
            · rw [if_neg (fun q => hz q.2), k2.gi (by omega)]
              exact hm z hz1 hz2
        · rw [if_neg hmm]
          unfold jX6_worthByScore_74
          rw [kgr_n h5, kai_n (by omega) (by omega)]
          refine ok_i ⟨?_, Fr.rf, hm⟩
          exact (hm s (by omega) hs).resolve_left hmm
theorem s_tallyOne {Y : XS} {n : Nat} {S : PS} {p q : Nat} {A : EL} (hn : 1000 ≤ n) (hp : p + 11 ≤ 235) (hP : SP Y S p) (hA : EV Y S (p + 1) A) (hq : q < eP A) :
    ok (fX6_tallyOne Y n S p (nI q)) (fun S' => Fr (fun b => p + 5 ≤ b ∧ b < p + 11) S S' ∧ TQ S' p A q ∧ ∀ q', q' ≠ q → gi S' (p + 5) q' = gi S (p + 5) q' ∧ gi S' (p + 6) q' = gi S (p + 6) q' ∧ gi S' (p + 7) q' = gi S (p + 7) q' ∧ ∀ v, v < 24 → gi S' (p + 8) (q' * 24 + v) = gi S (p + 8) (q' * 24 + v)) := by
  have hP0 := hP
  have hA0 := hA
  obtain ⟨⟨e1, e2, e3, e4, e5, e6⟩, h0, h1, h2, h3, h4, h5, h6, l1, l2, l3, l4, l5, l6⟩ := hP
  obtain ⟨a0, a1, a2, a3, a4, a5, a6, a7⟩ := hA
  have b1 := a7.2.1
  have b2 := a7.2.2.1
  unfold fX6_tallyOne
  rw [kgr_n h1, show (24 : Int32) = nI 24 from rfl, nmul, s_countLiked (by omega) hP0 hA0 hq, kc_s, kwi_n (by omega) (by omega), kgr_n (b := p + 9) (by rw [Gr_si]; exact h5), s_fill (by omega) (by omega), kc_s]
  generalize hS1 : sc (si S (p + 5) q (nI (lk A q))) (p + 9) (fun j => if j < ln Y (p + 9) then (-1 : Int32) else gi (si S (p + 5) q (nI (lk A q))) (p + 9) j) = S1
  have f1 : Fr (fun b => p + 5 ≤ b ∧ b < p + 11) S S1 := by
    rw [← hS1]
    exact (Fr.rf.si (by omega)).sc (by omega)
  have hlq : gi S1 (p + 5) q = nI (lk A q) := by
    rw [← hS1]
    simp (discharger := omega) only [Gi_sc, Gi_si, if_neg, if_pos, and_self, if_true]
  have hlo : ∀ j, j ≠ q → gi S1 (p + 5) j = gi S (p + 5) j := by
    intro j hj
    rw [← hS1]
    simp (discharger := omega) only [Gi_sc, Gi_si, if_neg]
  have hoo : ∀ b, b ≠ p + 5 → b ≠ p + 9 → ∀ j, gi S1 b j = gi S b j := by
    intro b hb1 hb2 j
    rw [← hS1]
    simp (discharger := omega) only [Gi_sc, Gi_si, if_neg]
  have hme : Memo S1 p A q := by
    intro s _ hs
    left
    rw [← hS1, Gi_sc, if_pos rfl, if_pos (by omega)]
    rfl
  have key : ok (iter (bX6_tallyOne_32 Y n p (nI q) (nI (q * 24))) n ((0 : Int32), (0 : Int32), (0 : Int32), S1)) (fun r => r.1 = nI (al A q) ∧ r.2.1 = nI (fb A q) ∧ Fr (fun b => b = p + 8 ∨ b = p + 9 ∨ b = p + 10) S1 r.2.2 ∧ (∀ v, v < eV A → gi r.2.2 (p + 8) (q * 24 + v) = nI (wo A q v)) ∧ ∀ j, (j < q * 24 ∨ q * 24 + 24 ≤ j) → gi r.2.2 (p + 8) j = gi S1 (p + 8) j) := by
    refine iter_ok (fun i t => t.1 = nI (sm (wo A q) i) ∧ t.2.1 = nI (bs (fun v => decide (0 < wo A q v)) i) ∧ t.2.2.1 = nI i ∧ Fr (fun b => b = p + 8 ∨ b = p + 9 ∨ b = p + 10) S1 t.2.2.2 ∧ Memo t.2.2.2 p A q ∧ (∀ v, v < i → gi t.2.2.2 (p + 8) (q * 24 + v) = nI (wo A q v)) ∧ ∀ j, (j < q * 24 ∨ q * 24 + 24 ≤ j) → gi t.2.2.2 (p + 8) j = gi S1 (p + 8) j) (eV A) (fun i t hi h => ?_) (fun t h => ?_) (by omega) ⟨rfl, rfl, rfl, Fr.rf, hme, fun v hv => absurd hv (Nat.not_lt_zero _), fun _ _ => rfl⟩
    · obtain ⟨t1, t2, t3, T⟩ := t
      obtain ⟨k1, k2, k3, k4, k5, k6, k7⟩ := h
      simp only at k1 k2 k3 k4 k5 k6 k7
      subst k1 k2 k3
      have fT : Fr (fun b => p + 5 ≤ b ∧ b < p + 11) S T := f1.tr (k4.mono (by omega))
      have hPT : SP Y T p := hP0.fr fT.2.1
      have hAT : EV Y T (p + 1) A := hA0.fr fT (by omega) (by omega)
      have hlT : gi T (p + 5) q = nI (lk A q) := by rw [k4.gi (by omega)]; exact hlq
      have hsc := hAT.2.2.2.2.2.1 q i hq hi
      have hs9 := a7.2.2.2.2 q i hq hi
      have hwo := wo_le A q i
      have g0 := hPT.2.1
      have g3 := hPT.1.2.2.1
      have gV := hAT.2.2.1
      simp (discharger := omega) only [bX6_tallyOne_32, kgr_n g0, kgr_n g3, kgi, gV, nle, if_neg, nI_add, kai_n, hsc]
      refine ok_kc (s_worthByScore hn hp hPT hAT hq hlT k5 hs9) ?_
      rintro ⟨r1, U⟩ ⟨m1, m2, m3⟩
      simp only at m1 m2 m3
      have m1' : r1 = nI (wo A q i) := m1
      subst m1'
      have hPU : SP Y U p := hPT.fr m2.2.1
      simp (discharger := omega) only [kgr_n hPU.2.2.2.2.2.1, kwi_n, show (0 : Int32) = nI 0 from rfl, show (1 : Int32) = nI 1 from rfl, nle, nI_add, jX6_tallyOne_93_32]
      have hI : Fr (fun b => b = p + 8 ∨ b = p + 9 ∨ b = p + 10) S1 (si U (p + 8) (q * 24 + i) (nI (wo A q i))) := (k4.tr (m2.mono (by omega))).si (by omega)
      have hM : Memo (si U (p + 8) (q * 24 + i) (nI (wo A q i))) p A q := by
        intro z z1 z2
        rw [Gi_si, if_neg (by omega)]
        exact m3 z z1 z2
      have hR : ∀ v, v < i + 1 → gi (si U (p + 8) (q * 24 + i) (nI (wo A q i))) (p + 8) (q * 24 + v) = nI (wo A q v) := by
        intro v hv
        rw [Gi_si]
        by_cases e : v = i
        · rw [if_pos ⟨rfl, by omega⟩, e]
        · rw [if_neg (by omega), m2.gi (by omega)]
          exact k6 v (by omega)
      have hO : ∀ j, (j < q * 24 ∨ q * 24 + 24 ≤ j) → gi (si U (p + 8) (q * 24 + i) (nI (wo A q i))) (p + 8) j = gi S1 (p + 8) j := by
        intro j hj
        rw [Gi_si, if_neg (by omega), m2.gi (by omega)]
        exact k7 j hj
      by_cases hb : 0 < wo A q i
      · rw [if_neg (by omega), ok_some, so_l]
        refine ⟨rfl, ?_, rfl, hI, hM, hR, hO⟩
        have hx : nI 1 <<< (nI i &&& 31) = nI (2 ^ i) := by
          have := nshl (s := 1) (p := i) (by omega) (by have := p24 (show i ≤ 24 by omega); omega)
          rw [Nat.one_mul] at this
          exact this
        dsimp only
        rw [bs_s, if_pos (decide_eq_true hb), hx, nor]
      · rw [if_pos (by omega), ok_some, so_l]
        refine ⟨rfl, ?_, rfl, hI, hM, hR, hO⟩
        dsimp only
        rw [bs_s, if_neg (by simp [hb])]
    · obtain ⟨t1, t2, t3, T⟩ := t
      obtain ⟨k1, k2, k3, k4, k5, k6, k7⟩ := h
      simp only at k1 k2 k3 k4 k5 k6 k7
      subst k1 k2 k3
      have fT : Fr (fun b => p + 5 ≤ b ∧ b < p + 11) S T := f1.tr (k4.mono (by omega))
      have hPT : SP Y T p := hP0.fr fT.2.1
      have hAT : EV Y T (p + 1) A := hA0.fr fT (by omega) (by omega)
      have g0 := hPT.2.1
      have gV := hAT.2.2.1
      simp (discharger := omega) only [bX6_tallyOne_32, kgr_n g0, kgi, gV, nle, if_pos, ok_some, so_r]
      exact ⟨rfl, rfl, k4, k6, k7⟩
  refine ok_kc key ?_
  rintro ⟨r1, r2, T⟩ ⟨k1, k2, k4, k6, k7⟩
  simp only at k1 k2 k4 k6 k7
  subst k1 k2
  have fT : Fr (fun b => p + 5 ≤ b ∧ b < p + 11) S T := f1.tr (k4.mono (by omega))
  have hPT : SP Y T p := hP0.fr fT.2.1
  rw [kgr_n hPT.2.2.2.1, kwi_n (by omega) (by omega), kgr_n (b := p + 7) (by rw [Gr_si]; exact hPT.2.2.2.2.1), kwi_n (by omega) (by omega)]
  refine ok_i ⟨(fT.si (by omega)).si (by omega), ⟨?_, ?_, ?_, fun v hv => ?_⟩, fun q' hq' => ⟨?_, ?_, ?_, fun v hv => ?_⟩⟩
  · simp (discharger := omega) only [Gi_si, if_neg]
    rw [k4.gi (by omega)]
    exact hlq
  · simp (discharger := omega) only [Gi_si, if_neg, if_pos, and_self, if_true]
  · simp (discharger := omega) only [Gi_si, if_pos, and_self, if_true]
  · simp (discharger := omega) only [Gi_si, if_neg]
    exact k6 v hv
  · simp (discharger := omega) only [Gi_si, if_neg]
    rw [k4.gi (by omega)]
    exact hlo q' hq'
  · simp (discharger := omega) only [Gi_si, if_neg]
    rw [k4.gi (by omega), hoo _ (by omega) (by omega)]
  · simp (discharger := omega) only [Gi_si, if_neg]
    rw [k4.gi (by omega), hoo _ (by omega) (by omega)]
  · simp (discharger := omega) only [Gi_si, if_neg]
    rw [k7 _ (by omega), hoo _ (by omega) (by omega)]
theorem s_tally {Y : XS} {n : Nat} {S : PS} {p : Nat} {A : EL} (hn : 1000 ≤ n) (hp : p + 11 ≤ 235) (hP : SP Y S p) (hA : EV Y S (p + 1) A) :
    ok (fX6_tally Y n S p) (fun S' => Fr (fun b => p + 5 ≤ b ∧ b < p + 11) S S' ∧ PV Y S' p A) := by
  have b1 := hA.2.2.2.2.2.2.2.2.1
  have b2 := hA.2.2.2.2.2.2.2.2.2.1
  unfold fX6_tally
  refine ok_kc (P := fun S' => Fr (fun b => p + 5 ≤ b ∧ b < p + 11) S S' ∧ PV Y S' p A) (iter_ok (fun i t => t.1 = nI i ∧ Fr (fun b => p + 5 ≤ b ∧ b < p + 11) S t.2 ∧ ∀ q, q < i → TQ t.2 p A q) (eP A) (fun i t hi h => ?_) (fun t h => ?_) (by omega) ⟨rfl, Fr.rf, fun q hq => absurd hq (Nat.not_lt_zero _)⟩) (fun r h => ok_i h)
  · obtain ⟨t1, T⟩ := t
    obtain ⟨k1, k2, k3⟩ := h
    simp only at k1 k2 k3
    subst k1
    have hPT : SP Y T p := hP.fr k2.2.1
    have hAT : EV Y T (p + 1) A := hA.fr k2 (by omega) (by omega)
    simp (discharger := omega) only [bX6_tally_2, kgr_n hPT.2.1, kgi, hAT.2.1, nle, if_neg]
    refine ok_kc (s_tallyOne hn hp hPT hAT hi) ?_
    rintro U ⟨m1, m2, m3⟩
    rw [ok_some, so_l, nI_1]
    refine ⟨rfl, k2.tr m1, fun q hq => ?_⟩
    by_cases e : q = i
    · rw [e]; exact m2
    · obtain ⟨c1, c2, c3, c4⟩ := k3 q (by omega)
      obtain ⟨d1, d2, d3, d4⟩ := m3 q e
      exact ⟨d1.trans c1, d2.trans c2, d3.trans c3, fun v hv => (d4 v (by omega)).trans (c4 v hv)⟩
  · obtain ⟨t1, T⟩ := t
    obtain ⟨k1, k2, k3⟩ := h
    simp only at k1 k2 k3
    subst k1
    have hPT : SP Y T p := hP.fr k2.2.1
    have hAT : EV Y T (p + 1) A := hA.fr k2 (by omega) (by omega)
    simp (discharger := omega) only [bX6_tally_2, kgr_n hPT.2.1, kgi, hAT.2.1, nle, if_pos, ok_some, so_r]
    exact ⟨k2, hAT, k3⟩
