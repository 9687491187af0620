/-! PURSES RAISED; prices behind a step. -/
theorem rs_eq (b w : Nat → Nat) (r T : Nat) : ∀ v, rs b w r T v = T - Gv b w v r
  | 0 => rfl
  | v + 1 => by
    rw [rs_s]
    unfold its
    rw [rs_eq b w r T v]
    unfold Gv
    rw [sm_s]
    omega
theorem its_sum (b w : Nat → Nat) (r T : Nat) : ∀ v, sm (its b w r T) v + rs b w r T v = T
  | 0 => by simp [sm, rs]
  | v + 1 => by
    have h := its_sum b w r T v
    have h2 := (its_le b w r T v).2
    rw [sm_s, rs_s]
    omega
theorem pay_sum (b w : Nat → Nat) (r T : Nat) : ∀ v, sm (pay b w r T) v + sm (its b w r T) v = sm b v
  | 0 => rfl
  | v + 1 => by
    have h := pay_sum b w r T v
    have h2 := (its_le b w r T v).1
    rw [sm_s, sm_s, sm_s]
    unfold pay at *
    omega
theorem keep_ar {d C g p i r s6 s5 : Nat} (ih : d + s5 = s6) (z1 : r = C - g) (z2 : i + r = C) (z3 : p + i = s5) (z4 : C ≤ g) : d + C + p = s6 := by
  have : r = 0 := by rw [z1]; exact Nat.sub_eq_zero_of_le z4
  omega
theorem bst_keep {A : EL} {b0 : Nat → Nat} : ∀ k, csum A (bst A b0 k).1 * 1000 + sm (bst A b0 k).2 (eV A) = sm b0 (eV A)
  | 0 => by
    have z : ∀ n, sm (cst A 0) n = 0 := by
      intro n
      induction n with
      | zero => rfl
      | succ n ih => rw [sm_s, ih]; simp [cst]
    show sm (cst A 0) (eP A) * 1000 + sm b0 (eV A) = sm b0 (eV A)
    rw [z]
    omega
  | k + 1 => by
    have ih := bst_keep (A := A) (b0 := b0) k
    cases h : sq A b0 k with
    | none => rw [bst_0 h]; exact ih
    | some q =>
      obtain ⟨h1, h2, r, h3⟩ := nxt_some h
      have hr : spr A b0 k q = r := by unfold spr; rw [h3]; rfl
      rw [bst_s h, hr]
      dsimp only
      rw [csum_add h1 h2]
      have hs := pr_spec (bst A b0 k).2 (wo A q) (eV A) (eC A q * 1000)
      have e : pr (bst A b0 k).2 (wo A q) (eV A) (eC A q * 1000) = some r := h3
      rw [e] at hs
      have z1 := rs_eq (bst A b0 k).2 (wo A q) r (eC A q * 1000) (eV A)
      have z2 := its_sum (bst A b0 k).2 (wo A q) r (eC A q * 1000) (eV A)
      have z3 := pay_sum (bst A b0 k).2 (wo A q) r (eC A q * 1000) (eV A)
      have z4 : eC A q * 1000 ≤ Gv (bst A b0 k).2 (wo A q) (eV A) r := hs.1
      rw [Nat.add_mul]
      exact keep_ar ih z1 z2 z3 z4
theorem pu0_sum {A : EL} : sm (fun _ => pu A 0) (eV A) ≤ eM A * 1000 := by
  have e : ∀ c n, sm (fun _ => c) n = n * c := by
    intro c n
    induction n with
    | zero => simp [sm]
    | succ n ih => rw [sm_s, ih, Nat.succ_mul]
  rw [e]
  unfold pu
  split
  · have h3 := Nat.mul_div_le (eM A * 1000) (eV A)
    simpa using h3
  · omega
/-- all that equal shares choose with purses raised m times -/
noncomputable def fin (A : EL) (m : Nat) : Nat := (bst A (fun _ => pu A m) 12).1
def ovr (A : EL) (m : Nat) : Prop := eM A < csum A (fin A m)
def alc (A : EL) (m : Nat) : Prop := (sl A (fun _ => pu A m) 12).length = eP A
theorem ovr_0 (A : EL) : ¬ ovr A 0 := by
  intro h
  have h1 := bst_keep (A := A) (b0 := fun _ => pu A 0) 12
  have h2 := pu0_sum (A := A)
  unfold ovr fin at h
  omega
theorem at_end {A : EL} {b0 : Nat → Nat} {k : Nat} (hk : k ≤ 12) (h : sq A b0 k = none) : bst A b0 12 = bst A b0 k ∧ sl A b0 12 = sl A b0 k ∧ sq A b0 12 = none := by
  obtain ⟨h1, h2, h3⟩ := sq_stay h (12 - k)
  rw [show k + (12 - k) = 12 by omega] at h1 h2 h3
  exact ⟨h2, h3, h1⟩
theorem csum_up {A : EL} {b0 : Nat → Nat} {k : Nat} : ∀ d, csum A (bst A b0 k).1 ≤ csum A (bst A b0 (k + d)).1
  | 0 => Nat.le_refl _
  | d + 1 => by
    have ih := csum_up (A := A) (b0 := b0) (k := k) d
    rw [← Nat.add_assoc]
    cases h : sq A b0 (k + d) with
    | none => rw [bst_0 h]; exact ih
    | some q =>
      obtain ⟨h1, h2, _⟩ := nxt_some h
      rw [bst_s h]
      dsimp only
      rw [csum_add h1 h2]
      omega
noncomputable def rzf (A : EL) : Nat → Nat → Nat
  | 0, j => j
  | f + 1, j => if (sl A (fun _ => pu A j) 12).length = eP A then j else if eM A < csum A (fin A (j + 1)) then j else rzf A f (j + 1)
/-- how often purses are raised -/
noncomputable def rz (A : EL) : Nat := rzf A 300 0
theorem rzf_le (A : EL) : ∀ f j, rzf A f j ≤ j + f
  | 0, j => Nat.le_refl _
  | f + 1, j => by
    unfold rzf
    split
    · omega
    · split
      · omega
      · have := rzf_le A f (j + 1); omega
theorem rz_le (A : EL) : rz A ≤ 300 := by have := rzf_le A 300 0; unfold rz; omega
def cq (A : EL) (B q : Nat) : Bool := decide (eC A q * 1000 ≤ pcn 24 (fb A q) * B)
def meb (A : EL) (B : Nat) : Bool := decide (nK (cq A B) (eP A) = eP A ∨ eM A < gvK (cq A B) (eC A) (eP A))
theorem pu_le {A : EL} (h : EW A) {m : Nat} (hm : m ≤ 300) : pu A m ≤ 200000000 := by
  have h0 := h.1
  unfold pu
  split
  · have := Nat.div_le_self (eM A * 1000) (eV A)
    omega
  · omega
theorem nK_s (K : Nat → Bool) (i : Nat) : nK K (i + 1) = nK K i + if K i = true then 1 else 0 := rfl
theorem s_mayEnd {Y : XS} {n : Nat} {S : PS} {p B : Nat} {A : EL} (hn : 100 ≤ n) (hP : SP Y S p) (hA : PV Y S p A) (hB : B ≤ 200000000) : fX9_mayEnd Y n S p (nI B) = some (if meb A B = true then 1 else 0) := by
  obtain ⟨⟨e1, e2, e3, e4, e5, e6⟩, h0, h1, h2, h3, h4, h5, h6, l1, l2, l3, l4, l5, l6⟩ := hP
  obtain ⟨⟨a0, a1, a2, a3, a4, a5, a6, a7⟩, hT⟩ := hA
  have b0 := a7.1
  have b1 := a7.2.1
  have key : iter (bX9_mayEnd_13 Y n S p (nI B) (p + 1)) n ((0 : Int32), (0 : Int32), (0 : Int32)) = some (nI (gvK (cq A B) (eC A) (eP A)), nI (nK (cq A B) (eP A))) := by
    refine iter_run (fun i => (nI (gvK (cq A B) (eC A) i), nI (nK (cq A B) i), nI i)) (eP A) (fun i hi => ?_) ?_ (by omega) rfl
    · have t := (hT i hi).2.2.1
      have a3' := a3 i hi
      have hc := a7.2.2.2.1 i hi
      have hf := fb_lt a7 i
      have hpc : pcn 24 (fb A i) ≤ 24 := by rw [pcn_tb]; exact nK_le
      have hm : pcn 24 (fb A i) * B ≤ 24 * 200000000 := Nat.mul_le_mul hpc hB
      unfold bX9_mayEnd_13 jX9_mayEnd_65_13
      simp (discharger := omega) only [kgi, a1, nle, if_neg, kgr_n h3, kai_n, t, s_bitCount, kc_s, kgr_n e1, a3', show (1000 : Int32) = nI 1000 from rfl, show (0 : Int32) = nI 0 from rfl, nmul, nI_l, lN_mul, cmp_lt, l_lt, nI_add, nI_1, gvK_s, nK_s]
      by_cases hx : pcn 24 (fb A i) * B < eC A i * 1000
      · have hk : cq A B i = false := decide_eq_false (by omega)
        rw [if_pos hx, hk]
        rfl
      · have hk : cq A B i = true := decide_eq_true (by omega)
        rw [if_neg hx, hk]
        rfl
    · simp (discharger := omega) only [bX9_mayEnd_13, kgi, a1, nle, if_pos]
  have hnk := nK_le (K := cq A B) (V := eP A)
  have hgl : gvK (cq A B) (eC A) (eP A) ≤ 119988 := by
    have := sm_le (f := fun v => if cq A B v = true then eC A v else 0) (c := 9999) (n := eP A) (fun i hi => by
      split
      · exact (a7.2.2.2.1 i hi).2
      · omega)
    unfold gvK
    omega
  unfold fX9_mayEnd jX9_mayEnd_88 jX9_mayEnd_93
  rw [kgr_n h0, key, kc_s]
  simp (discharger := omega) only [kgi, a0, a1, nle, neq]
  unfold meb
  by_cases c1 : nK (cq A B) (eP A) = eP A
  · rw [if_pos c1, if_pos (decide_eq_true (Or.inl c1))]
    rfl
  · rw [if_neg c1]
    by_cases c2 : gvK (cq A B) (eC A) (eP A) ≤ eM A
    · rw [if_pos c2, if_neg (by rw [decide_eq_true_eq]; omega)]
      rfl
    · rw [if_neg c2, if_pos (decide_eq_true (Or.inr (by omega)))]
      rfl
theorem bs_nK (f : Nat → Bool) {V : Nat} (hV : V ≤ 24) : pcn 24 (bs f V) = nK f V := by
  rw [pcn_tb]
  have h1 : ∀ n, V ≤ n → nK (fun i => (bs f V).testBit i) n = nK f V := by
    intro n
    induction n with
    | zero =>
      intro h
      have : V = 0 := by omega
      subst this
      rfl
    | succ n ih =>
      intro h
      by_cases e : V = n + 1
      · rw [← e]
        refine sm_ext (fun i hi => ?_)
        simp only [bs_tb, hi, decide_true, Bool.true_and]
      · rw [nK_s, ih (by omega)]
        simp only [bs_tb]
        have : ¬ n < V := by omega
        simp [this]
  exact h1 24 hV
/-- what is chosen could be paid by all its fans -/
theorem cq_of {A : EL} {B k q : Nat} (h : EW A) (hq : sq A (fun _ => B) k = some q) : cq A B q = true := by
  obtain ⟨h1, h2, r, h3⟩ := nxt_some hq
  have hs := pr_spec (bst A (fun _ => B) k).2 (wo A q) (eV A) (eC A q * 1000)
  have e : pr (bst A (fun _ => B) k).2 (wo A q) (eV A) (eC A q * 1000) = some r := h3
  rw [e] at hs
  refine decide_eq_true (Nat.le_trans hs.1 ?_)
  unfold fb
  rw [bs_nK _ h.2.2.1]
  have : Gv (bst A (fun _ => B) k).2 (wo A q) (eV A) r ≤ sm (fun v => B * (if decide (0 < wo A q v) = true then 1 else 0)) (eV A) := by
    refine sm_mono (fun v _ => ?_)
    by_cases hw : 0 < wo A q v
    · have := bst_le (A := A) (b0 := fun _ => B) k v
      simp [hw]
      omega
    · have : wo A q v = 0 := by omega
      simp [this]
  rw [sm_mul] at this
  rw [Nat.mul_comm]
  exact this
theorem bst_src {A : EL} {b0 : Nat → Nat} {q : Nat} : ∀ {k : Nat}, (bst A b0 k).1.testBit q = true → ∃ i, i < k ∧ sq A b0 i = some q
  | 0, h => by simp [bst] at h
  | k + 1, h => by
    cases hs : sq A b0 k with
    | none =>
      rw [bst_0 hs] at h
      obtain ⟨i, i1, i2⟩ := bst_src h
      exact ⟨i, by omega, i2⟩
    | some q' =>
      rw [bst_s hs] at h
      dsimp only at h
      rw [tb_or] at h
      by_cases e : q' = q
      · exact ⟨k, by omega, by rw [hs, e]⟩
      · simp [e] at h
        obtain ⟨i, i1, i2⟩ := bst_src h
        exact ⟨i, by omega, i2⟩
theorem may_not {A : EL} {m : Nat} (h : EW A) (hm : meb A (pu A m) = false) : ¬ ovr A m ∧ ¬ alc A m := by
  have h1 := of_decide_eq_false hm
  have key : ∀ q, q < eP A → (fin A m).testBit q = true → cq A (pu A m) q = true := by
    intro q _ hq
    obtain ⟨i, _, hi⟩ := bst_src hq
    exact cq_of h hi
  have hc : csum A (fin A m) ≤ gvK (cq A (pu A m)) (eC A) (eP A) := by
    refine sm_mono (fun q hq => ?_)
    unfold cst
    by_cases z : (fin A m).testBit q = true
    · rw [if_pos z, if_pos (key q hq z)]; exact Nat.le_refl _
    · rw [if_neg z]; exact Nat.zero_le _
  have hl : (sl A (fun _ => pu A m) 12).length ≤ nK (cq A (pu A m)) (eP A) := by
    rw [← (sl_gl (A := A) (b0 := fun _ => pu A m) 12).2, lb_sl]
    exact nK_mono (fun q hq z => key q hq z)
  have hn := nK_le (K := cq A (pu A m)) (V := eP A)
  refine ⟨fun z => h1 (Or.inr ?_), fun z => h1 (Or.inl ?_)⟩
  · unfold ovr at z; omega
  · unfold alc at z; omega
