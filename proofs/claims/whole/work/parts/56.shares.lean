/-! SHARES, CLASS: priceFrom, firstBound, purseOf. -/
theorem nK_full {K : Nat → Bool} {V : Nat} (h : V ≤ nK K V) : ∀ v, v < V → K v = true := by
  intro v hv
  by_cases hk : K v = true
  · exact hk
  · have := nK_lt (K := K) (K' := fun _ => true) (V := V) (v := v) (fun _ _ _ => rfl) hv (by simpa using hk) rfl
    have := nK_le (K := fun _ => true) (V := V)
    omega
theorem oK_zero {K : Nat → Bool} {w : Nat → Nat} {V : Nat} (h : ∀ v, v < V → K v = true) : oK K w V = 0 := by
  have : oK K w V = sm (fun _ => 0) V := sm_ext (fun i hi => by rw [h i hi]; rfl)
  rw [this]
  have z : ∀ n, sm (fun _ => 0) n = 0 := by
    intro n
    induction n with
    | zero => rfl
    | succ n ih => rw [sm_s, ih]
  exact z V
theorem gvK_s (K : Nat → Bool) (b : Nat → Nat) (i : Nat) : gvK K b (i + 1) = gvK K b i + if K i = true then b i else 0 := rfl
theorem oK_s (K : Nat → Bool) (w : Nat → Nat) (i : Nat) : oK K w (i + 1) = oK K w i + if K i = true then 0 else w i := rfl
theorem sm_upto {f : Nat → Nat} : ∀ {n m : Nat}, n ≤ m → sm f n ≤ sm f m
  | n, 0, h => by rw [Nat.le_zero.mp h]; exact Nat.le_refl _
  | n, m + 1, h => by
    by_cases e : n = m + 1
    · rw [e]; exact Nat.le_refl _
    · have := sm_upto (f := f) (n := n) (m := m) (by omega)
      rw [sm_s]; omega
theorem sm_at {f : Nat → Nat} {n i : Nat} (h : i < n) : f i ≤ sm f n := by
  have := sm_upto (f := f) (n := i + 1) (m := n) h
  rw [sm_s] at this
  omega
theorem s_priceIn {Y : XS} {n : Nat} {S : PS} {a w4 row V r : Nat} {b w : Nat → Nat} {T tr : Int32} (hn : 100 ≤ n) (hV : V ≤ 24) (hrow : row + V ≤ ln Y w4) (hw4 : ln Y w4 = 288) (ha : ln Y a = 24) (hb : ∀ v, v < V → gi S a v = nI (b v)) (hw : ∀ v, v < V → gi S w4 (row + v) = nI (w v)) (hwl : ∀ v, v < V → w v ≤ 9999) (hB : sm b V ≤ 200000000) (hr : r ≤ 20000000) :
    iter (bX9_priceFrom_58 Y n S a w4 (nI V) (nI row) T (nI r) tr) n ((0 : Int32), (0 : Int32), (0 : Int32)) = some (nI (gvK (clK b w r) b V), nI (oK (clK b w r) w V)) := by
  refine iter_run (fun i => (nI (gvK (clK b w r) b i), nI (oK (clK b w r) w i), nI i)) V (fun i hi => ?_) ?_ (by omega) rfl
  · have h1 := hb i hi
    have h2 := hw i hi
    have h3 := hwl i hi
    have h4 : b i ≤ 200000000 := Nat.le_trans (sm_at hi) hB
    have h5 : r * w i ≤ 20000000 * 9999 := Nat.mul_le_mul hr h3
    simp (discharger := omega) only [bX9_priceFrom_58, jX9_priceFrom_115_58, nle, if_neg, nI_add, kai_n, h1, h2, show (0 : Int32) = nI 0 from rfl, cmp_lt]
    by_cases w0 : w i = 0
    · have hK : clK b w r i = false := decide_eq_false (by omega)
      rw [if_pos (by omega), nI_1, gvK_s, oK_s, hK, w0]
      rfl
    · rw [if_neg (by omega)]
      simp (discharger := omega) only [nI_l, lN_mul, cmp_lt, l_lt]
      by_cases hc : r * w i < b i
      · have hK : clK b w r i = false := decide_eq_false (by omega)
        rw [if_pos hc, nI_1, gvK_s, oK_s, hK]
        rfl
      · have hK : clK b w r i = true := decide_eq_true (by omega)
        rw [if_neg hc, nI_1, gvK_s, oK_s, hK]
        rfl
  · simp (discharger := omega) only [bX9_priceFrom_58, nle, if_pos]
theorem s_priceFrom {Y : XS} {n : Nat} {S : PS} {p a q f : Nat} {b : Nat → Nat} {A : EL} (hn : 100 ≤ n) (hP : SP Y S p) (hA : PV Y S p A) (ha : ln Y a = 24) (hb : ∀ v, v < eV A → gi S a v = nI (b v)) (hB : sm b (eV A) ≤ 200000000) (hq : q < eP A) (hf : f ≤ 20000000) (hlow : ∀ x, x < f → Gv b (wo A q) (eV A) x < eC A q * 1000) :
    fX9_priceFrom Y n S p a (nI q) (nI f) = some (oI (pr b (wo A q) (eV A) (eC A q * 1000))) := by
  obtain ⟨⟨e1, e2, e3, e4, e5, e6⟩, h0, h1, h2, h3, h4, h5, h6, l1, l2, l3, l4, l5, l6⟩ := hP
  obtain ⟨⟨a0, a1, a2, a3, a4, a5, a6, a7⟩, hT⟩ := hA
  have b1 := a7.2.1
  have b2 := a7.2.2.1
  have hc := a7.2.2.2.1 q hq
  have a3' := a3 q hq
  have tw := (hT q hq).2.2.2
  unfold fX9_priceFrom
  simp (discharger := omega) only [kgr_n h4, kgr_n h0, kgr_n e1, kgi, a2, kai_n, a3', show (24 : Int32) = nI 24 from rfl, show (1000 : Int32) = nI 1000 from rfl, nmul]
  generalize hTT : eC A q * 1000 = T at *
  have hTb : T ≤ 9999000 := by omega
  have key : ok (iter (bX9_priceFrom_42 Y n S a (p + 8) (nI (eV A)) (nI (q * 24)) (nI T)) n (nI f, (0 : Int32))) (fun r => r = .inr (oI (pr b (wo A q) (eV A) T))) := by
    have step : ∀ i (s : Int32 × Int32), i ≤ 24 → (s.2 = nI i ∧ ∃ r, s.1 = nI r ∧ r ≤ 20000000 ∧ (∀ x, x < r → Gv b (wo A q) (eV A) x < T) ∧ (T ≤ Gv b (wo A q) (eV A) r ∨ i ≤ nK (clK b (wo A q) r) (eV A))) → ok (bX9_priceFrom_42 Y n S a (p + 8) (nI (eV A)) (nI (q * 24)) (nI T) s) (so (fun s' => i < 24 ∧ s'.2 = nI (i + 1) ∧ ∃ r, s'.1 = nI r ∧ r ≤ 20000000 ∧ (∀ x, x < r → Gv b (wo A q) (eV A) x < T) ∧ (T ≤ Gv b (wo A q) (eV A) r ∨ i + 1 ≤ nK (clK b (wo A q) r) (eV A))) (fun r => r = .inr (oI (pr b (wo A q) (eV A) T)))) := by
      rintro i ⟨s1, s2⟩ hi ⟨k1, r, k2, k3, k4, k5⟩
      simp only at k1 k2
      subst k1 k2
      have e := Gv_eq (b := b) (w := wo A q) (V := eV A) (K := clK b (wo A q) r) (x := r) (fun v _ hk => (of_decide_eq_true hk).2) (fun v _ hk => by
        have := of_decide_eq_false hk
        by_cases hw : wo A q v = 0
        · simp [hw]
        · by_cases hb : b v ≤ r * wo A q v
          · exact absurd ⟨by omega, hb⟩ this
          · omega)
      have hg : gvK (clK b (wo A q) r) b (eV A) ≤ 200000000 := Nat.le_trans gvK_le hB
      have hol : oK (clK b (wo A q) r) (wo A q) (eV A) ≤ 239976 := Nat.le_trans oK_le (al_le a7 q)
      have hor : oK (clK b (wo A q) r) (wo A q) (eV A) * r ≤ 239976 * 20000000 := Nat.mul_le_mul hol k3
      have hcomm := Nat.mul_comm r (oK (clK b (wo A q) r) (wo A q) (eV A))
      unfold bX9_priceFrom_42
      rw [if_neg (by rw [show (24 : Int32) = nI 24 from rfl, nlt (by omega) (by omega)]; omega), s_priceIn hn b2 (by omega) l4 ha hb tw (fun v _ => wo_le A q v) hB k3, kc_s]
      simp (discharger := omega) only [nI_l, lN_mul, lN_add, cmp_lt, l_lt, show (0 : Int32) = nI 0 from rfl, nlt]
      by_cases hG : T ≤ Gv b (wo A q) (eV A) r
      · rw [if_neg (by omega), ok_some, so_r]
        have hp : pr b (wo A q) (eV A) T = some r := pr_eq ⟨hG, k4⟩
        rw [hp]
        rfl
      · have hG' : Gv b (wo A q) (eV A) r < T := by omega
        rw [if_pos (by omega)]
        by_cases ho : 0 < oK (clK b (wo A q) r) (wo A q) (eV A)
        · rw [if_pos ho]
          have hi24 : i < 24 := by
            by_cases z : i < 24
            · exact z
            · have z1 := k5.resolve_left hG
              have z2 := nK_le (K := clK b (wo A q) r) (V := eV A)
              rw [oK_zero (nK_full (by omega))] at ho
              omega
          obtain ⟨u1, u2, u3⟩ := try_up hG' ho
          unfold kidiv
          rw [if_neg (nI_ne0 ho (by omega)), nsub (by omega), nI_add, show (1 : Int32) = nI 1 from rfl, nsub (by omega), ndiv (by omega) (by omega), nI_add, ok_some, so_l]
          refine ⟨hi24, rfl, _, rfl, ?_, u2, ?_⟩
          · have := Nat.div_le_self (T - gvK (clK b (wo A q) r) b (eV A) + oK (clK b (wo A q) r) (wo A q) (eV A) - 1) (oK (clK b (wo A q) r) (wo A q) (eV A))
            omega
          · by_cases z : T ≤ Gv b (wo A q) (eV A) ((T - gvK (clK b (wo A q) r) b (eV A) + oK (clK b (wo A q) r) (wo A q) (eV A) - 1) / oK (clK b (wo A q) r) (wo A q) (eV A))
            · exact Or.inl z
            · have z1 := u3 (by omega)
              have z2 := k5.resolve_left hG
              exact Or.inr (by omega)
        · rw [if_neg ho, ok_some, so_r]
          have hp : pr b (wo A q) (eV A) T = none := pr_eq (none_up hG' (by omega))
          rw [hp]
          rfl
    refine iter_ok (fun i s => s.2 = nI i ∧ ∃ r, s.1 = nI r ∧ r ≤ 20000000 ∧ (∀ x, x < r → Gv b (wo A q) (eV A) x < T) ∧ (T ≤ Gv b (wo A q) (eV A) r ∨ i ≤ nK (clK b (wo A q) r) (eV A))) 24 (fun i s hi h => ?_) (fun s h => ?_) (by omega) ⟨rfl, f, rfl, hf, hlow, Or.inr (Nat.zero_le _)⟩
    · refine ok_mono (step i s (by omega) h) ?_
      intro o ho
      cases o with
      | inl s' => exact ho.2
      | inr r => exact ho
    · refine ok_mono (step 24 s (by omega) h) ?_
      intro o ho
      cases o with
      | inl s' => exact absurd ho.1 (by omega)
      | inr r => exact ho
  obtain ⟨r, hr1, hr2⟩ := key
  rw [hr1, hr2]
  rfl
noncomputable def prc (A : EL) (b : Nat → Nat) (q : Nat) : Option Nat := pr b (wo A q) (eV A) (eC A q * 1000)
theorem prc_le {A : EL} (h : EW A) {b : Nat → Nat} {q r : Nat} (hq : q < eP A) (hr : prc A b q = some r) : 1 ≤ r ∧ r ≤ 9999000 := by
  have := h.2.2.2.1 q hq
  have h1 := pr_le hr
  have h2 := pr_pos (by omega) hr
  omega
/-- the price were the purses without end -/
def fbd (A : EL) (q : Nat) : Option Nat := if 0 < al A q then some ((eC A q * 1000 + al A q - 1) / al A q) else none
theorem fbd_le {A : EL} (h : EW A) {q r : Nat} (hq : q < eP A) (hr : fbd A q = some r) : r ≤ 9999000 := by
  unfold fbd at hr
  have := h.2.2.2.1 q hq
  split at hr
  · next ha =>
    cases hr
    have h1 : (eC A q * 1000 + al A q - 1) / al A q < eC A q * 1000 + 1 := by
      rw [Nat.div_lt_iff_lt_mul ha, Nat.add_mul]
      have : eC A q * 1000 ≤ eC A q * 1000 * al A q := Nat.le_mul_of_pos_right _ ha
      have h2 : al A q ≤ eC A q * 1000 * al A q := Nat.le_mul_of_pos_left _ (by omega)
      omega
    omega
  · cases hr
theorem fbd_low {A : EL} {b : Nat → Nat} {q r : Nat} (hr : fbd A q = some r) : ∀ x, x < r → Gv b (wo A q) (eV A) x < eC A q * 1000 := by
  unfold fbd at hr
  split at hr
  · next ha =>
    cases hr
    intro x hx
    have l := Gv_le (b := b) (w := wo A q) (V := eV A) (fun _ => false) x
    have h1 : gvK (fun _ => false) b (eV A) = 0 := by
      unfold gvK
      have : ∀ n, sm (fun v => if (fun _ => false) v = true then b v else 0) n = 0 := by
        intro n
        induction n with
        | zero => rfl
        | succ n ih => rw [sm_s, ih]; rfl
      exact this _
    have h2 : oK (fun _ => false) (wo A q) (eV A) = al A q := sm_ext (fun i _ => rfl)
    rw [h1, h2] at l
    have hx2 := (Nat.le_div_iff_mul_le ha).mp (show x + 1 ≤ _ from hx)
    rw [Nat.add_mul] at hx2
    omega
  · cases hr
theorem fbd_none {A : EL} {b : Nat → Nat} {q : Nat} (h : EW A) (hq : q < eP A) (hr : fbd A q = none) : prc A b q = none := by
  unfold fbd at hr
  have hc := h.2.2.2.1 q hq
  split at hr
  · cases hr
  · next ha =>
    apply pr_eq
    intro x
    have l := Gv_le (b := b) (w := wo A q) (V := eV A) (fun _ => false) x
    have h1 : gvK (fun _ => false) b (eV A) = 0 := by
      unfold gvK
      have : ∀ n, sm (fun v => if (fun _ => false) v = true then b v else 0) n = 0 := by
        intro n
        induction n with
        | zero => rfl
        | succ n ih => rw [sm_s, ih]; rfl
      exact this _
    have h2 : oK (fun _ => false) (wo A q) (eV A) = al A q := sm_ext (fun i _ => rfl)
    have h3 : al A q = 0 := by omega
    rw [h1, h2, h3] at l
    omega
theorem s_firstBound {Y : XS} {n : Nat} {S : PS} {p q : Nat} {A : EL} (hP : SP Y S p) (hA : PV Y S p A) (hq : q < eP A) : fX9_firstBound Y n S p (nI q) = some (oI (fbd A q)) := by
  obtain ⟨⟨e1, e2, e3, e4, e5, e6⟩, h0, h1, h2, h3, h4, h5, h6, l1, l2, l3, l4, l5, l6⟩ := hP
  obtain ⟨⟨a0, a1, a2, a3, a4, a5, a6, a7⟩, hT⟩ := hA
  have b1 := a7.2.1
  have hal := al_le a7 q
  have hc := a7.2.2.2.1 q hq
  have t := (hT q hq).2.1
  have a3' := a3 q hq
  unfold fX9_firstBound jX9_firstBound_34 kidiv
  simp (discharger := omega) only [kgr_n h2, kgr_n h0, kgr_n e1, kai_n, t, a3', show (0 : Int32) = nI 0 from rfl, show (1000 : Int32) = nI 1000 from rfl, nmul, nI_add, nle, neq]
  unfold fbd
  by_cases ha : 0 < al A q
  · rw [if_neg (by omega), if_neg (by omega), if_pos ha, show (1 : Int32) = nI 1 from rfl, nsub (by omega), ndiv (by omega) (by omega)]
    rfl
  · rw [if_pos (by omega), if_neg ha]
    rfl
/-- the purse of each voter, raised -/
def pu (A : EL) (more : Nat) : Nat := if 0 < eV A then eM A * 1000 / eV A + more * 1000 else 0
theorem s_purseOf {Y : XS} {n : Nat} {S : PS} {p m : Nat} {A : EL} (hP : SP Y S p) (hA : EV Y S (p + 1) A) : fX9_purseOf Y n S p (nI m) = some (nI (pu A m)) := by
  have h0 := hP.2.1
  obtain ⟨a0, a1, a2, a3, a4, a5, a6, a7⟩ := hA
  have b0 := a7.1
  have b2 := a7.2.2.1
  unfold fX9_purseOf jX9_purseOf_35 kidiv
  simp (discharger := omega) only [kgr_n h0, kgi, a0, a2, show (0 : Int32) = nI 0 from rfl, show (1000 : Int32) = nI 1000 from rfl, nmul, nle, neq, ndiv, nI_add]
  unfold pu
  by_cases hv : 0 < eV A
  · rw [if_neg (by omega), if_neg (by omega), if_pos hv]
  · rw [if_pos (by omega), if_neg hv]
theorem pu_sum {A : EL} (h : EW A) {m : Nat} (hm : m ≤ 300) : sm (fun _ => pu A m) (eV A) ≤ 200000000 := by
  have h1 := h.1
  have h2 := h.2.2.1
  have e : ∀ c n, sm (fun _ => c) n = n * c := by
    intro c n
    induction n with
    | zero => simp [sm]
    | succ n ih => rw [sm_s, ih, Nat.succ_mul]
  rw [e]
  unfold pu
  split
  · next hv =>
    rw [Nat.mul_add]
    have h3 := Nat.mul_div_le (eM A * 1000) (eV A)
    have h4 : eV A * (m * 1000) ≤ 24 * (300 * 1000) := Nat.mul_le_mul h2 (Nat.mul_le_mul_right _ hm)
    omega
  · omega
