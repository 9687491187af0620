/-! PRICES: the least r at which all together give enough. -/
theorem lI {a : Nat} (h : a < 9223372036854775808) : (lN a).toInt = (a : Int) := Int64.toInt_ofNat_of_lt h
theorem l_lt {a b : Nat} (ha : a < 9223372036854775808) (hb : b < 9223372036854775808) : (lN a < lN b) = (a < b) := by
  apply propext
  rw [Int64.lt_iff_toInt_lt, lI ha, lI hb]
  omega
theorem l_le {a b : Nat} (ha : a < 9223372036854775808) (hb : b < 9223372036854775808) : (lN a ≤ lN b) = (a ≤ b) := by
  apply propext
  rw [Int64.le_iff_toInt_le, lI ha, lI hb]
  omega
theorem l_eq {a b : Nat} (ha : a < 9223372036854775808) (hb : b < 9223372036854775808) : (lN a = lN b) = (a = b) := by
  apply propext
  constructor
  · intro h
    have h1 := lI ha
    rw [h, lI hb] at h1
    omega
  · intro h
    rw [h]
theorem ldiv {a b : Nat} (ha : a < 9223372036854775808) (hb : b < 9223372036854775808) : lN a / lN b = lN (a / b) := (Int64.ofNat_div ha hb).symm
theorem cmp_lt (x y : Int64) : (lg_cmp x y < nI 0) = (x < y) := propext (lg_cmp_lt x y)
theorem cmp_le (x y : Int64) : (lg_cmp x y ≤ nI 0) = (x ≤ y) := propext (lg_cmp_le x y)
theorem cmp_gt (x y : Int64) : (nI 0 < lg_cmp x y) = (y < x) := propext (lg_cmp_gt x y)
theorem cmp_ge (x y : Int64) : (nI 0 ≤ lg_cmp x y) = (y ≤ x) := propext (lg_cmp_ge x y)
theorem cmp_eq (x y : Int64) : (lg_cmp x y = nI 0) = (x = y) := propext (lg_cmp_eq x y)
def Gv (b w : Nat → Nat) (V r : Nat) : Nat := sm (fun v => min (b v) (r * w v)) V
theorem Gv_mono {b w : Nat → Nat} {V r r' : Nat} (h : r ≤ r') : Gv b w V r ≤ Gv b w V r' := sm_mono (fun i _ => by
  have := Nat.mul_le_mul_right (w i) h
  omega)
theorem sm_add (f g : Nat → Nat) : ∀ n, sm (fun i => f i + g i) n = sm f n + sm g n
  | 0 => rfl
  | n + 1 => by
    rw [sm_s, sm_s, sm_s, sm_add f g n]
    omega
theorem sm_mul (c : Nat) (f : Nat → Nat) : ∀ n, sm (fun i => c * f i) n = c * sm f n
  | 0 => rfl
  | n + 1 => by rw [sm_s, sm_s, sm_mul c f n, Nat.mul_add]
def gvK (K : Nat → Bool) (b : Nat → Nat) (V : Nat) : Nat := sm (fun v => if K v = true then b v else 0) V
def oK (K : Nat → Bool) (w : Nat → Nat) (V : Nat) : Nat := sm (fun v => if K v = true then 0 else w v) V
theorem Gv_le {b w : Nat → Nat} {V : Nat} (K : Nat → Bool) (x : Nat) : Gv b w V x ≤ gvK K b V + x * oK K w V := by
  unfold gvK oK
  rw [← sm_mul, ← sm_add]
  refine sm_mono (fun i _ => ?_)
  split
  · simp; omega
  · omega
theorem Gv_eq {b w : Nat → Nat} {V : Nat} {K : Nat → Bool} {x : Nat} (h1 : ∀ v, v < V → K v = true → b v ≤ x * w v) (h2 : ∀ v, v < V → K v = false → x * w v ≤ b v) : Gv b w V x = gvK K b V + x * oK K w V := by
  unfold gvK oK
  rw [← sm_mul, ← sm_add]
  refine sm_ext (fun i hi => ?_)
  by_cases h : K i = true
  · have := h1 i hi h
    simp [h]; omega
  · have := h2 i hi (by simpa using h)
    simp [h]; omega
def IsPr (b w : Nat → Nat) (V T : Nat) : Option Nat → Prop
  | none => ∀ r, Gv b w V r < T
  | some r => T ≤ Gv b w V r ∧ ∀ r', r' < r → Gv b w V r' < T
theorem IsPr_uniq {b w : Nat → Nat} {V T : Nat} {x y : Option Nat} (hx : IsPr b w V T x) (hy : IsPr b w V T y) : x = y := by
  cases x with
  | none => cases y with
    | none => rfl
    | some r => have := hx r; have := hy.1; omega
  | some r => cases y with
    | none => have := hy r; have := hx.1; omega
    | some s =>
      have h1 : ¬ r < s := fun h => by have := hy.2 r h; have := hx.1; omega
      have h2 : ¬ s < r := fun h => by have := hx.2 s h; have := hy.1; omega
      congr 1
      omega
theorem ex_least {P : Nat → Prop} : ∀ n, P n → ∃ m, P m ∧ ∀ k, k < m → ¬ P k := by
  intro n
  induction n using Nat.strongRecOn with
  | ind n ih =>
    intro h
    by_cases hk : ∃ k, k < n ∧ P k
    · obtain ⟨k, k1, k2⟩ := hk
      exact ih k k1 k2
    · exact ⟨n, h, fun k hk1 hk2 => hk ⟨k, hk1, hk2⟩⟩
theorem ex_pr (b w : Nat → Nat) (V T : Nat) : ∃ x, IsPr b w V T x := by
  by_cases h : ∃ r, T ≤ Gv b w V r
  · obtain ⟨r, hr⟩ := h
    obtain ⟨m, m1, m2⟩ := ex_least (P := fun r => T ≤ Gv b w V r) r hr
    exact ⟨some m, m1, fun k hk => by have := m2 k hk; omega⟩
  · refine ⟨none, fun r => ?_⟩
    by_cases q : T ≤ Gv b w V r
    · exact absurd ⟨r, q⟩ h
    · omega
noncomputable def pr (b w : Nat → Nat) (V T : Nat) : Option Nat := Classical.choose (ex_pr b w V T)
theorem pr_spec (b w : Nat → Nat) (V T : Nat) : IsPr b w V T (pr b w V T) := Classical.choose_spec (ex_pr b w V T)
theorem pr_eq {b w : Nat → Nat} {V T : Nat} {x : Option Nat} (h : IsPr b w V T x) : pr b w V T = x := IsPr_uniq (pr_spec b w V T) h
theorem pr_ext {b b' w w' : Nat → Nat} {V T : Nat} (hb : ∀ v, v < V → b v = b' v) (hw : ∀ v, v < V → w v = w' v) : pr b w V T = pr b' w' V T := by
  have e : ∀ r, Gv b w V r = Gv b' w' V r := fun r => sm_ext (fun i hi => by rw [hb i hi, hw i hi])
  apply pr_eq
  have h := pr_spec b' w' V T
  generalize pr b' w' V T = x at h
  cases x with
  | none => intro r; rw [e]; exact h r
  | some r => exact ⟨by rw [e]; exact h.1, fun r' hr => by rw [e]; exact h.2 r' hr⟩
theorem Gv_zero {b w : Nat → Nat} : ∀ {V : Nat}, Gv b w V 0 = 0
  | 0 => rfl
  | V + 1 => by
    have := Gv_zero (b := b) (w := w) (V := V)
    unfold Gv at *
    rw [sm_s, this]
    simp
theorem pr_pos {b w : Nat → Nat} {V T r : Nat} (hT : 1 ≤ T) (h : pr b w V T = some r) : 1 ≤ r := by
  have hs := pr_spec b w V T
  rw [h] at hs
  cases r with
  | zero => have := hs.1; rw [Gv_zero] at this; omega
  | succ r => omega
theorem pr_le {b w : Nat → Nat} {V T r : Nat} (h : pr b w V T = some r) : r ≤ T := by
  have hs := pr_spec b w V T
  rw [h] at hs
  by_cases hr : r ≤ T
  · exact hr
  · exfalso
    have h2 := hs.2 T (by omega)
    -- all who count give what they have at T
    have h3 : ∀ v, v < V → min (b v) (r * w v) ≤ min (b v) (T * w v) := by
      intro v hv
      by_cases hw : w v = 0
      · simp [hw]
      · have h4 : T ≤ T * w v := Nat.le_mul_of_pos_right _ (by omega)
        have h5 : min (b v) (T * w v) ≤ Gv b w V T := by
          have : ∀ n, v < n → min (b v) (T * w v) ≤ sm (fun v => min (b v) (T * w v)) n := by
            intro n
            induction n with
            | zero => intro q; omega
            | succ n ih =>
              intro q
              rw [sm_s]
              by_cases e : v = n
              · subst e; omega
              · have := ih (by omega); omega
          exact this V hv
        have h6 : b v < T * w v := by omega
        omega
    have h7 : Gv b w V r ≤ Gv b w V T := sm_mono h3
    have := hs.1
    omega
def oI : Option Nat → Int32
  | none => m1
  | some r => nI r
theorem oI_s (r : Nat) : oI (some r) = nI r := rfl
theorem oI_0 : oI none = m1 := rfl
theorem oI_n {x : Option Nat} : (∀ r, x = some r → r < 2147483648) → (oI x = m1) = (x = none) := by
  intro h
  cases x with
  | none => simp [oI]
  | some r =>
    show (nI r = m1) = _
    rw [nm1 (h r rfl)]
    simp
theorem oI_inj {x y : Option Nat} (hx : ∀ r, x = some r → r < 2147483648) (hy : ∀ r, y = some r → r < 2147483648) (h : oI x = oI y) : x = y := by
  cases x with
  | none => cases y with
    | none => rfl
    | some s => have : m1 = nI s := h; rw [m1n (hy s rfl)] at this; exact this.elim
  | some r => cases y with
    | none => have : nI r = m1 := h; rw [nm1 (hx r rfl)] at this; exact this.elim
    | some s => have : nI r = nI s := h; rw [neq (hx r rfl) (hy s rfl)] at this; rw [this]
/-- in how many voters the purse is less than what r asks, and they count -/
def clK (b w : Nat → Nat) (r v : Nat) : Bool := decide (0 < w v ∧ b v ≤ r * w v)
def nK (K : Nat → Bool) (V : Nat) : Nat := sm (fun v => if K v = true then 1 else 0) V
theorem oK_le {K : Nat → Bool} {w : Nat → Nat} {V : Nat} : oK K w V ≤ sm w V := sm_mono (fun i _ => by split <;> omega)
theorem gvK_le {K : Nat → Bool} {b : Nat → Nat} {V : Nat} : gvK K b V ≤ sm b V := sm_mono (fun i _ => by split <;> omega)
theorem nK_mono {K K' : Nat → Bool} {V : Nat} (h : ∀ v, v < V → K v = true → K' v = true) : nK K V ≤ nK K' V := sm_mono (fun i hi => by
  by_cases h1 : K i = true
  · rw [if_pos h1, if_pos (h i hi h1)]; exact Nat.le_refl _
  · rw [if_neg h1]; exact Nat.zero_le _)
theorem nK_lt {K K' : Nat → Bool} {V v : Nat} (h : ∀ v, v < V → K v = true → K' v = true) (hv : v < V) (h1 : K v = false) (h2 : K' v = true) : nK K V < nK K' V := by
  unfold nK
  have : ∀ n, n ≤ V → v < n → sm (fun v => if K v = true then 1 else 0) n < sm (fun v => if K' v = true then 1 else 0) n := by
    intro n
    induction n with
    | zero => intro _ q; omega
    | succ n ih =>
      intro hn q
      rw [sm_s, sm_s]
      by_cases e : v = n
      · subst e
        have m := sm_mono (n := v) (f := fun v => if K v = true then 1 else 0) (g := fun v => if K' v = true then 1 else 0) (fun i hi => by
          by_cases z : K i = true
          · rw [if_pos z, if_pos (h i (by omega) z)]; exact Nat.le_refl _
          · rw [if_neg z]; exact Nat.zero_le _)
        rw [h1, h2]
        simp
        omega
      · have i1 := ih (by omega) (by omega)
        by_cases z : K n = true
        · rw [if_pos z, if_pos (h n (by omega) z)]; omega
        · rw [if_neg z]; omega
  exact this V (Nat.le_refl _) hv
theorem nK_le {K : Nat → Bool} {V : Nat} : nK K V ≤ V := by
  have := sm_le (f := fun v => if K v = true then 1 else 0) (c := 1) (n := V) (fun i _ => by split <;> omega)
  unfold nK
  omega
/-- one try of a price that is too low: the next is no more than the price, more than this one, and more have to give all -/
theorem try_up {b w : Nat → Nat} {V T r : Nat} (h : Gv b w V r < T) (ho : 0 < oK (clK b w r) w V) : r < (T - gvK (clK b w r) b V + oK (clK b w r) w V - 1) / oK (clK b w r) w V ∧ (∀ x, x < (T - gvK (clK b w r) b V + oK (clK b w r) w V - 1) / oK (clK b w r) w V → Gv b w V x < T) ∧ (Gv b w V ((T - gvK (clK b w r) b V + oK (clK b w r) w V - 1) / oK (clK b w r) w V) < T → nK (clK b w r) V < nK (clK b w ((T - gvK (clK b w r) b V + oK (clK b w r) w V - 1) / oK (clK b w r) w V)) V) := by
  have e := Gv_eq (b := b) (w := w) (V := V) (K := clK b w r) (x := r) (fun v _ hk => (of_decide_eq_true hk).2) (fun v _ hk => by
    have := of_decide_eq_false hk
    by_cases hw : w v = 0
    · simp [hw]
    · by_cases hb : b v ≤ r * w v
      · exact absurd ⟨by omega, hb⟩ this
      · omega)
  generalize hg : gvK (clK b w r) b V = g at *
  generalize ho' : oK (clK b w r) w V = o at *
  have hlt : g < T := by have := Nat.zero_le (r * o); omega
  have h1 : r < (T - g + o - 1) / o := by
    rw [Nat.lt_iff_add_one_le, Nat.le_div_iff_mul_le ho, Nat.add_mul]
    omega
  have h2 : ∀ x, x < (T - g + o - 1) / o → Gv b w V x < T := by
    intro x hx
    have l := Gv_le (b := b) (w := w) (V := V) (clK b w r) x
    rw [hg, ho'] at l
    have hx2 : (x + 1) * o ≤ T - g + o - 1 := (Nat.le_div_iff_mul_le ho).mp hx
    rw [Nat.add_mul] at hx2
    omega
  refine ⟨h1, h2, fun h3 => ?_⟩
  generalize hr' : (T - g + o - 1) / o = r' at *
  have hsub : ∀ v, v < V → clK b w r v = true → clK b w r' v = true := by
    intro v _ hk
    have := of_decide_eq_true hk
    have hm := Nat.mul_le_mul_right (w v) (Nat.le_of_lt h1)
    exact decide_eq_true ⟨this.1, by omega⟩
  by_cases hne : ∃ v, v < V ∧ clK b w r v = false ∧ clK b w r' v = true
  · obtain ⟨v, v1, v2, v3⟩ := hne
    exact nK_lt hsub v1 v2 v3
  · exfalso
    have e2 := Gv_eq (b := b) (w := w) (V := V) (K := clK b w r) (x := r') (fun v hv hk => (of_decide_eq_true (hsub v hv hk)).2) (fun v hv hk => by
      by_cases hw : w v = 0
      · simp [hw]
      · by_cases hb : b v ≤ r' * w v
        · exact absurd ⟨v, hv, hk, decide_eq_true ⟨by omega, hb⟩⟩ hne
        · omega)
    rw [hg, ho'] at e2
    have hd : T - g ≤ r' * o := by
      have hmod := Nat.div_add_mod (T - g + o - 1) o
      have hml := Nat.mod_lt (T - g + o - 1) ho
      rw [hr', Nat.mul_comm] at hmod
      omega
    omega
theorem none_up {b w : Nat → Nat} {V T r : Nat} (h : Gv b w V r < T) (ho : oK (clK b w r) w V = 0) : ∀ x, Gv b w V x < T := by
  intro x
  have e := Gv_eq (b := b) (w := w) (V := V) (K := clK b w r) (x := r) (fun v _ hk => (of_decide_eq_true hk).2) (fun v _ hk => by
    have := of_decide_eq_false hk
    by_cases hw : w v = 0
    · simp [hw]
    · by_cases hb : b v ≤ r * w v
      · exact absurd ⟨by omega, hb⟩ this
      · omega)
  have l := Gv_le (b := b) (w := w) (V := V) (clK b w r) x
  rw [ho] at e l
  omega
