/-! THE MODEL: the least price, by leaving aside those who give all they have. -/
theorem Gn {S : PS} {a k b j : Nat} {v : Int32} (h : ¬ (b = a ∧ j = k)) : gi (si S a k v) b j = gi S b j := by rw [Gi_si, if_neg h]
theorem Gp {S : PS} {a k : Nat} {v : Int32} : gi (si S a k v) a k = v := by rw [Gi_si, if_pos ⟨rfl, rfl⟩]
theorem i_le {a b : Nat} {α : Type} {x y : α} (ha : a < 2147483648) (hb : b < 2147483648) : (if nI a ≤ nI b then x else y) = if a ≤ b then x else y := by simp only [nle ha hb]
theorem i_lt {a b : Nat} {α : Type} {x y : α} (ha : a < 2147483648) (hb : b < 2147483648) : (if nI a < nI b then x else y) = if a < b then x else y := by simp only [nlt ha hb]
theorem i_eq {a b : Nat} {α : Type} {x y : α} (ha : a < 2147483648) (hb : b < 2147483648) : (if nI a = nI b then x else y) = if a = b then x else y := by simp only [neq ha hb]
theorem j_le {a b : Nat} {α : Type} {x y : α} (ha : a < 9223372036854775808) (hb : b < 9223372036854775808) : (if lg_cmp (lN a) (lN b) ≤ nI 0 then x else y) = if a ≤ b then x else y := by simp only [cmp_le, l_le ha hb]
theorem j_lt {a b : Nat} {α : Type} {x y : α} (ha : a < 9223372036854775808) (hb : b < 9223372036854775808) : (if lg_cmp (lN a) (lN b) < nI 0 then x else y) = if a < b then x else y := by simp only [cmp_lt, l_lt ha hb]
theorem j_eq {a b : Nat} {α : Type} {x y : α} (ha : a < 9223372036854775808) (hb : b < 9223372036854775808) : (if lg_cmp (lN a) (lN b) = nI 0 then x else y) = if a = b then x else y := by simp only [cmp_eq, l_eq ha hb]
theorem j_ge {a b : Nat} {α : Type} {x y : α} (ha : a < 9223372036854775808) (hb : b < 9223372036854775808) : (if nI 0 ≤ lg_cmp (lN a) (lN b) then x else y) = if b ≤ a then x else y := by simp only [cmp_ge, l_le hb ha]
/-- those who give all they have and it is less than r asks -/
def kS (b w : Nat → Nat) (r v : Nat) : Bool := decide (0 < w v ∧ b v < r * w v)
/-- those, and those for whom it is worth nothing -/
def kR (b w : Nat → Nat) (r v : Nat) : Bool := decide (w v = 0 ∨ b v < r * w v)
theorem kS_eq {b w : Nat → Nat} {V r : Nat} : Gv b w V r = gvK (kS b w r) b V + r * oK (kS b w r) w V :=
  Gv_eq (b := b) (w := w) (V := V) (K := kS b w r) (x := r) (fun v _ hk => Nat.le_of_lt (of_decide_eq_true hk).2) (fun v _ hk => by
    have := of_decide_eq_false hk
    by_cases hw : w v = 0
    · simp [hw]
    · by_cases hb : b v < r * w v
      · exact absurd ⟨by omega, hb⟩ this
      · omega)
theorem kS_up {b w : Nat → Nat} {r r' v : Nat} (h : r ≤ r') (hk : kS b w r v = true) : kS b w r' v = true := by
  have := of_decide_eq_true hk
  have hm := Nat.mul_le_mul_right (w v) h
  exact decide_eq_true ⟨this.1, by omega⟩
theorem up_kS {b w : Nat → Nat} {V T r : Nat} (h : Gv b w V r < T) (ho : 0 < oK (kS b w r) w V) : r < (T - gvK (kS b w r) b V + oK (kS b w r) w V - 1) / oK (kS b w r) w V ∧ (∀ x, x < (T - gvK (kS b w r) b V + oK (kS b w r) w V - 1) / oK (kS b w r) w V → Gv b w V x < T) ∧ (Gv b w V ((T - gvK (kS b w r) b V + oK (kS b w r) w V - 1) / oK (kS b w r) w V) < T → nK (kS b w r) V < nK (kS b w ((T - gvK (kS b w r) b V + oK (kS b w r) w V - 1) / oK (kS b w r) w V)) V) := by
  have e := kS_eq (b := b) (w := w) (V := V) (r := r)
  generalize hg : gvK (kS b w r) b V = g at *
  generalize ho' : oK (kS b w r) w V = o at *
  have hlt : g < T := by have := Nat.zero_le (r * o); omega
  have h1 : r < (T - g + o - 1) / o := by
    rw [Nat.lt_iff_add_one_le, Nat.le_div_iff_mul_le ho, Nat.add_mul]
    omega
  have h2 : ∀ x, x < (T - g + o - 1) / o → Gv b w V x < T := by
    intro x hx
    have l := Gv_le (b := b) (w := w) (V := V) (kS b w r) x
    rw [hg, ho'] at l
    have hx2 : (x + 1) * o ≤ T - g + o - 1 := (Nat.le_div_iff_mul_le ho).mp hx
    rw [Nat.add_mul] at hx2
    omega
  refine ⟨h1, h2, fun h3 => ?_⟩
  generalize hr' : (T - g + o - 1) / o = r' at *
  by_cases hne : ∃ v, v < V ∧ kS b w r v = false ∧ kS b w r' v = true
  · obtain ⟨v, v1, v2, v3⟩ := hne
    exact nK_lt (fun v _ hk => kS_up (Nat.le_of_lt h1) hk) v1 v2 v3
  · exfalso
    have e2 := Gv_eq (b := b) (w := w) (V := V) (K := kS b w r) (x := r') (fun v hv hk => Nat.le_of_lt (of_decide_eq_true (kS_up (Nat.le_of_lt h1) hk)).2) (fun v hv hk => by
      by_cases hw : w v = 0
      · simp [hw]
      · by_cases hb : b v < r' * w v
        · exact absurd ⟨v, hv, hk, decide_eq_true ⟨by omega, hb⟩⟩ hne
        · omega)
    rw [hg, ho'] at e2
    have hd : T - g ≤ r' * o := by
      have hmod := Nat.div_add_mod (T - g + o - 1) o
      have hml := Nat.mod_lt (T - g + o - 1) ho
      rw [hr', Nat.mul_comm] at hmod
      omega
    omega
theorem no_kS {b w : Nat → Nat} {V T r : Nat} (h : Gv b w V r < T) (ho : oK (kS b w r) w V = 0) : ∀ x, Gv b w V x < T := by
  intro x
  have e := kS_eq (b := b) (w := w) (V := V) (r := r)
  have l := Gv_le (b := b) (w := w) (V := V) (kS b w r) x
  rw [ho] at e l
  omega
theorem sm_tail {f g : Nat → Nat} {V i : Nat} (h : ∀ v, v < V → f v ≤ g v) (hi : i ≤ V) : sm f V + sm g i ≤ sm g V + sm f i := by
  induction V with
  | zero =>
    have : i = 0 := by omega
    subst this
    omega
  | succ V ih =>
    by_cases c : i = V + 1
    · subst c
      omega
    · have := ih (fun v hv => h v (by omega)) (by omega)
      have h2 := h V (by omega)
      rw [sm_s, sm_s]
      omega
theorem kwz_n {α : Type} {Y : XS} {S : PS} {a k : Nat} {c : Bool} {K : PS → Option α} (hk : k < ln Y a) (hl : ln Y a < 2147483648) : kwz Y S a (nI k) (if c = true then 1 else 0) K = K (si S a k (if c = true then 1 else 0)) := by
  unfold kwz
  rw [if_pos (inb_n hk hl), ncl (by omega)]
  cases c <;> rfl
theorem kwz_1 {α : Type} {Y : XS} {S : PS} {a k : Nat} {K : PS → Option α} (hk : k < ln Y a) (hl : ln Y a < 2147483648) : kwz Y S a (nI k) 1 K = K (si S a k 1) := kwz_n (c := true) hk hl
def GvR (S : PS) (b w : Nat → Nat) (r V : Nat) : Prop := ∀ v, v < V → gi S 230 v = if kR b w r v = true then 1 else 0
theorem kR_of {b w : Nat → Nat} {r v : Nat} : kR b w r v = true ↔ w v = 0 ∨ kS b w r v = true := by
  unfold kR kS
  rw [decide_eq_true_eq, decide_eq_true_eq]
  constructor
  · rintro (h | h)
    · exact Or.inl h
    · by_cases c : w v = 0
      · exact Or.inl c
      · exact Or.inr ⟨by omega, h⟩
  · rintro (h | h)
    · exact Or.inl h
    · exact Or.inr h.2
theorem kS_0 {b w : Nat → Nat} {v : Nat} : kS b w 0 v = false := by
  unfold kS
  rw [decide_eq_false_iff_not]
  rw [Nat.zero_mul]
  omega
theorem kR_0 {b w : Nat → Nat} {v : Nat} : (kR b w 0 v = true) = (w v = 0) := by
  apply propext
  rw [kR_of, kS_0]
  constructor
  · rintro (h | h)
    · exact h
    · exact absurd h (by decide)
  · exact Or.inl
/-- who gives, at first -/
theorem m_priceA {Y : XS} {n : Nat} {S : PS} {A : EL} {b : Nat → Nat} {p : Nat} {z : Int64} (hn : 10000 ≤ n) (hM : MSt Y S) (h : NV S A) (hW : MW S A) (hp : p < eP A) :
    ok (iter (bX11_priceOf_17 Y n 215 (nI p) z) n ((0 : Int64), (0 : Int32), S)) (fun r => r.1 = lN (oK (kS b (wo A p) 0) (wo A p) (eV A)) ∧ Fr (fun x => x = 230) S r.2 ∧ GvR r.2 b (wo A p) 0 (eV A)) := by
  have a7 := h.ew
  have b1 := a7.2.1
  have b2 := a7.2.2.1
  have l1 := hM.2.2.2.2.1.1
  have l4 := hM.2.2.2.2.2.2.2.2.1
  refine iter_ok (fun i t => t.1 = lN (oK (kS b (wo A p) 0) (wo A p) i) ∧ t.2.1 = nI i ∧ Fr (fun x => x = 230) S t.2.2 ∧ GvR t.2.2 b (wo A p) 0 i) (eV A) (fun i t hi h1 => ?_) (fun t h1 => ?_) (by omega) ⟨rfl, rfl, Fr.rf, fun p hp => absurd hp (Nat.not_lt_zero _)⟩
  · obtain ⟨t1, t2, T⟩ := t
    obtain ⟨k1, k2, k3, k4⟩ := h1
    simp only at k1 k2 k3 k4
    subst k1
    subst k2
    have hMT : MSt Y T := hM.fr k3.2.1
    have hT : NV T A := h.fr k3 (by omega)
    have w1 := (hW p hp).2.2 i hi
    have w2 : gi T 221 (12 * i + p) = nI (wo A p i) := by rw [k3.gi (by omega)]; exact w1
    have w3 := wo_le A p i
    have fin : ∀ c : Bool, (c = true ↔ wo A p i = 0) → ok (jX11_priceOf_52_17 Y n T 215 (nI p) z (lN (oK (kS b (wo A p) 0) (wo A p) i)) (nI i) (if c = true then 1 else 0) (nI i) 230) (so (fun t => t.1 = lN (oK (kS b (wo A p) 0) (wo A p) (i + 1)) ∧ t.2.1 = nI (i + 1) ∧ Fr (fun x => x = 230) S t.2.2 ∧ GvR t.2.2 b (wo A p) 0 (i + 1)) (fun r => r.1 = lN (oK (kS b (wo A p) 0) (wo A p) (eV A)) ∧ Fr (fun x => x = 230) S r.2 ∧ GvR r.2 b (wo A p) 0 (eV A))) := by
      intro c hc
      have g : GvR (si T 230 i (if c = true then 1 else 0)) b (wo A p) 0 (i + 1) := by
        intro v hv
        rw [Gi_si]
        by_cases e : v = i
        · subst e
          rw [if_pos ⟨rfl, rfl⟩]
          have : kR b (wo A p) 0 v = c := by
            rw [Bool.eq_iff_iff, kR_0]
            exact hc.symm
          rw [this]
        · rw [if_neg (by omega)]
          exact k4 v (by omega)
      unfold jX11_priceOf_52_17 jX11_priceOf_82_17
      rw [kwz_n (by omega) (by omega), kgr_n (b := 230) (by rw [Gr_si]; exact hMT.2.2.1.2.2.2.1), kai_n (by omega) (by omega), show gi (si T 230 i (if c = true then 1 else 0)) 230 i = (if c = true then 1 else 0) from by rw [Gi_si, if_pos ⟨rfl, rfl⟩]]
      rw [oK_s, kS_0]
      cases c with
      | true =>
        have e0 := hc.mp rfl
        rw [if_neg (by decide), show (0 : Int64) = lN 0 from rfl, lN_add, nI_1, ok_some, so_l, e0]
        exact ⟨by simp, rfl, k3.si rfl, g⟩
      | false =>
        rw [if_pos (by decide), kgr_n (b := 221) (by rw [Gr_si]; exact hMT.2.1.1), show (12 : Int32) = nI 12 from rfl, nmul, nI_add, kai_n (by omega) (by omega), Gi_si, if_neg (by omega), w2, nI_l (by omega), lN_add, nI_1, ok_some, so_l]
        exact ⟨by simp, rfl, k3.si rfl, g⟩
    unfold bX11_priceOf_17
    rw [m_people hMT hT, kc_s]
    simp (discharger := omega) only [nle, if_neg]
    rw [kgr_n hMT.2.2.1.2.2.2.1, kgr_n hMT.2.1.1, show (12 : Int32) = nI 12 from rfl, nmul, nI_add, kai_n (by omega) (by omega), w2]
    by_cases c : wo A p i = 0
    · rw [c, if_pos (show nI 0 = 0 from rfl)]
      exact fin true ⟨fun _ => c, fun _ => rfl⟩
    · rw [if_neg (nI_ne0 (by omega) (by omega))]
      exact fin false ⟨fun e => absurd e (by decide), fun e => absurd e c⟩
  · obtain ⟨t1, t2, T⟩ := t
    obtain ⟨k1, k2, k3, k4⟩ := h1
    simp only at k1 k2 k3 k4
    subst k1
    subst k2
    unfold bX11_priceOf_17
    rw [m_people (hM.fr k3.2.1) (h.fr k3 (by omega)), kc_s]
    simp (discharger := omega) only [nle, if_pos, ok_some, so_r]
    exact ⟨trivial, k3, k4⟩
/-- who gives all, once a price was too low -/
theorem m_priceB {Y : XS} {n : Nat} {S : PS} {A : EL} {b : Nat → Nat} {p r r' nd : Nat} (hn : 10000 ≤ n) (hM : MSt Y S) (h : NV S A) (hW : MW S A) (hb : BV S A b) (hB : ∀ v, v < eV A → b v ≤ 200000000) (hp : p < eP A) (hr : r ≤ r') (hr' : r' ≤ 20000000) (hg : GvR S b (wo A p) r (eV A)) (hnd : nd + gvK (kS b (wo A p) r) b (eV A) ≤ 20000000) (hlt : gvK (kS b (wo A p) r') b (eV A) ≤ nd + gvK (kS b (wo A p) r) b (eV A)) :
    ok (iter (bX11_priceOf_137 Y n 215 (nI p) (lN r')) n (lN nd, lN (oK (kS b (wo A p) r) (wo A p) (eV A)), (0 : Int32), S)) (fun t => t.1 = lN (nd + gvK (kS b (wo A p) r) b (eV A) - gvK (kS b (wo A p) r') b (eV A)) ∧ t.2.1 = lN (oK (kS b (wo A p) r') (wo A p) (eV A)) ∧ Fr (fun x => x = 230) S t.2.2 ∧ GvR t.2.2 b (wo A p) r' (eV A)) := by
  have a7 := h.ew
  have b1 := a7.2.1
  have b2 := a7.2.2.1
  have l1 := hM.2.2.2.2.1.1
  have l5 := hM.2.2.2.2.1.2.2.2.2.1
  have l4 := hM.2.2.2.2.2.2.2.2.1
  have mono1 : ∀ v, v < eV A → (if kS b (wo A p) r v = true then b v else 0) ≤ (if kS b (wo A p) r' v = true then b v else 0) := by
    intro v _
    by_cases c : kS b (wo A p) r v = true
    · rw [if_pos c, if_pos (kS_up hr c)]
      exact Nat.le_refl _
    · rw [if_neg c]
      exact Nat.zero_le _
  refine iter_ok (fun i t => ∃ x y, t.1 = lN x ∧ t.2.1 = lN y ∧ t.2.2.1 = nI i ∧ x + gvK (kS b (wo A p) r') b i = nd + gvK (kS b (wo A p) r) b i ∧ y + oK (kS b (wo A p) r) (wo A p) i = oK (kS b (wo A p) r) (wo A p) (eV A) + oK (kS b (wo A p) r') (wo A p) i ∧ Fr (fun x => x = 230) S t.2.2.2 ∧ (∀ v, v < i → gi t.2.2.2 230 v = if kR b (wo A p) r' v = true then 1 else 0) ∧ (∀ v, i ≤ v → v < eV A → gi t.2.2.2 230 v = if kR b (wo A p) r v = true then 1 else 0)) (eV A) (fun i t hi h1 => ?_) (fun t h1 => ?_) (by omega) ⟨nd, oK (kS b (wo A p) r) (wo A p) (eV A), rfl, rfl, rfl, rfl, rfl, Fr.rf, fun p hp => absurd hp (Nat.not_lt_zero _), fun v _ hv => hg v hv⟩
  · obtain ⟨t1, t2, t3, T⟩ := t
    obtain ⟨x, y, k1, k2, k3, k4, k5, k6, k7, k8⟩ := h1
    simp only at k1 k2 k3 k6 k7 k8
    subst k1
    subst k2
    subst k3
    have hMT : MSt Y T := hM.fr k6.2.1
    have hT : NV T A := h.fr k6 (by omega)
    have w1 := (hW p hp).2.2 i hi
    have w2 : gi T 221 (12 * i + p) = nI (wo A p i) := by rw [k6.gi (by omega)]; exact w1
    have w3 := wo_le A p i
    have v2 : gi T 225 i = nI (b i) := by rw [k6.gi (by omega)]; exact hb i hi
    have v3 := hB i hi
    have pm : r' * wo A p i ≤ 20000000 * 9999 := Nat.mul_le_mul hr' w3
    have tl : gvK (kS b (wo A p) r) b (eV A) + gvK (kS b (wo A p) r') b (i + 1) ≤ gvK (kS b (wo A p) r') b (eV A) + gvK (kS b (wo A p) r) b (i + 1) := sm_tail mono1 hi
    have ol : oK (kS b (wo A p) r) (wo A p) (i + 1) ≤ oK (kS b (wo A p) r) (wo A p) (eV A) := sm_upto hi
    rw [gvK_s, gvK_s] at tl
    rw [oK_s] at ol
    have g8 := k8 i (Nat.le_refl _) hi
    unfold bX11_priceOf_137 jX11_priceOf_224_137
    rw [m_people hMT hT, kc_s]
    simp (discharger := omega) only [nle, if_neg]
    rw [kgr_n hMT.2.2.1.2.2.2.1, kai_n (by omega) (by omega), g8]
    by_cases c : kR b (wo A p) r i = true
    · rw [if_pos c, if_neg (by decide), nI_1, ok_some, so_l]
      refine ⟨x, y, rfl, rfl, rfl, ?_, ?_, k6, fun v hv => ?_, fun v hv hv2 => k8 v (by omega) hv2⟩
      · rw [gvK_s, gvK_s]
        rcases kR_of.mp c with c2 | c2
        · have e1 : kS b (wo A p) r i = false := by
            unfold kS
            rw [decide_eq_false_iff_not]
            omega
          have e2 : kS b (wo A p) r' i = false := by
            unfold kS
            rw [decide_eq_false_iff_not]
            omega
          rw [e1, e2]
          simp only [Bool.false_eq_true, if_false]
          omega
        · rw [if_pos c2, if_pos (kS_up hr c2)]
          omega
      · rw [oK_s, oK_s]
        rcases kR_of.mp c with c2 | c2
        · rw [c2]
          simp only [ite_self]
          omega
        · rw [if_pos c2, if_pos (kS_up hr c2)]
          omega
      · by_cases e : v = i
        · subst e
          dsimp only
          rw [g8, if_pos c, if_pos]
          rcases kR_of.mp c with c2 | c2
          · exact kR_of.mpr (Or.inl c2)
          · exact kR_of.mpr (Or.inr (kS_up hr c2))
        · exact k7 v (by omega)
    · have c1 : ¬ kS b (wo A p) r i = true := fun e => c (kR_of.mpr (Or.inr e))
      have c3 : wo A p i ≠ 0 := fun e => c (kR_of.mpr (Or.inl e))
      rw [if_neg c, if_pos rfl, kgr_n hMT.2.1.2.2.2.2.1, kai_n (by omega) (by omega), kgr_n hMT.2.1.1, show (12 : Int32) = nI 12 from rfl, nmul, nI_add, kai_n (by omega) (by omega), w2, v2, nI_l (by omega), nI_l (by omega), lN_mul, show (0 : Int32) = nI 0 from rfl, j_lt (by omega) (by omega)]
      by_cases d : b i < r' * wo A p i
      · have d2 : kS b (wo A p) r' i = true := decide_eq_true ⟨by omega, d⟩
        rw [if_pos d2, if_neg c1] at tl
        rw [if_neg c1] at ol
        rw [if_pos d, kgr_n hMT.2.2.1.2.2.2.1]
        rw [kwz_1 (by omega) (by omega), kgr_n (b := 225) (by rw [Gr_si]; exact hMT.2.1.2.2.2.2.1), kai_n (by omega) (by omega), Gi_si, if_neg (by omega), v2, kgr_n (b := 221) (by rw [Gr_si]; exact hMT.2.1.1), kai_n (by omega) (by omega), Gi_si, if_neg (by omega), w2, nI_l (by omega), nI_l (by omega), lN_sub (by omega), lN_sub (by omega)]
        rw [nI_1, ok_some, so_l]
        refine ⟨x - b i, y - wo A p i, rfl, rfl, rfl, ?_, ?_, k6.si rfl, fun v hv => ?_, fun v hv hv2 => ?_⟩
        · rw [gvK_s, gvK_s, if_pos d2, if_neg c1]
          omega
        · rw [oK_s, oK_s, if_pos d2, if_neg c1]
          omega
        · dsimp only
          rw [Gi_si]
          by_cases e : v = i
          · subst e
            rw [if_pos ⟨rfl, rfl⟩, if_pos (kR_of.mpr (Or.inr d2))]
          · rw [if_neg (by omega)]
            exact k7 v (by omega)
        · dsimp only
          rw [Gi_si, if_neg (by omega)]
          exact k8 v (by omega) hv2
      · have d2 : ¬ kS b (wo A p) r' i = true := fun e => d (of_decide_eq_true e).2
        rw [if_neg d, nI_1, ok_some, so_l]
        refine ⟨x, y, rfl, rfl, rfl, ?_, ?_, k6, fun v hv => ?_, fun v hv hv2 => k8 v (by omega) hv2⟩
        · rw [gvK_s, gvK_s, if_neg d2, if_neg c1]
          omega
        · rw [oK_s, oK_s, if_neg d2, if_neg c1]
          omega
        · by_cases e : v = i
          · subst e
            dsimp only
            have nn : ¬ kR b (wo A p) r' v = true := by
              intro e
              rcases kR_of.mp e with e | e
              · exact c3 e
              · exact d2 e
            rw [g8, if_neg c, if_neg nn]
            rfl
          · exact k7 v (by omega)
  · obtain ⟨t1, t2, t3, T⟩ := t
    obtain ⟨x, y, k1, k2, k3, k4, k5, k6, k7, k8⟩ := h1
    simp only at k1 k2 k3 k6 k7 k8
    subst k1
    subst k2
    subst k3
    unfold bX11_priceOf_137
    rw [m_people (hM.fr k6.2.1) (h.fr k6 (by omega)), kc_s]
    simp (discharger := omega) only [nle, if_pos, ok_some, so_r]
    refine ⟨?_, ?_, k6, k7⟩
    · congr 1
      omega
    · congr 1
      omega
theorem m_priceOf {Y : XS} {n : Nat} {S : PS} {A : EL} {b : Nat → Nat} {p : Nat} (hn : 10000 ≤ n) (hM : MSt Y S) (h : NV S A) (hW : MW S A) (hb : BV S A b) (hB : sm b (eV A) ≤ 200000000) (hp : p < eP A) :
    ok (fX11_priceOf Y n S 215 (nI p)) (fun r => r.1 = oI (prc A b p) ∧ Fr (fun x => x = 230) S r.2) := by
  have a7 := h.ew
  have b1 := a7.2.1
  have b2 := a7.2.2.1
  have c1 := (a7.2.2.2.1 p hp)
  have hB' : ∀ v, v < eV A → b v ≤ 200000000 := fun v hv => Nat.le_trans (sm_at hv) hB
  unfold fX11_priceOf
  rw [m_costOf hM h hp, kc_s, nI_l (by omega), show (1000 : Int64) = lN 1000 from rfl, lN_mul, Nat.mul_comm]
  refine ok_kc (m_priceA (b := b) hn hM h hW hp) ?_
  rintro ⟨r1, T⟩ ⟨q1, q2, q3⟩
  simp only at q1 q2 q3
  subst q1
  refine ok_kc (P := fun r => ∃ T', Fr (fun x => x = 230) S T' ∧ ((r = .inl T' ∧ prc A b p = none) ∨ ∃ z, r = .inr (nI z, T') ∧ prc A b p = some z)) (iter_mu (fun t => ∃ r, Gv b (wo A p) (eV A) r < eC A p * 1000 ∧ t.1 = lN (eC A p * 1000 - gvK (kS b (wo A p) r) b (eV A)) ∧ t.2.1 = lN (oK (kS b (wo A p) r) (wo A p) (eV A)) ∧ Fr (fun x => x = 230) S t.2.2 ∧ GvR t.2.2 b (wo A p) r (eV A) ∧ r ≤ 20000000) (fun t => 24 - nK (fun v => decide (t.2.2.1 230 v = 1)) (eV A)) (fun t ht => ?_) n _ (by dsimp only; omega) ⟨0, ?_, ?_, rfl, q2, q3, by decide⟩) ?_
  · obtain ⟨t1, t2, U⟩ := t
    obtain ⟨r, k1, k2, k3, k4, k5, k6⟩ := ht
    simp only at k2 k3 k4 k5
    subst k2
    subst k3
    have hMU : MSt Y U := hM.fr k4.2.1
    have hU : NV U A := h.fr k4 (by omega)
    have hWU : MW U A := hW.fr k4 (by omega) (by omega) (by omega)
    have hbU : BV U A b := hb.fr k4 (by omega)
    have eG := kS_eq (b := b) (w := wo A p) (V := eV A) (r := r)
    have ole : oK (kS b (wo A p) r) (wo A p) (eV A) ≤ 24 * 9999 := Nat.le_trans (Nat.le_trans oK_le (sm_le (c := 9999) (fun i _ => wo_le A p i))) (Nat.mul_le_mul_right _ b2)
    unfold bX11_priceOf_91
    dsimp only
    rw [show (0 : Int64) = lN 0 from rfl, show (0 : Int32) = nI 0 from rfl, j_le (by omega) (by decide)]
    by_cases c : oK (kS b (wo A p) r) (wo A p) (eV A) ≤ 0
    · rw [if_pos c, ok_some, so_r]
      exact ⟨U, k4, Or.inl ⟨rfl, pr_eq (no_kS k1 (by omega))⟩⟩
    · rw [if_neg c]
      have u := up_kS k1 (by omega)
      have hgl : gvK (kS b (wo A p) r) b (eV A) < eC A p * 1000 := by have := Nat.zero_le (r * oK (kS b (wo A p) r) (wo A p) (eV A)); omega
      unfold kldiv
      rw [if_neg (by rw [show (0 : Int64) = lN 0 from rfl, l_eq (by omega) (by decide)]; omega), lN_add, show (1 : Int64) = lN 1 from rfl, lN_sub (by omega), ldiv (by omega) (by omega)]
      have hN : (eC A p * 1000 - gvK (kS b (wo A p) r) b (eV A) + oK (kS b (wo A p) r) (wo A p) (eV A) - 1) / oK (kS b (wo A p) r) (wo A p) (eV A) ≤ 20000000 := Nat.le_trans (Nat.div_le_self _ _) (by omega)
      generalize hN' : (eC A p * 1000 - gvK (kS b (wo A p) r) b (eV A) + oK (kS b (wo A p) r) (wo A p) (eV A) - 1) / oK (kS b (wo A p) r) (wo A p) (eV A) = N at *
      obtain ⟨u1, u2, u3⟩ := u
      have gle : Gv b (wo A p) (eV A) N ≤ 24 * 200000000 := Nat.le_trans (sm_le (c := 200000000) (fun i hi => Nat.le_trans (Nat.min_le_left _ _) (hB' i hi))) (Nat.mul_le_mul_right _ b2)
      dsimp only
      rw [m_givenBy hn hMU hU hWU hbU hp hN hB', kc_s, m_costOf hMU hU hp, kc_s, nI_l (by omega), show (1000 : Int64) = lN 1000 from rfl, lN_mul, j_lt (by omega) (by omega), Nat.mul_comm 1000]
      by_cases d : Gv b (wo A p) (eV A) N < eC A p * 1000
      · rw [if_pos d]
        have eN := kS_eq (b := b) (w := wo A p) (V := eV A) (r := N)
        have hgN : gvK (kS b (wo A p) N) b (eV A) < eC A p * 1000 := by have := Nat.zero_le (N * oK (kS b (wo A p) N) (wo A p) (eV A)); omega
        refine ok_kc (m_priceB hn hMU hU hWU hbU hB' hp (Nat.le_of_lt u1) hN k5 (by omega) (by omega)) ?_
        rintro ⟨z1, z2, W⟩ ⟨y1, y2, y3, y4⟩
        simp only at y1 y2 y3 y4
        subst y1
        subst y2
        rw [ok_some, so_l]
        refine ⟨⟨N, d, ?_, rfl, k4.tr y3, y4, hN⟩, ?_⟩
        · dsimp only
          congr 1
          omega
        · dsimp only
          have nn : ∀ (X : PS) (x : Nat), GvR X b (wo A p) x (eV A) → nK (fun v => decide (X.1 230 v = 1)) (eV A) = nK (kR b (wo A p) x) (eV A) := by
            intro X x hX
            unfold nK
            apply sm_ext
            intro v hv
            have := hX v hv
            unfold gi at this
            by_cases e : kR b (wo A p) x v = true
            · rw [if_pos e] at this
              simp [this, e]
            · rw [if_neg e] at this
              simp [this, e]
          rw [nn W N y4, nn U r k5]
          have lt := u3 d
          have : nK (kR b (wo A p) r) (eV A) < nK (kR b (wo A p) N) (eV A) := by
            have sub : ∀ v, v < eV A → kR b (wo A p) r v = true → kR b (wo A p) N v = true := by
              intro v _ e
              rcases kR_of.mp e with e | e
              · exact kR_of.mpr (Or.inl e)
              · exact kR_of.mpr (Or.inr (kS_up (Nat.le_of_lt u1) e))
            by_cases ex : ∃ v, v < eV A ∧ kS b (wo A p) r v = false ∧ kS b (wo A p) N v = true
            · obtain ⟨v, v1, v2, v3⟩ := ex
              refine nK_lt sub v1 ?_ (kR_of.mpr (Or.inr v3))
              have pos := (of_decide_eq_true v3).1
              rw [← Bool.not_eq_true, kR_of]
              rintro (e | e)
              · omega
              · rw [v2] at e
                exact absurd e (by decide)
            · exfalso
              have : nK (kS b (wo A p) N) (eV A) ≤ nK (kS b (wo A p) r) (eV A) := nK_mono (fun v hv e => by
                by_cases f : kS b (wo A p) r v = true
                · exact f
                · exact absurd ⟨v, hv, by simpa using f, e⟩ ex)
              omega
          have le := nK_le (K := kR b (wo A p) N) (V := eV A)
          omega
      · rw [if_neg d, lN_i, ok_some, so_r]
        refine ⟨U, k4, Or.inr ⟨N, rfl, pr_eq ⟨by omega, u2⟩⟩⟩
  · rw [Gv_zero]
    omega
  · dsimp only
    congr 1
    have : gvK (kS b (wo A p) 0) b (eV A) = 0 := by
      have : gvK (kS b (wo A p) 0) b (eV A) = sm (fun _ => 0) (eV A) := sm_ext (fun v _ => by rw [kS_0]; rfl)
      rw [this]
      have := sm_le (f := fun _ => 0) (c := 0) (n := eV A) (fun _ _ => Nat.le_refl _)
      omega
    omega
  · rintro r ⟨T', f, e⟩
    rcases e with ⟨rfl, e⟩ | ⟨z, rfl, e⟩
    · refine ok_i ⟨?_, f⟩
      rw [e]
      rfl
    · refine ok_i ⟨?_, f⟩
      rw [e]
      rfl
