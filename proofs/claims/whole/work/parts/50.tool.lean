/-! THE PURE PART, TOOLS: answers of Option, loops, small ints, heaps. -/
def ok {α : Type} (m : Option α) (Q : α → Prop) : Prop := ∃ r, m = some r ∧ Q r
theorem ok_some {α : Type} {r : α} {Q : α → Prop} : ok (some r) Q = Q r := by
  apply propext
  constructor
  · rintro ⟨x, h, q⟩
    cases h
    exact q
  · intro q
    exact ⟨r, rfl, q⟩
theorem ok_i {α : Type} {r : α} {Q : α → Prop} (h : Q r) : ok (some r) Q := ⟨r, rfl, h⟩
theorem ok_mono {α : Type} {m : Option α} {P Q : α → Prop} (h : ok m P) (k : ∀ r, P r → Q r) : ok m Q := by
  obtain ⟨r, e, p⟩ := h
  exact ⟨r, e, k r p⟩
theorem ok_kc {α β : Type} {m : Option β} {K : β → Option α} {P : β → Prop} {Q : α → Prop} (h : ok m P) (k : ∀ r, P r → ok (K r) Q) : ok (kc m K) Q := by
  obtain ⟨r, e, p⟩ := h
  subst e
  exact k r p
theorem kc_s {α β : Type} {r : β} {K : β → Option α} : kc (some r) K = K r := rfl
theorem ok_ite {α : Type} {c : Prop} [Decidable c] {a b : Option α} {Q : α → Prop} (h : c → ok a Q) (k : ¬ c → ok b Q) : ok (if c then a else b) Q := by
  by_cases hc : c
  · rw [if_pos hc]; exact h hc
  · rw [if_neg hc]; exact k hc
def so {σ ρ : Type} (I : σ → Prop) (Q : ρ → Prop) : σ ⊕ ρ → Prop
  | .inl s => I s
  | .inr r => Q r
theorem so_l {σ ρ : Type} {I : σ → Prop} {Q : ρ → Prop} {s : σ} : so I Q (.inl s) = I s := rfl
theorem so_r {σ ρ : Type} {I : σ → Prop} {Q : ρ → Prop} {r : ρ} : so I Q (.inr r) = Q r := rfl
theorem iter_run {σ ρ : Type} {f : σ → Option (σ ⊕ ρ)} (g : Nat → σ) {r : ρ} (N : Nat) (hs : ∀ i, i < N → f (g i) = some (.inl (g (i + 1)))) (he : f (g N) = some (.inr r)) {n : Nat} (hn : N < n) {s : σ} (h0 : s = g 0) : iter f n s = some r := by
  have key : ∀ k, k ≤ N → ∀ n, k < n → iter f n (g (N - k)) = some r := by
    intro k
    induction k with
    | zero =>
      intro _ n hn
      cases n with
      | zero => exact absurd hn (Nat.not_lt_zero _)
      | succ n => rw [Nat.sub_zero]; unfold iter; rw [he]
    | succ k ih =>
      intro hk n hn
      cases n with
      | zero => exact absurd hn (Nat.not_lt_zero _)
      | succ n =>
        have h1 : N - (k + 1) < N := by omega
        have h2 : N - (k + 1) + 1 = N - k := by omega
        have h3 := hs _ h1
        rw [h2] at h3
        unfold iter
        rw [h3]
        exact ih (by omega) n (by omega)
  subst h0
  have := key N (Nat.le_refl _) n hn
  rwa [Nat.sub_self] at this
/-- a loop from any place of its run on -/
theorem iter_from {σ ρ : Type} {f : σ → Option (σ ⊕ ρ)} (g : Nat → σ) {r : ρ} (N a : Nat) (ha : a ≤ N) (hs : ∀ i, a ≤ i → i < N → f (g i) = some (.inl (g (i + 1)))) (he : f (g N) = some (.inr r)) {n : Nat} (hn : N < n) {s : σ} (h0 : s = g a) : iter f n s = some r := by
  refine iter_run (fun i => g (a + i)) (N - a) (fun i hi => ?_) ?_ (n := n) (by omega) (by rw [h0]; rfl)
  · have := hs (a + i) (by omega) (by omega)
    exact this
  · have e : a + (N - a) = N := by omega
    show f (g (a + (N - a))) = _
    rw [e]
    exact he
theorem iter_ok {σ ρ : Type} {f : σ → Option (σ ⊕ ρ)} (I : Nat → σ → Prop) {Q : ρ → Prop} (N : Nat) (hs : ∀ i s, i < N → I i s → ok (f s) (so (I (i + 1)) Q)) (he : ∀ s, I N s → ok (f s) (so (fun _ => False) Q)) {n : Nat} (hn : N < n) {s : σ} (h0 : I 0 s) : ok (iter f n s) Q := by
  have key : ∀ k, k ≤ N → ∀ n s, k < n → I (N - k) s → ok (iter f n s) Q := by
    intro k
    induction k with
    | zero =>
      intro _ n s hn hI
      cases n with
      | zero => exact absurd hn (Nat.not_lt_zero _)
      | succ n =>
        rw [Nat.sub_zero] at hI
        obtain ⟨o, e, q⟩ := he s hI
        unfold iter
        rw [e]
        cases o with
        | inl s' => exact absurd q (fun h => h)
        | inr r => exact ok_i q
    | succ k ih =>
      intro hk n s hn hI
      cases n with
      | zero => exact absurd hn (Nat.not_lt_zero _)
      | succ n =>
        have h2 : N - (k + 1) + 1 = N - k := by omega
        obtain ⟨o, e, q⟩ := hs _ s (by omega) hI
        unfold iter
        rw [e]
        cases o with
        | inl s' =>
          have q' : I (N - (k + 1) + 1) s' := q
          rw [h2] at q'
          exact ih (by omega) n s' (by omega) q'
        | inr r => exact ok_i q
  exact key N (Nat.le_refl _) n s hn (by rw [Nat.sub_self]; exact h0)
/-- a loop with a measure that sinks -/
theorem iter_mu {σ ρ : Type} {f : σ → Option (σ ⊕ ρ)} (I : σ → Prop) (μ : σ → Nat) {Q : ρ → Prop} (hs : ∀ s, I s → ok (f s) (so (fun s' => I s' ∧ μ s' < μ s) Q)) : ∀ (n : Nat) (s : σ), μ s < n → I s → ok (iter f n s) Q
  | 0, s, h, _ => absurd h (Nat.not_lt_zero _)
  | n + 1, s, h, hI => by
    obtain ⟨o, e, q⟩ := hs s hI
    unfold iter
    rw [e]
    cases o with
    | inl s' => exact iter_mu I μ hs n s' (by have := q.2; omega) q.1
    | inr r => exact ok_i q
theorem kc_run {α σ ρ : Type} {f : σ → Option (σ ⊕ ρ)} {K : ρ → Option α} {z : Option α} (g : Nat → σ) {r : ρ} (N : Nat) (hs : ∀ i, i < N → f (g i) = some (.inl (g (i + 1)))) (he : f (g N) = some (.inr r)) {n : Nat} (hn : N < n) {s : σ} (h0 : s = g 0) (hk : K r = z) : kc (iter f n s) K = z := by
  rw [iter_run g N hs he hn h0]
  exact hk
/-! small ints -/
theorem li (n : Nat) : (OfNat.ofNat n : Int32) = nI n := rfl
theorem nle {a b : Nat} (ha : a < 2147483648) (hb : b < 2147483648) : (nI a ≤ nI b) = (a ≤ b) := propext (nI_leI ha hb)
theorem nlt {a b : Nat} (ha : a < 2147483648) (hb : b < 2147483648) : (nI a < nI b) = (a < b) := propext (nI_ltI ha hb)
theorem neq {a b : Nat} (ha : a < 2147483648) (hb : b < 2147483648) : (nI a = nI b) = (a = b) := propext (nI_eq ha hb)
theorem nmul (a b : Nat) : nI a * nI b = nI (a * b) := (Int32.ofNat_mul a b).symm
theorem nsub {a b : Nat} (h : b ≤ a) : nI a - nI b = nI (a - b) := (Int32.ofNat_sub a b h).symm
theorem ndiv {a b : Nat} (ha : a < 2147483648) (hb : b < 2147483648) : nI a / nI b = nI (a / b) := (Int32.ofNat_div ha hb).symm
def m1 : Int32 := -1
theorem negm : -nI 1 = m1 := rfl
theorem mm1 : (-1 : Int32) = m1 := rfl
theorem nm1 {a : Nat} (h : a < 2147483648) : (nI a = m1) = False := by
  apply propext
  refine ⟨fun e => ?_, fun e => e.elim⟩
  have h1 := nI_toInt (n := a) h
  rw [e] at h1
  have h2 : m1.toInt = -1 := by decide
  omega
theorem m1n {a : Nat} (h : a < 2147483648) : (m1 = nI a) = False := by
  apply propext
  refine ⟨fun e => ?_, fun e => e.elim⟩
  have := nm1 h
  rw [← e] at this
  simp at this
theorem m1lt {a : Nat} (h : a < 2147483648) : m1 < nI a := by
  rw [Int32.lt_iff_toInt_lt, nI_toInt h]
  have h2 : m1.toInt = -1 := by decide
  omega
theorem ncl {a : Nat} (h : a < 2147483648) : (nI a).toNatClampNeg = a := nI_clamp h
theorem npos {a : Nat} (h : a < 2147483648) : (nI a < 0) = False := by
  apply propext
  exact ⟨fun e => nI_pos h e, fun e => e.elim⟩
theorem inb_n {a N : Nat} (h : a < N) (hN : N < 2147483648) : inb (nI a) N = true := by
  unfold inb
  exact decide_eq_true (nI_in h hN)
theorem kai_n {α : Type} {Y : XS} {S : PS} {a k : Nat} {K : Int32 → Option α} (hk : k < ln Y a) (hl : ln Y a < 2147483648) : kai Y S a (nI k) K = K (gi S a k) := by
  unfold kai
  rw [if_pos (inb_n hk hl), ncl (by omega)]
theorem kal_n {α : Type} {Y : XS} {S : PS} {a k : Nat} {K : Int64 → Option α} (hk : k < ln Y a) (hl : ln Y a < 2147483648) : kal Y S a (nI k) K = K (gl S a k) := by
  unfold kal
  rw [if_pos (inb_n hk hl), ncl (by omega)]
theorem kwi_n {α : Type} {Y : XS} {S : PS} {a k : Nat} {x : Int32} {K : PS → Option α} (hk : k < ln Y a) (hl : ln Y a < 2147483648) : kwi Y S a (nI k) x K = K (si S a k x) := by
  unfold kwi
  rw [if_pos (inb_n hk hl), ncl (by omega)]
theorem kwl_n {α : Type} {Y : XS} {S : PS} {a k : Nat} {x : Int64} {K : PS → Option α} (hk : k < ln Y a) (hl : ln Y a < 2147483648) : kwl Y S a (nI k) x K = K (sj S a k x) := by
  unfold kwl
  rw [if_pos (inb_n hk hl), ncl (by omega)]
theorem kar_n {α : Type} {Y : XS} {S : PS} {a k b : Nat} {K : Nat → Option α} (hk : k < ln Y a) (hl : ln Y a < 2147483648) (hg : gr S a k = some b) : kar Y S a (nI k) K = K b := by
  unfold kar
  rw [if_pos (inb_n hk hl), ncl (by omega), hg]
theorem kgr_n {α : Type} {S : PS} {a k b : Nat} {K : Nat → Option α} (h : gr S a k = some b) : kgr S a k K = K b := by
  unfold kgr
  rw [h]
theorem kgi_n {α : Type} {S : PS} {a k : Nat} {K : Int32 → Option α} : kgi S a k K = K (gi S a k) := rfl
theorem kpi_n {α : Type} {S : PS} {a k : Nat} {v : Int32} {K : PS → Option α} : kpi S a k v K = K (si S a k v) := rfl
theorem kcp_n {α : Type} {Y : XS} {S : PS} {a b s d m : Nat} {K : PS → Option α} (hs : s + m ≤ ln Y a) (hd : d + m ≤ ln Y b) (ha : ln Y a < 2147483648) (hb : ln Y b < 2147483648) : kcp Y S a (nI s) b (nI d) (nI m) K = K (sc S b (va_cpy (S.1 a) (S.1 b) s d m)) := by
  unfold kcp
  rw [ncl (a := s) (by omega), ncl (a := d) (by omega), ncl (a := m) (by omega), if_pos]
  exact ⟨nI_pos (by omega), nI_pos (by omega), nI_pos (by omega), hs, hd⟩
/-! heaps -/
theorem Gi_si (S : PS) (a k b j : Nat) (v : Int32) : gi (si S a k v) b j = if b = a ∧ j = k then v else gi S b j := rfl
theorem Gr_si (S : PS) (a k b j : Nat) (v : Int32) : gr (si S a k v) b j = gr S b j := rfl
theorem Gl_si (S : PS) (a k b j : Nat) (v : Int32) : gl (si S a k v) b j = gl S b j := rfl
theorem Gi_sj (S : PS) (a k b j : Nat) (v : Int64) : gi (sj S a k v) b j = gi S b j := rfl
theorem Gr_sj (S : PS) (a k b j : Nat) (v : Int64) : gr (sj S a k v) b j = gr S b j := rfl
theorem Gl_sj (S : PS) (a k b j : Nat) (v : Int64) : gl (sj S a k v) b j = if b = a ∧ j = k then v else gl S b j := rfl
theorem Gi_sr (S : PS) (a k b j : Nat) (v : Option Nat) : gi (sr S a k v) b j = gi S b j := rfl
theorem Gl_sr (S : PS) (a k b j : Nat) (v : Option Nat) : gl (sr S a k v) b j = gl S b j := rfl
theorem Gr_sr (S : PS) (a k b j : Nat) (v : Option Nat) : gr (sr S a k v) b j = if b = a ∧ j = k then v else gr S b j := rfl
theorem Gi_sc (S : PS) (a b j : Nat) (f : Nat → Int32) : gi (sc S a f) b j = if b = a then f j else gi S b j := rfl
theorem Gr_sc (S : PS) (a b j : Nat) (f : Nat → Int32) : gr (sc S a f) b j = gr S b j := rfl
theorem Gl_sc (S : PS) (a b j : Nat) (f : Nat → Int32) : gl (sc S a f) b j = gl S b j := rfl
/-- what a method may have changed: numbers in the cells M alone -/
def Fr (M : Nat → Prop) (S S' : PS) : Prop := (∀ b, ¬ M b → S'.2.1 b = S.2.1 b) ∧ S'.2.2 = S.2.2 ∧ ∀ b, ¬ M b → S'.1 b = S.1 b
theorem Fr.rf {M : Nat → Prop} {S : PS} : Fr M S S := ⟨fun _ _ => rfl, rfl, fun _ _ => rfl⟩
theorem Fr.tr {M : Nat → Prop} {S S' S'' : PS} (h : Fr M S S') (k : Fr M S' S'') : Fr M S S'' := ⟨fun b hb => (k.1 b hb).trans (h.1 b hb), k.2.1.trans h.2.1, fun b hb => (k.2.2 b hb).trans (h.2.2 b hb)⟩
theorem Fr.mono {M N : Nat → Prop} {S S' : PS} (h : Fr M S S') (k : ∀ b, M b → N b) : Fr N S S' := ⟨fun b hb => h.1 b (fun q => hb (k b q)), h.2.1, fun b hb => h.2.2 b (fun q => hb (k b q))⟩
theorem Fr.gi {M : Nat → Prop} {S S' : PS} (h : Fr M S S') {b : Nat} (hb : ¬ M b) (k : Nat) : gi S' b k = gi S b k := congrFun (h.2.2 b hb) k
theorem Fr.gr {M : Nat → Prop} {S S' : PS} (h : Fr M S S') (b k : Nat) : gr S' b k = gr S b k := congrFun (congrFun h.2.1 b) k
theorem Fr.gl {M : Nat → Prop} {S S' : PS} (h : Fr M S S') {b : Nat} (hb : ¬ M b) (k : Nat) : gl S' b k = gl S b k := congrFun (h.1 b hb) k
theorem Fr.si {M : Nat → Prop} {S S' : PS} (h : Fr M S S') {a k : Nat} {v : Int32} (ha : M a) : Fr M S (si S' a k v) := by
  refine ⟨h.1, h.2.1, fun b hb => ?_⟩
  rw [← h.2.2 b hb]
  funext j
  show (if b = a ∧ j = k then v else S'.1 b j) = _
  rw [if_neg]
  rintro ⟨e, _⟩
  exact hb (by rw [e]; exact ha)
theorem Fr.sj {M : Nat → Prop} {S S' : PS} (h : Fr M S S') {a k : Nat} {v : Int64} (ha : M a) : Fr M S (sj S' a k v) := by
  refine ⟨fun b hb => ?_, h.2.1, h.2.2⟩
  rw [← h.1 b hb]
  funext j
  show (if b = a ∧ j = k then v else S'.2.1 b j) = _
  rw [if_neg]
  rintro ⟨e, _⟩
  exact hb (by rw [e]; exact ha)
theorem Fr.sc {M : Nat → Prop} {S S' : PS} (h : Fr M S S') {a : Nat} {f : Nat → Int32} (ha : M a) : Fr M S (sc S' a f) := by
  refine ⟨h.1, h.2.1, fun b hb => ?_⟩
  rw [← h.2.2 b hb]
  funext j
  show (if b = a then f j else S'.1 b j) = _
  rw [if_neg]
  intro e
  exact hb (by rw [e]; exact ha)
theorem si_sc {S : PS} {b i : Nat} {f : Nat → Int32} {x : Int32} : si (sc S b f) b i x = sc S b (fun j => if j = i then x else f j) := by
  refine Prod.ext ?_ rfl
  funext c j
  show (if c = b ∧ j = i then x else if c = b then f j else S.1 c j) = if c = b then (if j = i then x else f j) else S.1 c j
  by_cases h : c = b <;> by_cases h2 : j = i <;> simp [h, h2]
theorem sc_self {S : PS} {b : Nat} : sc S b (fun j => gi S b j) = S := by
  refine Prod.ext ?_ rfl
  funext c j
  show (if c = b then S.1 b j else S.1 c j) = S.1 c j
  by_cases h : c = b <;> simp [h]
theorem sc_ext {S : PS} {b : Nat} {f g : Nat → Int32} (h : ∀ j, f j = g j) : sc S b f = sc S b g := by rw [funext h]
/-- bits -/
theorem sm31 : ∀ p, p < 32 → ((nI p &&& 31).toBitVec.smod 32).toNat = p := by decide +kernel
theorem nshr {s p : Nat} (hs : s < 2147483648) (hp : p < 32) : nI s >>> (nI p &&& nI 31) = nI (s / 2 ^ p) := pk_shrN hs _ p (sm31 p hp)
theorem nshl {s p : Nat} (hp : p < 32) (h : s * 2 ^ p < 4294967296) : nI s <<< (nI p &&& nI 31) = nI (s * 2 ^ p) := pk_shlN _ p (sm31 p hp) h
theorem nand1 {s : Nat} (hs : s < 2147483648) : nI s &&& nI 1 = nI (s % 2) := by
  exact pk_andN (n := s) (by omega) (m := 1) 1 (by decide)
theorem nor (a b : Nat) : nI a ||| nI b = nI (a ||| b) := by
  apply Int32.toBitVec.inj
  show BitVec.ofNat 32 a ||| BitVec.ofNat 32 b = BitVec.ofNat 32 (a ||| b)
  apply BitVec.eq_of_getLsbD_eq
  intro i hi
  simp [BitVec.getLsbD_or, BitVec.getLsbD_ofNat, hi]
theorem nand (a b : Nat) : nI a &&& nI b = nI (a &&& b) := by
  apply Int32.toBitVec.inj
  show BitVec.ofNat 32 a &&& BitVec.ofNat 32 b = BitVec.ofNat 32 (a &&& b)
  apply BitVec.eq_of_getLsbD_eq
  intro i hi
  simp [BitVec.getLsbD_and, BitVec.getLsbD_ofNat, hi]
def B1 (c : Prop) [Decidable c] : Int32 := if c then 1 else 0
theorem tb_dm (s p : Nat) : s.testBit p = decide (s / 2 ^ p % 2 = 1) := Nat.testBit_eq_decide_div_mod_eq
theorem s_isIn {Y : XS} {n : Nat} {S : PS} {s p : Nat} (hs : s < 2147483648) (hp : p < 32) : fX10_isIn Y n S (nI p) (nI s) = some (if s.testBit p = true then 1 else 0) := by
  have h1 : nI s >>> (nI p &&& 31) = nI (s / 2 ^ p) := nshr hs hp
  have h3 : s / 2 ^ p < 2147483648 := Nat.lt_of_le_of_lt (Nat.div_le_self _ _) hs
  have h2 : nI (s / 2 ^ p) &&& 1 = nI (s / 2 ^ p % 2) := nand1 h3
  have h4 : s / 2 ^ p % 2 < 2 := Nat.mod_lt _ (by decide)
  unfold fX10_isIn
  rw [h1, h2, tb_dm]
  by_cases h : s / 2 ^ p % 2 = 1
  · rw [h, if_neg (show ¬ nI 1 = 0 by decide)]
    simp [jX10_isIn_13, kzr]
  · have h0 : s / 2 ^ p % 2 = 0 := by omega
    rw [h0, if_pos (show nI 0 = 0 by decide)]
    simp [jX10_isIn_13, kzr]
def sm (f : Nat → Nat) : Nat → Nat
  | 0 => 0
  | n + 1 => sm f n + f n
theorem sm_s (f : Nat → Nat) (n : Nat) : sm f (n + 1) = sm f n + f n := rfl
theorem sm_le {f : Nat → Nat} {c : Nat} : ∀ {n : Nat}, (∀ i, i < n → f i ≤ c) → sm f n ≤ n * c
  | 0, _ => by simp [sm]
  | n + 1, h => by
    have h1 := sm_le (n := n) (fun i hi => h i (by omega))
    have h2 := h n (by omega)
    rw [sm_s, Nat.succ_mul]
    omega
theorem sm_ext {f g : Nat → Nat} : ∀ {n : Nat}, (∀ i, i < n → f i = g i) → sm f n = sm g n
  | 0, _ => rfl
  | n + 1, h => by rw [sm_s, sm_s, sm_ext (n := n) (fun i hi => h i (by omega)), h n (by omega)]
theorem sm_mono {f g : Nat → Nat} : ∀ {n : Nat}, (∀ i, i < n → f i ≤ g i) → sm f n ≤ sm g n
  | 0, _ => Nat.le_refl _
  | n + 1, h => by
    have h1 := sm_mono (n := n) (fun i hi => h i (by omega))
    have h2 := h n (by omega)
    rw [sm_s, sm_s]
    omega
theorem s_fill {Y : XS} {n : Nat} {S : PS} {b : Nat} {x : Int32} (hn : ln Y b < n) (hl : ln Y b < 2147483648) : fJ7_fill_53178 Y n S b x = some (sc S b (fun j => if j < ln Y b then x else gi S b j)) := by
  unfold fJ7_fill_53178 kln
  show kc (iter (bJ7_fill_53178_5 Y n b x (nI (ln Y b))) n ((0 : Int32), S)) (fun r5 => some r5) = _
  refine kc_run (fun i => (nI i, sc S b (fun j => if j < i then x else gi S b j))) (ln Y b) (fun i hi => ?_) ?_ hn ?_ rfl
  · simp (discharger := omega) only [bJ7_fill_53178_5, nle, if_neg, kwi_n]
    rw [si_sc, nI_1]
    congr 3
    apply sc_ext
    intro j
    by_cases h1 : j = i
    · simp [h1]
    · have : (j < i + 1) = (j < i) := by apply propext; omega
      simp [h1, this]
  · simp (discharger := omega) only [bJ7_fill_53178_5, nle, if_pos]
  · simp [nI_0, sc_self]
theorem s_fillL {Y : XS} {n : Nat} {S : PS} {b : Nat} {x : Int64} (hn : ln Y b < n) (hl : ln Y b < 2147483648) : ok (fJ7_fill_d0a16 Y n S b x) (fun S' => Fr (fun a => a = b) S S' ∧ (∀ j, gi S' b j = gi S b j) ∧ ∀ j, j < ln Y b → gl S' b j = x) := by
  unfold fJ7_fill_d0a16 kln
  show ok (kc (iter (bJ7_fill_d0a16_6 Y n b x (nI (ln Y b))) n ((0 : Int32), S)) (fun r5 => some r5)) _
  refine ok_kc (iter_ok (fun i s => s.1 = nI i ∧ Fr (fun a => a = b) S s.2 ∧ (∀ j, gi s.2 b j = gi S b j) ∧ ∀ j, j < i → gl s.2 b j = x) (Q := fun S' => Fr (fun a => a = b) S S' ∧ (∀ j, gi S' b j = gi S b j) ∧ ∀ j, j < ln Y b → gl S' b j = x) (ln Y b) (fun i s hi h => ?_) (fun s h => ?_) hn ⟨rfl, Fr.rf, fun _ => rfl, fun j hj => absurd hj (Nat.not_lt_zero _)⟩) (fun r h => ok_i h)
  · obtain ⟨s1, s2⟩ := s
    obtain ⟨h1, h2, h3, h4⟩ := h
    simp only at h1 h2 h3 h4
    subst h1
    simp (discharger := omega) only [bJ7_fill_d0a16_6, nle, if_neg, kwl_n, ok_some, so_l, nI_1]
    refine ⟨trivial, h2.sj rfl, h3, fun j hj => ?_⟩
    rw [Gl_sj]
    by_cases e : j = i
    · rw [if_pos ⟨rfl, e⟩]
    · rw [if_neg (fun q => e q.2)]
      exact h4 j (by omega)
  · obtain ⟨s1, s2⟩ := s
    obtain ⟨h1, h2, h3, h4⟩ := h
    simp only at h1 h2 h3 h4
    subst h1
    simp (discharger := omega) only [bJ7_fill_d0a16_6, nle, if_pos, ok_some, so_r]
    exact ⟨h2, h3, h4⟩
