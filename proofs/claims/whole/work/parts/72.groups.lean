/-! GROUPS: due, served. -/
def mxf (f : Nat → Nat) : Nat → Nat
  | 0 => 0
  | i + 1 => max (mxf f i) (f i)
theorem mxf_s (f : Nat → Nat) (i : Nat) : mxf f (i + 1) = max (mxf f i) (f i) := rfl
theorem mxf_le {f : Nat → Nat} {c : Nat} (h : ∀ i, f i ≤ c) : ∀ n, mxf f n ≤ c
  | 0 => Nat.zero_le _
  | n + 1 => by have := mxf_le h n; have := h n; rw [mxf_s]; omega
theorem mxf_ext {f g : Nat → Nat} : ∀ {n : Nat}, (∀ i, i < n → f i = g i) → mxf f n = mxf g n
  | 0, _ => rfl
  | n + 1, h => by rw [mxf_s, mxf_s, mxf_ext (n := n) (fun i hi => h i (by omega)), h n (by omega)]
theorem mxf_upd {f g : Nat → Nat} {q : Nat} : ∀ {n : Nat}, q < n → (∀ i, i < n → i ≠ q → g i = f i) → f q = 0 → mxf g n = max (mxf f n) (g q)
  | 0, h, _, _ => absurd h (Nat.not_lt_zero _)
  | n + 1, h, h1, h2 => by
    rw [mxf_s, mxf_s]
    by_cases e : q = n
    · subst e
      rw [mxf_ext (n := q) (f := g) (g := f) (fun i hi => h1 i (by omega) (by omega)), h2]
      omega
    · rw [mxf_upd (n := n) (by omega) (fun i hi hne => h1 i (by omega) hne) h2, h1 n (by omega) (fun z => e z.symm)]
      omega
/-- the greatest worth of one of a set that isn't chosen -/
def bmi (A : EL) (B v s : Nat) : Nat := mxf (fun q => if s.testBit q = true ∧ B.testBit q = false then wo A q v else 0) (eP A)
theorem bmi_le (A : EL) (B v s : Nat) : bmi A B v s ≤ 9999 := mxf_le (fun q => by
  split
  · exact wo_le A q v
  · exact Nat.zero_le _) _
def exq (f : Nat → Bool) : Nat → Bool
  | 0 => false
  | n + 1 => exq f n || f n
theorem exq_s (f : Nat → Bool) (n : Nat) : exq f (n + 1) = (exq f n || f n) := rfl
theorem exq_ext {f g : Nat → Bool} : ∀ {n : Nat}, (∀ i, i < n → f i = g i) → exq f n = exq g n
  | 0, _ => rfl
  | n + 1, h => by rw [exq_s, exq_s, exq_ext (n := n) (fun i hi => h i (by omega)), h n (by omega)]
theorem exq_iff {f : Nat → Bool} : ∀ {n : Nat}, exq f n = true ↔ ∃ i, i < n ∧ f i = true
  | 0 => by simp [exq]
  | n + 1 => by
    rw [exq_s, Bool.or_eq_true, exq_iff (n := n)]
    constructor
    · rintro (⟨i, h1, h2⟩ | h)
      · exact ⟨i, by omega, h2⟩
      · exact ⟨n, by omega, h⟩
    · rintro ⟨i, h1, h2⟩
      by_cases e : i = n
      · subst e; exact Or.inr h2
      · exact Or.inl ⟨i, by omega, h2⟩
def srv1 (A : EL) (B s : Nat) (nr : Bool) (v : Nat) : Bool := (mb A s).testBit v && decide (wt A v s ≤ wt A v B + if nr = true then bmi A B v s else 0)
def srv (A : EL) (B s : Nat) (nr : Bool) : Bool := exq (srv1 A B s nr) (eV A)
def dueG (A : EL) (s : Nat) : Bool := decide (0 < pcn 24 (mb A s) ∧ csum A s * eV A ≤ pcn 24 (mb A s) * eM A)
theorem b1_n (c : Bool) : (if c = true then (1 : Int32) else 0) = nI (if c = true then 1 else 0) := by cases c <;> rfl
/-- s & ~B -/
theorem andnot (s B : Nat) (hs : s < 2147483648) : ∃ x, nI s &&& (nI B ^^^ (-1)) = nI x ∧ x < 2147483648 ∧ ∀ i, i < 31 → x.testBit i = (s.testBit i && !B.testBit i) := by
  refine ⟨s &&& (4294967295 - B % 4294967296), ?_, Nat.lt_of_le_of_lt Nat.and_le_left hs, fun i hi => ?_⟩
  · apply Int32.toBitVec.inj
    show BitVec.ofNat 32 s &&& (BitVec.ofNat 32 B ^^^ (-1#32)) = BitVec.ofNat 32 (s &&& (4294967295 - B % 4294967296))
    apply BitVec.eq_of_getLsbD_eq
    intro i hi
    have hB : B % 4294967296 < 2 ^ 32 := Nat.mod_lt _ (by decide)
    have e1 : (4294967295 - B % 4294967296).testBit i = !(B.testBit i) := by
      rw [show 4294967295 - B % 4294967296 = 2 ^ 32 - (B % 4294967296 + 1) by omega, Nat.testBit_two_pow_sub_succ hB, show 4294967296 = 2 ^ 32 from rfl, Nat.testBit_mod_two_pow]
      simp [hi]
    have e2 : (-1#32).getLsbD i = true := by
      have : ∀ i, i < 32 → (-1#32).getLsbD i = true := by decide +kernel
      exact this i hi
    rw [BitVec.getLsbD_and, BitVec.getLsbD_xor, BitVec.getLsbD_ofNat, BitVec.getLsbD_ofNat, BitVec.getLsbD_ofNat, e2, Nat.testBit_and, e1]
    simp [hi]
  · have hB : B % 4294967296 < 2 ^ 32 := Nat.mod_lt _ (by decide)
    rw [Nat.testBit_and, show 4294967295 - B % 4294967296 = 2 ^ 32 - (B % 4294967296 + 1) by omega, Nat.testBit_two_pow_sub_succ hB, show 4294967296 = 2 ^ 32 from rfl, Nat.testBit_mod_two_pow]
    have : i < 32 := by omega
    simp [this]
theorem s_mostOf {Y : XS} {n : Nat} {S : PS} {p v s B x : Nat} {A : EL} (hn : 100 ≤ n) (hP : SP Y S p) (hA : PV Y S p A) (hv : v < eV A) (hx : x < 2147483648) (hb : ∀ i, i < 31 → x.testBit i = (s.testBit i && !B.testBit i)) : fX2_mostOf Y n S p (nI v) (nI x) = some (nI (bmi A B v s)) := by
  obtain ⟨⟨e1, e2, e3, e4, e5, e6⟩, h0, h1, h2, h3, h4, h5, h6, l1, l2, l3, l4, l5, l6⟩ := hP
  obtain ⟨⟨a0, a1, a2, a3, a4, a5, a6, a7⟩, hT⟩ := hA
  have b1 := a7.2.1
  have b2 := a7.2.2.1
  unfold fX2_mostOf
  refine kc_run (fun i => (nI (mxf (fun q => if s.testBit q = true ∧ B.testBit q = false then wo A q v else 0) i), nI i)) (eP A) (fun i hi => ?_) ?_ (by omega) rfl rfl
  · have t := (hT i hi).2.2.2 v hv
    have hw := wo_le A i v
    have hm := mxf_le (f := fun q => if s.testBit q = true ∧ B.testBit q = false then wo A q v else 0) (c := 9999) (fun q => by
      split
      · exact wo_le A q v
      · exact Nat.zero_le _) i
    have hbi := hb i (by omega)
    unfold bX2_mostOf_5 jX2_mostOf_43_5
    simp (discharger := omega) only [kgr_n h0, kgi, a1, nle, if_neg, s_isIn, kc_s, kgr_n h4, show (24 : Int32) = nI 24 from rfl, nmul, nI_add, kai_n, t, nmax, nI_1, mxf_s]
    by_cases c : x.testBit i = true
    · have c' : s.testBit i = true ∧ B.testBit i = false := by
        rw [hbi, Bool.and_eq_true] at c
        exact ⟨c.1, by simpa using c.2⟩
      rw [if_pos c, if_neg (by decide), if_pos c']
    · have c' : ¬ (s.testBit i = true ∧ B.testBit i = false) := by
        rintro ⟨y1, y2⟩
        rw [hbi, y1, y2] at c
        exact c rfl
      rw [if_neg c, if_pos rfl, if_neg c', Nat.max_zero]
  · unfold bX2_mostOf_5
    simp (discharger := omega) only [kgr_n h0, kgi, a1, nle, if_pos]
    rfl
theorem s_serves {Y : XS} {n : Nat} {S : PS} {g p s B : Nat} {A : EL} {nr : Bool} (hn : 100 ≤ n) (hP : SP Y S p) (hA : PV Y S p A) (hs : s < 2147483648) (hB : B < 2147483648) : fX2_serves Y n S g p (nI B) (nI s) (if nr = true then 1 else 0) = some (if srv A B s nr = true then 1 else 0) := by
  have a7 := hA.1.2.2.2.2.2.2.2
  have b1 := a7.2.1
  have b2 := a7.2.2.1
  have a2 := hA.1.2.2.1
  have hmb : mb A s < 16777216 := mb_lt a7 s _
  unfold fX2_serves
  rw [s_members hn hP hA hs, kc_s]
  obtain ⟨x, x1, x2, x3⟩ := andnot s B hs
  have key : ok (iter (bX2_serves_10 Y n S p (nI B) (nI s) (if nr = true then 1 else 0) (nI (mb A s))) n (0 : Int32)) (fun r => (r = .inl () ∧ srv A B s nr = false) ∨ (r = .inr 1 ∧ srv A B s nr = true)) := by
    refine iter_ok (fun i t => t = nI i ∧ exq (srv1 A B s nr) i = false) (eV A) (fun i t hi h => ?_) (fun t h => ?_) (by omega) ⟨rfl, rfl⟩
    · obtain ⟨k1, k2⟩ := h
      subst k1
      have w1 := wt_le a7 i B
      have w2 := wt_le a7 i s
      have w3 := bmi_le A B i s
      have tail : ∀ m : Nat, (m = if nr = true then bmi A B i s else 0) → ok (jX2_serves_49_10 Y n S p (nI B) (nI s) (if nr = true then 1 else 0) (nI (mb A s)) (nI i) (nI m) (nI (wt A i B))) (so (fun t => t = nI (i + 1) ∧ exq (srv1 A B s nr) (i + 1) = false) (fun r => (r = .inl () ∧ srv A B s nr = false) ∨ (r = .inr 1 ∧ srv A B s nr = true))) := by
        intro m hm
        have hm2 : m ≤ 9999 := by rw [hm]; split <;> omega
        unfold jX2_serves_49_10 jX2_serves_76_10
        rw [s_isIn (by omega) (by omega), kc_s]
        by_cases c : (mb A s).testBit i = true
        · rw [if_pos c, if_neg (by decide), s_worthTo hn hP hA hi hs, kc_s, nI_add]
          simp (discharger := omega) only [nlt]
          by_cases c2 : wt A i B + m < wt A i s
          · rw [if_pos c2, nI_1, ok_some, so_l]
            refine ⟨rfl, ?_⟩
            rw [exq_s, k2]
            show (false || ((mb A s).testBit i && decide (wt A i s ≤ wt A i B + if nr = true then bmi A B i s else 0))) = false
            rw [← hm, decide_eq_false (by omega)]
            simp
          · rw [if_neg c2]
            unfold kzr
            rw [if_pos (Or.inr rfl), ok_some, so_r]
            right
            refine ⟨rfl, ?_⟩
            unfold srv
            rw [exq_iff]
            refine ⟨i, hi, ?_⟩
            show ((mb A s).testBit i && decide (wt A i s ≤ wt A i B + if nr = true then bmi A B i s else 0)) = true
            rw [← hm, decide_eq_true (by omega), c]
            rfl
        · rw [if_neg c, if_pos rfl, nI_1, ok_some, so_l]
          refine ⟨rfl, ?_⟩
          have c' : (mb A s).testBit i = false := by simpa using c
          rw [exq_s, k2]
          show (false || ((mb A s).testBit i && _)) = false
          rw [c']
          simp
      unfold bX2_serves_10
      simp (discharger := omega) only [kgr_n hP.2.1, kgi, a2, nle, if_neg]
      rw [s_worthTo hn hP hA hi hB, kc_s]
      cases nr with
      | false =>
        rw [if_pos (show (if false = true then (1 : Int32) else 0) = 0 from rfl)]
        exact tail 0 rfl
      | true =>
        rw [if_neg (by decide), x1, s_mostOf hn hP hA hi x2 x3, kc_s]
        exact tail _ rfl
    · obtain ⟨k1, k2⟩ := h
      subst k1
      unfold bX2_serves_10
      simp (discharger := omega) only [kgr_n hP.2.1, kgi, a2, nle, if_pos, ok_some, so_r]
      exact Or.inl ⟨trivial, k2⟩
  obtain ⟨r, h1, h2⟩ := key
  rw [h1, kc_s]
  rcases h2 with ⟨rfl, h2⟩ | ⟨rfl, h2⟩
  · rw [h2]
    rfl
  · rw [h2]
    rfl
theorem pcn_pos {m : Nat} (h : m < 16777216) : (0 < pcn 24 m) = (m ≠ 0) := by
  apply propext
  constructor
  · rintro h1 rfl
    exact absurd h1 (by decide)
  · intro h1
    have := pcn_low 24 m (by omega) h
    omega
theorem s_isDue {Y : XS} {n : Nat} {S : PS} {p m c : Nat} {A : EL} (hP : SP Y S p) (hA : EV Y S (p + 1) A) (hm : m < 16777216) (hc : c ≤ 119988) : fX6_isDue Y n S p (nI m) (nI c) = some (if decide (0 < pcn 24 m ∧ c * eV A ≤ pcn 24 m * eM A) = true then 1 else 0) := by
  have h0 := hP.2.1
  obtain ⟨a0, a1, a2, a3, a4, a5, a6, a7⟩ := hA
  have b0 := a7.1
  have b2 := a7.2.2.1
  have hp : pcn 24 m ≤ 24 := by rw [pcn_tb]; exact nK_le
  have m1' : pcn 24 m * eM A ≤ 24 * 99999 := Nat.mul_le_mul hp b0
  have m2' : c * eV A ≤ 119988 * 24 := Nat.mul_le_mul hc b2
  have hpp := pcn_pos hm
  unfold fX6_isDue jX6_isDue_32 jX6_isDue_33
  rw [s_bitCount hm]
  simp (discharger := omega) only [kgr_n h0, kgi, a0, a2, kc_s, nmul, nlt, show (0 : Int32) = nI 0 from rfl, neq]
  by_cases c1 : m = 0
  · rw [if_pos c1, if_neg]
    · rfl
    · rw [decide_eq_true_eq, hpp]
      rintro ⟨y, _⟩
      exact y c1
  · rw [if_neg c1]
    by_cases c2 : pcn 24 m * eM A < c * eV A
    · rw [if_pos c2, if_neg]
      · rfl
      · rw [decide_eq_true_eq]
        rintro ⟨_, y⟩
        omega
    · rw [if_neg c2, if_pos]
      · rfl
      · rw [decide_eq_true_eq, hpp]
        exact ⟨c1, by omega⟩
