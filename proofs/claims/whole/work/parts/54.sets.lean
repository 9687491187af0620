/-! POLLS: what a set of projects is worth, who wants it. -/
def wt (A : EL) (v s : Nat) : Nat := sm (fun q => if s.testBit q = true then wo A q v else 0) (eP A)
def wa (A : EL) (s : Nat) : Nat := sm (fun q => if s.testBit q = true then al A q else 0) (eP A)
def mw (f : Nat → Nat) : Nat → Nat
  | 0 => f 0
  | k + 1 => min (mw f k) (f (k + 1))
def ww (A : EL) (s : Nat) : Nat := if eV A = 0 then 0 else mw (fun v => wt A v s) (eV A - 1)
def us (A : EL) (s : Nat) : Nat := sm (fun v => if wt A v s = 0 then 1 else 0) (eV A)
def allq (f : Nat → Bool) : Nat → Bool
  | 0 => true
  | n + 1 => allq f n && f n
theorem allq_iff {f : Nat → Bool} : ∀ {n : Nat}, allq f n = true ↔ ∀ q, q < n → f q = true
  | 0 => by simp [allq]
  | n + 1 => by
    unfold allq
    rw [Bool.and_eq_true, allq_iff (n := n)]
    constructor
    · rintro ⟨h1, h2⟩ q hq
      by_cases e : q = n
      · rw [e]; exact h2
      · exact h1 q (by omega)
    · intro h
      exact ⟨fun q hq => h q (by omega), h n (by omega)⟩
def mbi (A : EL) (s i : Nat) : Nat := bs (fun v => allq (fun q => !s.testBit q || decide (0 < wo A q v)) i) (eV A)
/-- the members of a group -/
def mb (A : EL) (s : Nat) : Nat := mbi A s (eP A)
theorem mb_lt {A : EL} (h : EW A) (s i : Nat) : mbi A s i < 16777216 := Nat.lt_of_lt_of_le (bs_lt _ _) (p24 h.2.2.1)
theorem wt_le {A : EL} (h : EW A) (v s : Nat) : wt A v s ≤ 119988 := by
  have := sm_le (f := fun q => if s.testBit q = true then wo A q v else 0) (c := 9999) (n := eP A) (fun i _ => by split; exact wo_le A i v; exact Nat.zero_le _)
  have := h.2.1
  unfold wt
  omega
theorem wa_le {A : EL} (h : EW A) (s : Nat) : wa A s ≤ 2879712 := by
  have := sm_le (f := fun q => if s.testBit q = true then al A q else 0) (c := 239976) (n := eP A) (fun i _ => by split; exact al_le h i; exact Nat.zero_le _)
  have := h.2.1
  unfold wa
  omega
theorem csum_le {A : EL} (h : EW A) (s : Nat) : csum A s ≤ 119988 := by
  have := sm_le (f := cst A s) (c := 9999) (n := eP A) (fun i hi => by unfold cst; split; exact (h.2.2.2.1 i hi).2; exact Nat.zero_le _)
  have := h.2.1
  unfold csum
  omega
theorem mw_le {f : Nat → Nat} {c : Nat} (h : ∀ i, f i ≤ c) : ∀ n, mw f n ≤ c
  | 0 => h 0
  | n + 1 => by
    have := h (n + 1)
    unfold mw
    omega
theorem ww_le {A : EL} (h : EW A) (s : Nat) : ww A s ≤ 119988 := by
  unfold ww
  split
  · omega
  · exact mw_le (fun v => wt_le h v s) _
theorem nmin {a b : Nat} (ha : a < 2147483648) (hb : b < 2147483648) : imin (nI a) (nI b) = nI (min a b) := by
  unfold imin
  simp only [nlt hb ha]
  by_cases h : b < a
  · rw [if_pos h, Nat.min_eq_right (by omega)]
  · rw [if_neg h, Nat.min_eq_left (by omega)]
theorem nmax {a b : Nat} (ha : a < 2147483648) (hb : b < 2147483648) : imax (nI a) (nI b) = nI (max a b) := by
  unfold imax
  simp only [nlt ha hb]
  by_cases h : a < b
  · rw [if_pos h, Nat.max_eq_right (by omega)]
  · rw [if_neg h, Nat.max_eq_left (by omega)]
theorem s_worthTo {Y : XS} {n : Nat} {S : PS} {p v s : Nat} {A : EL} (hn : 100 ≤ n) (hP : SP Y S p) (hA : PV Y S p A) (hv : v < eV A) (hs : s < 2147483648) : fX6_worthTo Y n S p (nI v) (nI s) = some (nI (wt A v s)) := by
  obtain ⟨⟨e1, e2, e3, e4, e5, e6⟩, h0, h1, h2, h3, h4, h5, h6, l1, l2, l3, l4, l5, l6⟩ := hP
  obtain ⟨⟨a0, a1, a2, a3, a4, a5, a6, a7⟩, hT⟩ := hA
  have b1 := a7.2.1
  have b2 := a7.2.2.1
  unfold fX6_worthTo
  refine kc_run (fun i => (nI (sm (fun q => if s.testBit q = true then wo A q v else 0) i), nI i)) (eP A) (fun i hi => ?_) ?_ (by omega) rfl rfl
  · have t := (hT i hi).2.2.2 v hv
    simp (discharger := omega) only [bX6_worthTo_5, kgr_n h0, kgr_n h4, kgi, a1, nle, if_neg, s_isIn, kc_s, show (24 : Int32) = nI 24 from rfl, nmul, nI_add, kai_n, t, jX6_worthTo_41_5, nI_1, sm_s]
    by_cases hb : s.testBit i = true
    · simp [hb]
    · simp [hb]
  · simp (discharger := omega) only [bX6_worthTo_5, kgr_n h0, kgi, a1, nle, if_pos]
    rfl
theorem s_worthToAll {Y : XS} {n : Nat} {S : PS} {p s : Nat} {A : EL} (hn : 100 ≤ n) (hP : SP Y S p) (hA : PV Y S p A) (hs : s < 2147483648) : fX6_worthToAll Y n S p (nI s) = some (nI (wa A s)) := by
  obtain ⟨⟨e1, e2, e3, e4, e5, e6⟩, h0, h1, h2, h3, h4, h5, h6, l1, l2, l3, l4, l5, l6⟩ := hP
  obtain ⟨⟨a0, a1, a2, a3, a4, a5, a6, a7⟩, hT⟩ := hA
  have b1 := a7.2.1
  unfold fX6_worthToAll
  refine kc_run (fun i => (nI (sm (fun q => if s.testBit q = true then al A q else 0) i), nI i)) (eP A) (fun i hi => ?_) ?_ (by omega) rfl rfl
  · have t := (hT i hi).2.1
    simp (discharger := omega) only [bX6_worthToAll_4, kgr_n h0, kgr_n h2, kgi, a1, nle, if_neg, s_isIn, kc_s, kai_n, t, jX6_worthToAll_32_4, nI_1, sm_s]
    by_cases hb : s.testBit i = true
    · simp [hb, nI_add]
    · simp [hb]
  · simp (discharger := omega) only [bX6_worthToAll_4, kgr_n h0, kgi, a1, nle, if_pos]
    rfl
theorem s_worthToWorst {Y : XS} {n : Nat} {S : PS} {p s : Nat} {A : EL} (hn : 100 ≤ n) (hP : SP Y S p) (hA : PV Y S p A) (hs : s < 2147483648) : fX6_worthToWorst Y n S p (nI s) = some (nI (ww A s)) := by
  have h0 := hP.2.1
  have a2 := hA.1.2.2.1
  have a7 := hA.1.2.2.2.2.2.2.2
  have b2 := a7.2.2.1
  unfold fX6_worthToWorst
  rw [kgr_n h0, kgi_n, a2]
  by_cases hV : eV A = 0
  · rw [hV, if_pos (show nI 0 = 0 from rfl)]
    unfold jX6_worthToWorst_20
    refine kc_run (fun _ => ((0 : Int32), (1 : Int32))) (r := 0) 0 (fun i hi => absurd hi (Nat.not_lt_zero _)) ?_ (by omega) rfl (by simp [ww, hV]; rfl)
    · simp (discharger := omega) only [bX6_worthToWorst_23, kgr_n h0, kgi, a2, hV, show (1 : Int32) = nI 1 from rfl, nle, if_pos]
  · rw [if_neg (nI_ne0 (by omega) (by omega)), show (0 : Int32) = nI 0 from rfl, s_worthTo hn hP hA (by omega) hs, kc_s]
    unfold jX6_worthToWorst_20
    refine kc_run (fun i => (nI (mw (fun v => wt A v s) i), nI (i + 1))) (eV A - 1) (r := nI (mw (fun v => wt A v s) (eV A - 1))) (fun i hi => ?_) ?_ (by omega) rfl (by simp [ww, hV])
    · have w1 := wt_le a7 (i + 1) s
      have w2 := mw_le (fun v => wt_le a7 v s) i
      simp (discharger := omega) only [bX6_worthToWorst_23, kgr_n h0, kgi, a2, nle, if_neg]
      rw [s_worthTo hn hP hA (by omega) hs, kc_s, nmin (by omega) (by omega), nI_1]
      rfl
    · simp (discharger := omega) only [bX6_worthToWorst_23, kgr_n h0, kgi, a2, nle, if_pos]
theorem s_unserved {Y : XS} {n : Nat} {S : PS} {p s : Nat} {A : EL} (hn : 100 ≤ n) (hP : SP Y S p) (hA : PV Y S p A) (hs : s < 2147483648) : fX6_unserved Y n S p (nI s) = some (nI (us A s)) := by
  have h0 := hP.2.1
  have a2 := hA.1.2.2.1
  have a7 := hA.1.2.2.2.2.2.2.2
  have b2 := a7.2.2.1
  unfold fX6_unserved
  refine kc_run (fun i => (nI (sm (fun v => if wt A v s = 0 then 1 else 0) i), nI i)) (eV A) (fun i hi => ?_) ?_ (by omega) rfl rfl
  · have w1 := wt_le a7 i s
    simp (discharger := omega) only [bX6_unserved_4, kgr_n h0, kgi, a2, nle, if_neg]
    rw [s_worthTo hn hP hA hi hs, kc_s, show (0 : Int32) = nI 0 from rfl]
    unfold jX6_unserved_27_4
    simp (discharger := omega) only [neq, nI_1, sm_s]
    by_cases hb : wt A i s = 0
    · rw [if_pos hb, if_pos hb]
    · rw [if_neg hb, if_neg hb]
      rfl
  · simp (discharger := omega) only [bX6_unserved_4, kgr_n h0, kgi, a2, nle, if_pos]
    rfl
theorem mbi_s {A : EL} {s i : Nat} : mbi A s (i + 1) = if s.testBit i = true then mbi A s i &&& fb A i else mbi A s i := by
  apply Nat.eq_of_testBit_eq
  intro v
  unfold mbi fb
  rw [bs_tb]
  by_cases hb : s.testBit i = true
  · rw [if_pos hb, Nat.testBit_and, bs_tb, bs_tb]
    simp only [allq, hb]
    cases decide (v < eV A) <;> simp
  · rw [if_neg hb, bs_tb]
    simp [allq, hb]
theorem s_members {Y : XS} {n : Nat} {S : PS} {p s : Nat} {A : EL} (hn : 100 ≤ n) (hP : SP Y S p) (hA : PV Y S p A) (hs : s < 2147483648) : fX6_members Y n S p (nI s) = some (nI (mb A s)) := by
  obtain ⟨⟨e1, e2, e3, e4, e5, e6⟩, h0, h1, h2, h3, h4, h5, h6, l1, l2, l3, l4, l5, l6⟩ := hP
  obtain ⟨⟨a0, a1, a2, a3, a4, a5, a6, a7⟩, hT⟩ := hA
  have b1 := a7.2.1
  have b2 := a7.2.2.1
  have hx : (1 : Int32) <<< (nI (eV A) &&& 31) - 1 = nI (mbi A s 0) := by
    have h := nshl (s := 1) (p := eV A) (by omega) (by have := p24 b2; omega)
    rw [Nat.one_mul] at h
    have h' : (1 : Int32) <<< (nI (eV A) &&& 31) = nI (2 ^ eV A) := h
    have hp : 1 ≤ 2 ^ eV A := Nat.one_le_two_pow
    rw [h', show (1 : Int32) = nI 1 from rfl, nsub hp]
    congr 1
    apply Nat.eq_of_testBit_eq
    intro i
    unfold mbi
    rw [Nat.testBit_two_pow_sub_one, bs_tb]
    simp [allq]
  unfold fX6_members
  rw [kgr_n h0, kgi_n, a2, hx]
  refine kc_run (fun i => (nI (mbi A s i), nI i)) (eP A) (fun i hi => ?_) ?_ (by omega) rfl rfl
  · have t := (hT i hi).2.2.1
    simp (discharger := omega) only [bX6_members_14, kgr_n h0, kgr_n h3, kgi, a1, nle, if_neg, s_isIn, kc_s, kai_n, t, jX6_members_42_14, nI_1, mbi_s]
    by_cases hb : s.testBit i = true
    · simp [hb, nand]
    · simp [hb]
  · simp (discharger := omega) only [bX6_members_14, kgr_n h0, kgi, a1, nle, if_pos]
    rfl
