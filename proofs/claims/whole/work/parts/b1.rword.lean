/-! THE CLASS'S READER: signs, words, names, numbers. -/
theorem c_isSign {Y : XS} {n : Nat} {S : PS} {X : TX} {k b : Nat} (hX : RX S X) (hL : LT S X k) (hb : b < 128) : fX7_isSign Y n S 1 (nI b) = some (if isS X k b = true then 1 else 0) := by
  have tl := tk_le X k
  unfold fX7_isSign jX7_isSign_20 jX7_isSign_21 isS
  rw [kzr0, kzr1, kgi_n, hL.2.2.1, show (3 : Int32) = nI 3 from rfl, i_eq (by omega) (by decide)]
  by_cases c : tk X k = 3
  · have hk := (tk_3 c).1
    have h9 := hL.2.2.2.2.2 (by omega)
    unfold vl at h9
    rw [if_neg (by omega), if_neg (by omega)] at h9
    rw [if_pos c, kgi_n, h9]
    simp only [sb_eq (hX.2.2 k hk).2 hb, decide_eq_true_eq]
    by_cases d : X.2 k = b
    · rw [if_pos d, if_pos ⟨c, d⟩]
    · rw [if_neg d, if_neg (fun z => d z.2)]
  · rw [if_neg c, if_neg (by rw [decide_eq_true_eq]; exact fun z => c z.1)]
theorem allq_s (f : Nat → Bool) (n : Nat) : allq f (n + 1) = (allq f n && f n) := rfl
theorem allq_no {f : Nat → Bool} {i : Nat} (h : f i = false) : ∀ {n : Nat}, i < n → allq f n = false
  | 0, h' => by omega
  | n + 1, h' => by
    rw [allq_s]
    by_cases e : i = n
    · subst e
      rw [h]
      simp
    · rw [allq_no h (n := n) (by omega)]
      rfl
theorem c_isWord {Y : XS} {n : Nat} {S : PS} {X : TX} {k i : Nat} (hn : 10000 ≤ n) (hR : RSt Y S) (hX : RX S X) (hL : LT S X k) (hi : 1 ≤ i) (hi9 : i < 9) : fX7_isWord Y n S 1 i = some (if isW X k i = true then 1 else 0) := by
  have tl := tk_le X k
  have wl := wch_l i hi9 hi
  have x5 := hX.2.1.1
  have l6 := hR.2.2.2.2.1
  have tle := te_le hL.1
  unfold fX7_isWord jX7_isWord_19 jX7_isWord_71 isW
  rw [kzr0, kzr1, kgi_n, hL.2.2.1, show (1 : Int32) = nI 1 from rfl, show Int32.ofNat (strL i) = nI (strL i) from rfl]
  rw [i_eq (by omega) (by decide)]
  by_cases c : tk X k = 1
  · have hk := (tk_1 c).1
    have h9 := hL.2.2.2.2.2 (by omega)
    unfold vl at h9
    rw [if_pos c] at h9
    rw [if_pos c, kgi_n, h9, i_eq (by omega) (by omega)]
    by_cases d : te X k - k = strL i
    · rw [if_pos d, decide_eq_true (show tk X k = 1 ∧ te X k - k = strL i from ⟨c, d⟩), Bool.true_and]
      have key : ok (iter (bX7_isWord_23 Y n S 1 i) n (0 : Int32)) (fun r => (r = .inl () ∧ allq (fun j => decide (X.2 (k + j) = wch i j)) (strL i) = true) ∨ (r = .inr 0 ∧ allq (fun j => decide (X.2 (k + j) = wch i j)) (strL i) = false)) := by
        refine iter_ok (fun j t => t = nI j ∧ allq (fun j => decide (X.2 (k + j) = wch i j)) j = true) (strL i) (fun j t hj h1 => ?_) (fun t h1 => ?_) (by omega) ⟨rfl, rfl⟩
        · obtain ⟨rfl, h2⟩ := h1
          have hb := hX.2.2 (k + j) (by omega)
          have wc := wch_c i hi9 hi j (by omega) hj
          unfold bX7_isWord_23 kch
          rw [show Int32.ofNat (strL i) = nI (strL i) from rfl, i_le (by omega) (by omega), if_neg (by omega), kgi_n, hL.2.2.2.1, kgi_n, hX.1, nI_add, i_le (by omega) (by omega), if_neg (by omega), kgr_n hR.2.1, kgi_n, hL.2.2.2.1, nI_add, kai_n (by omega) (by omega), if_pos (inb_n hj (by omega)), wc.1, hb.1]
          simp only [sb_eq hb.2 (show wch i j < 128 by omega)]
          by_cases e : X.2 (k + j) = wch i j
          · rw [if_pos e, nI_1, ok_some, so_l]
            refine ⟨rfl, ?_⟩
            rw [allq_s, h2, decide_eq_true e]
            rfl
          · rw [if_neg e, kzr0, ok_some, so_r]
            exact Or.inr ⟨rfl, allq_no (i := j) (decide_eq_false e) hj⟩
        · obtain ⟨rfl, h2⟩ := h1
          unfold bX7_isWord_23
          rw [show Int32.ofNat (strL i) = nI (strL i) from rfl, i_le (by omega) (by omega), if_pos (by omega), ok_some, so_r]
          exact Or.inl ⟨rfl, h2⟩
      obtain ⟨r, h1, h2⟩ := key
      rw [h1, kc_s]
      rcases h2 with ⟨rfl, h2⟩ | ⟨rfl, h2⟩
      · rw [h2]; rfl
      · rw [h2]; rfl
    · rw [if_neg d, decide_eq_false (fun z => d z.2)]
      rfl
  · rw [if_neg c, decide_eq_false (fun z => c z.1)]
    rfl
theorem c_isName {Y : XS} {n : Nat} {S : PS} {X : TX} {k : Nat} (hn : 10000 ≤ n) (hR : RSt Y S) (hX : RX S X) (hL : LT S X k) : fX7_isName Y n S 1 = some (if isN X k = true then 1 else 0) := by
  have tl := tk_le X k
  have x5 := hX.2.1.1
  have tle := te_le hL.1
  unfold fX7_isName jX7_isName_48 jX7_isName_49 isN
  rw [kzr0, kzr1, kgi_n, hL.2.2.1, show (1 : Int32) = nI 1 from rfl, i_eq (by omega) (by decide), c_isWord hn hR hX hL (by decide) (by decide), kc_s, c_isWord hn hR hX hL (by decide) (by decide), kc_s, c_isWord hn hR hX hL (by decide) (by decide), kc_s]
  by_cases c : tk X k = 1
  · have h9 := hL.2.2.2.2.2 (by omega)
    unfold vl at h9
    rw [if_pos c] at h9
    rw [if_pos c, kgi_n, h9, show (6 : Int32) = nI 6 from rfl, i_lt (by decide) (by omega)]
    by_cases d : 6 < te X k - k
    · rw [if_pos d, decide_eq_false (fun z => absurd z.2 (by omega))]
      rfl
    · rw [if_neg d, decide_eq_true ⟨c, (by omega : te X k - k ≤ 6)⟩, Bool.true_and]
      cases e1 : isW X k 1 <;> cases e3 : isW X k 3 <;> cases e4 : isW X k 4 <;> rfl
  · rw [if_neg c, decide_eq_false (fun z => c z.1)]
    rfl
theorem c_letter {Y : XS} {n : Nat} {S : PS} {X : TX} {k i : Nat} (hR : RSt Y S) (hX : RX S X) (hL : LT S X k) (c : tk X k = 1) (hi : i < 6) : fX7_letter Y n S 1 (nI i) = some (nI (lt1 X k i)) := by
  have x5 := hX.2.1.1
  have l6 := hR.2.2.2.2.1
  have tle := te_le hL.1
  have hk := (tk_1 c).1
  have h9 := hL.2.2.2.2.2 (by omega)
  unfold vl at h9
  rw [if_pos c] at h9
  unfold fX7_letter jX7_letter_40 jX7_letter_41 lt1
  rw [kgi_n, h9, i_le (by omega) (by omega)]
  by_cases d : te X k - k ≤ i
  · rw [if_pos d, if_neg (by omega)]
    rfl
  · have hin := sk_in (X := X) (P := isLt) (k := k) (j := k + i) (by omega) (by rw [← (tk_1 c).2.2]; omega)
    have hb := hX.2.2 (k + i) hin.1
    have hl := of_decide_eq_true hin.2
    rw [if_neg d, kgi_n, hL.2.2.2.1, kgi_n, hX.1, nI_add, i_le (by omega) (by omega), if_neg (by omega), kgr_n hR.2.1, kgi_n, hL.2.2.2.1, nI_add, kai_n (by omega) (by omega), hb.1, sb_lo _ (by omega), show (97 : Int32) = nI 97 from rfl, nsub (by omega), nI_1, if_pos (by omega)]
    congr 2
    omega
/-- what is told so far -/
def TD (Y : XS) (S : PS) (A : EL) : Prop := gi S 2 0 = nI (eM A) ∧ gi S 2 1 = nI (eP A) ∧ gi S 2 2 = nI (eV A) ∧ (∀ p, p < eP A → gi S 3 p = nI (eC A p)) ∧ (∀ p k, p < eP A → k < 6 → gi S 4 (p * 6 + k) = eNm A p k) ∧ (∀ p v, p < 12 → v < 24 → gi S 5 (p * 24 + v) = nI (eS A p v)) ∧ LawV Y S (gr S 2 3) (eL A) ∧ EW A ∧ ∀ p v, (eP A ≤ p ∨ eV A ≤ v) → eS A p v = 0
theorem TD.ev {Y : XS} {S : PS} {A : EL} (h : TD Y S A) : EV Y S 2 A := by
  obtain ⟨h1, h2, h3, h4, h5, h6, h7, h8, h9⟩ := h
  exact ⟨h1, h2, h3, h4, h5, fun p v hp hv => h6 p v (by have := h8.2.1; omega) (by have := h8.2.2.1; omega), h7, h8⟩
theorem TD.ew {Y : XS} {S : PS} {A : EL} (h : TD Y S A) : EW A := h.2.2.2.2.2.2.2.1
theorem TD.fr {Y : XS} {S S' : PS} {M : Nat → Prop} {A : EL} (h : TD Y S A) (f : Fr M S S') (hd : ∀ x, (2 ≤ x ∧ x ≤ 5) ∨ 235 ≤ x → ¬ M x) : TD Y S' A := by
  obtain ⟨h1, h2, h3, h4, h5, h6, h7, h8, h9⟩ := h
  have e2 := f.gi (hd 2 (by omega))
  have e3 := f.gi (hd 3 (by omega))
  have e4 := f.gi (hd 4 (by omega))
  have e5 := f.gi (hd 5 (by omega))
  refine ⟨by rw [e2]; exact h1, by rw [e2]; exact h2, by rw [e2]; exact h3, fun p hp => by rw [e3]; exact h4 p hp, fun p k hp hk => by rw [e4]; exact h5 p k hp hk, fun p v hp hv => by rw [e5]; exact h6 p v hp hv, ?_, h8, h9⟩
  rw [f.gr]
  exact h7.mv (LH.fr f (fun b hb => hd b (by omega)))
theorem c_named {Y : XS} {n : Nat} {S : PS} {X : TX} {A : EL} {k : Nat} (hn : 10000 ≤ n) (hR : RSt Y S) (hX : RX S X) (hL : LT S X k) (c : tk X k = 1) (hT : TD Y S A) : fX7_named Y n S 1 = some (oI (nmd X A k)) := by
  have b1 := hT.ew.2.1
  have e5 := hR.2.2.2.2.2.2.2.2.1
  have l4 := hR.2.2.2.2.2.2.2.2.2.2.2.1
  have inner : ∀ p, p < eP A → iter (bX7_named_17 Y n S 1 (nI p)) n ((1 : Int32), (0 : Int32)) = some (if allq (fun i => decide (eNm A p i = nI (lt1 X k i))) 6 = true then 1 else 0) := by
    intro p hp
    refine iter_run (fun i => ((if allq (fun i => decide (eNm A p i = nI (lt1 X k i))) i = true then (1 : Int32) else 0), nI i)) 6 (fun i hi => ?_) ?_ (by omega) rfl
    · unfold bX7_named_17 jX7_named_51_17
      dsimp only
      rw [show (6 : Int32) = nI 6 from rfl, i_le (by omega) (by omega), if_neg (by omega), kgr_n hR.1, kgr_n e5, nmul, nI_add, kai_n (by omega) (by omega), hT.2.2.2.2.1 p i hp hi, c_letter hR hX hL c hi, kc_s, nI_1, allq_s]
      by_cases d : eNm A p i = nI (lt1 X k i)
      · rw [if_pos d, decide_eq_true d]
        cases allq (fun i => decide (eNm A p i = nI (lt1 X k i))) i <;> rfl
      · rw [if_neg d, decide_eq_false d]
        cases allq (fun i => decide (eNm A p i = nI (lt1 X k i))) i <;> rfl
    · unfold bX7_named_17
      dsimp only
      rw [show (6 : Int32) = nI 6 from rfl, i_le (by omega) (by omega), if_pos (by omega)]
  have key : ok (iter (bX7_named_2 Y n S 1) n (0 : Int32)) (fun r => (r = .inl () ∧ nmd X A k = none) ∨ ∃ p, r = .inr (nI p) ∧ nmd X A k = some p) := by
    refine iter_ok (fun i t => t = nI i ∧ ∀ p, p < i → allq (fun j => decide (eNm A p j = nI (lt1 X k j))) 6 = false) (eP A) (fun i t hi h1 => ?_) (fun t h1 => ?_) (by omega) ⟨rfl, fun p hp => absurd hp (Nat.not_lt_zero _)⟩
    · obtain ⟨rfl, h2⟩ := h1
      unfold bX7_named_2
      rw [kgr_n hR.1, kgi_n, hT.2.1, i_le (by omega) (by omega), if_neg (by omega), inner i hi, kc_s]
      cases d : allq (fun j => decide (eNm A i j = nI (lt1 X k j))) 6 with
      | true =>
        rw [ifT rfl, ok_some, so_r]
        right
        refine ⟨i, rfl, ?_⟩
        have := fsf_first (f := fun p => allq (fun j => decide (eNm A p j = nI (lt1 X k j))) 6) h2 d (eP A - (i + 1))
        rw [show i + 1 + (eP A - (i + 1)) = eP A by omega] at this
        exact this
      | false =>
        rw [ifF rfl, nI_1, ok_some, so_l]
        refine ⟨rfl, fun p hp => ?_⟩
        by_cases e : p = i
        · subst e
          exact d
        · exact h2 p (by omega)
    · obtain ⟨rfl, h2⟩ := h1
      unfold bX7_named_2
      rw [kgr_n hR.1, kgi_n, hT.2.1, i_le (by omega) (by omega), if_pos (by omega), ok_some, so_r]
      exact Or.inl ⟨rfl, fsf_none h2⟩
  unfold fX7_named
  obtain ⟨r, h1, h2⟩ := key
  rw [h1, kc_s]
  rcases h2 with ⟨rfl, h2⟩ | ⟨p, rfl, h2⟩
  · rw [h2]; rfl
  · rw [h2]; rfl
theorem c_wrong {Y : XS} {n : Nat} {S : PS} {X : TX} {k : Nat} {x : Int32} (hL : LT S X k) : fX7_wrong Y n S 1 x = some (0, si (si S 1 4 x) 1 1 (nI k)) := by
  unfold fX7_wrong
  rw [kpi_n, kgi_n, Gn (by omega), hL.2.2.2.1, kpi_n, kzr0]
/-- a fault is kept -/
def FT (S : PS) (e : Nat × Nat) : Prop := gi S 1 4 = nI e.1 ∧ gi S 1 1 = nI e.2 ∧ 1 ≤ e.1 ∧ e.1 ≤ 5 ∧ e.2 ≤ 500 ∧ gi S 1 3 = nI 0
theorem FT.mk {S : PS} {X : TX} {k c : Nat} (hX : RX S X) (hL : LT S X k) (hc : 1 ≤ c ∧ c ≤ 5) : FT (si (si S 1 4 (nI c)) 1 1 (nI k)) (c, k) := ⟨by rw [Gn (by omega), Gp], Gp, hc.1, hc.2, Nat.le_trans hL.1 hX.2.1.1, by rw [Gn (by omega), Gn (by omega)]; exact hX.2.1.2⟩
def sNum (X : TX) (k lo hi : Nat) : (Nat × Nat) ⊕ Nat := if tk X k = 2 then (if lo ≤ nv X k ∧ nv X k ≤ hi then .inr (nv X k) else .inl (2, k)) else .inl (1, k)
theorem sNum_r {X : TX} {k lo hi v : Nat} (h : sNum X k lo hi = .inr v) : lo ≤ v ∧ v ≤ hi ∧ k < X.1 := by
  unfold sNum at h
  split at h
  · next c =>
    split at h
    · next d =>
      cases h
      exact ⟨d.1, d.2, (tk_2 c).1⟩
    · cases h
  · cases h
def NP (S : PS) (X : TX) (k : Nat) (q : Int32 × PS) : (Nat × Nat) ⊕ Nat → Prop
  | .inl e => q.1 = 0 ∧ FT q.2 e
  | .inr v => q.1 = 1 ∧ LT q.2 X k ∧ gi q.2 1 9 = nI v ∧ F6 S q.2
theorem c_readNumber {Y : XS} {n : Nat} {S : PS} {X : TX} {k lo hi : Nat} (hn : 10000 ≤ n) (hR : RSt Y S) (hX : RX S X) (hP : PT S X k) (h1 : lo ≤ 1000) (h2 : hi ≤ 1000000) :
    ok (fX7_readNumber Y n S 1 (nI lo) (nI hi)) (fun q => Fr (fun x => x = 1) S q.2 ∧ NP S X k q (sNum X k lo hi)) := by
  unfold fX7_readNumber
  refine ok_kc (c_next hn hR hX hP) ?_
  rintro T ⟨t1, t2, t3⟩
  have tl := tk_le X k
  have hXT : RX T X := hX.fr t1 (by omega) (fun j hj => t3 j (by omega))
  unfold jX7_readNumber_34 jX7_readNumber_42 jX7_readNumber_47 sNum
  rw [kgi_n, t2.2.2.1, show (2 : Int32) = nI 2 from rfl, i_eq (by omega) (by decide)]
  by_cases c : tk X k = 2
  · have h9 := t2.2.2.2.2.2 (by omega)
    unfold vl at h9
    rw [if_neg (by omega), if_pos c] at h9
    have nl : nv X k ≤ 1000000 := nvl_le _ _ _
    rw [if_pos c, if_pos c, kgi_n, h9, i_lt (by omega) (by omega), kgi_n, h9, i_le (by omega) (by omega), c_wrong t2, kc_s]
    by_cases d : lo ≤ nv X k ∧ nv X k ≤ hi
    · rw [if_neg (by omega), if_pos d.2, if_pos d, kzr1]
      exact ok_i ⟨t1, rfl, t2, h9, t3⟩
    · rw [if_neg d]
      have fin : ok (if ((0 : Int32), si (si T 1 4 (nI 2)) 1 1 (nI k)).1 = 0 then kzr 0 (some ((0 : Int32), ((0 : Int32), si (si T 1 4 (nI 2)) 1 1 (nI k)).2)) else kzr 1 (some ((1 : Int32), ((0 : Int32), si (si T 1 4 (nI 2)) 1 1 (nI k)).2))) (fun q => Fr (fun x => x = 1) S q.2 ∧ NP S X k q (.inl (2, k))) := by
        rw [if_pos rfl, kzr0]
        exact ok_i ⟨(t1.si rfl).si rfl, rfl, FT.mk hXT t2 (by decide)⟩
      by_cases d1 : nv X k < lo
      · rw [if_pos d1]
        exact fin
      · rw [if_neg d1, if_neg (by omega)]
        exact fin
  · rw [if_neg c, if_neg c, c_wrong t2, kc_s, kzr0]
    exact ok_i ⟨(t1.si rfl).si rfl, rfl, FT.mk (c := 1) hXT t2 (by decide)⟩
abbrev RR : Type := (Nat × Nat) ⊕ (EL × Nat)
def sEnd (X : TX) (A : EL) (k : Nat) : RR := if isS X k 59 = true then .inr (A, nx X k) else .inl (1, k)
/-- cells that reading a line changes -/
def Mr (x : Nat) : Prop := (1 ≤ x ∧ x ≤ 8) ∧ x ≠ 6
/-- fields that a line keeps, if it has no fault -/
def FL (S S' : PS) : Prop := ∀ j, j = 1 ∨ j = 3 ∨ j = 4 ∨ j = 5 → gi S' 1 j = gi S 1 j
theorem FL.rf {S : PS} : FL S S := fun _ _ => rfl
theorem FL.tr {S S' S'' : PS} (h : FL S S') (k : FL S' S'') : FL S S'' := fun j hj => (k j hj).trans (h j hj)
theorem F6.l {S S' : PS} (h : F6 S S') : FL S S' := fun j hj => h j (by omega)
def LnP (Y : XS) (S : PS) (X : TX) (r : Int32) (T : PS) : RR → Prop
  | .inl e => r = 0 ∧ FT T e
  | .inr z => r = 1 ∧ TD Y T z.1 ∧ PT T X z.2 ∧ FL S T
theorem c_readLineEnd {Y : XS} {n : Nat} {S : PS} {X : TX} {A : EL} {k : Nat} (hn : 10000 ≤ n) (hR : RSt Y S) (hX : RX S X) (hP : PT S X k) (hT : TD Y S A) :
    ok (fX7_readLineEnd Y n S 1) (fun q => Fr (fun x => x = 1) S q.2 ∧ LnP Y S X q.1 q.2 (sEnd X A k)) := by
  unfold fX7_readLineEnd jX7_readLineEnd_21 jX7_readLineEnd_26 sEnd
  refine ok_kc (c_next hn hR hX hP) ?_
  rintro T ⟨t1, t2, t3⟩
  have hXT : RX T X := hX.fr t1 (by omega) (fun j hj => t3 j (by omega))
  rw [show (59 : Int32) = nI 59 from rfl, c_isSign hXT t2 (by decide), kc_s]
  cases c : isS X k 59 with
  | true =>
    rw [ifT rfl, if_pos rfl, kzr1]
    exact ok_i ⟨t1, rfl, hT.fr t1 (by omega), t2.nxt, t3.l⟩
  | false =>
    rw [ifF rfl, if_neg (by decide), c_wrong t2, kc_s, if_pos rfl, kzr0]
    exact ok_i ⟨(t1.si rfl).si rfl, rfl, FT.mk (c := 1) hXT t2 (by decide)⟩
