/-! THE MODEL'S READER: signs, words, names, numbers; behind a fault. -/
theorem GD.e {S : PS} (h : GD S) : gi S 215 34 = 0 := h
theorem BD.ne {S : PS} {e : Nat × Nat} (h : BD S e) : ¬ gi S 215 34 = 0 := by
  rw [h.1]
  exact nI_ne0 (by have := h.2.2; omega) (by have := h.2.2; omega)
theorem z_pass {Y : XS} {n : Nat} {S : PS} {e : Nat × Nat} (h : BD S e) : fX11_pass Y n S 215 = some S := by
  unfold fX11_pass jX11_pass_11
  rw [kgi_n, if_neg h.ne]
theorem z_wrong {Y : XS} {n : Nat} {S : PS} {e : Nat × Nat} {x : Int32} (h : BD S e) : fX11_wrong Y n S 215 x = some S := by
  unfold fX11_wrong
  rw [kgi_n, if_neg h.ne]
theorem z_isSign {Y : XS} {n : Nat} {S : PS} {e : Nat × Nat} {x : Int32} (h : BD S e) : fX11_isSign Y n S 215 x = some 0 := by
  unfold fX11_isSign jX11_isSign_32 jX11_isSign_33
  rw [kgi_n, if_neg h.ne, kzr0]
theorem m_word0 {Y : XS} {n : Nat} {S : PS} {i : Nat} (hn : 10000 ≤ n) : jX11_isWord_35 Y n S 215 i = some 0 := by
  unfold jX11_isWord_35 jX11_isWord_36 jX11_isWord_82
  have : iter (bX11_isWord_39 Y n S 215 i) n ((0 : Int32), (0 : Int32)) = some 0 := by
    refine iter_run (fun _ => ((0 : Int32), (0 : Int32))) 0 (fun i hi => absurd hi (Nat.not_lt_zero _)) ?_ (by omega) rfl
    unfold bX11_isWord_39
    rw [if_pos rfl]
  rw [this, kc_s, kzr0]
theorem z_isWord {Y : XS} {n : Nat} {S : PS} {e : Nat × Nat} {i : Nat} (hn : 10000 ≤ n) (h : BD S e) : fX11_isWord Y n S 215 i = some 0 := by
  unfold fX11_isWord
  rw [kgi_n, if_neg h.ne, m_word0 hn]
theorem z_isName {Y : XS} {n : Nat} {S : PS} {e : Nat × Nat} (h : BD S e) : fX11_isName Y n S 215 = some 0 := by
  unfold fX11_isName jX11_isName_73 jX11_isName_74
  rw [kgi_n, if_neg h.ne, kzr0]
theorem z_num20 {Y : XS} {n : Nat} {S : PS} {e : Nat × Nat} {a b : Int32} (hn : 10000 ≤ n) (h : BD S e) : jX11_numberHere_20 Y n S 215 a b = some (0, S) := by
  unfold jX11_numberHere_20 jX11_numberHere_72 jX11_numberHere_93
  rw [kgi_n]
  have : iter (bX11_numberHere_28 Y n S 215 a b) n ((0 : Int32), gi S 215 32) = some 0 := by
    refine iter_run (fun _ => ((0 : Int32), gi S 215 32)) 0 (fun i hi => absurd hi (Nat.not_lt_zero _)) ?_ (by omega) rfl
    unfold bX11_numberHere_28
    rw [kgi_n, if_neg h.ne]
  rw [this, kc_s, kgi_n, if_neg h.ne]
theorem z_numberHere {Y : XS} {n : Nat} {S : PS} {e : Nat × Nat} {a b : Int32} (hn : 10000 ≤ n) (h : BD S e) : fX11_numberHere Y n S 215 a b = some (0, S) := by
  unfold fX11_numberHere
  rw [kgi_n, if_neg h.ne, z_num20 hn h]
theorem z_number {Y : XS} {n : Nat} {S : PS} {e : Nat × Nat} {a b : Int32} (hn : 10000 ≤ n) (h : BD S e) : fX11_number Y n S 215 a b = some (0, S) := by
  unfold fX11_number
  rw [z_numberHere hn h, kc_s, z_pass h, kc_s]
theorem z_must {Y : XS} {n : Nat} {S : PS} {e : Nat × Nat} {x : Int32} (h : BD S e) : fX11_must Y n S 215 x = some S := by
  unfold fX11_must jX11_must_13
  rw [z_isSign h, kc_s, if_pos rfl, z_wrong h, kc_s, z_pass h, kc_s]
theorem m_pass {Y : XS} {n : Nat} {S : PS} {X : TX} {k : Nat} (hn : 10000 ≤ n) (hM : MSt Y S) (hX : MX S X) (hG : GD S) (hL : ML S X k) :
    ok (fX11_pass Y n S 215) (fun T => Fr (fun x => x = 215) S T ∧ ML T X (nx X k) ∧ F30 S T) := by
  unfold fX11_pass jX11_pass_11
  rw [kgi_n, if_pos hG.e]
  exact ok_kc (m_next hn hM hX (te_le hL.1) hL.2.1) (fun r h => ok_i h)
/-- the fault is told -/
def wrS (S : PS) (c k : Nat) : PS := si (si S 215 34 (nI c)) 215 35 (nI k)
theorem m_wrong {Y : XS} {n : Nat} {S : PS} {X : TX} {k c : Nat} (hG : GD S) (hL : ML S X k) : fX11_wrong Y n S 215 (nI c) = some (wrS S c k) := by
  unfold fX11_wrong wrS
  rw [kgi_n, if_pos hG.e, kpi_n, kgi_n, Gn (by omega), hL.2.2.2.1, kpi_n]
theorem wrS_bd {S : PS} {c k : Nat} (hc : 1 ≤ c ∧ c ≤ 5) : BD (wrS S c k) (c, k) := ⟨by unfold wrS; rw [Gn (by omega), Gp], Gp, hc.1, hc.2⟩
theorem wrS_fr {S : PS} {c k : Nat} : Fr (fun x => x = 215) S (wrS S c k) := (show Fr (fun x => x = 215) S (si S 215 34 (nI c)) from Fr.rf.si rfl).si rfl
theorem wrS_j {S : PS} {c k j : Nat} (h : j ≠ 34) (h2 : j ≠ 35) : gi (wrS S c k) 215 j = gi S 215 j := by
  unfold wrS
  rw [Gn (by omega), Gn (by omega)]
theorem m_isSign {Y : XS} {n : Nat} {S : PS} {X : TX} {k b : Nat} (hM : MSt Y S) (hX : MX S X) (hG : GD S) (hL : ML S X k) (hb : b < 256) : fX11_isSign Y n S 215 (nI b) = some (if isS X k b = true then 1 else 0) := by
  have tl := tk_le X k
  have x5 := hX.2.1
  have l := hM.2.2.2.2.2.2.2.2.2.2.2
  unfold fX11_isSign jX11_isSign_32 jX11_isSign_33 isS
  rw [kgi_n, if_pos hG.e, kgi_n, hL.2.2.1, show (3 : Int32) = nI 3 from rfl, i_eq (by omega) (by decide)]
  by_cases c : tk X k = 3
  · have hk := (tk_3 c).1
    have h1 := hX.2.2 k hk
    rw [if_pos c, kgr_n hM.2.2.1.2.2.2.2.2.2, kgi_n, hL.2.2.2.1, kai_n (by omega) (by omega), h1.1, i_eq (by omega) (by omega), kzr0, kzr1]
    by_cases d : X.2 k = b
    · rw [if_pos d, if_pos (decide_eq_true ⟨c, d⟩)]
    · rw [if_neg d, if_neg (by rw [decide_eq_true_eq]; exact fun z => d z.2)]
  · rw [if_neg c, if_neg (by rw [decide_eq_true_eq]; exact fun z => c z.1), kzr0]
theorem m_isWord {Y : XS} {n : Nat} {S : PS} {X : TX} {k i : Nat} (hn : 10000 ≤ n) (hM : MSt Y S) (hX : MX S X) (hG : GD S) (hL : ML S X k) (hi : 1 ≤ i) (hi9 : i < 9) : fX11_isWord Y n S 215 (i + 15) = some (if isW X k i = true then 1 else 0) := by
  have tl := tk_le X k
  have wl := wch_l i hi9 hi
  have x5 := hX.2.1
  have l := hM.2.2.2.2.2.2.2.2.2.2.2
  have tle := te_le hL.1
  unfold fX11_isWord isW
  rw [kgi_n, if_pos hG.e, kgi_n, hL.2.2.1, show (1 : Int32) = nI 1 from rfl, i_eq (by omega) (by decide)]
  by_cases c : tk X k = 1
  · have hk := (tk_1 c).1
    have tg := te_gt hk
    rw [if_pos c, kgi_n, hL.2.2.2.2, kgi_n, hL.2.2.2.1, nsub (by omega), wl.2.2, show Int32.ofNat (strL i) = nI (strL i) from rfl, i_eq (by omega) (by omega)]
    by_cases d : strL i = te X k - k
    · rw [if_pos d, decide_eq_true (show tk X k = 1 ∧ te X k - k = strL i from ⟨c, d.symm⟩), Bool.true_and]
      unfold jX11_isWord_36 jX11_isWord_82
      have key : ok (iter (bX11_isWord_39 Y n S 215 (i + 15)) n (nI 1, (0 : Int32))) (fun r => r = (if allq (fun j => decide (X.2 (k + j) = wch i j)) (strL i) = true then (1 : Int32) else 0)) := by
        refine iter_ok (fun j t => t.2 = nI j ∧ ((t.1 = 1 ∧ allq (fun j => decide (X.2 (k + j) = wch i j)) j = true) ∨ (t.1 = 0 ∧ allq (fun j => decide (X.2 (k + j) = wch i j)) (strL i) = false))) (strL i) (fun j t hj h1 => ?_) (fun t h1 => ?_) (by omega) ⟨rfl, Or.inl ⟨rfl, rfl⟩⟩
        · obtain ⟨t1, t2⟩ := t
          obtain ⟨e1, h2⟩ := h1
          dsimp only at e1 h2
          subst e1
          unfold bX11_isWord_39 kch jX11_isWord_75_39
          dsimp only
          rcases h2 with ⟨rfl, h2⟩ | ⟨rfl, h2⟩
          · have hb := hX.2.2 (k + j) (by omega)
            have wc := wch_c i hi9 hi j (by omega) hj
            rw [if_neg (by decide), wl.2.2, show Int32.ofNat (strL i) = nI (strL i) from rfl, i_le (by omega) (by omega), if_neg (by omega), if_pos (inb_n hj (by omega)), wc.2.2, kgr_n hM.2.2.1.2.2.2.2.2.2, kgi_n, hL.2.2.2.1, nI_add, kai_n (by omega) (by omega), hb.1, i_eq (by omega) (by omega), nI_1]
            by_cases e : wch i j = X.2 (k + j)
            · rw [if_pos e, ok_some, so_l]
              refine ⟨rfl, Or.inl ⟨rfl, ?_⟩⟩
              rw [allq_s, h2, decide_eq_true e.symm]
              rfl
            · rw [if_neg e, ok_some, so_l]
              exact ⟨rfl, Or.inr ⟨rfl, allq_no (i := j) (decide_eq_false (fun z => e z.symm)) hj⟩⟩
          · rw [if_pos rfl, ok_some, so_r, h2]
            rfl
        · obtain ⟨t1, t2⟩ := t
          obtain ⟨e1, h2⟩ := h1
          dsimp only at e1 h2
          subst e1
          unfold bX11_isWord_39
          dsimp only
          rcases h2 with ⟨rfl, h2⟩ | ⟨rfl, h2⟩
          · rw [if_neg (by decide), wl.2.2, show Int32.ofNat (strL i) = nI (strL i) from rfl, i_le (by omega) (by omega), if_pos (by omega), ok_some, so_r, h2]
            rfl
          · rw [if_pos rfl, ok_some, so_r, h2]
            rfl
      obtain ⟨r, h1, h2⟩ := key
      rw [h1, kc_s, h2]
      exact kzr_b
    · rw [if_neg d, decide_eq_false (fun z => d z.2.symm), m_word0 hn]
      rfl
  · rw [if_neg c, decide_eq_false (fun z => c z.1), m_word0 hn]
    rfl
theorem m_isName {Y : XS} {n : Nat} {S : PS} {X : TX} {k : Nat} (hn : 10000 ≤ n) (hM : MSt Y S) (hX : MX S X) (hG : GD S) (hL : ML S X k) : fX11_isName Y n S 215 = some (if isN X k = true then 1 else 0) := by
  have tl := tk_le X k
  have x5 := hX.2.1
  have tle := te_le hL.1
  unfold fX11_isName jX11_isName_73 jX11_isName_74 isN
  rw [kgi_n, if_pos hG.e, kgi_n, hL.2.2.1, show (1 : Int32) = nI 1 from rfl, i_eq (by omega) (by decide)]
  have w16 := m_isWord (i := 1) hn hM hX hG hL (by decide) (by decide)
  have w17 := m_isWord (i := 2) hn hM hX hG hL (by decide) (by decide)
  have w18 := m_isWord (i := 3) hn hM hX hG hL (by decide) (by decide)
  have w19 := m_isWord (i := 4) hn hM hX hG hL (by decide) (by decide)
  by_cases c : tk X k = 1
  · have tg := te_gt (tk_1 c).1
    rw [if_pos c, kgi_n, hL.2.2.2.2, kgi_n, hL.2.2.2.1, nsub (by omega), show (6 : Int32) = nI 6 from rfl, i_lt (by decide) (by omega)]
    by_cases d : 6 < te X k - k
    · rw [if_pos d, decide_eq_false (fun z => absurd z.2 (by omega)), kzr0]
      rfl
    · have e2 : isW X k 2 = false := by
        unfold isW
        rw [decide_eq_false, Bool.false_and]
        rintro ⟨_, z⟩
        have : strL 2 = 7 := rfl
        omega
      rw [if_neg d, decide_eq_true ⟨c, (by omega : te X k - k ≤ 6)⟩, Bool.true_and, w16, kc_s, w17, kc_s, w18, kc_s, w19, kc_s, e2, kzr0, show kzr (nI 1) (some (nI 1)) = some 1 from kzr1]
      cases e1 : isW X k 1 <;> cases e3 : isW X k 3 <;> cases e4 : isW X k 4 <;> rfl
  · rw [if_neg c, decide_eq_false (fun z => c z.1), kzr0]
    rfl
theorem m_letterHere {Y : XS} {n : Nat} {S : PS} {X : TX} {k i : Nat} (hM : MSt Y S) (hX : MX S X) (hL : ML S X k) (c : tk X k = 1) (hi : i < 6) : fX11_letterHere Y n S 215 (nI i) = some (nI (lt1 X k i)) := by
  have x5 := hX.2.1
  have l := hM.2.2.2.2.2.2.2.2.2.2.2
  have tle := te_le hL.1
  have kle := hL.1
  unfold fX11_letterHere jX11_letterHere_31 lt1
  rw [kgi_n, hL.2.2.2.1, kgi_n, hL.2.2.2.2, nI_add, i_le (by omega) (by omega)]
  by_cases d : te X k ≤ k + i
  · rw [if_pos d, if_neg (by omega)]
    rfl
  · have hin := sk_in (X := X) (P := isLt) (k := k) (j := k + i) (by omega) (by rw [← (tk_1 c).2.2]; omega)
    have hb := hX.2.2 (k + i) hin.1
    have hl := of_decide_eq_true hin.2
    rw [if_neg d, kgr_n hM.2.2.1.2.2.2.2.2.2, kgi_n, hL.2.2.2.1, nI_add, kai_n (by omega) (by omega), hb.1, show (96 : Int32) = nI 96 from rfl, nsub (by omega), if_pos (by omega)]
theorem m_named {Y : XS} {n : Nat} {S : PS} {X : TX} {A : EL} {k : Nat} (hn : 10000 ≤ n) (hM : MSt Y S) (hX : MX S X) (hL : ML S X k) (c : tk X k = 1) (hP : eP A ≤ 12) (h1 : gi S 217 1 = nI (eP A)) (h4 : ∀ p i, p < eP A → i < 6 → gi S 217 (15 + 6 * p + i) = eNm A p i) : fX11_named Y n S 215 = some (oI (nmd X A k)) := by
  have l2 := hM.2.2.2.1.2.1
  have inner : ∀ p, p < eP A → iter (bX11_named_16 Y n S 215 (nI p)) n ((1 : Int32), (0 : Int32)) = some (if allq (fun i => decide (eNm A p i = nI (lt1 X k i))) 6 = true then 1 else 0) := by
    intro p hp
    refine iter_run (fun i => ((if allq (fun i => decide (eNm A p i = nI (lt1 X k i))) i = true then (1 : Int32) else 0), nI i)) 6 (fun i hi => ?_) ?_ (by omega) rfl
    · unfold bX11_named_16 jX11_named_52_16 jX11_named_53_16
      dsimp only
      rw [show (6 : Int32) = nI 6 from rfl, i_le (by omega) (by omega), if_neg (by omega), allq_s]
      cases d0 : allq (fun i => decide (eNm A p i = nI (lt1 X k i))) i with
      | false =>
        rw [ifF rfl, nI_1]
        rfl
      | true =>
        rw [ifT rfl, kgr_n hM.1.2.1, show (15 : Int32) = nI 15 from rfl, nmul, nI_add, nI_add, kai_n (by omega) (by omega), h4 p i hp hi, m_letterHere hM hX hL c hi, kc_s, nI_1]
        by_cases d : eNm A p i = nI (lt1 X k i)
        · rw [if_pos d, decide_eq_true d]
          rfl
        · rw [if_neg d, decide_eq_false d]
          rfl
    · unfold bX11_named_16
      dsimp only
      rw [show (6 : Int32) = nI 6 from rfl, i_le (by omega) (by omega), if_pos (by omega)]
  have key : ok (iter (bX11_named_2 Y n S 215) n (0 : Int32)) (fun r => (r = .inl () ∧ nmd X A k = none) ∨ ∃ p, r = .inr (nI p) ∧ nmd X A k = some p) := by
    refine iter_ok (fun i t => t = nI i ∧ ∀ p, p < i → allq (fun j => decide (eNm A p j = nI (lt1 X k j))) 6 = false) (eP A) (fun i t hi h2 => ?_) (fun t h2 => ?_) (by omega) ⟨rfl, fun p hp => absurd hp (Nat.not_lt_zero _)⟩
    · obtain ⟨rfl, h2⟩ := h2
      unfold bX11_named_2
      rw [kgr_n hM.1.2.1, show (1 : Int32) = nI 1 from rfl, kai_n (by omega) (by omega), h1, i_le (by omega) (by omega), if_neg (by omega), show iter (bX11_named_16 Y n S 215 (nI i)) n (nI 1, (0 : Int32)) = _ from inner i hi, kc_s]
      cases d : allq (fun j => decide (eNm A i j = nI (lt1 X k j))) 6 with
      | true =>
        rw [ifT rfl, ok_some, so_r]
        right
        refine ⟨i, rfl, ?_⟩
        have := fsf_first (f := fun p => allq (fun j => decide (eNm A p j = nI (lt1 X k j))) 6) h2 d (eP A - (i + 1))
        rw [show i + 1 + (eP A - (i + 1)) = eP A by omega] at this
        exact this
      | false =>
        rw [ifF rfl, nI_add, ok_some, so_l]
        refine ⟨rfl, fun p hp => ?_⟩
        by_cases e : p = i
        · subst e
          exact d
        · exact h2 p (by omega)
    · obtain ⟨rfl, h2⟩ := h2
      unfold bX11_named_2
      rw [kgr_n hM.1.2.1, show (1 : Int32) = nI 1 from rfl, kai_n (by omega) (by omega), h1, i_le (by omega) (by omega), if_pos (by omega), ok_some, so_r]
      exact Or.inl ⟨rfl, fsf_none h2⟩
  unfold fX11_named
  obtain ⟨r, h1, h2⟩ := key
  rw [h1, kc_s]
  rcases h2 with ⟨rfl, h2⟩ | ⟨p, rfl, h2⟩
  · rw [h2]; rfl
  · rw [h2]; rfl
def NH (S : PS) (q : Int32 × PS) (k : Nat) : (Nat × Nat) ⊕ Nat → Prop
  | .inl e => q.2 = wrS S e.1 e.2 ∧ BD q.2 e
  | .inr v => q = (nI v, S)
theorem m_numberHere {Y : XS} {n : Nat} {S : PS} {X : TX} {k lo hi : Nat} (hn : 10000 ≤ n) (hM : MSt Y S) (hX : MX S X) (hG : GD S) (hL : ML S X k) (h1 : lo ≤ 1000) (h2 : hi ≤ 1000000) :
    ok (fX11_numberHere Y n S 215 (nI lo) (nI hi)) (fun q => NH S q k (sNum X k lo hi)) := by
  have tl := tk_le X k
  have x5 := hX.2.1
  have l := hM.2.2.2.2.2.2.2.2.2.2.2
  have tle := te_le hL.1
  unfold fX11_numberHere sNum
  rw [kgi_n, if_pos hG.e, kgi_n, hL.2.2.1, show (2 : Int32) = nI 2 from rfl, i_eq (by omega) (by decide)]
  by_cases c : tk X k = 2
  · have hk := (tk_2 c).1
    have tg := te_gt hk
    have nl : nv X k ≤ 1000000 := nvl_le _ _ _
    rw [if_pos c, if_pos c]
    unfold jX11_numberHere_20
    rw [kgi_n, hL.2.2.2.1]
    have key : iter (bX11_numberHere_28 Y n S 215 (nI lo) (nI hi)) n ((0 : Int32), nI k) = some (nI (nv X k)) := by
      refine iter_run (fun i => (nI (nvl X k i), nI (k + i))) (te X k - k) (fun i hi => ?_) ?_ (by omega) rfl
      · have hin := sk_in (X := X) (P := isFg) (k := k) (j := k + i) (by omega) (by rw [← (tk_2 c).2.2.2]; omega)
        have hb := hX.2.2 (k + i) hin.1
        have hf := of_decide_eq_true hin.2
        have n2 := nvl_le X k i
        unfold bX11_numberHere_28
        rw [kgi_n, if_pos hG.e, kgi_n, hL.2.2.2.2]
        dsimp only
        rw [i_le (by omega) (by omega), if_neg (by omega), kgr_n hM.2.2.1.2.2.2.2.2.2, kai_n (by omega) (by omega), hb.1, show (10 : Int32) = nI 10 from rfl, nmul, nI_add, show (48 : Int32) = nI 48 from rfl, nsub (by omega), show (1000000 : Int32) = nI 1000000 from rfl, nmin (by omega) (by omega), nI_1]
        have e : min 1000000 (10 * nvl X k i + X.2 (k + i) - 48) = nvl X k (i + 1) := by
          show _ = min 1000000 (10 * nvl X k i + (X.2 (k + i) - 48))
          omega
        rw [e]
        rfl
      · unfold bX11_numberHere_28
        rw [kgi_n, if_pos hG.e, kgi_n, hL.2.2.2.2]
        dsimp only
        rw [i_le (by omega) (by omega), if_pos (by omega)]
        rfl
    rw [key, kc_s]
    unfold jX11_numberHere_72 jX11_numberHere_93
    have isin : fX11_isIn Y n S (nI (nv X k)) (nI lo) (nI hi) = some (if lo ≤ nv X k ∧ nv X k ≤ hi then 1 else 0) := by
      unfold fX11_isIn jX11_isIn_14 jX11_isIn_15
      rw [kzr0, kzr1, i_lt (by omega) (by omega), i_lt (by omega) (by omega)]
      by_cases d1 : nv X k < lo
      · rw [if_pos d1, if_neg (by omega)]
      · rw [if_neg d1]
        by_cases d2 : hi < nv X k
        · rw [if_pos d2, if_neg (by omega)]
        · rw [if_neg d2, if_pos (by omega)]
    rw [kgi_n, if_pos hG.e, isin, kc_s]
    by_cases d : lo ≤ nv X k ∧ nv X k ≤ hi
    · rw [if_pos d, if_neg (by decide), if_pos d]
      exact ok_i rfl
    · rw [if_neg d, if_pos rfl, if_neg d, show (2 : Int32) = nI 2 from rfl, m_wrong hG hL, kc_s]
      exact ok_i ⟨rfl, wrS_bd (by decide)⟩
  · rw [if_neg c, if_neg c, show (1 : Int32) = nI 1 from rfl, m_wrong hG hL, kc_s, z_num20 hn (wrS_bd (by decide))]
    exact ok_i ⟨rfl, wrS_bd (by decide)⟩
def NM (S : PS) (X : TX) (q : Int32 × PS) (k : Nat) : (Nat × Nat) ⊕ Nat → Prop
  | .inl e => q.2 = wrS S e.1 e.2 ∧ BD q.2 e
  | .inr v => q.1 = nI v ∧ Fr (fun x => x = 215) S q.2 ∧ ML q.2 X (nx X k) ∧ F30 S q.2
theorem m_number {Y : XS} {n : Nat} {S : PS} {X : TX} {k lo hi : Nat} (hn : 10000 ≤ n) (hM : MSt Y S) (hX : MX S X) (hG : GD S) (hL : ML S X k) (h1 : lo ≤ 1000) (h2 : hi ≤ 1000000) :
    ok (fX11_number Y n S 215 (nI lo) (nI hi)) (fun q => NM S X q k (sNum X k lo hi)) := by
  unfold fX11_number
  refine ok_kc (m_numberHere hn hM hX hG hL h1 h2) ?_
  rintro ⟨q1, T⟩ h
  cases hs : sNum X k lo hi with
  | inl e =>
    rw [hs] at h
    obtain ⟨z1, z2⟩ := h
    dsimp only at z1 z2 ⊢
    rw [z_pass z2, kc_s]
    exact ok_i ⟨z1, z2⟩
  | inr v =>
    rw [hs] at h
    have h' : (q1, T) = (nI v, S) := h
    cases h'
    refine ok_kc (m_pass hn hM hX hG hL) ?_
    rintro U ⟨u1, u2, u3⟩
    exact ok_i ⟨rfl, u1, u2, u3⟩
theorem m_must {Y : XS} {n : Nat} {S : PS} {X : TX} {k b : Nat} (hn : 10000 ≤ n) (hM : MSt Y S) (hX : MX S X) (hG : GD S) (hL : ML S X k) (hb : b < 256) :
    ok (fX11_must Y n S 215 (nI b)) (fun T => (isS X k b = true ∧ Fr (fun x => x = 215) S T ∧ ML T X (nx X k) ∧ F30 S T) ∨ (isS X k b = false ∧ T = wrS S 1 k ∧ BD T (1, k))) := by
  unfold fX11_must jX11_must_13
  rw [m_isSign hM hX hG hL hb, kc_s]
  cases c : isS X k b with
  | true =>
    rw [ifT rfl]
    refine ok_kc (m_pass hn hM hX hG hL) ?_
    rintro U ⟨u1, u2, u3⟩
    exact ok_i (Or.inl ⟨rfl, u1, u2, u3⟩)
  | false =>
    rw [ifF rfl, show (1 : Int32) = nI 1 from rfl, m_wrong hG hL, kc_s, z_pass (wrS_bd (by decide)), kc_s]
    exact ok_i (Or.inr ⟨rfl, rfl, wrS_bd (by decide)⟩)
