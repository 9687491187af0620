/-! THE MODEL: groups. -/
theorem m_membersOf {Y : XS} {n : Nat} {S : PS} {A : EL} {s : Nat} (hn : 100 ≤ n) (hM : MSt Y S) (h : NV S A) (hW : MW S A) (hs : s < 2147483648) : fX11_membersOf Y n S 215 (nI s) = some (nI (mb A s)) := by
  have b1 := h.ew.2.1
  have b2 := h.ew.2.2.1
  have l := hM.2.2.2.2.1.1
  unfold fX11_membersOf
  refine kc_run (fun i => (nI (bs (fun v => allq (fun q => !s.testBit q || decide (0 < wo A q v)) (eP A)) i), nI i)) (eV A) (fun i hi => ?_) ?_ (by omega) rfl rfl
  · have inner : ∀ x : Int32, iter (bX11_membersOf_18 Y n S 215 (nI s) x (nI i)) n ((1 : Int32), (0 : Int32)) = some (if allq (fun q => !s.testBit q || decide (0 < wo A q i)) (eP A) = true then 1 else 0) := by
      intro x
      refine iter_run (fun j => ((if allq (fun q => !s.testBit q || decide (0 < wo A q i)) j = true then (1 : Int32) else 0), nI j)) (eP A) (fun j hj => ?_) ?_ (by omega) rfl
      · have t := (hW j hj).2.2 i hi
        have hw := wo_le A j i
        have es : allq (fun q => !s.testBit q || decide (0 < wo A q i)) (j + 1) = (allq (fun q => !s.testBit q || decide (0 < wo A q i)) j && (!s.testBit j || decide (0 < wo A j i))) := rfl
        unfold bX11_membersOf_18 jX11_membersOf_60_18 jX11_membersOf_56_18 jX11_membersOf_61_18
        rw [m_many hM h, kc_s, es]
        simp (discharger := omega) only [nle, if_neg, m_isOf, kc_s, kgr_n hM.2.1.1, show (12 : Int32) = nI 12 from rfl, nmul, nI_add, kai_n, t, nI_1]
        cases ha : allq (fun q => !s.testBit q || decide (0 < wo A q i)) j with
        | false =>
          rw [if_pos (by decide)]
          rfl
        | true =>
          rw [if_neg (by decide)]
          by_cases c : s.testBit j = true
          · rw [if_pos c, if_neg (by decide), c]
            by_cases c2 : 0 < wo A j i
            · rw [if_neg (nI_nle c2 (by omega)), decide_eq_true c2]
              rfl
            · have : wo A j i = 0 := by omega
              rw [this, if_pos (by decide)]
              rfl
          · have c' : s.testBit j = false := by simpa using c
            rw [if_neg c, if_pos rfl, c']
            simp
      · unfold bX11_membersOf_18
        rw [m_many hM h, kc_s]
        simp (discharger := omega) only [nle, if_pos]
    unfold bX11_membersOf_4 jX11_membersOf_82_4
    rw [m_people hM h, kc_s]
    simp (discharger := omega) only [nle, if_neg, nI_1]
    rw [inner, kc_s, bs_s]
    by_cases c : allq (fun q => !s.testBit q || decide (0 < wo A q i)) (eP A) = true
    · rw [if_pos c, if_neg (by decide), if_pos c, n2p (by omega), nor]
    · rw [if_neg c, if_pos rfl, if_neg c, show (0 : Int32) = nI 0 from rfl, nor, Nat.or_zero]
  · unfold bX11_membersOf_4
    rw [m_people hM h, kc_s]
    simp (discharger := omega) only [nle, if_pos]
    rfl
theorem m_isDue {Y : XS} {n : Nat} {S : PS} {A : EL} {s : Nat} (hn : 100 ≤ n) (hM : MSt Y S) (h : NV S A) (hW : MW S A) (hs : s < 2147483648) : fX11_isDue Y n S 215 (nI s) = some (if dueG A s = true then 1 else 0) := by
  have a7 := h.ew
  have b0 := a7.1
  have b2 := a7.2.2.1
  have l := hM.2.2.2.1.1
  have hmb : mb A s < 16777216 := mb_lt a7 s _
  have hp : pcn 24 (mb A s) ≤ 24 := by rw [pcn_tb]; exact nK_le
  have m1' : pcn 24 (mb A s) * eM A ≤ 24 * 99999 := Nat.mul_le_mul hp b0
  have m2' : csum A s * eV A ≤ 119988 * 24 := Nat.mul_le_mul (csum_le a7 s) b2
  unfold fX11_isDue jX11_isDue_38 jX11_isDue_39
  rw [m_membersOf hn hM h hW hs, kc_s, s_bitsOf hn hmb, kc_s, kgr_n hM.1.1, show (0 : Int32) = nI 0 from rfl, kai_n (by omega) (by omega), h.m, m_costsOf hn hM h hs, kc_s, m_people hM h, kc_s]
  simp (discharger := omega) only [nle, nmul, nlt]
  have k0 : kzr (nI 0) (some (nI 0)) = some 0 := by unfold kzr; rw [if_pos (Or.inl (show nI 0 = 0 from rfl))]; rfl
  have k1 : kzr (1 : Int32) (some (1 : Int32)) = some 1 := by unfold kzr; rw [if_pos (Or.inr rfl)]
  rw [k0, k1]
  unfold dueG
  by_cases c1 : pcn 24 (mb A s) ≤ 0
  · rw [if_pos c1, if_neg]
    · rfl
    · rw [decide_eq_true_eq]
      omega
  · rw [if_neg c1]
    by_cases c2 : pcn 24 (mb A s) * eM A < csum A s * eV A
    · rw [if_pos c2, if_neg]
      · rfl
      · rw [decide_eq_true_eq]
        omega
    · rw [if_neg c2, if_pos (decide_eq_true ⟨by omega, by omega⟩)]
theorem m_bestAside {Y : XS} {n : Nat} {S : PS} {A : EL} {v s B : Nat} (hn : 100 ≤ n) (hM : MSt Y S) (h : NV S A) (hW : MW S A) (hv : v < eV A) (hs : s < 2147483648) (hc : gi S 215 21 = nI B) (hB : B < 2147483648) : fX11_bestAside Y n S 215 (nI v) (nI s) = some (nI (bmi A B v s)) := by
  have b1 := h.ew.2.1
  have b2 := h.ew.2.2.1
  have l := hM.2.2.2.2.1.1
  unfold fX11_bestAside
  refine kc_run (fun i => (nI (mxf (fun q => if s.testBit q = true ∧ B.testBit q = false then wo A q v else 0) i), nI i)) (eP A) (fun i hi => ?_) ?_ (by omega) rfl rfl
  · have t := (hW i hi).2.2 v hv
    have hw := wo_le A i v
    have hm := mxf_le (f := fun q => if s.testBit q = true ∧ B.testBit q = false then wo A q v else 0) (c := 9999) (fun q => by
      split
      · exact wo_le A q v
      · exact Nat.zero_le _) i
    unfold bX11_bestAside_5 jX11_bestAside_52_5
    rw [m_many hM h, kc_s]
    simp (discharger := omega) only [nle, if_neg, m_isOf, kc_s, kgi, hc, kgr_n hM.2.1.1, show (12 : Int32) = nI 12 from rfl, nmul, nI_add, kai_n, t, nmax, nI_1, mxf_s]
    by_cases c : s.testBit i = true
    · rw [if_pos c, if_neg (by decide)]
      by_cases c2 : B.testBit i = true
      · rw [if_pos c2, if_neg (by decide), if_neg (fun z => by rw [c2] at z; exact absurd z.2 (by decide)), Nat.max_zero]
      · have c2' : B.testBit i = false := by simpa using c2
        rw [if_neg c2, if_pos rfl, if_pos ⟨c, c2'⟩]
    · rw [if_neg c, if_pos rfl, if_neg (fun z => c z.1), Nat.max_zero]
  · unfold bX11_bestAside_5
    rw [m_many hM h, kc_s]
    simp (discharger := omega) only [nle, if_pos]
    rfl
theorem m_serves {Y : XS} {n : Nat} {S : PS} {A : EL} {s B : Nat} {nr : Bool} (hn : 100 ≤ n) (hM : MSt Y S) (h : NV S A) (hW : MW S A) (hs : s < 2147483648) (hc : gi S 215 21 = nI B) (hB : B < 2147483648) : fX11_serves Y n S 215 (nI s) (if nr = true then 1 else 0) = some (if srv A B s nr = true then 1 else 0) := by
  have a7 := h.ew
  have b2 := a7.2.2.1
  have hmb : mb A s < 16777216 := mb_lt a7 s _
  unfold fX11_serves
  rw [m_membersOf hn hM h hW hs, kc_s]
  have key : ok (iter (bX11_serves_9 Y n S 215 (nI s) (if nr = true then 1 else 0) (nI (mb A s))) n (0 : Int32)) (fun r => (r = .inl () ∧ srv A B s nr = false) ∨ (r = .inr 1 ∧ srv A B s nr = true)) := by
    refine iter_ok (fun i t => t = nI i ∧ exq (srv1 A B s nr) i = false) (eV A) (fun i t hi h1 => ?_) (fun t h1 => ?_) (by omega) ⟨rfl, rfl⟩
    · obtain ⟨k1, k2⟩ := h1
      subst k1
      have w1 := wt_le a7 i B
      have w2 := wt_le a7 i s
      have w3 := bmi_le A B i s
      unfold bX11_serves_9 jX11_serves_65_9
      rw [m_people hM h, kc_s]
      simp (discharger := omega) only [nle, if_neg, m_isOf, kc_s, kgi, hc]
      by_cases c : (mb A s).testBit i = true
      · rw [if_pos c, if_neg (by decide), m_worthTo hn hM h hW hi hB, kc_s]
        have tail : ∀ m : Nat, (m = if nr = true then bmi A B i s else 0) → ok (jX11_serves_52_9 Y n S 215 (nI s) (if nr = true then 1 else 0) (nI (mb A s)) (nI i) (nI m) (nI (wt A i B))) (so (fun t => t = nI (i + 1) ∧ exq (srv1 A B s nr) (i + 1) = false) (fun r => (r = .inl () ∧ srv A B s nr = false) ∨ (r = .inr 1 ∧ srv A B s nr = true))) := by
          intro m hm
          have hm2 : m ≤ 9999 := by rw [hm]; split <;> omega
          unfold jX11_serves_52_9 jX11_serves_65_9
          rw [m_worthTo hn hM h hW hi hs, kc_s, nI_add]
          simp (discharger := omega) only [nlt]
          by_cases c2 : wt A i B + m < wt A i s
          · rw [if_pos c2, nI_1, ok_some, so_l]
            refine ⟨rfl, ?_⟩
            rw [exq_s, k2]
            show (false || ((mb A s).testBit i && decide (wt A i s ≤ wt A i B + if nr = true then bmi A B i s else 0))) = false
            rw [← hm, decide_eq_false (by omega)]
            simp
          · rw [if_neg c2]
            unfold kzr
            rw [if_pos (Or.inr rfl), ok_some, so_r]
            right
            refine ⟨rfl, ?_⟩
            unfold srv
            rw [exq_iff]
            refine ⟨i, hi, ?_⟩
            show ((mb A s).testBit i && decide (wt A i s ≤ wt A i B + if nr = true then bmi A B i s else 0)) = true
            rw [← hm, decide_eq_true (by omega), c]
            rfl
        cases nr with
        | false =>
          rw [if_pos (show (if false = true then (1 : Int32) else 0) = 0 from rfl)]
          exact tail 0 rfl
        | true =>
          rw [if_neg (by decide), m_bestAside hn hM h hW hi hs hc hB, kc_s]
          exact tail _ rfl
      · rw [if_neg c, if_pos rfl, nI_1, ok_some, so_l]
        refine ⟨rfl, ?_⟩
        have c' : (mb A s).testBit i = false := by simpa using c
        rw [exq_s, k2]
        show (false || ((mb A s).testBit i && _)) = false
        rw [c']
        simp
    · obtain ⟨k1, k2⟩ := h1
      subst k1
      unfold bX11_serves_9
      rw [m_people hM h, kc_s]
      simp (discharger := omega) only [nle, if_pos, ok_some, so_r]
      exact Or.inl ⟨trivial, k2⟩
  obtain ⟨r, h1, h2⟩ := key
  rw [h1, kc_s]
  rcases h2 with ⟨rfl, h2⟩ | ⟨rfl, h2⟩
  · rw [h2]
    rfl
  · rw [h2]
    rfl
