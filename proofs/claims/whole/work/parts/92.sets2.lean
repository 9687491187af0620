/-! THE MODEL: sets. -/
theorem m_worthTo {Y : XS} {n : Nat} {S : PS} {A : EL} {v s : Nat} (hn : 100 ≤ n) (hM : MSt Y S) (h : NV S A) (hW : MW S A) (hv : v < eV A) (hs : s < 2147483648) : fX11_worthTo Y n S 215 (nI v) (nI s) = some (nI (wt A v s)) := by
  have b1 := h.ew.2.1
  have b2 := h.ew.2.2.1
  have l := hM.2.2.2.2.1.1
  unfold fX11_worthTo
  refine kc_run (fun i => (nI (sm (fun q => if s.testBit q = true then wo A q v else 0) i), nI i)) (eP A) (fun i hi => ?_) ?_ (by omega) rfl rfl
  · have t := (hW i hi).2.2 v hv
    unfold bX11_worthTo_5 jX11_worthTo_40_5
    rw [m_many hM h, kc_s]
    simp (discharger := omega) only [nle, if_neg, m_isOf, kc_s, kgr_n hM.2.1.1, show (12 : Int32) = nI 12 from rfl, show (0 : Int32) = nI 0 from rfl, nmul, nI_add, kai_n, t, nI_1, sm_s]
    by_cases c : s.testBit i = true
    · rw [if_pos c, if_neg (by decide), if_pos c]
    · rw [if_neg c, if_pos (by decide), if_neg c]
  · unfold bX11_worthTo_5
    rw [m_many hM h, kc_s]
    simp (discharger := omega) only [nle, if_pos]
    rfl
theorem m_worthToAll {Y : XS} {n : Nat} {S : PS} {A : EL} {s : Nat} (hn : 100 ≤ n) (hM : MSt Y S) (h : NV S A) (hW : MW S A) (hs : s < 2147483648) : fX11_worthToAll Y n S 215 (nI s) = some (nI (wa A s)) := by
  have b1 := h.ew.2.1
  have l := hM.2.2.2.2.1.2.2.1
  unfold fX11_worthToAll
  refine kc_run (fun i => (nI (sm (fun q => if s.testBit q = true then al A q else 0) i), nI i)) (eP A) (fun i hi => ?_) ?_ (by omega) rfl rfl
  · have t := (hW i hi).2.1
    unfold bX11_worthToAll_4 jX11_worthToAll_31_4
    rw [m_many hM h, kc_s]
    simp (discharger := omega) only [nle, if_neg, m_isOf, kc_s, kgr_n hM.2.1.2.2.1, show (0 : Int32) = nI 0 from rfl, kai_n, t, nI_add, nI_1, sm_s]
    by_cases c : s.testBit i = true
    · rw [if_pos c, if_neg (by decide), if_pos c]
    · rw [if_neg c, if_pos (by decide), if_neg c]
  · unfold bX11_worthToAll_4
    rw [m_many hM h, kc_s]
    simp (discharger := omega) only [nle, if_pos]
    rfl
theorem m_costsOf {Y : XS} {n : Nat} {S : PS} {A : EL} {s : Nat} (hn : 100 ≤ n) (hM : MSt Y S) (h : NV S A) (hs : s < 2147483648) : fX11_costsOf Y n S 215 (nI s) = some (nI (csum A s)) := by
  have b1 := h.ew.2.1
  unfold fX11_costsOf
  refine kc_run (fun i => (nI (sm (cst A s) i), nI i)) (eP A) (fun i hi => ?_) ?_ (by omega) rfl rfl
  · unfold bX11_costsOf_4 jX11_costsOf_30_4
    rw [m_many hM h, kc_s]
    simp (discharger := omega) only [nle, if_neg, m_isOf, kc_s]
    rw [m_costOf hM h hi, kc_s, show (0 : Int32) = nI 0 from rfl, nI_add, nI_add, nI_1, sm_s]
    unfold cst
    by_cases c : s.testBit i = true
    · rw [if_pos c, if_neg (by decide), if_pos c]
    · rw [if_neg c, if_pos (by decide), if_neg c]
  · unfold bX11_costsOf_4
    rw [m_many hM h, kc_s]
    simp (discharger := omega) only [nle, if_pos]
    rfl
theorem m_leastWorth {Y : XS} {n : Nat} {S : PS} {A : EL} {s : Nat} (hn : 100 ≤ n) (hM : MSt Y S) (h : NV S A) (hW : MW S A) (hs : s < 2147483648) : fX11_leastWorth Y n S 215 (nI s) = some (nI (ww A s)) := by
  have a7 := h.ew
  have b2 := a7.2.2.1
  unfold fX11_leastWorth
  rw [m_people hM h, kc_s]
  by_cases hV : eV A = 0
  · rw [hV, if_pos (show nI 0 = 0 from rfl)]
    unfold jX11_leastWorth_17
    refine kc_run (fun _ => ((0 : Int32), (1 : Int32))) (r := 0) 0 (fun i hi => absurd hi (Nat.not_lt_zero _)) ?_ (by omega) rfl (by simp [ww, hV]; rfl)
    unfold bX11_leastWorth_20
    rw [m_people hM h, kc_s, hV]
    simp (discharger := omega) only [show (1 : Int32) = nI 1 from rfl, nle, if_pos]
  · rw [if_neg (nI_ne0 (by omega) (by omega)), show (0 : Int32) = nI 0 from rfl, m_worthTo hn hM h hW (by omega) hs, kc_s]
    unfold jX11_leastWorth_17
    refine kc_run (fun i => (nI (mw (fun v => wt A v s) i), nI (i + 1))) (eV A - 1) (r := nI (mw (fun v => wt A v s) (eV A - 1))) (fun i hi => ?_) ?_ (by omega) rfl (by simp [ww, hV])
    · have w1 := wt_le a7 (i + 1) s
      have w2 := mw_le (fun v => wt_le a7 v s) i
      unfold bX11_leastWorth_20
      rw [m_people hM h, kc_s]
      simp (discharger := omega) only [nle, if_neg]
      rw [m_worthTo hn hM h hW (by omega) hs, kc_s, nmin (by omega) (by omega), nI_1]
      rfl
    · unfold bX11_leastWorth_20
      rw [m_people hM h, kc_s]
      simp (discharger := omega) only [nle, if_pos]
theorem m_unserved {Y : XS} {n : Nat} {S : PS} {A : EL} {s : Nat} (hn : 100 ≤ n) (hM : MSt Y S) (h : NV S A) (hW : MW S A) (hc : gi S 215 21 = nI s) (hs : s < 2147483648) : fX11_unserved Y n S 215 = some (nI (us A s)) := by
  have a7 := h.ew
  have b2 := a7.2.2.1
  unfold fX11_unserved
  refine kc_run (fun i => (nI (sm (fun v => if wt A v s = 0 then 1 else 0) i), nI i)) (eV A) (fun i hi => ?_) ?_ (by omega) rfl rfl
  · have w1 := wt_le a7 i s
    unfold bX11_unserved_4 jX11_unserved_30_4
    rw [m_people hM h, kc_s]
    simp (discharger := omega) only [nle, if_neg, kgi, hc]
    rw [m_worthTo hn hM h hW hi hs, kc_s]
    simp (discharger := omega) only [show (0 : Int32) = nI 0 from rfl, show (1 : Int32) = nI 1 from rfl, neq, nI_add, sm_s]
    by_cases c : wt A i s = 0
    · rw [if_pos c, if_pos c]
    · rw [if_neg c, if_neg c]
  · unfold bX11_unserved_4
    rw [m_people hM h, kc_s]
    simp (discharger := omega) only [nle, if_pos]
    rfl
def isM (A : EL) (s b : Nat) : Prop := wa A b < wa A s ∨ (wa A s = wa A b ∧ csum A s < csum A b)
theorem m_isMore {Y : XS} {n : Nat} {S : PS} {A : EL} {s b : Nat} (hn : 100 ≤ n) (hM : MSt Y S) (h : NV S A) (hW : MW S A) (hs : s < 2147483648) (hb : b < 2147483648) : (isM A s b → fX11_isMore Y n S 215 (nI s) (nI b) = some 1) ∧ (¬ isM A s b → fX11_isMore Y n S 215 (nI s) (nI b) = some 0) := by
  have a7 := h.ew
  have x1 := wa_le a7 s
  have x2 := wa_le a7 b
  have x3 := csum_le a7 s
  have x4 := csum_le a7 b
  unfold fX11_isMore jX11_isMore_49 jX11_isMore_30 isM
  rw [m_worthToAll hn hM h hW hs, kc_s, m_worthToAll hn hM h hW hb, kc_s, m_costsOf hn hM h hs, kc_s, m_costsOf hn hM h hb, kc_s]
  simp (discharger := omega) only [neq, nle]
  have k0 : kzr (0 : Int32) (some (0 : Int32)) = some 0 := by unfold kzr; rw [if_pos (Or.inl rfl)]
  have k1 : kzr (1 : Int32) (some (1 : Int32)) = some 1 := by unfold kzr; rw [if_pos (Or.inr rfl)]
  rw [k0, k1]
  constructor
  · intro hm
    by_cases c : wa A s = wa A b
    · rw [if_pos c, if_neg (by omega)]
    · rw [if_neg c, if_neg (by omega)]
  · intro hm
    by_cases c : wa A s = wa A b
    · rw [if_pos c, if_pos (by omega)]
    · rw [if_neg c, if_pos (by omega)]
theorem m_mostWorth {Y : XS} {n : Nat} {S : PS} {A : EL} (hn : 10000 ≤ n) (hM : MSt Y S) (h : NV S A) (hW : MW S A) : fX11_mostWorth Y n S 215 = some (nI (bq A false (2 ^ eP A))) := by
  have a7 := h.ew
  have b0 := a7.1
  have b1 := a7.2.1
  have hN := p12 b1
  have hN0 : 0 < 2 ^ eP A := Nat.two_pow_pos _
  have l := hM.2.2.2.1.1
  unfold fX11_mostWorth
  refine kc_run (fun i => (nI (bq A false (i + 1)), nI (i + 1))) (2 ^ eP A - 1) (r := nI (bq A false (2 ^ eP A))) (fun i hi => ?_) ?_ (by omega) (by rw [bq_1]; rfl) rfl
  · have hb := bq_le A false (i + 1)
    have x3 := csum_le a7 (i + 1)
    have hmo := m_isMore (n := n) (s := i + 1) (b := bq A false (i + 1)) (by omega) hM h hW (by omega) (by omega)
    unfold bX11_mostWorth_4 jX11_mostWorth_42_4
    rw [m_many hM h, kc_s]
    simp (discharger := omega) only [n2p, nle, if_neg]
    rw [m_costsOf (by omega) hM h (by omega), kc_s, kgr_n hM.1.1, show (0 : Int32) = nI 0 from rfl, kai_n (by omega) (by omega), h.m]
    simp (discharger := omega) only [nle, nI_1]
    rw [bq_s A false (i + 1)]
    have u0 : ∀ y, uk A false y = 0 := fun _ => rfl
    by_cases c1 : csum A (i + 1) ≤ eM A
    · rw [if_pos c1]
      by_cases c2 : isM A (i + 1) (bq A false (i + 1))
      · rw [hmo.1 c2, kc_s, if_neg (by decide), if_pos (show upq A false (i + 1) (bq A false (i + 1)) = true from decide_eq_true ⟨c1, Or.inr ⟨by rw [u0, u0], c2⟩⟩)]
      · rw [hmo.2 c2, kc_s, if_pos (by decide), if_neg (show ¬ upq A false (i + 1) (bq A false (i + 1)) = true from fun z => by
          have := (of_decide_eq_true z).2
          rw [u0, u0] at this
          rcases this with y | ⟨_, y⟩
          · omega
          · exact c2 y)]
    · rw [if_neg c1, if_neg (show ¬ upq A false (i + 1) (bq A false (i + 1)) = true from fun z => c1 (of_decide_eq_true z).1)]
  · unfold bX11_mostWorth_4
    rw [m_many hM h, kc_s]
    simp (discharger := omega) only [n2p, nle, if_pos]
    rw [show 2 ^ eP A - 1 + 1 = 2 ^ eP A by omega]
theorem m_worstFirst {Y : XS} {n : Nat} {S : PS} {A : EL} (hn : 10000 ≤ n) (hM : MSt Y S) (h : NV S A) (hW : MW S A) : fX11_worstFirst Y n S 215 = some (nI (bq A true (2 ^ eP A))) := by
  have a7 := h.ew
  have b0 := a7.1
  have b1 := a7.2.1
  have hN := p12 b1
  have hN0 : 0 < 2 ^ eP A := Nat.two_pow_pos _
  have l := hM.2.2.2.1.1
  unfold fX11_worstFirst
  rw [show (0 : Int32) = nI 0 from rfl, m_leastWorth (by omega) hM h hW (by omega), kc_s, show (1 : Int32) = nI 1 from rfl]
  refine kc_run (fun i => (nI (bq A true (i + 1)), nI (ww A (bq A true (i + 1))), nI (i + 1))) (2 ^ eP A - 1) (r := nI (bq A true (2 ^ eP A))) (fun i hi => ?_) ?_ (by omega) (by rw [bq_1]) rfl
  · have hb := bq_le A true (i + 1)
    have x3 := csum_le a7 (i + 1)
    have x4 := ww_le a7 (i + 1)
    have x5 := ww_le a7 (bq A true (i + 1))
    have hmo := m_isMore (n := n) (s := i + 1) (b := bq A true (i + 1)) (by omega) hM h hW (by omega) (by omega)
    unfold bX11_worstFirst_10 jX11_worstFirst_68_10 jX11_worstFirst_73_10
    rw [m_many hM h, kc_s]
    simp (discharger := omega) only [n2p, nle, if_neg]
    rw [m_costsOf (by omega) hM h (by omega), kc_s, kgr_n hM.1.1, show (0 : Int32) = nI 0 from rfl, kai_n (by omega) (by omega), h.m, m_leastWorth (by omega) hM h hW (by omega), kc_s]
    simp (discharger := omega) only [nle, nlt, neq, nI_1]
    rw [bq_s A true (i + 1)]
    have u0 : ∀ y, uk A true y = ww A y := fun _ => rfl
    have ud : upq A true (i + 1) (bq A true (i + 1)) = decide (csum A (i + 1) ≤ eM A ∧ (ww A (bq A true (i + 1)) < ww A (i + 1) ∨ (ww A (i + 1) = ww A (bq A true (i + 1)) ∧ (wa A (bq A true (i + 1)) < wa A (i + 1) ∨ (wa A (i + 1) = wa A (bq A true (i + 1)) ∧ csum A (i + 1) < csum A (bq A true (i + 1))))))) := rfl
    rw [ud]
    by_cases c1 : csum A (i + 1) ≤ eM A
    · rw [if_pos c1]
      by_cases c3 : ww A (i + 1) < ww A (bq A true (i + 1))
      · rw [if_pos c3, if_neg]
        rw [decide_eq_true_eq]
        omega
      · rw [if_neg c3]
        by_cases c4 : ww A (i + 1) = ww A (bq A true (i + 1))
        · rw [if_pos c4]
          by_cases c2 : isM A (i + 1) (bq A true (i + 1))
          · rw [hmo.1 c2, kc_s, if_neg (by decide), if_pos (decide_eq_true ⟨c1, Or.inr ⟨c4, c2⟩⟩)]
          · rw [hmo.2 c2, kc_s, if_pos (by decide), if_neg]
            rw [decide_eq_true_eq]
            rintro ⟨_, y | ⟨_, y⟩⟩
            · omega
            · exact c2 y
        · rw [if_neg c4, if_pos (decide_eq_true ⟨c1, Or.inl (by omega)⟩)]
    · rw [if_neg c1, if_neg]
      rw [decide_eq_true_eq]
      exact fun z => c1 z.1
  · unfold bX11_worstFirst_10
    rw [m_many hM h, kc_s]
    simp (discharger := omega) only [n2p, nle, if_pos]
    rw [show 2 ^ eP A - 1 + 1 = 2 ^ eP A by omega]
