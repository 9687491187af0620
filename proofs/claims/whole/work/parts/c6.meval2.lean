/-! THE MODEL RECKONS A LAW: parts, terms, sums. -/
def ev (S0 : PS) (g : LF) : Int32 := g (gi S0 215 9) (gi S0 215 10) (gi S0 215 11) (gi S0 216 2)
theorem byte_3 {X : TX} {k c : Nat} (hk : k < X.1) (h : X.2 k = c) (hc : c < 48) : tk X k = 3 := by
  unfold tk
  rw [if_neg (by omega), if_neg (by rw [h]; unfold isLt; rw [decide_eq_true_eq]; omega), if_neg (by rw [h]; unfold isFg; rw [decide_eq_true_eq]; omega)]
theorem byE_op {X : TX} {b k : Nat} (hb : ∀ j, j < X.1 → X.2 j < 256) (h1 : k ≤ b) (h2 : b ≤ X.1) (he : k = b → opO X k = 0) : (byE X b k = nI 42 ↔ opO X k = -7) ∧ (byE X b k = nI 47 ↔ opO X k = -8) ∧ (byE X b k = nI 43 ↔ opO X k = -5) ∧ (byE X b k = nI 45 ↔ opO X k = -6) := by
  unfold byE
  by_cases c : k < b
  · rw [if_pos c]
    have hx := hb k (by omega)
    rw [neq (by omega) (by decide), neq (by omega) (by decide), neq (by omega) (by decide), neq (by omega) (by decide)]
    by_cases z : opO X k = 0
    · have no : ∀ v, v < 48 → (v = 42 ∨ v = 43 ∨ v = 45 ∨ v = 47) → X.2 k ≠ v := by
        intro v hv hv2 e
        have t3 := byte_3 (by omega) e hv
        unfold opO at z
        rw [if_pos t3, e] at z
        rcases hv2 with rfl | rfl | rfl | rfl <;> exact absurd z (by decide)
      rw [z]
      exact ⟨⟨fun e => absurd e (no 42 (by decide) (by decide)), fun e => absurd e (by decide)⟩, ⟨fun e => absurd e (no 47 (by decide) (by decide)), fun e => absurd e (by decide)⟩, ⟨fun e => absurd e (no 43 (by decide) (by decide)), fun e => absurd e (by decide)⟩, ⟨fun e => absurd e (no 45 (by decide) (by decide)), fun e => absurd e (by decide)⟩⟩
    · obtain ⟨_, _, h | h | h | h⟩ := opO_3 z <;> rw [h.1, h.2] <;> decide
  · rw [if_neg c, he (by omega)]
    decide
def EPart (Y : XS) (n : Nat) (S0 : PS) (X : TX) (a b j m : Nat) : Prop := ∀ S p k g, AT S0 a p S → sk X isBk p = k → k ≤ X.1 → sP X j k = .inr g → g.2 ≤ b → ok (fX11_lawPart Y n (fX11_lawSumR Y n m) S 215) (fun q => q.1 = ev S0 g.1 ∧ ∃ p', AT S0 a p' q.2 ∧ sk X isBk p' = g.2)
theorem m_lawTerm {Y : XS} {n : Nat} {S0 S : PS} {X : TX} {a b j m p k f : Nat} {acc : Option (LF × Int32)} {r : LF × Nat} (hn : 10000 ≤ n) (hM : MSt Y S0) (hT : ET S0 X a b) (hp : EPart Y n S0 X a b j m) (h : AT S0 a p S) (hk : sk X isBk p = k) (hkX : k ≤ X.1) (hR : .inr r = cont X (sP X j) f acc k) (hr : r.2 ≤ b) (hf : X.1 - k ≤ f) :
    ok (fX11_lawTerm Y n (fX11_lawSumR Y n m) S 215) (fun q => ∃ f' m' k', .inr r = sV X (sP X j) f' acc m' k' ∧ q.1 = ev S0 m' ∧ AT S0 a k' q.2 ∧ sk X isBk k' = k' ∧ X.1 - k' < f' ∧ k < k' ∧ k' ≤ b ∧ ¬ (opO X k' ≠ 0 ∧ stg (opO X k') = 2)) := by
  have hT' := hT
  obtain ⟨t1, t2, t3, t4, t5, t6⟩ := hT
  have sg : ∀ f acc m k, k ≤ X.1 → .inr r = sV X (sP X j) f acc m k → k ≤ r.2 ∧ opO X r.2 = 0 := fun f acc m k hk he => by
    have := sV_ge (fun k g hk h => sP_gt j k g hk h) f acc m k r hk he.symm
    exact ⟨this.1, this.2.2⟩
  unfold cont at hR
  unfold fX11_lawTerm
  cases hs : sP X j k with
  | inl e => rw [hs] at hR; cases hR
  | inr g =>
    rw [hs] at hR
    dsimp only at hR
    have hg := sP_gt j k g hkX hs
    have hg2 := sg _ _ _ _ hg.2 hR
    refine ok_kc (hp S p k g h hk hkX hs (by omega)) ?_
    rintro ⟨q1, T⟩ ⟨e1, p', e2, e3⟩
    dsimp only at e1 e2 ⊢
    subst e1
    refine ok_kc (m_lawByte hn hM hT' e2 (by rw [e3]; omega)) ?_
    rintro ⟨c1, T1⟩ ⟨e4, e5⟩
    dsimp only at e4 e5 ⊢
    subst e4
    rw [e3] at e5 ⊢
    refine ok_kc (iter_ok (fun i t => ∃ f' m' k', .inr r = sV X (sP X j) f' acc m' k' ∧ t.1 = ev S0 m' ∧ t.2.1 = byE X b k' ∧ AT S0 a k' t.2.2 ∧ sk X isBk k' = k' ∧ X.1 - k' < f' ∧ k + 1 + i ≤ k' ∧ k' ≤ b) (Q := fun q => ∃ f' m' k', .inr r = sV X (sP X j) f' acc m' k' ∧ q.1 = ev S0 m' ∧ AT S0 a k' q.2 ∧ sk X isBk k' = k' ∧ X.1 - k' < f' ∧ k < k' ∧ k' ≤ b ∧ ¬ (opO X k' ≠ 0 ∧ stg (opO X k') = 2)) 502 (fun i t hi h1 => ?_) (fun t h1 => ?_) (by omega) ⟨f, g.1, g.2, hR, rfl, rfl, e5, by rw [← e3, sk_sk], by omega, by omega, by omega⟩) (fun r h => ok_i h)
    · obtain ⟨v1, c1, U⟩ := t
      obtain ⟨f', m', k', a1, a2, a3, a4, a5, a6, a7, a8⟩ := h1
      dsimp only at a2 a3 a4
      subst a2
      subst a3
      have bo := byE_op (k := k') t4 a8 t2 (fun e => by
        have := sg _ _ _ _ (by omega) a1
        rw [show k' = r.2 by omega]
        exact this.2)
      unfold bX11_lawTerm_10
      dsimp only
      have go : opO X k' ≠ 0 → stg (opO X k') = 2 → ok (jX11_lawTerm_22_10 Y n (fX11_lawSumR Y n m) U 215 (ev S0 m') (byE X b k')) (so (fun t => ∃ f' m' k', .inr r = sV X (sP X j) f' acc m' k' ∧ t.1 = ev S0 m' ∧ t.2.1 = byE X b k' ∧ AT S0 a k' t.2.2 ∧ sk X isBk k' = k' ∧ X.1 - k' < f' ∧ k + 1 + (i + 1) ≤ k' ∧ k' ≤ b) (fun q => ∃ f' m' k', .inr r = sV X (sP X j) f' acc m' k' ∧ q.1 = ev S0 m' ∧ AT S0 a k' q.2 ∧ sk X isBk k' = k' ∧ X.1 - k' < f' ∧ k < k' ∧ k' ≤ b ∧ ¬ (opO X k' ≠ 0 ∧ stg (opO X k') = 2))) := by
        intro o1 o2
        have ho := opO_3 o1
        have te1 := (tk_3 ho.1).2.2.2
        cases f' with
        | zero => omega
        | succ f' =>
          rw [sV_s, if_neg o1] at a1
          cases hs2 : sP X j (nx X k') with
          | inl e => rw [hs2] at a1; cases a1
          | inr g2 =>
            rw [hs2] at a1
            dsimp only at a1
            rw [if_pos o2] at a1
            have hg3 := sP_gt j _ g2 (nx_le (by omega)) hs2
            have hnx := nx_gt ho.2.1
            have hg4 := sg _ _ _ _ hg3.2 a1
            have snx : sk X isBk (k' + 1) = nx X k' := by unfold nx; rw [te1]
            unfold jX11_lawTerm_22_10
            rw [kgi_n, kpi_n]
            refine ok_kc (hp _ (k' + 1) (nx X k') g2 a4.inc snx (nx_le (by omega)) hs2 (by omega)) ?_
            rintro ⟨w1, W⟩ ⟨b1, p2, b2, b3⟩
            dsimp only at b1 b2 ⊢
            subst b1
            have fin : ∀ v : Int32, v = jn (opO X k') (ev S0 m') (ev S0 g2.1) → ok (jX11_lawTerm_60_10 Y n (fX11_lawSumR Y n m) W 215 v) (so (fun t => ∃ f' m' k', .inr r = sV X (sP X j) f' acc m' k' ∧ t.1 = ev S0 m' ∧ t.2.1 = byE X b k' ∧ AT S0 a k' t.2.2 ∧ sk X isBk k' = k' ∧ X.1 - k' < f' ∧ k + 1 + (i + 1) ≤ k' ∧ k' ≤ b) (fun q => ∃ f' m' k', .inr r = sV X (sP X j) f' acc m' k' ∧ q.1 = ev S0 m' ∧ AT S0 a k' q.2 ∧ sk X isBk k' = k' ∧ X.1 - k' < f' ∧ k < k' ∧ k' ≤ b ∧ ¬ (opO X k' ≠ 0 ∧ stg (opO X k') = 2))) := by
              intro v hv
              unfold jX11_lawTerm_60_10
              refine ok_kc (m_lawByte hn hM hT' b2 (by rw [b3]; omega)) ?_
              rintro ⟨c2, W2⟩ ⟨d1, d2⟩
              dsimp only at d1 d2 ⊢
              rw [b3] at d1 d2
              rw [ok_some, so_l]
              exact ⟨f', _, g2.2, a1, hv, d1, d2, by rw [← b3, sk_sk], by omega, by omega, by omega⟩
            rcases ho.2.2 with z | z | z | z
            · rw [if_pos (show byE X b k' = 42 from bo.1.mpr z.1)]
              exact fin _ (by rw [z.1]; rfl)
            · rw [z.1] at o2; exact absurd o2 (by decide)
            · rw [z.1] at o2; exact absurd o2 (by decide)
            · have n42 : ¬ byE X b k' = 42 := fun e => by
                have := bo.1.mp e
                rw [z.1] at this
                exact absurd this (by decide)
              rw [if_neg n42]
              by_cases b0 : ev S0 g2.1 = 0
              · rw [if_pos b0]
                refine fin 0 ?_
                rw [z.1, b0]
                rfl
              · unfold kidiv
                rw [if_neg b0, if_neg b0]
                refine fin _ ?_
                rw [z.1]
                show _ = if ev S0 g2.1 = 0 then 0 else ev S0 m' / ev S0 g2.1
                rw [if_neg b0]
      by_cases c42 : byE X b k' = 42
      · rw [if_pos c42]
        have := bo.1.mp c42
        exact go (by rw [this]; decide) (by rw [this]; decide)
      · rw [if_neg c42]
        by_cases c47 : byE X b k' = 47
        · rw [if_pos c47]
          have := bo.2.1.mp c47
          exact go (by rw [this]; decide) (by rw [this]; decide)
        · rw [if_neg c47, ok_some, so_r]
          refine ⟨f', m', k', a1, rfl, a4, a5, a6, by omega, a8, fun z => ?_⟩
          obtain ⟨_, _, w | w | w | w⟩ := opO_3 z.1
          · exact c42 (bo.1.mpr w.1)
          · rw [w.1] at z; exact absurd z.2 (by decide)
          · rw [w.1] at z; exact absurd z.2 (by decide)
          · exact c47 (bo.2.1.mpr w.1)
    · obtain ⟨v1, c1, U⟩ := t
      obtain ⟨f', m', k', a1, a2, a3, a4, a5, a6, a7, a8⟩ := h1
      omega
theorem m_lawSum {Y : XS} {n : Nat} {S0 S : PS} {X : TX} {a b j m p k : Nat} {r : LF × Nat} (hn : 10000 ≤ n) (hM : MSt Y S0) (hT : ET S0 X a b) (hp : EPart Y n S0 X a b j m) (h : AT S0 a p S) (hk : sk X isBk p = k) (hkX : k ≤ X.1) (hR : sSum X (sP X j) k = .inr r) (hr : r.2 ≤ b) :
    ok (fX11_lawSumR Y n (m + 1) S 215) (fun q => q.1 = ev S0 r.1 ∧ AT S0 a r.2 q.2) := by
  have hT' := hT
  obtain ⟨t1, t2, t3, t4, t5, t6⟩ := hT
  have sg : ∀ f acc m k, k ≤ X.1 → .inr r = sV X (sP X j) f acc m k → k ≤ r.2 ∧ opO X r.2 = 0 := fun f acc m k hk he => by
    have := sV_ge (fun k g hk h => sP_gt j k g hk h) f acc m k r hk he.symm
    exact ⟨this.1, this.2.2⟩
  show ok (fX11_lawSum Y n (fX11_lawSumR Y n m) S 215) _
  unfold fX11_lawSum
  refine ok_kc (m_lawTerm hn hM hT' hp h hk hkX (hR.symm.trans (cont_sum X (sP X j) k)) hr (by omega)) ?_
  rintro ⟨q1, T⟩ ⟨f1, m1', k1, a1, a2, a3, a4, a5, a6, a7, a8⟩
  dsimp only at a2 a3 ⊢
  subst a2
  refine ok_kc (m_lawByte hn hM hT' a3 (by rw [a4]; exact a7)) ?_
  rintro ⟨c1, T1⟩ ⟨e4, e5⟩
  dsimp only at e4 e5 ⊢
  subst e4
  rw [a4] at e5 ⊢
  refine ok_kc (iter_ok (fun i t => ∃ f' acc' m' k', .inr r = sV X (sP X j) f' acc' m' k' ∧ t.1 = ev S0 (adF acc' m') ∧ t.2.1 = byE X b k' ∧ AT S0 a k' t.2.2 ∧ sk X isBk k' = k' ∧ X.1 - k' < f' ∧ k + 1 + i ≤ k' ∧ k' ≤ b ∧ ¬ (opO X k' ≠ 0 ∧ stg (opO X k') = 2)) (Q := fun q => q.1 = ev S0 r.1 ∧ AT S0 a r.2 q.2) 502 (fun i t hi h1 => ?_) (fun t h1 => ?_) (by omega) ⟨f1, none, m1', k1, a1, rfl, rfl, e5, a4, a5, by omega, a7, a8⟩) (fun r h => ok_i h)
  · obtain ⟨v1, c1, U⟩ := t
    obtain ⟨f', acc', m', k', b1, b2, b3, b4, b5, b6, b7, b8, b9⟩ := h1
    dsimp only at b2 b3 b4
    subst b2
    subst b3
    have bo := byE_op (k := k') t4 b8 t2 (fun e => by
      have := sg _ _ _ _ (by omega) b1
      rw [show k' = r.2 by omega]
      exact this.2)
    unfold bX11_lawSum_10
    dsimp only
    have go : opO X k' ≠ 0 → stg (opO X k') = 1 → ok (jX11_lawSum_22_10 Y n (fX11_lawSumR Y n m) U 215 (ev S0 (adF acc' m')) (byE X b k')) (so (fun t => ∃ f' acc' m' k', .inr r = sV X (sP X j) f' acc' m' k' ∧ t.1 = ev S0 (adF acc' m') ∧ t.2.1 = byE X b k' ∧ AT S0 a k' t.2.2 ∧ sk X isBk k' = k' ∧ X.1 - k' < f' ∧ k + 1 + (i + 1) ≤ k' ∧ k' ≤ b ∧ ¬ (opO X k' ≠ 0 ∧ stg (opO X k') = 2)) (fun q => q.1 = ev S0 r.1 ∧ AT S0 a r.2 q.2)) := by
      intro o1 o2
      have ho := opO_3 o1
      have te1 := (tk_3 ho.1).2.2.2
      have hnx := nx_gt ho.2.1
      cases f' with
      | zero => omega
      | succ f' =>
        rw [sV_s, if_neg o1] at b1
        have b1' : .inr r = cont X (sP X j) f' (some (adF acc' m', opO X k')) (nx X k') := by
          rw [b1]
          unfold cont
          cases sP X j (nx X k') with
          | inl e => rfl
          | inr g =>
            dsimp only
            rw [if_neg (by omega)]
        have snx : sk X isBk (k' + 1) = nx X k' := by unfold nx; rw [te1]
        unfold jX11_lawSum_22_10
        rw [kgi_n, kpi_n]
        refine ok_kc (m_lawTerm hn hM hT' hp b4.inc snx (nx_le (by omega)) b1' hr (by omega)) ?_
        rintro ⟨w1, W⟩ ⟨f2, m2, k2, d1, d2, d3, d4, d5, d6, d7, d8⟩
        dsimp only at d2 d3 ⊢
        subst d2
        have fin : ∀ v : Int32, v = ev S0 (adF (some (adF acc' m', opO X k')) m2) → ok (jX11_lawSum_52_10 Y n (fX11_lawSumR Y n m) W 215 v) (so (fun t => ∃ f' acc' m' k', .inr r = sV X (sP X j) f' acc' m' k' ∧ t.1 = ev S0 (adF acc' m') ∧ t.2.1 = byE X b k' ∧ AT S0 a k' t.2.2 ∧ sk X isBk k' = k' ∧ X.1 - k' < f' ∧ k + 1 + (i + 1) ≤ k' ∧ k' ≤ b ∧ ¬ (opO X k' ≠ 0 ∧ stg (opO X k') = 2)) (fun q => q.1 = ev S0 r.1 ∧ AT S0 a r.2 q.2)) := by
          intro v hv
          unfold jX11_lawSum_52_10
          refine ok_kc (m_lawByte hn hM hT' d3 (by rw [d4]; exact d7)) ?_
          rintro ⟨c2, W2⟩ ⟨x1, x2⟩
          dsimp only at x1 x2 ⊢
          rw [d4] at x1 x2
          rw [ok_some, so_l]
          exact ⟨f2, _, m2, k2, d1, hv, x1, x2, d4, d5, by omega, d7, d8⟩
        rcases ho.2.2 with z | z | z | z
        · rw [z.1] at o2; exact absurd o2 (by decide)
        · rw [if_pos (show byE X b k' = 43 from bo.2.2.1.mpr z.1)]
          refine fin _ ?_
          rw [z.1]
          rfl
        · have n43 : ¬ byE X b k' = 43 := fun e => by
            have := bo.2.2.1.mp e
            rw [z.1] at this
            exact absurd this (by decide)
          rw [if_neg n43]
          refine fin _ ?_
          rw [z.1]
          rfl
        · rw [z.1] at o2; exact absurd o2 (by decide)
    by_cases c43 : byE X b k' = 43
    · rw [if_pos c43]
      have := bo.2.2.1.mp c43
      exact go (by rw [this]; decide) (by rw [this]; decide)
    · rw [if_neg c43]
      by_cases c45 : byE X b k' = 45
      · rw [if_pos c45]
        have := bo.2.2.2.mp c45
        exact go (by rw [this]; decide) (by rw [this]; decide)
      · rw [if_neg c45, ok_some, so_r]
        have o0 : opO X k' = 0 := by
          by_cases z : opO X k' = 0
          · exact z
          · exfalso
            obtain ⟨_, _, w | w | w | w⟩ := opO_3 z
            · exact b9 ⟨z, by rw [w.1]; decide⟩
            · exact c43 (bo.2.2.1.mpr w.1)
            · exact c45 (bo.2.2.2.mpr w.1)
            · exact b9 ⟨z, by rw [w.1]; decide⟩
        cases f' with
        | zero => omega
        | succ f' =>
          rw [sV_s, if_pos o0] at b1
          cases b1
          exact ⟨rfl, b4⟩
  · obtain ⟨v1, c1, U⟩ := t
    obtain ⟨f', acc', m', k', b1, b2, b3, b4, b5, b6, b7, b8, b9⟩ := h1
    omega
theorem e_atom {Y : XS} {n : Nat} {S0 S : PS} {X : TX} {a b p k : Nat} {g : LF × Nat} {rc : PS → Nat → Option (Int32 × PS)} (hn : 10000 ≤ n) (hM : MSt Y S0) (hT : ET S0 X a b) (h : AT S0 a p S) (hk : sk X isBk p = k) (hkX : k ≤ X.1) (h40 : isS X k 40 = false) (hs : sAtom X k = .inr g) (hg : g.2 ≤ b) :
    ok (fX11_lawPart Y n rc S 215) (fun q => q.1 = ev S0 g.1 ∧ ∃ p', AT S0 a p' q.2 ∧ sk X isBk p' = g.2) := by
  have hT' := hT
  obtain ⟨t1, t2, t3, t4, t5, t6⟩ := hT
  have hgt := sAtom_gt hs hkX
  have hnx := sAtom_nx hs
  have hkb : k < b := by omega
  have hb := t4 k (by omega)
  have teb : te X k ≤ b := by
    have : te X k ≤ nx X k := sk_ge _
    omega
  unfold fX11_lawPart jX11_lawPart_62
  refine ok_kc (m_lawByte hn hM hT' h (by rw [hk]; omega)) ?_
  rintro ⟨c1, T⟩ ⟨e1, e2⟩
  dsimp only at e1 e2 ⊢
  rw [hk] at e1 e2
  have e1' : c1 = nI (X.2 k) := by rw [e1]; unfold byE; rw [if_pos hkb]
  subst e1'
  have n40 : ¬ X.2 k = 40 := by
    intro e
    have := byte_3 (by omega) e (by decide)
    unfold isS at h40
    rw [decide_eq_false_iff_not] at h40
    exact h40 ⟨this, e⟩
  rw [show (40 : Int32) = nI 40 from rfl, i_eq (by omega) (by decide), if_neg n40, m_isFigure hb, kc_s]
  by_cases c2 : tk X k = 2
  · obtain ⟨_, _, c3, c4⟩ := tk_2 c2
    rw [ifT c3]
    refine ok_kc (m_lawNumber hn hM hT' e2 (by rw [← c4]; exact teb)) ?_
    rintro ⟨v, U⟩ ⟨v1, v2⟩
    dsimp only at v1 v2 ⊢
    unfold sAtom at hs
    rw [if_pos c2] at hs
    by_cases e : nv X k ≤ 9999
    · rw [if_pos e] at hs
      cases hs
      refine ok_i ⟨?_, sk X isFg k, v2, by rw [← c4]; rfl⟩
      rw [v1, nw_eq]
      show nI (min 9999 (nvl X k (sk X isFg k - k))) = nI (nv X k)
      congr 1
      unfold nv at e ⊢
      rw [c4] at e ⊢
      omega
    · rw [if_neg e] at hs
      cases hs
  · have word : ∀ i, 1 ≤ i → i < 9 → isW X k i = true → isFg (X.2 k) = false ∧ te X k = sk X isLt k ∧ X.2 k = wch i 0 := by
      intro i hi hi9 hw
      have ht := (isW_lt hw).1
      obtain ⟨_, w1, w2⟩ := tk_1 ht
      have wl := wch_l i hi9 hi
      refine ⟨?_, w2, ?_⟩
      · have := of_decide_eq_true w1
        unfold isFg
        rw [decide_eq_false_iff_not]
        omega
      · unfold isW at hw
        rw [Bool.and_eq_true, allq_iff] at hw
        have := hw.2 0 (by omega)
        rw [decide_eq_true_eq] at this
        exact this
    have go : ∀ i, 1 ≤ i → i < 9 → isW X k i = true → ∀ f : LF, g = (f, nx X k) → (∀ U, AT S0 a (sk X isLt k) U → ok (jX11_lawWord_47 Y n U 215 (nI (X.2 k))) (fun q => q.1 = ev S0 f ∧ q.2 = U)) → ok (if (if isFg (X.2 k) = true then (1 : Int32) else 0) = 0 then kc (fX11_lawWord Y n T 215 (nI (X.2 k))) (fun q59 => some (q59.1, q59.2)) else kc (fX11_lawNumber Y n T 215) (fun q51 => some (q51.1, q51.2))) (fun q => q.1 = ev S0 g.1 ∧ ∃ p', AT S0 a p' q.2 ∧ sk X isBk p' = g.2) := by
      intro i hi hi9 hw f hgf hj
      obtain ⟨w1, w2, w3⟩ := word i hi hi9 hw
      rw [ifF w1]
      unfold fX11_lawWord
      refine ok_kc (P := fun q => q.1 = ev S0 f ∧ AT S0 a (sk X isLt k) q.2) ?_ ?_
      · refine ok_kc (m_lawWordL hn hM hT' e2 (by rw [← w2]; exact teb)) ?_
        intro U hU
        refine ok_mono (hj U hU) ?_
        rintro ⟨q1, q2⟩ ⟨x1, x2⟩
        dsimp only at x2
        subst x2
        exact ⟨x1, hU⟩
      · rintro ⟨q1, U⟩ ⟨x1, x2⟩
        rw [hgf]
        exact ok_i ⟨x1, sk X isLt k, x2, by rw [← w2]; rfl⟩
    unfold sAtom at hs
    rw [if_neg c2] at hs
    cases e5 : isW X k 5 with
    | true =>
      rw [e5, if_pos rfl] at hs
      cases hs
      refine go 5 (by decide) (by decide) e5 _ rfl (fun U hU => ?_)
      rw [(word 5 (by decide) (by decide) e5).2.2]
      unfold jX11_lawWord_47
      rw [if_neg (by decide), if_neg (by decide), if_pos (by decide), kgi_n, hU.2.1 9 (by decide)]
      exact ok_i ⟨rfl, rfl⟩
    | false =>
      rw [e5, if_neg (by decide)] at hs
      cases e6 : isW X k 6 with
      | true =>
        rw [e6, if_pos rfl] at hs
        cases hs
        refine go 6 (by decide) (by decide) e6 _ rfl (fun U hU => ?_)
        rw [(word 6 (by decide) (by decide) e6).2.2]
        unfold jX11_lawWord_47
        rw [if_pos (by decide), kgi_n, hU.2.1 10 (by decide)]
        exact ok_i ⟨rfl, rfl⟩
      | false =>
        rw [e6, if_neg (by decide)] at hs
        cases e7 : isW X k 7 with
        | true =>
          rw [e7, if_pos rfl] at hs
          cases hs
          refine go 7 (by decide) (by decide) e7 _ rfl (fun U hU => ?_)
          rw [(word 7 (by decide) (by decide) e7).2.2]
          unfold jX11_lawWord_47
          rw [if_neg (by decide), if_pos (by decide), kgi_n, hU.2.1 11 (by decide)]
          exact ok_i ⟨rfl, rfl⟩
        | false =>
          rw [e7, if_neg (by decide)] at hs
          cases e8 : isW X k 8 with
          | true =>
            rw [e8, if_pos rfl] at hs
            cases hs
            refine go 8 (by decide) (by decide) e8 _ rfl (fun U hU => ?_)
            rw [(word 8 (by decide) (by decide) e8).2.2]
            have hMU := hM.fr hU.1.2.1
            have l := hM.2.2.2.1.1
            unfold jX11_lawWord_47 fX11_people
            rw [if_neg (by decide), if_neg (by decide), if_neg (by decide), kgr_n hMU.1.1, show (2 : Int32) = nI 2 from rfl, kai_n (by omega) (by omega), kc_s, hU.1.gi (by omega)]
            exact ok_i ⟨rfl, rfl⟩
          | false =>
            rw [e8, if_neg (by decide)] at hs
            cases hs
theorem ePart {Y : XS} {n : Nat} {S0 : PS} {X : TX} {a b : Nat} (hn : 10000 ≤ n) (hM : MSt Y S0) (hT : ET S0 X a b) : ∀ j m, j ≤ m → EPart Y n S0 X a b j m
  | 0, m, _ => by
    intro S p k g h hk hkX hs hg
    rw [sP_0] at hs
    cases c : isS X k 40 with
    | true => rw [c, if_pos rfl] at hs; cases hs
    | false =>
      rw [c, if_neg (by decide)] at hs
      exact e_atom hn hM hT h hk hkX c hs hg
  | j + 1, m, hm => by
    intro S p k g h hk hkX hs hg
    rw [sP_s] at hs
    cases c : isS X k 40 with
    | false =>
      rw [c, if_neg (by decide)] at hs
      exact e_atom hn hM hT h hk hkX c hs hg
    | true =>
      rw [c, if_pos rfl] at hs
      obtain ⟨c1, c2, c3⟩ := isS_lt c
      have te1 := (tk_3 c2).2.2.2
      cases hq : sSum X (sP X j) (nx X k) with
      | inl e => rw [hq] at hs; cases hs
      | inr r =>
        rw [hq] at hs
        dsimp only at hs
        cases c41 : isS X r.2 41 with
        | false => rw [c41, if_neg (by decide)] at hs; cases hs
        | true =>
          rw [c41, if_pos rfl] at hs
          cases hs
          obtain ⟨d1, d2, d3⟩ := isS_lt c41
          have te2 := (tk_3 d2).2.2.2
          have hnx2 := nx_gt d1
          have hnx := nx_gt c1
          have hg' : nx X r.2 ≤ b := hg
          have rge : nx X k ≤ r.2 := by
            unfold sSum at hq
            cases hp1 : sP X j (nx X k) with
            | inl e => rw [hp1] at hq; cases hq
            | inr g1 =>
              rw [hp1] at hq
              have h1 := sP_gt j _ g1 (nx_le hkX) hp1
              have h2 := sV_ge (fun k g hk h => sP_gt j k g hk h) _ _ _ _ r h1.2 hq
              omega
          obtain ⟨m', rfl⟩ : ∃ m', m = m' + 1 := ⟨m - 1, by omega⟩
          unfold fX11_lawPart
          refine ok_kc (m_lawByte hn hM hT h (by rw [hk]; omega)) ?_
          rintro ⟨x1, T⟩ ⟨e1, e2⟩
          dsimp only at e1 e2 ⊢
          rw [hk] at e1 e2
          have e1' : x1 = 40 := by rw [e1]; unfold byE; rw [if_pos (by omega), c3]; rfl
          rw [if_pos e1', kgi_n, kpi_n]
          have snx : sk X isBk (k + 1) = nx X k := by unfold nx; rw [te1]
          refine ok_kc (m_lawSum hn hM hT (ePart hn hM hT j m' (by omega)) e2.inc snx (nx_le hkX) hq (by omega)) ?_
          rintro ⟨v, U⟩ ⟨u1, u2⟩
          dsimp only at u1 u2 ⊢
          have sr : sk X isBk r.2 = r.2 := by
            apply sk_stop
            right
            rw [d3]
            rfl
          refine ok_kc (m_lawByte hn hM hT u2 (by rw [sr]; omega)) ?_
          rintro ⟨y1, V⟩ ⟨v1, v2⟩
          dsimp only at v1 v2 ⊢
          rw [sr] at v2
          rw [kgi_n, kpi_n]
          exact ok_i ⟨u1, r.2 + 1, v2.inc, by show sk X isBk (r.2 + 1) = nx X r.2; unfold nx; rw [te2]⟩
