/-! THE CLASS READS A TEXT: laws, lines, all. -/
theorem c_readLaw {Y : XS} {n : Nat} {S : PS} {X : TX} {A : EL} {k0 : Nat} (hn : 10000 ≤ n) (hY : 235 ≤ nX Y) (hR : RSt Y S) (hX : RX S X) (hL : LT S X k0) (h3 : k0 + 3 ≤ te X k0) (hT : TD Y S A) :
    ok (fLineLaw Y n S 1) (fun q => LY Y S X A q (sLaw X A k0)) := by
  have toM : ∀ b, b = 1 → Mr b := fun b hb => by unfold Mr; omega
  unfold fLineLaw fX7_readLaw
  rw [kgr_n hR.1]
  unfold kgq kq
  have hlaw := hT.2.2.2.2.2.2.1
  cases hr : gr S 2 3 with
  | some l =>
    dsimp only
    rw [hr] at hlaw
    have hs : (eL A).isSome = true := by
      cases he : eL A with
      | none => rw [he] at hlaw; exact hlaw.elim
      | some f => rfl
    have es : sLaw X A k0 = .inl (5, k0) := by unfold sLaw; rw [if_pos hs]
    rw [es, show (5 : Int32) = nI 5 from rfl, c_wrong hL, kc_s, kzr0, kc_s, kzr0]
    have f1 : Fr (fun b => b = 1) S (si (si S 1 4 (nI 5)) 1 1 (nI k0)) := (show Fr (fun b => b = 1) S (si S 1 4 (nI 5)) from Fr.rf.si rfl).si rfl
    exact ok_i ⟨rfl, rfl, FY.of (f1.mono toM), FT.mk hX hL (by decide)⟩
  | none =>
    dsimp only
    rw [hr] at hlaw
    have hs : eL A = none := by
      cases he : eL A with
      | none => rfl
      | some f => rw [he] at hlaw; exact hlaw.elim
    rw [kpi_n, kpi_n, kpi_n]
    generalize hS1 : si (si (si S 1 11 0) 1 13 0) 1 14 0 = S1
    have f1 : Fr (fun b => b = 1) S S1 := by rw [← hS1]; exact ((show Fr (fun b => b = 1) S (si S 1 11 0) from Fr.rf.si rfl).si rfl).si rfl
    have g1 : ∀ j, j ≤ 10 → gi S1 1 j = gi S 1 j := fun j hj => by rw [← hS1, Gn (by omega), Gn (by omega), Gn (by omega)]
    have c1 : CL S1 [] [] 0 := by
      refine ⟨?_, fun j hj => absurd hj (Nat.not_lt_zero _), ?_, fun j hj => absurd hj (Nat.not_lt_zero _), ?_⟩
      · rw [← hS1, Gn (by omega), Gn (by omega), Gp]; rfl
      · rw [← hS1, Gn (by omega), Gp]; rfl
      · rw [← hS1, Gp]; rfl
    clear hS1
    have hsm : SM Y X A S S1 0 (nx X k0) [] [] 0 := ⟨hR.fr f1.2.1, hX.fr f1 (by omega) (fun j hj => g1 j (by omega)), hT.fr f1 (by omega), c1, ⟨te X k0, by rw [g1 6 (by decide)]; exact hL.2.2.2.2.1, te_le hL.1, rfl, by show 0 + 0 + 3 ≤ _; omega, by omega⟩, f1.mono toM, fun j hj => g1 j (by omega)⟩
    generalize hRR : sLaw X A k0 = R
    unfold sLaw at hRR
    rw [if_neg (by rw [hs]; decide)] at hRR
    have key : Wq Y n (fun r => (∃ T e, (r = .inl T ∨ r = .inr (.inr (0, Y, T))) ∧ Fr Mr S T ∧ FT T e ∧ R = .inl e) ∨ ∃ q, r = .inr (.inr q) ∧ q.1 = 1 ∧ LY Y S X A q R) 1 0 S1 := by
      refine part_ok hn 6 (Nat.le_refl _) S1 0 (nx X k0) [] [] _ hsm ?_
      have bq : ∀ e, R = .inl e → BadQ Y S (fun r => (∃ T e, (r = .inl T ∨ r = .inr (.inr (0, Y, T))) ∧ Fr Mr S T ∧ FT T e ∧ R = .inl e) ∨ ∃ q, r = .inr (.inr q) ∧ q.1 = 1 ∧ LY Y S X A q R) e := fun e he T fT hF => ⟨Or.inl ⟨T, e, Or.inl rfl, fT, hF, he⟩, Or.inl ⟨T, e, Or.inr rfl, fT, hF, he⟩⟩
      unfold sSum at hRR
      cases hg : sP X 6 (nx X k0) with
      | inl e =>
        rw [hg] at hRR
        exact bq e hRR.symm
      | inr g =>
        rw [hg] at hRR
        dsimp only at hRR
        have hg2 := sP_gt 6 _ g (nx_le hL.1) hg
        intro U i' cs hU hcs
        refine level_ok (c0 := []) (ws0 := []) hn (Nat.le_refl _) (part_ok hn 6 (Nat.le_refl _)) (Or.inl rfl) (X.1 + 1) none none g.1 g.2 U i' cs (by omega) hg2.2 hU trivial trivial (fun s co l vo st rest hst => hcs s co l vo st rest (by omega)) ?_
        cases hv : sV X (sP X 6) (X.1 + 1) none g.1 g.2 with
        | inl e =>
          have hv' : sV X (sP X 6) (X.1 + 1) none (adF none g.1) g.2 = .inl e := hv
          rw [hv']
          rw [hv] at hRR
          exact bq e hRR.symm
        | inr r =>
          have hv' : sV X (sP X 6) (X.1 + 1) none (adF none g.1) g.2 = .inr r := hv
          rw [hv']
          rw [hv] at hRR
          dsimp only at hRR
          intro V i2 cE ps hV hps ho hcE
          unfold sEnd at hRR
          cases c59 : isS X r.2 59 with
          | false =>
            rw [c59, if_neg (by decide)] at hRR
            refine b_bad hn hV (by omega) ho (Or.inl c59) (Or.inr rfl) (bq _ hRR.symm)
          | true =>
            rw [c59, if_pos rfl] at hRR
            obtain ⟨T, t0, hLL, hi⟩ := hV.nx hn
            obtain ⟨x1, x2, x3, x4, x5, x6, x7, x8, x9⟩ := hLL
            have e59 := c_isSign (Y := Y) (n := n) (b := 59) x2 x5 (by decide)
            rw [c59, show (if true = true then (1 : Int32) else 0) = 1 from rfl] at e59
            have x8b : cE.length + ps.length ≤ 497 := x8.2
            obtain ⟨W, w0, w1, w2, w3⟩ := c_putW (n := n) (s := 1) (ws := []) (ps := ps) hn x1 (by decide) (Or.inl rfl) x4 (by show cE.length + (0 + ps.length) < 500; omega) hps
            have hlw : LawOK (cE ++ ps.reverse) r.1 := by
              intro s co l vo
              have := hcE s co l vo [] [] (by show 0 + (2 * 6 + 3) ≤ 15; decide)
              rw [List.append_nil] at this
              exact this
            have fTW : Fr Mr T W := w1.mono (fun b hb => by unfold Mr; omega)
            obtain ⟨q, q0, q1, q2, q3, q4, q5, q6, q7, q8⟩ := c_lawBlk (n := n) hY (x1.fr w1.2.1) (x2.fr w1 (by omega) (fun j hj => w3 j (by omega) (by omega))) (x3.fr w1 (by omega)) w2 (by show (([] ++ cE) ++ ps.reverse).length ≤ 497; rw [List.length_append, List.length_reverse]; exact x8b) hlw
            refine W_r (r := .inr (.inr q)) t0 hi ?_ (Or.inr ⟨q, rfl, q1, ?_⟩)
            · unfold lB
              rw [if_pos rfl, show fX7_isSign Y n T 1 59 = some 1 from e59, kc_s, if_neg (by decide), kgi_n, x4.2.2.2.2, if_pos (show nI (6 - 6) = 0 from rfl), show fX7_putWaiting Y n T 1 1 = some W from w0, kc_s, q0, kc_s]
            · rw [← hRR]
              refine ⟨q1, q2, ?_, (FY.of (x6.tr fTW)).tr q4 GY.rf, q5, q7, ?_, fun j hj => ?_⟩
              · rw [q3, hs]
                rfl
              · obtain ⟨a, a1, a2⟩ := x5.nxt
                exact ⟨a, by rw [q8 1 (by decide), w3 6 (by decide) (by decide)]; exact a1, a2⟩
              · rw [q8 1 (by decide), w3 j (by omega) (by omega)]
                exact x7 j hj
    obtain ⟨r, r0, hr'⟩ := key n (by omega)
    rw [show iter (bX7_readLaw_35 Y n 1) n ((1 : Int32), (0 : Int32), S1) = some r from r0, kc_s]
    rcases hr' with ⟨T, e, h1, h2, h3', h4⟩ | ⟨q, rfl, h1, h2⟩
    · rw [h4]
      rcases h1 with rfl | rfl
      · simp only [ks, jX7_readLaw_78]
        rw [kzr0, kc_s, kzr0]
        exact ok_i ⟨rfl, rfl, FY.of h2, h3'⟩
      · simp only [ks]
        rw [kc_s, kzr0]
        exact ok_i ⟨rfl, rfl, FY.of h2, h3'⟩
    · simp only [ks]
      rw [kc_s]
      unfold kzr
      rw [if_pos (Or.inr h1)]
      exact ok_i h2
theorem LY.of {Y : XS} {S : PS} {X : TX} {A : EL} {q : Int32 × XS × PS} {R : RR} (hR : RSt Y S) (h1 : q.2.1 = Y) (h2 : Fr Mr S q.2.2) (h3 : LnP Y S X q.1 q.2.2 R) (hl : ∀ z, R = .inr z → eL z.1 = eL A) : LY Y S X A q R := by
  obtain ⟨q1, q2, q3⟩ := q
  dsimp only at h1 h2 h3
  subst h1
  cases R with
  | inl e => exact ⟨h3.1, rfl, FY.of h2, h3.2⟩
  | inr z =>
    refine ⟨h3.1, GY.rf, ?_, FY.of h2, hR.fr h2.2.1, h3.2.1, h3.2.2.1, h3.2.2.2⟩
    have := hl z rfl
    rw [this, if_neg]
    · rfl
    · rintro ⟨a, b⟩
      rw [a] at b
      cases b
theorem c_readLine {Y : XS} {n : Nat} {S : PS} {X : TX} {A : EL} {k : Nat} (hn : 10000 ≤ n) (hY : 235 ≤ nX Y) (hR : RSt Y S) (hX : RX S X) (hL : LT S X k) (hT : TD Y S A) :
    ok (fX7_readLine Y n S 1) (fun q => LY Y S X A q (sLine X A k)) := by
  have toM : ∀ b, b = 1 → Mr b := fun b hb => by unfold Mr; omega
  have keep : ∀ R, sLine X A k = R → (isW X k 1 = true ∨ isW X k 2 = true ∨ isW X k 3 = true) → isW X k 4 = false → ∀ z, R = .inr z → eL z.1 = eL A := by
    intro R hR' h123 h4 z hz
    have hk : k < X.1 := by
      rcases h123 with h | h | h <;> exact (isW_lt h).2
    rw [hz] at hR'
    have := (sLine_gt hR' hk).2.2
    rcases this with e | ⟨e1, f, e2⟩
    · exact e
    · exfalso
      unfold sLine at hR'
      rcases h123 with h | h | h
      · rw [if_pos h] at hR'
        unfold sBudget at hR'
        cases hs : sNum X (nx X k) 0 99999 with
        | inl e => rw [hs] at hR'; cases hR'
        | inr v =>
          rw [hs] at hR'
          have := (sEnd_gt hR' (nx_le (nx_le (by omega)))).2.2
          rw [this] at e2
          have e3 : eL A = some f := e2
          rw [e1] at e3
          cases e3
      · by_cases h1 : isW X k 1 = true
        · rw [if_pos h1] at hR'
          unfold sBudget at hR'
          cases hs : sNum X (nx X k) 0 99999 with
          | inl e => rw [hs] at hR'; cases hR'
          | inr v =>
            rw [hs] at hR'
            have := (sEnd_gt hR' (nx_le (nx_le (by omega)))).2.2
            rw [this] at e2
            have e3 : eL A = some f := e2
            rw [e1] at e3
            cases e3
        · rw [if_neg h1, if_pos h] at hR'
          unfold sProject at hR'
          split at hR'
          · cases hR'
          · split at hR'
            · cases hn : nmd X A (nx X k) with
              | some p => rw [hn] at hR'; cases hR'
              | none =>
                rw [hn] at hR'
                dsimp only at hR'
                cases hs : sNum X (nx X (nx X k)) 1 9999 with
                | inl e => rw [hs] at hR'; cases hR'
                | inr v =>
                  rw [hs] at hR'
                  have := (sEnd_gt hR' (nx_le (nx_le (nx_le (by omega))))).2.2
                  rw [this] at e2
                  have e3 : eL A = some f := e2
                  rw [e1] at e3
                  cases e3
            · cases hR'
      · by_cases h1 : isW X k 1 = true
        · rw [if_pos h1] at hR'
          unfold sBudget at hR'
          cases hs : sNum X (nx X k) 0 99999 with
          | inl e => rw [hs] at hR'; cases hR'
          | inr v =>
            rw [hs] at hR'
            have := (sEnd_gt hR' (nx_le (nx_le (by omega)))).2.2
            rw [this] at e2
            have e3 : eL A = some f := e2
            rw [e1] at e3
            cases e3
        · by_cases h2 : isW X k 2 = true
          · rw [if_neg h1, if_pos h2] at hR'
            unfold sProject at hR'
            split at hR'
            · cases hR'
            · split at hR'
              · cases hn : nmd X A (nx X k) with
                | some p => rw [hn] at hR'; cases hR'
                | none =>
                  rw [hn] at hR'
                  dsimp only at hR'
                  cases hs : sNum X (nx X (nx X k)) 1 9999 with
                  | inl e => rw [hs] at hR'; cases hR'
                  | inr v =>
                    rw [hs] at hR'
                    have := (sEnd_gt hR' (nx_le (nx_le (nx_le (by omega))))).2.2
                    rw [this] at e2
                    have e3 : eL A = some f := e2
                    rw [e1] at e3
                    cases e3
              · cases hR'
          · rw [if_neg h1, if_neg h2, if_pos h] at hR'
            unfold sVotes at hR'
            cases hs : sNum X (nx X k) 1 9 with
            | inl e => rw [hs] at hR'; cases hR'
            | inr v =>
              rw [hs] at hR'
              dsimp only at hR'
              split at hR'
              · cases hR'
              · have := (sVl_gt _ _ _ _ z (nx_le (nx_le (by omega))) hR').2.2
                rw [this] at e2
                have e3 : eL A = some f := e2
                rw [e1] at e3
                cases e3
  have w4 : ∀ i, i = 1 ∨ i = 2 ∨ i = 3 → isW X k i = true → isW X k 4 = false := by
    intro i hi h
    cases h4 : isW X k 4 with
    | false => rfl
    | true =>
      unfold isW at h h4
      rw [Bool.and_eq_true, decide_eq_true_eq] at h h4
      have a1 := h.1.2
      have a2 := h4.1.2
      rw [a1] at a2
      rcases hi with rfl | rfl | rfl <;> exact absurd a2 (by decide)
  have hn3 : isW X k 4 = true → k + 3 ≤ te X k := by
    intro h
    have hk := (isW_lt h).2
    have := te_gt hk
    unfold isW at h
    rw [Bool.and_eq_true, decide_eq_true_eq] at h
    have h2 := h.1.2
    have h3 : strL 4 = 3 := rfl
    omega
  unfold fX7_readLine jX7_readLine_56 jX7_readLine_27
  rw [c_isWord hn hR hX hL (by decide) (by decide), kc_s, c_isWord hn hR hX hL (by decide) (by decide), kc_s, c_isWord hn hR hX hL (by decide) (by decide), kc_s, c_isWord hn hR hX hL (by decide) (by decide), kc_s]
  have kk : ∀ R, sLine X A k = R → (isW X k 1 = true ∨ isW X k 2 = true ∨ isW X k 3 = true) → ∀ z, R = .inr z → eL z.1 = eL A := by
    intro R hR' h123
    refine keep R hR' h123 ?_
    rcases h123 with h | h | h
    · exact w4 1 (by omega) h
    · exact w4 2 (by omega) h
    · exact w4 3 (by omega) h
  cases e1 : isW X k 1 with
  | true =>
    have es : sLine X A k = sBudget X A (nx X k) := by unfold sLine; rw [if_pos e1]
    rw [ifT rfl]
    refine ok_mono (c_readBudget hn hR hX hL.nxt hT) ?_
    rintro q ⟨q1, q2, q3⟩
    rw [es]
    exact LY.of hR q1 q2 q3 (kk _ es (Or.inl e1))
  | false =>
    rw [ifF rfl]
    cases e2 : isW X k 2 with
    | true =>
      have es : sLine X A k = sProject X A k := by unfold sLine; rw [if_neg (by rw [e1]; decide), if_pos e2]
      rw [ifT rfl]
      refine ok_mono (c_readProject hn hR hX hL hT) ?_
      rintro q ⟨q1, q2, q3⟩
      rw [es]
      exact LY.of hR q1 q2 q3 (kk _ es (Or.inr (Or.inl e2)))
    | false =>
      rw [ifF rfl]
      cases e3 : isW X k 3 with
      | true =>
        have es : sLine X A k = sVotes X A (nx X k) := by unfold sLine; rw [if_neg (by rw [e1]; decide), if_neg (by rw [e2]; decide), if_pos e3]
        rw [ifT rfl]
        refine ok_mono (c_readVotes hn hR hX hL.nxt hT) ?_
        rintro q ⟨q1, q2, q3⟩
        rw [es]
        exact LY.of hR q1 q2 q3 (kk _ es (Or.inr (Or.inr e3)))
      | false =>
        rw [ifF rfl]
        cases e4 : isW X k 4 with
        | true =>
          have es : sLine X A k = sLaw X A k := by unfold sLine; rw [if_neg (by rw [e1]; decide), if_neg (by rw [e2]; decide), if_neg (by rw [e3]; decide), if_pos e4]
          rw [ifT rfl, es]
          exact c_readLaw hn hY hR hX hL (hn3 e4) hT
        | false =>
          have es : sLine X A k = .inl (1, k) := by unfold sLine; rw [if_neg (by rw [e1]; decide), if_neg (by rw [e2]; decide), if_neg (by rw [e3]; decide), if_neg (by rw [e4]; decide)]
          rw [ifF rfl, es, show (1 : Int32) = nI 1 from rfl, c_wrong hL, kc_s, kzr0]
          have f1 : Fr (fun b => b = 1) S (si (si S 1 4 (nI 1)) 1 1 (nI k)) := (show Fr (fun b => b = 1) S (si S 1 4 (nI 1)) from Fr.rf.si rfl).si rfl
          exact ok_i ⟨rfl, rfl, FY.of (f1.mono toM), FT.mk hX hL (by decide)⟩
