/-! THE CLASS'S READER: votes. -/
theorem sVl_s (X : TX) (f m g : Nat) (A : EL) (seen k : Nat) : sVl X f m (g + 1) A seen k = if isS X k 59 = true then .inr (A, nx X k) else if isN X k = true then (match nmd X A k with
    | none => .inl (3, k)
    | some p => if seen.testBit p = true then .inl (3, k) else (match sNum X (nx X k) 0 9 with
      | .inl e => .inl e
      | .inr s => sVl X f m g (stV A f m p s) (seen ||| 2 ^ p) (nx X (nx X k)))) else .inl (1, k) := rfl
theorem c_votesIn {Y : XS} {n : Nat} {S : PS} {A : EL} {f m p s : Nat} {x y z : Int32} (hn : 10000 ≤ n) (hR : RSt Y S) (hT : TD Y S A) (hp : p < eP A) (hv : eV A = f + m) (hs : s ≤ 9) (h9 : gi S 1 9 = nI s) :
    ok (iter (bX7_readVotes_145 Y n 1 x (nI (f + m)) y z (nI p)) n (nI f, S)) (fun T => Fr (fun b => b = 5) S T ∧ TD Y T (stV A f m p s)) := by
  have a7 := hT.ew
  have b1 := a7.2.1
  have b2 := a7.2.2.1
  obtain ⟨e4, e5, e6, l3, l4, l5⟩ := hR.2.2.2.2.2.2.2
  rw [show 2 + 3 = 5 from rfl] at l5
  refine iter_ok (fun i t => t.1 = nI (f + i) ∧ Fr (fun b => b = 5) S t.2 ∧ ∀ q u, q < 12 → u < 24 → gi t.2 5 (q * 24 + u) = if q = p ∧ f ≤ u ∧ u < f + i then nI s else gi S 5 (q * 24 + u)) m (fun i t hi h1 => ?_) (fun t h1 => ?_) (by omega) ⟨rfl, Fr.rf, fun q u _ _ => by rw [if_neg (by omega)]⟩
  · obtain ⟨t1, T⟩ := t
    obtain ⟨k1, k2, k3⟩ := h1
    dsimp only at k1 k2 k3
    subst k1
    unfold bX7_readVotes_145
    dsimp only
    rw [i_le (by omega) (by omega), if_neg (by omega), kgr_n (by rw [k2.gr]; exact hR.1), kgr_n (b := 5) (by rw [k2.gr]; exact e6), kgi_n, k2.gi (by omega), h9, show (24 : Int32) = nI 24 from rfl, nmul, nI_add, kwi_n (by omega) (by omega), nI_1, ok_some, so_l]
    refine ⟨rfl, k2.si rfl, fun q u hq hu => ?_⟩
    dsimp only
    by_cases e : q = p ∧ u = f + i
    · obtain ⟨rfl, rfl⟩ := e
      rw [Gp, if_pos (by omega)]
    · rw [Gn (by omega), k3 q u hq hu]
      by_cases c : q = p ∧ f ≤ u ∧ u < f + i
      · rw [if_pos c, if_pos (by omega)]
      · rw [if_neg c, if_neg (by omega)]
  · obtain ⟨t1, T⟩ := t
    obtain ⟨k1, k2, k3⟩ := h1
    dsimp only at k1 k2 k3
    subst k1
    unfold bX7_readVotes_145
    dsimp only
    rw [i_le (by omega) (by omega), if_pos (by omega), ok_some, so_r]
    refine ⟨k2, ?_⟩
    obtain ⟨h1, h2, h3, h4, h5, h6, h7, h8, h9'⟩ := hT
    refine ⟨by rw [k2.gi (by omega)]; exact h1, by rw [k2.gi (by omega)]; exact h2, by rw [k2.gi (by omega)]; exact h3, fun p hp => by rw [k2.gi (by omega)]; exact h4 p hp, fun p k hp hk => by rw [k2.gi (by omega)]; exact h5 p k hp hk, fun q u hq hu => ?_, ?_, ⟨h8.1, h8.2.1, h8.2.2.1, h8.2.2.2.1, fun q u hq hu => ?_⟩, fun q u hqu => ?_⟩
    · rw [k3 q u hq hu]
      show _ = nI (if q = p ∧ f ≤ u ∧ u < f + m then s else eS A q u)
      by_cases c : q = p ∧ f ≤ u ∧ u < f + m
      · rw [if_pos c, if_pos c]
      · rw [if_neg c, if_neg c]
        exact h6 q u hq hu
    · rw [k2.gr]
      exact h7.mv (LH.fr k2 (by omega))
    · show (if q = p ∧ f ≤ u ∧ u < f + m then s else eS A q u) ≤ 9
      split
      · exact hs
      · exact h8.2.2.2.2 q u hq hu
    · show (if q = p ∧ f ≤ u ∧ u < f + m then s else eS A q u) = 0
      have hqu' : eP A ≤ q ∨ eV A ≤ u := hqu
      rw [if_neg (by omega)]
      exact h9' q u hqu'
theorem c_readVotes {Y : XS} {n : Nat} {S : PS} {X : TX} {A : EL} {k : Nat} (hn : 10000 ≤ n) (hR : RSt Y S) (hX : RX S X) (hP : PT S X k) (hT : TD Y S A) :
    ok (kc (fX7_readVotes Y n S 1) (fun q68 => kzr q68.1 (some (q68.1, Y, q68.2)))) (fun q => q.2.1 = Y ∧ Fr Mr S q.2.2 ∧ LnP Y S X q.1 q.2.2 (sVotes X A k)) := by
  have a7 := hT.ew
  have b1 := a7.2.1
  have b2 := a7.2.2.1
  have toM : ∀ b, b = 1 → Mr b := fun b hb => by unfold Mr; omega
  unfold fX7_readVotes sVotes
  obtain ⟨⟨q1, T⟩, h1, t1, t2⟩ := c_readNumber (lo := 1) (hi := 9) hn hR hX hP (by decide) (by decide)
  rw [show fX7_readNumber Y n S 1 1 9 = some (q1, T) from h1, kc_s]
  dsimp only at t1 t2 ⊢
  cases hs : sNum X k 1 9 with
  | inl e =>
    rw [hs] at t2
    obtain ⟨z1, z2⟩ := t2.z
    dsimp only at z1 z2
    subst z1
    rw [if_pos rfl, kzr0, kc_s, kzr0]
    exact ok_i ⟨rfl, t1.mono toM, rfl, z2⟩
  | inr m =>
    rw [hs] at t2
    obtain ⟨z1, z2, z3, z4⟩ := t2
    dsimp only at z1 z2 z3 z4
    subst z1
    have hm := sNum_r hs
    have fT := t1.mono toM
    have hXT : RX T X := hX.l fT z4.l
    have hTT := hT.fr t1 (by omega)
    dsimp only
    rw [if_neg (by decide), kgr_n (by rw [t1.gr]; exact hR.1), kgi_n, hTT.2.2.1, kgi_n, z3, nI_add, show (24 : Int32) = nI 24 from rfl, i_le (by omega) (by decide)]
    by_cases c : 24 < eV A + m
    · rw [if_neg (by omega), if_pos c, c_wrong z2, kc_s, kzr0, kc_s, kzr0]
      exact ok_i ⟨rfl, ((t1.si rfl).si rfl).mono toM, rfl, FT.mk (c := 4) hXT z2 (by decide)⟩
    · rw [if_pos (by omega), if_neg c, kgr_n (by rw [t1.gr]; exact hR.1), kpi_n]
      generalize hU : si T 2 2 (nI (eV A + m)) = U
      have f2 : Fr (fun x => x = 2) T U := by rw [← hU]; exact Fr.rf.si rfl
      have u2 : ∀ j, gi U 2 j = if j = 2 then nI (eV A + m) else gi T 2 j := by
        intro j
        rw [← hU]
        by_cases e : j = 2
        · subst e
          rw [Gp, if_pos rfl]
        · rw [Gn (by omega), if_neg e]
      clear hU
      have fU : Fr Mr S U := fT.tr (f2.mono (fun b hb => by unfold Mr; omega))
      have lU : FL S U := fun j hj => by rw [f2.gi (by omega)]; exact z4.l j hj
      have hTU : TD Y U (adV A m) := by
        obtain ⟨h1, h2, h3, h4, h5, h6, h7, h8, h9⟩ := hTT
        refine ⟨by rw [u2, if_neg (by decide)]; exact h1, by rw [u2, if_neg (by decide)]; exact h2, by rw [u2, if_pos rfl]; rfl, fun p hp => by rw [f2.gi (by omega)]; exact h4 p hp, fun p k hp hk => by rw [f2.gi (by omega)]; exact h5 p k hp hk, fun q u hq hu => by rw [f2.gi (by omega)]; exact h6 q u hq hu, ?_, ⟨h8.1, h8.2.1, show eV A + m ≤ 24 by omega, h8.2.2.2.1, fun p v hp hv => ?_⟩, fun p v hpv => ?_⟩
        · rw [f2.gr]
          exact h7.mv (LH.fr f2 (by omega))
        · show eS A p v ≤ 9
          by_cases e : v < eV A
          · exact h8.2.2.2.2 p v hp e
          · rw [h9 p v (Or.inr (by omega))]
            exact Nat.zero_le _
        · have hpv' : eP A ≤ p ∨ eV A + m ≤ v := hpv
          exact h9 p v (by omega)
      generalize hRv : sVl X (eV A) m 13 (adV A m) 0 (nx X k) = R
      refine ok_kc (P := fun r => ∃ r' T', r = (r', T') ∧ Fr Mr S T' ∧ LnP Y S X r' T' R) ?_ ?_
      · refine ok_kc (P := fun r => ∃ r' T', r = .inr (r', T') ∧ Fr Mr S T' ∧ LnP Y S X r' T' R) (iter_ok (fun i t => t.2.1 = nI i ∧ ∃ A' seen k', t.1 = nI seen ∧ seen < 2 ^ eP A ∧ nK (fun q => seen.testBit q) (eP A) = i ∧ R = sVl X (eV A) m (13 - i) A' seen k' ∧ TD Y t.2.2 A' ∧ PT t.2.2 X k' ∧ Fr Mr S t.2.2 ∧ FL S t.2.2 ∧ eP A' = eP A ∧ eV A' = eV A + m) 13 (fun i t hi h1 => ?_) (fun t h1 => ?_) (by omega) ⟨rfl, adV A m, 0, nx X k, rfl, Nat.two_pow_pos _, ?_, hRv.symm, hTU, z2.nxt.fr (f2.gi (by omega) 6), fU, lU, rfl, rfl⟩) ?_
        · obtain ⟨t1', t2', V⟩ := t
          obtain ⟨k1, A', seen, k', k2, k3, k4, k5, k6, k7, k8, k9, k10, k11⟩ := h1
          dsimp only at k1 k2 k6 k7 k8 k9
          subst k1
          subst k2
          have hP2 : 2 ^ eP A ≤ 4096 := p12 b1
          have hRV := hR.fr k8.2.1
          have hXV := hX.l k8 k9
          rw [show 13 - i = (12 - i) + 1 by omega, sVl_s] at k5
          unfold bX7_readVotes_52
          dsimp only
          rw [show (12 : Int32) = nI 12 from rfl, i_lt (by decide) (by omega), if_neg (by omega)]
          refine ok_kc (c_next hn hRV hXV k7) ?_
          rintro W ⟨w1, w2, w3⟩
          have fW : Fr Mr S W := k8.tr (w1.mono toM)
          have lW : FL S W := k9.tr w3.l
          have hRW := hR.fr fW.2.1
          have hXW := hX.l fW lW
          have hTW := k6.fr w1 (by omega)
          rw [show (59 : Int32) = nI 59 from rfl, c_isSign hXW w2 (by decide), kc_s]
          cases d : isS X k' 59 with
          | true =>
            rw [d, if_pos rfl] at k5
            rw [ifT rfl, kzr1, ok_some, so_r]
            refine ⟨1, W, rfl, fW, ?_⟩
            rw [k5]
            exact ⟨rfl, hTW, w2.nxt, lW⟩
          | false =>
            rw [d, if_neg (by decide)] at k5
            rw [ifF rfl, c_isName hn hRW hXW w2, kc_s]
            have bad : ∀ cc : Nat, 1 ≤ cc ∧ cc ≤ 5 → R = .inl (cc, k') → ok (jX7_readVotes_119_52 Y n W (nI cc) 1) (so (fun t => t.2.1 = nI (i + 1) ∧ ∃ A' seen k', t.1 = nI seen ∧ seen < 2 ^ eP A ∧ nK (fun q => seen.testBit q) (eP A) = i + 1 ∧ R = sVl X (eV A) m (13 - (i + 1)) A' seen k' ∧ TD Y t.2.2 A' ∧ PT t.2.2 X k' ∧ Fr Mr S t.2.2 ∧ FL S t.2.2 ∧ eP A' = eP A ∧ eV A' = eV A + m) (fun r => ∃ r' T', r = .inr (r', T') ∧ Fr Mr S T' ∧ LnP Y S X r' T' R)) := by
              intro cc hcc hR'
              unfold jX7_readVotes_119_52
              rw [c_wrong w2, kc_s, kzr0, ok_some, so_r]
              refine ⟨0, _, rfl, fW.tr ((((Fr.rf (M := fun x => x = 1)).si rfl).si rfl).mono toM), ?_⟩
              rw [hR']
              exact ⟨rfl, FT.mk hXW w2 hcc⟩
            cases e : isN X k' with
            | false =>
              rw [e, if_neg (by decide)] at k5
              rw [ifF rfl]
              unfold jX7_readVotes_89_52 jX7_readVotes_106_52
              rw [if_pos rfl, c_isName hn hRW hXW w2, kc_s, ifF e]
              exact bad 1 (by decide) k5
            | true =>
              have e1 := isN_1 e
              rw [e, if_pos rfl] at k5
              rw [ifT rfl, c_named hn hRW hXW w2 e1 hTW, kc_s]
              unfold jX7_readVotes_89_52 jX7_readVotes_106_52
              rw [c_isName hn hRW hXW w2, kc_s, ifT e, mm1]
              cases g : nmd X A' k' with
              | none =>
                rw [g] at k5
                rw [oI_0, if_pos rfl]
                exact bad 3 (by decide) k5
              | some p =>
                have hp := fsf_lt g
                rw [k10] at hp
                rw [g] at k5
                dsimp only at k5
                rw [oI_s, if_neg (by rw [nm1 (by omega)]; exact fun e => e), s_isIn (by omega) (by omega), kc_s]
                cases hb : seen.testBit p with
                | true =>
                  rw [hb, if_pos rfl] at k5
                  rw [ifT rfl]
                  exact bad 3 (by decide) k5
                | false =>
                  rw [hb, if_neg (by decide)] at k5
                  rw [ifF rfl]
                  obtain ⟨⟨y1, V2⟩, y2, y3, y4⟩ := c_readNumber (lo := 0) (hi := 9) hn hRW hXW w2.nxt (by decide) (by decide)
                  rw [show fX7_readNumber Y n W 1 0 9 = some (y1, V2) from y2, kc_s]
                  dsimp only at y3 y4 ⊢
                  have fV2 := fW.tr (y3.mono toM)
                  cases hs2 : sNum X (nx X k') 0 9 with
                  | inl er =>
                    rw [hs2] at y4 k5
                    obtain ⟨x1, x2⟩ := y4.z
                    dsimp only at x1 x2 k5
                    subst x1
                    rw [if_pos rfl, kzr0, ok_some, so_r]
                    refine ⟨0, V2, rfl, fV2, ?_⟩
                    rw [k5]
                    exact ⟨rfl, x2⟩
                  | inr s =>
                    rw [hs2] at y4 k5
                    obtain ⟨x1, x2, x3, x4⟩ := y4
                    dsimp only at x1 x2 x3 x4 k5
                    subst x1
                    have hs3 := sNum_r hs2
                    have hTV := hTW.fr y3 (by omega)
                    rw [if_neg (by decide)]
                    refine ok_kc (c_votesIn (p := p) (s := s) hn (hR.fr fV2.2.1) hTV (by omega) k11 hs3.2.1 x3) ?_
                    rintro Z ⟨v1, v2⟩
                    rw [n2p (by omega), nor, nI_1, ok_some, so_l]
                    refine ⟨rfl, stV A' (eV A) m p s, seen ||| 2 ^ p, nx X (nx X k'), rfl, ?_, ?_, ?_, v2, x2.nxt.fr (v1.gi (by omega) 6), fV2.tr (v1.mono (fun b hb => by unfold Mr; omega)), (lW.tr x4.l).tr (fun j _ => v1.gi (by omega) j), k10, k11⟩
                    · exact Nat.or_lt_two_pow k3 (Nat.pow_lt_pow_right (by decide) hp)
                    · rw [nK_add hp hb, k4]
                    · rw [k5, show 13 - (i + 1) = 12 - i by omega]
        · obtain ⟨t1', t2', V⟩ := t
          obtain ⟨k1, A', seen, k', k2, k3, k4, _⟩ := h1
          have := nK_le (K := fun q => seen.testBit q) (V := eP A)
          omega
        · have : nK (fun q => (0 : Nat).testBit q) (eP A) ≤ eP A * 0 := sm_le (fun q _ => by simp)
          omega
        · rintro r ⟨r', T', rfl, x1, x2⟩
          exact ok_i ⟨r', T', rfl, x1, x2⟩
      · rintro r ⟨r', T', rfl, x1, x2⟩
        dsimp only
        have hr : r' = 0 ∨ r' = 1 := by
          cases R with
          | inl e => exact Or.inl x2.1
          | inr z => exact Or.inr x2.1
        unfold kzr
        rw [if_pos hr]
        exact ok_i ⟨rfl, x1, x2⟩
