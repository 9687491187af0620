/-! THE MODEL'S READER: votes. -/
theorem m_votesIn {Y : XS} {n : Nat} {S : PS} {A : EL} {f m p s : Nat} {x : Int32} (hn : 10000 ≤ n) (hM : MSt Y S) (hG : GD S) (hT : TR S A f) (hp : p < eP A) (hv : eV A = f + m) (hs : s ≤ 9) :
    ok (iter (bX11_readVotes_141 Y n 215 (nI m) x (nI p) (nI s)) n ((0 : Int32), S)) (fun T => Fr (fun b => b = 217) S T ∧ TR T (stV A f m p s) f) := by
  have a7 := hT.ew
  have b1 := a7.2.1
  have b2 := a7.2.2.1
  have l2 := hM.2.2.2.1.2.1
  refine iter_ok (fun i t => t.1 = nI i ∧ Fr (fun b => b = 217) S t.2 ∧ (∀ q u, q < 12 → u < 24 → gi t.2 217 (87 + 12 * u + q) = if q = p ∧ f ≤ u ∧ u < f + i then nI s else gi S 217 (87 + 12 * u + q)) ∧ ∀ j, (j < 87 ∨ 375 ≤ j) → gi t.2 217 j = gi S 217 j) m (fun i t hi h1 => ?_) (fun t h1 => ?_) (by omega) ⟨rfl, Fr.rf, fun q u _ _ => by rw [if_neg (by omega)], fun _ _ => rfl⟩
  · obtain ⟨t1, T⟩ := t
    obtain ⟨k1, k2, k3, k4⟩ := h1
    dsimp only at k1 k2 k3 k4
    subst k1
    have hMT := hM.fr k2.2.1
    unfold bX11_readVotes_141
    dsimp only
    rw [i_le (by omega) (by omega), if_neg (by omega), kgi_n, if_pos (show gi T 215 34 = 0 by rw [k2.gi (by omega)]; exact hG), kgr_n hMT.1.2.1, kgr_n hMT.1.2.1, show (2 : Int32) = nI 2 from rfl, kai_n (by omega) (by omega), k4 2 (by omega), hT.2.2.1, nI_add, m_scoreAt, kc_s, kwi_n (by omega) (by omega), nI_1, ok_some, so_l]
    refine ⟨rfl, k2.si rfl, fun q u hq hu => ?_, fun j hj => by dsimp only; rw [Gn (by omega)]; exact k4 j hj⟩
    dsimp only
    by_cases e : q = p ∧ u = f + i
    · obtain ⟨rfl, rfl⟩ := e
      rw [Gp, if_pos (by omega)]
    · rw [Gn (by omega), k3 q u hq hu]
      by_cases c : q = p ∧ f ≤ u ∧ u < f + i
      · rw [if_pos c, if_pos (by omega)]
      · rw [if_neg c, if_neg (by omega)]
  · obtain ⟨t1, T⟩ := t
    obtain ⟨k1, k2, k3, k4⟩ := h1
    dsimp only at k1 k2 k3 k4
    subst k1
    unfold bX11_readVotes_141
    dsimp only
    rw [i_le (by omega) (by omega), if_pos (by omega), ok_some, so_r]
    refine ⟨k2, ?_⟩
    obtain ⟨h0, h1', h2, h3, h4, h5, h6, h7, h8⟩ := hT
    refine ⟨by rw [k4 _ (by omega)]; exact h0, by rw [k4 _ (by omega)]; exact h1', by rw [k4 _ (by omega)]; exact h2, fun p hp => by rw [k4 _ (by have : p < eP A := hp; omega)]; exact h3 p hp, fun p k hp hk => by rw [k4 _ (by have : p < eP A := hp; omega)]; exact h4 p k hp hk, fun q u hq hu => ?_, h6.mv (fun j j1 j2 => by rw [k4 _ (by omega)]), ⟨h7.1, h7.2.1, h7.2.2.1, h7.2.2.2.1, fun q u hq hu => ?_⟩, fun q u hqu => ?_⟩
    · rw [k3 q u hq hu]
      show _ = nI (if q = p ∧ f ≤ u ∧ u < f + m then s else eS A q u)
      by_cases c : q = p ∧ f ≤ u ∧ u < f + m
      · rw [if_pos c, if_pos c]
      · rw [if_neg c, if_neg c]
        exact h5 q u hq hu
    · show (if q = p ∧ f ≤ u ∧ u < f + m then s else eS A q u) ≤ 9
      split
      · exact hs
      · exact h7.2.2.2.2 q u hq hu
    · show (if q = p ∧ f ≤ u ∧ u < f + m then s else eS A q u) = 0
      have hqu' : eP A ≤ q ∨ eV A ≤ u := hqu
      rw [if_neg (by omega)]
      exact h8 q u hqu'
theorem m_readVotes {Y : XS} {n : Nat} {S : PS} {X : TX} {A : EL} {k : Nat} (hn : 10000 ≤ n) (hM : MSt Y S) (hX : MX S X) (hG : GD S) (hL : ML S X k) (hT : TR S A (eV A)) :
    ok (kc (fX11_readVotes Y n S 215) (fun q59 => jX11_readLine_87 Y n q59 215)) (fun T => MP S X T (sVotes X A (nx X k))) := by
  have l2 := hM.2.2.2.1.2.1
  have a7 := hT.ew
  have b1 := a7.2.1
  have b2 := a7.2.2.1
  have hP2 : 2 ^ eP A ≤ 4096 := p12 b1
  have z183 : ∀ (U : PS) (e : Nat × Nat) (x : Int32), Fr M2 S U → FQ S U → BD U e → ok (kc (jX11_readVotes_183 Y n U 215 x) (fun q59 => jX11_readLine_87 Y n q59 215)) (fun T => MP S X T (.inl e)) := by
    intro U e x f q h
    have hMU := hM.fr f.2.1
    unfold jX11_readVotes_183
    rw [kgr_n hMU.1.2.1, show (2 : Int32) = nI 2 from rfl, kai_n (by omega) (by omega), kwi_n (by omega) (by omega), kc_s]
    exact z_lineEnd (f.si (Or.inr rfl)) (fun j hj => by rw [Gn (by omega)]; exact q j hj) ⟨by rw [Gn (by omega)]; exact h.1, by rw [Gn (by omega)]; exact h.2.1, h.2.2⟩
  have z37 : ∀ (U : PS) (e : Nat × Nat) (x : Int32), Fr M2 S U → FQ S U → BD U e → ok (kc (jX11_readVotes_37 Y n U 215 x) (fun q59 => jX11_readLine_87 Y n q59 215)) (fun T => MP S X T (.inl e)) := by
    intro U e x f q h
    unfold jX11_readVotes_37
    have : iter (bX11_readVotes_43 Y n 215 x) n ((0 : Int32), U) = some (.inl U) := by
      refine iter_run (fun _ => ((0 : Int32), U)) 0 (fun i hi => absurd hi (Nat.not_lt_zero _)) ?_ (by omega) rfl
      unfold bX11_readVotes_43
      rw [kgi_n, if_neg h.ne]
    rw [z_pass h, kc_s, this, kc_s]
    exact z183 U e x f q h
  unfold fX11_readVotes sVotes
  obtain ⟨T, t0, t1, t2, t3⟩ := m_pass hn hM hX hG hL
  have hMT := hM.fr t1.2.1
  have hXT := hX.fr t1 (by omega) (t3 29 (by omega))
  have hGT : GD T := by unfold GD; rw [t3 34 (by omega)]; exact hG
  have hTT := hT.fr t1 (by omega)
  have fT : Fr M2 S T := t1.mono toM2
  rw [t0, kc_s]
  obtain ⟨⟨q1, U⟩, u0, u1⟩ := m_numberHere (lo := 1) (hi := 9) hn hMT hXT hGT t2 (by decide) (by decide)
  rw [show fX11_numberHere Y n T 215 1 9 = some (q1, U) from u0, kc_s]
  dsimp only
  cases hs : sNum X (nx X k) 1 9 with
  | inl e =>
    rw [hs] at u1
    obtain ⟨z1, z2⟩ := u1
    dsimp only at z1 z2 ⊢
    have fU : Fr M2 S U := by rw [z1]; exact fT.tr (wrS_fr.mono toM2)
    have qU : FQ S U := by rw [z1]; exact t3.q.tr (fun j hj => wrS_j (by omega) (by omega))
    rw [kgi_n, if_neg z2.ne]
    exact z37 U e q1 fU qU z2
  | inr m =>
    rw [hs] at u1
    have u1' : (q1, U) = (nI m, T) := u1
    cases u1'
    have hm := sNum_r hs
    dsimp only
    rw [kgi_n, if_pos hGT.e, kgr_n hMT.1.2.1, show (2 : Int32) = nI 2 from rfl, kai_n (by omega) (by omega), hTT.2.2.1, nI_add, show (24 : Int32) = nI 24 from rfl, i_le (by omega) (by decide)]
    by_cases c : 24 < eV A + m
    · rw [if_neg (by omega), if_pos c, show (4 : Int32) = nI 4 from rfl, m_wrong hGT t2, kc_s]
      obtain ⟨f, q, h⟩ := wr_mp (k := nx X k) (c := 4) fT t3.q (by decide)
      exact z37 _ _ _ f q h
    · rw [if_pos (by omega), if_neg c]
      unfold jX11_readVotes_37
      obtain ⟨W, w0, w1, w2, w3⟩ := m_pass hn hMT hXT hGT t2
      have fW : Fr M2 S W := fT.tr (w1.mono toM2)
      have qW : FQ S W := t3.q.tr w3.q
      have hGW : GD W := by unfold GD; rw [w3 34 (by omega)]; exact hGT
      have hTW : TR W (adV A m) (eV A) := by
        obtain ⟨h0, h1', h2, h3, h4, h5, h6, h7, h8⟩ := hTT.fr w1 (by omega)
        refine ⟨h0, h1', h2, h3, h4, h5, h6, ⟨h7.1, h7.2.1, show eV A + m ≤ 24 by omega, h7.2.2.2.1, fun p v hp hv => ?_⟩, fun p v hpv => ?_⟩
        · show eS A p v ≤ 9
          by_cases e : v < eV A
          · exact h7.2.2.2.2 p v hp e
          · rw [h8 p v (Or.inr (by omega))]
            exact Nat.zero_le _
        · have hpv' : eP A ≤ p ∨ eV A + m ≤ v := hpv
          exact h8 p v (by omega)
      rw [w0, kc_s]
      generalize hRv : sVl X (eV A) m 13 (adV A m) 0 (nx X (nx X k)) = R
      have key : ok (iter (bX11_readVotes_43 Y n 215 (nI m)) n ((0 : Int32), W)) (fun r => (∃ T e, (r = .inl T ∨ r = .inr T) ∧ R = .inl e ∧ Fr M2 S T ∧ FQ S T ∧ BD T e) ∨ ∃ T A' k', r = .inl T ∧ Fr M2 S T ∧ FQ S T ∧ GD T ∧ ML T X k' ∧ TR T A' (eV A) ∧ eV A' = eV A + m ∧ R = sEnd X A' k') := by
        refine iter_ok (fun i t => (∃ e, R = .inl e ∧ Fr M2 S t.2 ∧ FQ S t.2 ∧ BD t.2 e) ∨ ∃ A' seen k', t.1 = nI seen ∧ seen < 2 ^ eP A ∧ nK (fun q => seen.testBit q) (eP A) = i ∧ R = sVl X (eV A) m (13 - i) A' seen k' ∧ ML t.2 X k' ∧ GD t.2 ∧ TR t.2 A' (eV A) ∧ Fr M2 S t.2 ∧ FQ S t.2 ∧ eP A' = eP A ∧ eV A' = eV A + m) 14 (fun i t hi h1 => ?_) (fun t h1 => ?_) (by omega) (Or.inr ⟨adV A m, 0, nx X (nx X k), rfl, Nat.two_pow_pos _, by
        have : nK (fun q => (0 : Nat).testBit q) (eP A) ≤ eP A * 0 := sm_le (fun q _ => by simp)
        omega, hRv.symm, w2, hGW, hTW, fW, qW, rfl, rfl⟩)
        · obtain ⟨t1', V⟩ := t
          dsimp only at h1
          unfold bX11_readVotes_43
          dsimp only
          rcases h1 with ⟨e, h2, h3, h4, h5⟩ | ⟨A', seen, k', k2, k3, k4, k5, k6, k7, k8, k9, k10, k11, k12⟩
          · rw [kgi_n, if_neg h5.ne, ok_some, so_r]
            exact Or.inl ⟨V, e, Or.inl rfl, h2, h3, h4, h5⟩
          · subst k2
            have nle' := nK_le (K := fun q => seen.testBit q) (V := eP A)
            have hi13 : i < 13 := by omega
            have hMV := hM.fr k9.2.1
            have hXV : MX V X := hX.fr k9 (by unfold M2; omega) (k10 29 (by omega))
            have tl := tk_le X k'
            rw [show 13 - i = (12 - i) + 1 by omega, sVl_s] at k5
            rw [kgi_n, if_pos k7.e, kgi_n, k6.2.2.1, show (1 : Int32) = nI 1 from rfl, i_eq (by omega) (by decide)]
            by_cases ct : tk X k' = 1
            · have ns : isS X k' 59 = false := by
                unfold isS
                rw [decide_eq_false_iff_not]
                omega
              rw [if_pos ct, m_isName hn hMV hXV k7 k6, kc_s]
              rw [ns, if_neg (by decide)] at k5
              have bad : ∀ (U : PS) (e : Nat × Nat) (v3 : Int32), BD U e → R = .inl e → Fr M2 S U → FQ S U → ok (jX11_readVotes_111_43 Y n U 215 (nI m) (nI seen) v3) (so (fun t => (∃ e, R = .inl e ∧ Fr M2 S t.2 ∧ FQ S t.2 ∧ BD t.2 e) ∨ ∃ A' seen k', t.1 = nI seen ∧ seen < 2 ^ eP A ∧ nK (fun q => seen.testBit q) (eP A) = i + 1 ∧ R = sVl X (eV A) m (13 - (i + 1)) A' seen k' ∧ ML t.2 X k' ∧ GD t.2 ∧ TR t.2 A' (eV A) ∧ Fr M2 S t.2 ∧ FQ S t.2 ∧ eP A' = eP A ∧ eV A' = eV A + m) (fun r => (∃ T e, (r = .inl T ∨ r = .inr T) ∧ R = .inl e ∧ Fr M2 S T ∧ FQ S T ∧ BD T e) ∨ ∃ T A' k', r = .inl T ∧ Fr M2 S T ∧ FQ S T ∧ GD T ∧ ML T X k' ∧ TR T A' (eV A) ∧ eV A' = eV A + m ∧ R = sEnd X A' k')) := by
                intro U e v3 hb hR hf hq
                unfold jX11_readVotes_111_43
                rw [kgi_n, if_neg hb.ne, ok_some, so_r]
                exact Or.inl ⟨U, e, Or.inr rfl, hR, hf, hq, hb⟩
              cases en : isN X k' with
              | false =>
                rw [en, if_neg (by decide)] at k5
                obtain ⟨f, q, h⟩ := wr_mp (k := k') (c := 1) k9 k10 (by decide)
                rw [ifF rfl, m_wrong k7 k6, kc_s]
                unfold jX11_readVotes_70_43 jX11_readVotes_85_43
                rw [kgi_n, if_neg h.ne, kgi_n, if_neg h.ne]
                exact bad _ _ _ h k5 f q
              | true =>
                rw [en, if_pos rfl] at k5
                rw [ifT rfl]
                unfold jX11_readVotes_70_43
                rw [kgi_n, if_pos k7.e, m_named (A := A') hn hMV hXV k6 ct (by omega) k8.2.1 k8.2.2.2.2.1, kc_s]
                unfold jX11_readVotes_85_43 jX11_readVotes_106_43
                rw [kgi_n, if_pos k7.e, mm1]
                obtain ⟨f3, q3, h3⟩ := wr_mp (k := k') (c := 3) k9 k10 (by decide)
                rw [show (3 : Int32) = nI 3 from rfl, m_wrong k7 k6, kc_s]
                cases g : nmd X A' k' with
                | none =>
                  rw [g] at k5
                  rw [oI_0, if_pos rfl]
                  exact bad _ _ _ h3 k5 f3 q3
                | some p =>
                  have hp := fsf_lt g
                  rw [k11] at hp
                  rw [g] at k5
                  dsimp only at k5
                  rw [oI_s, if_neg (by rw [nm1 (by omega)]; exact fun e => e), m_isOf (by omega) (by omega), kc_s]
                  cases hb : seen.testBit p with
                  | true =>
                    rw [hb, if_pos rfl] at k5
                    rw [ifT rfl]
                    exact bad _ _ _ h3 k5 f3 q3
                  | false =>
                    rw [hb, if_neg (by decide)] at k5
                    rw [ifF rfl]
                    unfold jX11_readVotes_111_43 jX11_readVotes_180_43
                    obtain ⟨P1, p0, p1, p2, p3⟩ := m_pass hn hMV hXV k7 k6
                    have hMP := hMV.fr p1.2.1
                    have hXP := hXV.fr p1 (by omega) (p3 29 (by omega))
                    have hGP : GD P1 := by unfold GD; rw [p3 34 (by omega)]; exact k7
                    have fP : Fr M2 S P1 := k9.tr (p1.mono toM2)
                    have qP : FQ S P1 := k10.tr p3.q
                    rw [kgi_n, if_pos k7.e, p0, kc_s]
                    obtain ⟨⟨y1, V2⟩, y2, y3⟩ := m_number (lo := 0) (hi := 9) hn hMP hXP hGP p2 (by decide) (by decide)
                    rw [show fX11_number Y n P1 215 0 9 = some (y1, V2) from y2, kc_s]
                    dsimp only
                    rw [n2p (by omega), nor]
                    cases hs2 : sNum X (nx X k') 0 9 with
                    | inl er =>
                      rw [hs2] at y3 k5
                      obtain ⟨x1, x2⟩ := y3
                      dsimp only at x1 x2 k5
                      have fV2 : Fr M2 S V2 := by rw [x1]; exact fP.tr (wrS_fr.mono toM2)
                      have qV2 : FQ S V2 := by rw [x1]; exact qP.tr (fun j hj => wrS_j (by omega) (by omega))
                      have : iter (bX11_readVotes_141 Y n 215 (nI m) (nI (seen ||| 2 ^ p)) (nI p) y1) n ((0 : Int32), V2) = some V2 := by
                        refine iter_run (fun _ => ((0 : Int32), V2)) 0 (fun i hi => absurd hi (Nat.not_lt_zero _)) ?_ (by omega) rfl
                        unfold bX11_readVotes_141
                        dsimp only
                        rw [show (0 : Int32) = nI 0 from rfl, i_le (by omega) (by omega), if_neg (by omega), kgi_n, if_neg (show ¬ gi V2 215 34 = nI 0 from x2.ne)]
                      rw [this, kc_s, ok_some, so_l]
                      exact Or.inl ⟨er, k5, fV2, qV2, x2⟩
                    | inr s =>
                      rw [hs2] at y3 k5
                      obtain ⟨x1, x2, x3, x4⟩ := y3
                      dsimp only at x1 x2 x3 x4 k5
                      subst x1
                      have hs3 := sNum_r hs2
                      have hGV2 : GD V2 := by unfold GD; rw [x4 34 (by omega)]; exact hGP
                      refine ok_kc (m_votesIn hn (hMP.fr x2.2.1) hGV2 ((k8.fr p1 (by omega)).fr x2 (by omega)) (by omega) k12 hs3.2.1) ?_
                      rintro Z ⟨v1, v2⟩
                      rw [ok_some, so_l]
                      refine Or.inr ⟨stV A' (eV A) m p s, seen ||| 2 ^ p, nx X (nx X k'), rfl, ?_, ?_, ?_, x3.fr (fun j => v1.gi (by omega) j), by unfold GD; rw [v1.gi (by omega)]; exact hGV2, v2, (fP.tr (x2.mono toM2)).tr (v1.mono (fun b hb => Or.inr hb)), (qP.tr x4.q).tr (fun j _ => v1.gi (by omega) j), k11, k12⟩
                      · exact Nat.or_lt_two_pow k3 (Nat.pow_lt_pow_right (by decide) hp)
                      · rw [nK_add hp hb, k4]
                      · rw [k5, show 13 - (i + 1) = 12 - i by omega]
            · rw [if_neg ct, ok_some, so_r]
              right
              refine ⟨V, A', k', rfl, k9, k10, k7, k6, k8, k12, ?_⟩
              rw [k5]
              unfold sEnd
              have ni : isN X k' = false := by
                cases en : isN X k' with
                | false => rfl
                | true => exact absurd (isN_1 en) ct
              rw [ni]
              rfl
        · obtain ⟨t1', V⟩ := t
          dsimp only at h1
          unfold bX11_readVotes_43
          dsimp only
          rcases h1 with ⟨e, h2, h3, h4, h5⟩ | ⟨A', seen, k', k2, k3, k4, _⟩
          · rw [kgi_n, if_neg h5.ne, ok_some, so_r]
            exact Or.inl ⟨V, e, Or.inl rfl, h2, h3, h4, h5⟩
          · have nle' := nK_le (K := fun q => seen.testBit q) (V := eP A)
            omega
      obtain ⟨r, r0, hr⟩ := key
      rw [r0, kc_s]
      rcases hr with ⟨Z, e, h1, h2, h3, h4, h5⟩ | ⟨Z, A', k', rfl, h2, h3, h4, h5, h6, h7, h8⟩
      · rw [h2]
        rcases h1 with rfl | rfl
        · exact z183 Z e _ h3 h4 h5
        · show ok (kc (some Z) _) _
          rw [kc_s]
          exact z_lineEnd h3 h4 h5
      · show ok (kc (jX11_readVotes_183 Y n Z 215 (nI m)) _) _
        have hMZ := hM.fr h2.2.1
        unfold jX11_readVotes_183
        rw [kgr_n hMZ.1.2.1, show (2 : Int32) = nI 2 from rfl, kai_n (by omega) (by omega), h6.2.2.1, nI_add, kwi_n (by omega) (by omega), kc_s, h8]
        have f2 : Fr (fun x => x = 217) Z (si Z 217 2 (nI (eV A + m))) := Fr.rf.si rfl
        have g : ∀ j, gi (si Z 217 2 (nI (eV A + m))) 215 j = gi Z 215 j := fun j => Gn (by omega)
        have hXZ : MX Z X := hX.fr h2 (by unfold M2; omega) (h3 29 (by omega))
        refine m_lineEnd hn (hMZ.fr f2.2.1) (hXZ.fr f2 (by omega) (g 29)) (h2.tr (f2.mono (fun b hb => Or.inr hb))) (fun j hj => by rw [g]; exact h3 j hj) (by unfold GD; rw [g]; exact h4) (h5.fr g) ?_
        obtain ⟨a0, a1, a2, a3, a4, a5, a6, a7', a8⟩ := h6
        have b1' := a7'.2.1
        exact ⟨by rw [Gn (by omega)]; exact a0, by rw [Gn (by omega)]; exact a1, by rw [Gp, h7], fun p hp => by rw [Gn (by omega)]; exact a3 p hp, fun p k hp hk => by rw [Gn (by omega)]; exact a4 p k hp hk, fun p v hp hv => by rw [Gn (by omega)]; exact a5 p v hp hv, a6.mv (fun j _ _ => Gn (by omega)), a7', a8⟩
