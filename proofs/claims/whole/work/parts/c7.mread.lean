/-! THE MODEL READS A TEXT: laws, lines. -/
def subT (X : TX) (a b : Nat) : List Nat := (List.range (b - a)).map (fun j => X.2 (a + j))
theorem subT_len (X : TX) (a b : Nat) : (subT X a b).length = b - a := by unfold subT; rw [List.length_map, List.length_range]
theorem subT_get {X : TX} {a b j : Nat} (h : j < b - a) : (subT X a b).getD j 0 = X.2 (a + j) := by
  unfold subT
  rw [List.getD_eq_getElem?_getD, List.getElem?_map, List.getElem?_range h]
  rfl
theorem mlaw {X : TX} {a : Nat} {r : LF × Nat} (hx : X.1 ≤ 500) (hb : ∀ j, j < X.1 → X.2 j < 256) (ha : sk X isBk a = a) (hle : a ≤ X.1) (hab : a ≤ r.2) (hr : r.2 ≤ X.1) (hs : sSum X (sP X 6) a = .inr r) : MLaw (subT X a r.2) r.1 := by
  intro Y n S hn hM h376 h377 h8
  rw [subT_len] at h376 h377
  have hT : ET S X a r.2 := ⟨hab, hr, hx, hb, h376, fun j j1 j2 => by
    rw [h377 (j - a) (by omega), subT_get (by omega), show a + (j - a) = j by omega]⟩
  have hA : AT S a a S := ⟨Fr.rf, fun _ _ => rfl, by rw [Nat.sub_self]; exact h8, Nat.le_refl _⟩
  refine ok_mono (m_lawSum (m := 9) hn hM hT (ePart hn hM hT 6 9 (by decide)) hA ha hle hs (Nat.le_refl _)) ?_
  rintro q ⟨q1, q2⟩
  exact ⟨q1, q2.1, q2.2.1⟩
theorem m_readLaw {Y : XS} {n : Nat} {S : PS} {X : TX} {A : EL} {k : Nat} (hn : 10000 ≤ n) (hM : MSt Y S) (hX : MX S X) (hG : GD S) (hL : ML S X k) (hT : TR S A (eV A)) (h37 : gi S 215 37 = nI 0) :
    ok (kc (fX11_readLaw Y n S 215) (fun q76 => jX11_readLine_87 Y n q76 215)) (fun T => MP S X T (sLaw X A k)) := by
  have l2 := hM.2.2.2.1.2.1
  have l7 := hM.2.2.2.2.2.2.2.2.2.2.2
  have x5 := hX.2.1
  have hlaw := hT.2.2.2.2.2.2.1
  unfold fX11_readLaw sLaw
  rw [kgr_n hM.1.2.1, show (375 : Int32) = nI 375 from rfl, kai_n (by omega) (by omega)]
  cases hl : eL A with
  | some f =>
    rw [hl] at hlaw
    have e : gi S 217 375 = nI 1 := by have := hlaw.1; rwa [Nat.zero_add] at this
    rw [e, if_pos (show nI 1 = 1 from rfl), if_pos (show (some f).isSome = true from rfl), show (5 : Int32) = nI 5 from rfl, m_wrong hG hL, kc_s]
    obtain ⟨f', q, h⟩ := wr_mp (k := k) (c := 5) (Fr.rf (M := M2) (S := S)) FQ.rf (by decide)
    unfold jX11_readLaw_17
    rw [z_pass h, kc_s, kgi_n, show fX11_readSumR Y n 10 (wrS S 5 k) 215 = some (wrS S 5 k) from z_readSum (m := 9) hn h, kc_s, kgi_n, if_neg h.ne, kc_s]
    exact z_lineEnd f' q h
  | none =>
    rw [hl] at hlaw
    have e : gi S 217 375 = nI 0 := by have : gi S 217 (0 + 375) = nI 0 := hlaw; rwa [Nat.zero_add] at this
    rw [e, if_neg (show ¬ nI 0 = 1 by decide), if_neg (show ¬ (none : Option LF).isSome = true by decide)]
    unfold jX11_readLaw_17
    obtain ⟨T, t0, t1, t2, t3⟩ := m_pass hn hM hX hG hL
    have hMT := hM.fr t1.2.1
    have hXT := hX.fr t1 (by omega) (t3 29 (by omega))
    have hGT : GD T := by unfold GD; rw [t3 34 (by omega)]; exact hG
    have hna : nx X k ≤ X.1 := nx_le hL.1
    have ska : sk X isBk (nx X k) = nx X k := sk_sk _
    rw [t0, kc_s, kgi_n, t2.2.2.2.1]
    obtain ⟨U, u0, u1⟩ := m_readSum (j := 6) (m := 9) hn (partM hn 6 9 (by decide) (by decide)) hMT hXT hGT t2 (by rw [t3 37 (by omega)]; exact h37)
    rw [show fX11_readSumR Y n 10 T 215 = some U from u0, kc_s]
    generalize ha : nx X k = a at *
    cases hs : sSum X (sP X 6) a with
    | inl er =>
      rw [hs] at u1
      obtain ⟨z1, z2, z3⟩ := u1
      rw [kgi_n, if_neg z3.ne, kc_s]
      exact z_lineEnd4 ((t1.mono toM2).tr (z1.mono toM2)) (t3.q4.tr z2) z3
    | inr r =>
      rw [hs] at u1
      obtain ⟨z1, z2, z3, z4, z5⟩ := u1
      have hMU := hMT.fr z1.2.1
      have hrx := z4.1
      have har : a ≤ r.2 := by
        unfold sSum at hs
        cases hp1 : sP X 6 a with
        | inl e => rw [hp1] at hs; cases hs
        | inr g1 =>
          rw [hp1] at hs
          have h1 := sP_gt 6 _ g1 hna hp1
          have h2 := sV_ge (fun k g hk h => sP_gt 6 k g hk h) _ _ _ _ r h1.2 hs
          omega
      have fU : Fr (fun x => x = 215) S U := t1.tr z1
      rw [kgi_n, if_pos z3.e, kgr_n hMU.1.2.1, show (375 : Int32) = nI 375 from rfl, kwi_n (by omega) (by omega), kgr_n (b := 217) (by rw [Gr_si]; exact hMU.1.2.1), kgi_n, Gn (by omega), z4.2.2.2.1, show (376 : Int32) = nI 376 from rfl, nsub har, kwi_n (by omega) (by omega)]
      generalize hV : si (si U 217 375 1) 217 376 (nI (r.2 - a)) = V
      have fV : Fr (fun x => x = 217) U V := by rw [← hV]; exact (show Fr (fun x => x = 217) U (si U 217 375 1) from Fr.rf.si rfl).si rfl
      have v375 : gi V 217 375 = nI 1 := by rw [← hV, Gn (by omega), Gp]; rfl
      have v376 : gi V 217 376 = nI (r.2 - a) := by rw [← hV, Gp]
      have vj : ∀ j, j < 375 → gi V 217 j = gi S 217 j := fun j hj => by rw [← hV, Gn (by omega), Gn (by omega), fU.gi (by omega)]
      clear hV
      have key : ok (iter (bX11_readLaw_63 Y n 215 (nI a)) n (nI a, V)) (fun W => Fr (fun x => x = 217) V W ∧ (∀ j, j < 377 → gi W 217 j = gi V 217 j) ∧ ∀ j, j < r.2 - a → gi W 217 (377 + j) = nI (X.2 (a + j))) := by
        refine iter_ok (fun i t => t.1 = nI (a + i) ∧ Fr (fun x => x = 217) V t.2 ∧ (∀ j, j < 377 → gi t.2 217 j = gi V 217 j) ∧ ∀ j, j < i → gi t.2 217 (377 + j) = nI (X.2 (a + j))) (r.2 - a) (fun i t hi h1 => ?_) (fun t h1 => ?_) (by omega) ⟨rfl, Fr.rf, fun _ _ => rfl, fun j hj => absurd hj (Nat.not_lt_zero _)⟩
        · obtain ⟨s1, W⟩ := t
          obtain ⟨k1, k2, k3, k4⟩ := h1
          dsimp only at k1 k2 k3 k4
          subst k1
          have hMW := (hMU.fr fV.2.1).fr k2.2.1
          have hb := hX.2.2 (a + i) (by omega)
          have e233 : gi W 233 (a + i) = nI (X.2 (a + i)) := by rw [k2.gi (by omega), fV.gi (by omega), fU.gi (by omega)]; exact hb.1
          unfold bX11_readLaw_63
          dsimp only
          rw [kgi_n, k2.gi (by omega), fV.gi (by omega), z4.2.2.2.1, i_le (by omega) (by omega), if_neg (by omega), kgr_n hMW.1.2.1, kgr_n hMW.2.2.1.2.2.2.2.2.2, kai_n (by omega) (by omega), e233, show (377 : Int32) = nI 377 from rfl, nI_add, nsub (by omega), kwi_n (by omega) (by omega), nI_1, ok_some, so_l, show 377 + (a + i) - a = 377 + i by omega]
          refine ⟨rfl, k2.si rfl, fun j hj => by dsimp only; rw [Gn (by omega)]; exact k3 j hj, fun j hj => ?_⟩
          dsimp only
          by_cases e : j = i
          · subst e
            rw [Gp]
          · rw [Gn (by omega)]
            exact k4 j (by omega)
        · obtain ⟨s1, W⟩ := t
          obtain ⟨k1, k2, k3, k4⟩ := h1
          dsimp only at k1 k2 k3 k4
          subst k1
          unfold bX11_readLaw_63
          dsimp only
          rw [kgi_n, k2.gi (by omega), fV.gi (by omega), z4.2.2.2.1, i_le (by omega) (by omega), if_pos (by omega), ok_some, so_r]
          exact ⟨k2, k3, k4⟩
      obtain ⟨W, w0, w1, w2, w3⟩ := key
      rw [w0, kc_s, kc_s]
      have gW : ∀ j, gi W 215 j = gi U 215 j := fun j => by rw [w1.gi (by omega), fV.gi (by omega)]
      have fW : Fr M2 S W := ((fU.mono toM2).tr (fV.mono (fun b hb => Or.inr hb))).tr (w1.mono (fun b hb => Or.inr hb))
      have qW : FQ S W := fun j hj => by
        rw [gW]
        by_cases e : j = 37
        · subst e
          rw [z5, h37]
        · rw [z2 j (by omega), t3 j (by omega)]
      refine m_lineEnd (A := setL A r.1) hn (hM.fr fW.2.1) (hX.fr fW (by unfold M2; omega) (qW 29 (by omega))) fW qW (by unfold GD; rw [gW]; exact z3) (z4.fr gW) ?_
      have wj : ∀ j, j < 375 → gi W 217 j = gi S 217 j := fun j hj => by rw [w2 j (by omega), vj j hj]
      obtain ⟨h0, h1', h2, h3, h4, h5, h6, h7, h8⟩ := hT
      have b1 := h7.2.1
      refine ⟨by rw [wj _ (by omega)]; exact h0, by rw [wj _ (by omega)]; exact h1', by rw [wj _ (by omega)]; exact h2, fun p hp => by have : p < eP A := hp; rw [wj _ (by omega)]; exact h3 p hp, fun p i hp hi => by have : p < eP A := hp; rw [wj _ (by omega)]; exact h4 p i hp hi, fun p v hp hv => by rw [wj _ (by omega)]; exact h5 p v hp hv, ?_, h7, h8⟩
      refine ⟨by rw [Nat.zero_add, w2 _ (by omega)]; exact v375, subT X a r.2, by rw [Nat.zero_add, w2 _ (by omega), subT_len]; exact v376, by rw [subT_len]; omega, fun j hj => ?_, mlaw x5 (fun j hj => (hX.2.2 j hj).2) ska hna har hrx hs⟩
      rw [subT_len] at hj
      rw [Nat.zero_add, subT_get hj]
      exact w3 j hj
theorem m_readLine {Y : XS} {n : Nat} {S : PS} {X : TX} {A : EL} {k : Nat} (hn : 10000 ≤ n) (hM : MSt Y S) (hX : MX S X) (hG : GD S) (hL : ML S X k) (hT : TR S A (eV A)) (h37 : gi S 215 37 = nI 0) :
    ok (fX11_readLine Y n S 215) (fun T => MP S X T (sLine X A k)) := by
  unfold fX11_readLine sLine
  rw [show fX11_isWord Y n S 215 16 = _ from m_isWord (i := 1) hn hM hX hG hL (by decide) (by decide), kc_s, show fX11_isWord Y n S 215 17 = _ from m_isWord (i := 2) hn hM hX hG hL (by decide) (by decide), kc_s, show fX11_isWord Y n S 215 18 = _ from m_isWord (i := 3) hn hM hX hG hL (by decide) (by decide), kc_s, show fX11_isWord Y n S 215 19 = _ from m_isWord (i := 4) hn hM hX hG hL (by decide) (by decide), kc_s]
  cases e1 : isW X k 1 with
  | true =>
    rw [ifT rfl, if_pos (show true = true from rfl)]
    exact m_readBudget hn hM hX hG hL hT
  | false =>
    rw [ifF rfl, if_neg (show ¬ false = true by decide)]
    cases e2 : isW X k 2 with
    | true =>
      rw [ifT rfl, if_pos (show true = true from rfl)]
      exact m_readProject hn hM hX hG hL hT
    | false =>
      rw [ifF rfl, if_neg (show ¬ false = true by decide)]
      cases e3 : isW X k 3 with
      | true =>
        rw [ifT rfl, if_pos (show true = true from rfl)]
        exact m_readVotes hn hM hX hG hL hT
      | false =>
        rw [ifF rfl, if_neg (show ¬ false = true by decide)]
        cases e4 : isW X k 4 with
        | true =>
          rw [ifT rfl, if_pos (show true = true from rfl)]
          exact m_readLaw hn hM hX hG hL hT h37
        | false =>
          rw [ifF rfl, if_neg (show ¬ false = true by decide), show (1 : Int32) = nI 1 from rfl, m_wrong hG hL, kc_s]
          obtain ⟨f', q, h⟩ := wr_mp (k := k) (c := 1) (Fr.rf (M := M2) (S := S)) FQ.rf (by decide)
          exact z_lineEnd f' q h
