/-! THE MODEL'S READER: budget, projects, votes. -/
def M2 (x : Nat) : Prop := x = 215 ∨ x = 217
def FQ (S T : PS) : Prop := ∀ j, (j < 30 ∨ j = 36 ∨ j = 37) → gi T 215 j = gi S 215 j
/-- what a fault may leave changed, too: how many are open -/
def FQ4 (S T : PS) : Prop := ∀ j, (j < 30 ∨ j = 36) → gi T 215 j = gi S 215 j
theorem FQ.w {S T : PS} (h : FQ S T) : FQ4 S T := fun j hj => h j (by omega)
theorem FQ4.rf {S : PS} : FQ4 S S := fun _ _ => rfl
theorem FQ4.tr {S T U : PS} (h : FQ4 S T) (k : FQ4 T U) : FQ4 S U := fun j hj => (k j hj).trans (h j hj)
theorem F30.q4 {S T : PS} (h : F30 S T) : FQ4 S T := fun j hj => h j (by omega)
theorem FQ.rf {S : PS} : FQ S S := fun _ _ => rfl
theorem FQ.tr {S T U : PS} (h : FQ S T) (k : FQ T U) : FQ S U := fun j hj => (k j hj).trans (h j hj)
theorem F30.q {S T : PS} (h : F30 S T) : FQ S T := fun j hj => h j (by omega)
theorem toM2 : ∀ b, b = 215 → M2 b := fun _ h => Or.inl h
/-- what is read so far -/
def TR (S : PS) (A : EL) (V : Nat) : Prop := gi S 217 0 = nI (eM A) ∧ gi S 217 1 = nI (eP A) ∧ gi S 217 2 = nI V ∧ (∀ p, p < eP A → gi S 217 (3 + p) = nI (eC A p)) ∧ (∀ p k, p < eP A → k < 6 → gi S 217 (15 + 6 * p + k) = eNm A p k) ∧ (∀ p v, p < 12 → v < 24 → gi S 217 (87 + 12 * v + p) = nI (eS A p v)) ∧ LawR S 217 0 (eL A) ∧ EW A ∧ ∀ p v, (eP A ≤ p ∨ eV A ≤ v) → eS A p v = 0
theorem TR.fr {S T : PS} {M : Nat → Prop} {A : EL} {V : Nat} (h : TR S A V) (f : Fr M S T) (h1 : ¬ M 217) : TR T A V := by
  obtain ⟨h0, h1', h2, h3, h4, h5, h6, h7, h8⟩ := h
  have e := f.gi h1
  exact ⟨by rw [e]; exact h0, by rw [e]; exact h1', by rw [e]; exact h2, fun p hp => by rw [e]; exact h3 p hp, fun p k hp hk => by rw [e]; exact h4 p k hp hk, fun p v hp hv => by rw [e]; exact h5 p v hp hv, h6.mv (fun j _ _ => e _), h7, h8⟩
theorem TR.ew {S : PS} {A : EL} {V : Nat} (h : TR S A V) : EW A := h.2.2.2.2.2.2.2.1
/-- behind a piece of reading -/
def MP (S : PS) (X : TX) (T : PS) : RR → Prop
  | .inl e => Fr M2 S T ∧ FQ4 S T ∧ BD T e
  | .inr z => Fr M2 S T ∧ FQ S T ∧ GD T ∧ ML T X z.2 ∧ TR T z.1 (eV z.1)
theorem m_lineEnd {Y : XS} {n : Nat} {S0 S : PS} {X : TX} {A : EL} {k : Nat} (hn : 10000 ≤ n) (hM : MSt Y S) (hX : MX S X) (hf : Fr M2 S0 S) (hq : FQ S0 S) (hG : GD S) (hL : ML S X k) (hT : TR S A (eV A)) :
    ok (jX11_readLine_87 Y n S 215) (fun T => MP S0 X T (sEnd X A k)) := by
  unfold jX11_readLine_87 sEnd
  rw [show (59 : Int32) = nI 59 from rfl]
  refine ok_kc (m_must hn hM hX hG hL (by decide)) ?_
  rintro T h
  rcases h with ⟨c, t1, t2, t3⟩ | ⟨c, t1, t2⟩
  · rw [c, if_pos rfl]
    exact ok_i ⟨hf.tr (t1.mono toM2), hq.tr t3.q, by unfold GD; rw [t3 34 (by omega)]; exact hG, t2, hT.fr t1 (by omega)⟩
  · rw [c, if_neg (by decide)]
    subst t1
    exact ok_i ⟨hf.tr (wrS_fr.mono toM2), (hq.tr (fun j hj => wrS_j (by omega) (by omega))).w, t2⟩
theorem z_lineEnd {Y : XS} {n : Nat} {S0 S : PS} {X : TX} {e : Nat × Nat} (hf : Fr M2 S0 S) (hq : FQ S0 S) (h : BD S e) : ok (jX11_readLine_87 Y n S 215) (fun T => MP S0 X T (.inl e)) := by
  unfold jX11_readLine_87
  rw [z_must h, kc_s]
  exact ok_i ⟨hf, hq.w, h⟩
theorem z_lineEnd4 {Y : XS} {n : Nat} {S0 S : PS} {X : TX} {e : Nat × Nat} (hf : Fr M2 S0 S) (hq : FQ4 S0 S) (h : BD S e) : ok (jX11_readLine_87 Y n S 215) (fun T => MP S0 X T (.inl e)) := by
  unfold jX11_readLine_87
  rw [z_must h, kc_s]
  exact ok_i ⟨hf, hq, h⟩
theorem wr_mp {S0 S : PS} {c k : Nat} (hf : Fr M2 S0 S) (hq : FQ S0 S) (hc : 1 ≤ c ∧ c ≤ 5) : Fr M2 S0 (wrS S c k) ∧ FQ S0 (wrS S c k) ∧ BD (wrS S c k) (c, k) := ⟨hf.tr (wrS_fr.mono toM2), hq.tr (fun j hj => wrS_j (by omega) (by omega)), wrS_bd hc⟩
theorem m_readBudget {Y : XS} {n : Nat} {S : PS} {X : TX} {A : EL} {k : Nat} (hn : 10000 ≤ n) (hM : MSt Y S) (hX : MX S X) (hG : GD S) (hL : ML S X k) (hT : TR S A (eV A)) :
    ok (kc (fX11_pass Y n S 215) (fun q11 => kgr q11 215 1 (fun b15 => kc (fX11_number Y n q11 215 (0 : Int32) (99999 : Int32)) (fun q24 => kwi Y q24.2 b15 (0 : Int32) q24.1 (fun S27 => jX11_readLine_87 Y n S27 215))))) (fun T => MP S X T (sBudget X A (nx X k))) := by
  have l2 := hM.2.2.2.1.2.1
  refine ok_kc (m_pass hn hM hX hG hL) ?_
  rintro T ⟨t1, t2, t3⟩
  have hMT := hM.fr t1.2.1
  have hXT := hX.fr t1 (by omega) (t3 29 (by omega))
  have hGT : GD T := by unfold GD; rw [t3 34 (by omega)]; exact hG
  rw [kgr_n hMT.1.2.1]
  unfold sBudget
  obtain ⟨⟨q1, U⟩, u0, u1⟩ := m_number (lo := 0) (hi := 99999) hn hMT hXT hGT t2 (by decide) (by decide)
  rw [show fX11_number Y n T 215 0 99999 = some (q1, U) from u0, kc_s]
  dsimp only
  rw [show (0 : Int32) = nI 0 from rfl]
  cases hs : sNum X (nx X k) 0 99999 with
  | inl e =>
    rw [hs] at u1
    obtain ⟨z1, z2⟩ := u1
    dsimp only at z1 z2
    have fU : Fr M2 S U := by rw [z1]; exact (t1.mono toM2).tr (wrS_fr.mono toM2)
    have qU : FQ S U := by rw [z1]; exact t3.q.tr (fun j hj => wrS_j (by omega) (by omega))
    rw [kwi_n (by omega) (by omega)]
    exact z_lineEnd (fU.si (Or.inr rfl)) (fun j hj => by rw [Gn (by omega)]; exact qU j hj) ⟨by rw [Gn (by omega)]; exact z2.1, by rw [Gn (by omega)]; exact z2.2.1, z2.2.2⟩
  | inr v =>
    rw [hs] at u1
    obtain ⟨z1, z2, z3, z4⟩ := u1
    dsimp only at z1 z2 z3 z4
    subst z1
    have hv := sNum_r hs
    rw [kwi_n (by omega) (by omega)]
    have f2 : Fr (fun x => x = 217) U (si U 217 0 (nI v)) := Fr.rf.si rfl
    have fT : Fr M2 S (si U 217 0 (nI v)) := ((t1.mono toM2).tr (z2.mono toM2)).tr (f2.mono (fun b hb => Or.inr hb))
    have g : ∀ j, gi (si U 217 0 (nI v)) 215 j = gi U 215 j := fun j => Gn (by omega)
    have hTU := (hT.fr t1 (by omega)).fr z2 (by omega)
    refine m_lineEnd hn (hM.fr fT.2.1) ((hXT.fr z2 (by omega) (z4 29 (by omega))).fr f2 (by omega) (g 29)) fT (fun j hj => by rw [g]; exact (t3.q.tr z4.q) j hj) ?_ ?_ ?_
    · unfold GD
      rw [g, z4 34 (by omega)]
      exact hGT
    · obtain ⟨a1, a2, a3, a4, a5⟩ := z3
      exact ⟨a1, by rw [g]; exact a2, by rw [g]; exact a3, by rw [g]; exact a4, by rw [g]; exact a5⟩
    · obtain ⟨h0, h1', h2, h3, h4, h5, h6, h7, h8⟩ := hTU
      have b1 := h7.2.1
      refine ⟨Gp, by rw [Gn (by omega)]; exact h1', by rw [Gn (by omega)]; exact h2, fun p hp => by rw [Gn (by omega)]; exact h3 p hp, fun p k hp hk => by rw [Gn (by omega)]; exact h4 p k hp hk, fun p v hp hv => by rw [Gn (by omega)]; exact h5 p v hp hv, h6.mv (fun j _ _ => Gn (by omega)), ⟨hv.2.1, h7.2⟩, h8⟩
theorem ML.fr {S T : PS} {X : TX} {k : Nat} (h : ML S X k) (g : ∀ j, gi T 215 j = gi S 215 j) : ML T X k := by
  obtain ⟨a1, a2, a3, a4, a5⟩ := h
  exact ⟨a1, by rw [g]; exact a2, by rw [g]; exact a3, by rw [g]; exact a4, by rw [g]; exact a5⟩
theorem m_readProject {Y : XS} {n : Nat} {S : PS} {X : TX} {A : EL} {k0 : Nat} (hn : 10000 ≤ n) (hM : MSt Y S) (hX : MX S X) (hG : GD S) (hL : ML S X k0) (hT : TR S A (eV A)) :
    ok (kc (fX11_readProject Y n S 215) (fun q42 => jX11_readLine_87 Y n q42 215)) (fun T => MP S X T (sProject X A k0)) := by
  have l2 := hM.2.2.2.1.2.1
  have a7 := hT.ew
  have b1 := a7.2.1
  have z48 : ∀ (U : PS) (e : Nat × Nat), Fr M2 S U → FQ S U → BD U e → ok (kc (jX11_readProject_48 Y n U 215) (fun q42 => jX11_readLine_87 Y n q42 215)) (fun T => MP S X T (.inl e)) := by
    intro U e f q h
    unfold jX11_readProject_48
    rw [kgi_n, if_neg h.ne, kc_s]
    exact z_lineEnd f q h
  unfold fX11_readProject sProject
  rw [kgr_n hM.1.2.1, show (1 : Int32) = nI 1 from rfl, kai_n (by omega) (by omega), hT.2.1, show (12 : Int32) = nI 12 from rfl, i_eq (by omega) (by decide)]
  by_cases c : 12 ≤ eP A
  · rw [if_pos (by omega), if_pos c, show (4 : Int32) = nI 4 from rfl, m_wrong hG hL, kc_s]
    obtain ⟨f, q, h⟩ := wr_mp (k := k0) (c := 4) (Fr.rf (M := M2) (S := S)) FQ.rf (by decide)
    unfold jX11_readProject_16
    rw [z_pass h, kc_s, z_isName h, kc_s, if_pos rfl, z_wrong h, kc_s]
    exact z48 _ _ f q h
  · rw [if_neg (by omega), if_neg c]
    unfold jX11_readProject_16
    obtain ⟨T, t0, t1, t2, t3⟩ := m_pass hn hM hX hG hL
    have hMT := hM.fr t1.2.1
    have hXT := hX.fr t1 (by omega) (t3 29 (by omega))
    have hGT : GD T := by unfold GD; rw [t3 34 (by omega)]; exact hG
    have hTT := hT.fr t1 (by omega)
    have fT : Fr M2 S T := t1.mono toM2
    rw [t0, kc_s, m_isName hn hMT hXT hGT t2, kc_s]
    cases d : isN X (nx X k0) with
    | false =>
      obtain ⟨f, q, h⟩ := wr_mp (k := nx X k0) (c := 1) fT t3.q (by decide)
      rw [ifF rfl, if_neg (show ¬ false = true by decide), show (1 : Int32) = nI 1 from rfl, m_wrong hGT t2, kc_s]
      exact z48 _ _ f q h
    | true =>
      have k1 := isN_1 d
      rw [ifT rfl, if_pos (show true = true from rfl), m_named (A := A) hn hMT hXT t2 k1 b1 hTT.2.1 hTT.2.2.2.2.1, kc_s]
      cases g : nmd X A (nx X k0) with
      | some p =>
        have hp := fsf_lt g
        obtain ⟨f, q, h⟩ := wr_mp (k := nx X k0) (c := 3) fT t3.q (by decide)
        rw [oI_s, mm1, if_neg (by rw [nm1 (by omega)]; exact fun e => e), show (3 : Int32) = nI 3 from rfl, m_wrong hGT t2, kc_s]
        exact z48 _ _ f q h
      | none =>
        rw [oI_0, mm1, if_pos rfl]
        dsimp only
        unfold jX11_readProject_48
        rw [kgi_n, if_pos hGT.e, kgr_n hMT.1.2.1, show (1 : Int32) = nI 1 from rfl, kai_n (by omega) (by omega), hTT.2.1]
        obtain ⟨U, h2, u1, u2, u3⟩ := iter_ok (n := n) (f := bX11_readProject_65 Y n 215 (nI (eP A))) (Q := fun U => Fr (fun x => x = 217) T U ∧ (∀ j, (j < 15 + 6 * eP A ∨ 15 + 6 * eP A + 6 ≤ j) → gi U 217 j = gi T 217 j) ∧ ∀ i, i < 6 → gi U 217 (15 + 6 * eP A + i) = nI (lt1 X (nx X k0) i)) (s := ((0 : Int32), T)) (fun i t => t.1 = nI i ∧ Fr (fun x => x = 217) T t.2 ∧ (∀ j, (j < 15 + 6 * eP A ∨ 15 + 6 * eP A + 6 ≤ j) → gi t.2 217 j = gi T 217 j) ∧ ∀ j, j < i → gi t.2 217 (15 + 6 * eP A + j) = nI (lt1 X (nx X k0) j)) 6 (fun i t hi h1 => by
          obtain ⟨t1', V⟩ := t
          obtain ⟨w1, w2, w3, w4⟩ := h1
          dsimp only at w1 w2 w3 w4
          subst w1
          have hMV := hMT.fr w2.2.1
          have hXV : MX V X := hXT.fr w2 (by omega) (w2.gi (by omega) _)
          unfold bX11_readProject_65
          dsimp only
          rw [show (6 : Int32) = nI 6 from rfl, i_le (by omega) (by omega), if_neg (by omega), kgr_n hMV.1.2.1, m_letterHere hMV hXV (t2.fr (fun j => w2.gi (by omega) j)) k1 hi, kc_s, show (15 : Int32) = nI 15 from rfl, nmul, nI_add, nI_add, kwi_n (by omega) (by omega), nI_1, ok_some, so_l]
          refine ⟨rfl, w2.si rfl, fun j hj => by dsimp only; rw [Gn (by omega)]; exact w3 j hj, fun j hj => ?_⟩
          dsimp only
          by_cases e : j = i
          · subst e
            rw [Gp]
          · rw [Gn (by omega)]
            exact w4 j (by omega)) (fun t h1 => by
          obtain ⟨t1', V⟩ := t
          obtain ⟨w1, w2⟩ := h1
          dsimp only at w1 w2
          subst w1
          unfold bX11_readProject_65
          dsimp only
          rw [show (6 : Int32) = nI 6 from rfl, i_le (by omega) (by omega), if_pos (by omega), ok_some, so_r]
          exact w2) (by omega) ⟨rfl, Fr.rf, fun _ _ => rfl, fun j hj => absurd hj (Nat.not_lt_zero _)⟩
        rw [h2, kc_s]
        have gU : ∀ j, gi U 215 j = gi T 215 j := fun j => u1.gi (by omega) j
        have hMU := hMT.fr u1.2.1
        have hXU := hXT.fr u1 (by omega) (gU 29)
        have hGU : GD U := by unfold GD; rw [gU]; exact hGT
        have fU : Fr M2 S U := fT.tr (u1.mono (fun b hb => Or.inr hb))
        obtain ⟨V, v0, v1, v2, v3⟩ := m_pass hn hMU hXU hGU (t2.fr gU)
        have hMV := hMU.fr v1.2.1
        have hXV := hXU.fr v1 (by omega) (v3 29 (by omega))
        have hGV : GD V := by unfold GD; rw [v3 34 (by omega)]; exact hGU
        have fV : Fr M2 S V := fU.tr (v1.mono toM2)
        have qV : FQ S V := fun j hj => by rw [v3 j (by omega), gU, t3 j (by omega)]
        rw [v0, kc_s, kgr_n hMV.1.2.1]
        obtain ⟨⟨q1, W⟩, w0, w1⟩ := m_number (lo := 1) (hi := 9999) hn hMV hXV hGV v2 (by decide) (by decide)
        rw [show fX11_number Y n V 215 (nI 1) 9999 = some (q1, W) from w0, kc_s]
        dsimp only
        rw [show (3 : Int32) = nI 3 from rfl, nI_add, kwi_n (by omega) (by omega)]
        have fW0 : Fr (fun x => x = 215) V W := by
          cases hs : sNum X (nx X (nx X k0)) 1 9999 with
          | inl e => rw [hs] at w1; rw [show W = wrS V e.1 e.2 from w1.1]; exact wrS_fr
          | inr v => rw [hs] at w1; exact w1.2.1
        have w217 : ∀ j, gi W 217 j = gi U 217 j := fun j => by rw [fW0.gi (by omega), v1.gi (by omega)]
        rw [kgr_n (b := 217) (by rw [Gr_si]; exact (hMV.fr fW0.2.1).1.2.1), kai_n (by omega) (by omega), Gn (by omega), w217, u2 1 (by omega), hTT.2.1, nI_add, kwi_n (by omega) (by omega)]
        generalize hZ : si (si W 217 (3 + eP A) q1) 217 1 (nI (eP A + 1)) = Z
        have f2 : Fr (fun x => x = 217) W Z := by rw [← hZ]; exact (show Fr (fun x => x = 217) W (si W 217 (3 + eP A) q1) from Fr.rf.si rfl).si rfl
        have zj : ∀ j, gi Z 217 j = if j = 1 then nI (eP A + 1) else if j = 3 + eP A then q1 else gi U 217 j := by
          intro j
          rw [← hZ]
          by_cases e : j = 1
          · subst e
            rw [Gp, if_pos rfl]
          · rw [Gn (by omega), if_neg e]
            by_cases e2 : j = 3 + eP A
            · subst e2
              rw [Gp, if_pos rfl]
            · rw [Gn (by omega), if_neg e2, w217]
        clear hZ
        have gZ : ∀ j, gi Z 215 j = gi W 215 j := fun j => f2.gi (by omega) j
        have fZ : Fr M2 S Z := (fV.tr (fW0.mono toM2)).tr (f2.mono (fun b hb => Or.inr hb))
        rw [kc_s]
        cases hs : sNum X (nx X (nx X k0)) 1 9999 with
        | inl e =>
          rw [hs] at w1
          obtain ⟨z1, z2⟩ := w1
          dsimp only at z1 z2
          have qW : FQ V W := by rw [z1]; exact fun j hj => wrS_j (by omega) (by omega)
          exact z_lineEnd fZ (fun j hj => by rw [gZ]; exact (qV.tr qW) j hj) ⟨by rw [gZ]; exact z2.1, by rw [gZ]; exact z2.2.1, z2.2.2⟩
        | inr v =>
          rw [hs] at w1
          obtain ⟨z1, z2, z3, z4⟩ := w1
          dsimp only at z1 z2 z3 z4
          subst z1
          have hv := sNum_r hs
          refine m_lineEnd hn (hM.fr fZ.2.1) ((hXV.fr z2 (by omega) (z4 29 (by omega))).fr f2 (by omega) (gZ 29)) fZ (fun j hj => by rw [gZ]; exact (qV.tr z4.q) j hj) ?_ (z3.fr gZ) ?_
          · unfold GD
            rw [gZ, z4 34 (by omega)]
            exact hGV
          · obtain ⟨h0, h1', h2, h3, h4, h5, h6, h7, h8⟩ := hTT
            refine ⟨by rw [zj, if_neg (by omega), if_neg (by omega), u2 _ (by omega)]; exact h0, by rw [zj, if_pos rfl]; rfl, by rw [zj, if_neg (by omega), if_neg (by omega), u2 _ (by omega)]; exact h2, fun p hp => ?_, fun p i hp hi => ?_, fun p w hp hw => by rw [zj, if_neg (by omega), if_neg (by omega), u2 _ (by omega)]; exact h5 p w hp hw, h6.mv (fun j j1 j2 => by rw [zj, if_neg (by omega), if_neg (by omega), u2 _ (by omega)]), ⟨h7.1, ?_, h7.2.2.1, fun p hp => ?_, fun p w hp hw => ?_⟩, fun p w hpw => ?_⟩
            · have hp' : p < eP A + 1 := hp
              show _ = nI (if p = eP A then v else eC A p)
              rw [zj, if_neg (by omega)]
              by_cases e : p = eP A
              · rw [if_pos (by omega), if_pos e]
              · rw [if_neg (by omega), if_neg e, u2 _ (by omega)]
                exact h3 p (by omega)
            · have hp' : p < eP A + 1 := hp
              show _ = (if p = eP A then nI (lt1 X (nx X k0) i) else eNm A p i)
              rw [zj, if_neg (by omega), if_neg (by omega)]
              by_cases e : p = eP A
              · rw [if_pos e, e]
                exact u3 i hi
              · rw [if_neg e, u2 _ (by omega)]
                exact h4 p i (by omega) hi
            · show eP A + 1 ≤ 12
              omega
            · have hp' : p < eP A + 1 := hp
              show 1 ≤ (if p = eP A then v else eC A p) ∧ (if p = eP A then v else eC A p) ≤ 9999
              split
              · exact ⟨hv.1, hv.2.1⟩
              · exact h7.2.2.2.1 p (by omega)
            · have hp' : p < eP A + 1 := hp
              show eS A p w ≤ 9
              by_cases e : p = eP A
              · rw [h8 p w (Or.inl (by omega))]
                exact Nat.zero_le _
              · exact h7.2.2.2.2 p w (by omega) hw
            · have hpw' : eP A + 1 ≤ p ∨ eV A ≤ w := hpw
              exact h8 p w (by omega)
