/-! THE CLASS'S READER: budget, projects, votes. -/
def sBudget (X : TX) (A : EL) (k : Nat) : RR := match sNum X k 0 99999 with
  | .inl e => .inl e
  | .inr v => sEnd X (aM A v) (nx X k)
def adP (A : EL) (nm : Nat → Int32) (c : Nat) : EL := (eM A, eP A + 1, eV A, fun p => if p = eP A then c else eC A p, fun p i => if p = eP A then nm i else eNm A p i, eS A, eL A)
def sProject (X : TX) (A : EL) (k0 : Nat) : RR := if 12 ≤ eP A then .inl (4, k0) else if isN X (nx X k0) = true then (match nmd X A (nx X k0) with
    | some _ => .inl (3, nx X k0)
    | none => (match sNum X (nx X (nx X k0)) 1 9999 with
      | .inl e => .inl e
      | .inr c => sEnd X (adP A (fun i => nI (lt1 X (nx X k0) i)) c) (nx X (nx X (nx X k0))))) else .inl (1, nx X k0)
def adV (A : EL) (m : Nat) : EL := (eM A, eP A, eV A + m, eC A, eNm A, eS A, eL A)
def stV (A : EL) (f m p s : Nat) : EL := (eM A, eP A, eV A, eC A, eNm A, fun q u => if q = p ∧ f ≤ u ∧ u < f + m then s else eS A q u, eL A)
def sVl (X : TX) (f m : Nat) : Nat → EL → Nat → Nat → RR
  | 0, _, _, k => .inl (1, k)
  | g + 1, A, seen, k => if isS X k 59 = true then .inr (A, nx X k) else if isN X k = true then (match nmd X A k with
    | none => .inl (3, k)
    | some p => if seen.testBit p = true then .inl (3, k) else (match sNum X (nx X k) 0 9 with
      | .inl e => .inl e
      | .inr s => sVl X f m g (stV A f m p s) (seen ||| 2 ^ p) (nx X (nx X k)))) else .inl (1, k)
def sVotes (X : TX) (A : EL) (k : Nat) : RR := match sNum X k 1 9 with
  | .inl e => .inl e
  | .inr m => if 24 < eV A + m then .inl (4, k) else sVl X (eV A) m 13 (adV A m) 0 (nx X k)
theorem RX.l {S T : PS} {X : TX} (h : RX S X) (f : Fr Mr S T) (h5 : FL S T) : RX T X := h.fr f (by unfold Mr; omega) (fun j hj => h5 j (by omega))
theorem NP.z {S : PS} {X : TX} {k : Nat} {q : Int32 × PS} {e : Nat × Nat} (h : NP S X k q (.inl e)) : q.1 = 0 ∧ FT q.2 e := h
theorem c_readBudget {Y : XS} {n : Nat} {S : PS} {X : TX} {A : EL} {k : Nat} (hn : 10000 ≤ n) (hR : RSt Y S) (hX : RX S X) (hP : PT S X k) (hT : TD Y S A) :
    ok (kc (fX7_readBudget Y n S 1) (fun q10 => (if q10.1 = 0 then kzr (0 : Int32) (some ((0 : Int32), Y, q10.2)) else kc (fX7_readLineEnd Y n q10.2 1) (fun q17 => (if q17.1 = 0 then kzr (0 : Int32) (some ((0 : Int32), Y, q17.2)) else kzr (1 : Int32) (some ((1 : Int32), Y, q17.2))))))) (fun q => q.2.1 = Y ∧ Fr Mr S q.2.2 ∧ LnP Y S X q.1 q.2.2 (sBudget X A k)) := by
  have bad : ∀ (T : PS) (e : Nat × Nat), Fr Mr S T → FT T e → ok (kzr (0 : Int32) (some ((0 : Int32), Y, T))) (fun q => q.2.1 = Y ∧ Fr Mr S q.2.2 ∧ LnP Y S X q.1 q.2.2 (.inl e)) := by
    intro T e f h
    rw [kzr0]
    exact ok_i ⟨rfl, f, rfl, h⟩
  have toM : ∀ b, b = 1 → Mr b := fun b hb => by unfold Mr; omega
  unfold fX7_readBudget sBudget
  obtain ⟨⟨q1, T⟩, h1, t1, t2⟩ := c_readNumber (lo := 0) (hi := 99999) hn hR hX hP (by decide) (by decide)
  rw [show fX7_readNumber Y n S 1 0 99999 = some (q1, T) from h1, kc_s]
  dsimp only at t1 t2 ⊢
  cases hs : sNum X k 0 99999 with
  | inl e =>
    rw [hs] at t2
    obtain ⟨z1, z2⟩ := t2.z
    dsimp only at z1 z2
    subst z1
    rw [if_pos rfl]
    unfold kzr
    rw [if_pos (Or.inl rfl), kc_s, if_pos rfl]
    exact ok_i ⟨rfl, t1.mono toM, rfl, z2⟩
  | inr v =>
    rw [hs] at t2
    obtain ⟨z1, z2, z3, z4⟩ := t2
    dsimp only at z1 z2 z3 z4
    subst z1
    have hv := sNum_r hs
    rw [if_neg (by decide), kgr_n (by rw [t1.gr]; exact hR.1), kgi_n, z3, kpi_n, kzr1, kc_s, if_neg (show ¬ (1 : Int32) = 0 by decide)]
    have f2 : Fr (fun x => x = 2) T (si T 2 0 (nI v)) := Fr.rf.si rfl
    have hT' := hT.fr t1 (by omega)
    have hT2 : TD Y (si T 2 0 (nI v)) (aM A v) := by
      obtain ⟨h1, h2, h3, h4, h5, h6, h7, h8, h9⟩ := hT'
      refine ⟨Gp, by rw [Gn (by omega)]; exact h2, by rw [Gn (by omega)]; exact h3, fun p hp => by rw [Gn (by omega)]; exact h4 p hp, fun p k hp hk => by rw [Gn (by omega)]; exact h5 p k hp hk, fun p v hp hv => by rw [Gn (by omega)]; exact h6 p v hp hv, ?_, ⟨hv.2.1, h8.2⟩, h9⟩
      exact h7.mv (LH.fr f2 (by omega))
    have fT : Fr Mr S (si T 2 0 (nI v)) := (t1.mono toM).tr (f2.mono (fun b hb => by unfold Mr; omega))
    have gT : F6 S (si T 2 0 (nI v)) := fun j hj => by rw [Gn (by omega)]; exact z4 j hj
    have PT2 : PT (si T 2 0 (nI v)) X (nx X k) := by
      obtain ⟨a, p1, p2⟩ := z2.nxt
      exact ⟨a, by rw [Gn (by omega)]; exact p1, p2⟩
    refine ok_kc (c_readLineEnd hn (hR.fr fT.2.1) (hX.l fT gT.l) PT2 hT2) ?_
    rintro ⟨q1, U⟩ ⟨u1, u2⟩
    dsimp only at u1 u2 ⊢
    have fU := fT.tr (u1.mono toM)
    cases he : sEnd X (aM A v) (nx X k) with
    | inl e =>
      rw [he] at u2
      obtain ⟨z1, z2⟩ := u2
      subst z1
      rw [if_pos rfl]
      exact bad U e fU z2
    | inr z =>
      rw [he] at u2
      obtain ⟨z1, z2, z3, z4⟩ := u2
      subst z1
      rw [if_neg (by decide), kzr1]
      exact ok_i ⟨rfl, fU, rfl, z2, z3, gT.l.tr z4⟩
theorem PT.fr {S T : PS} {X : TX} {k : Nat} (h : PT S X k) (e : gi T 1 6 = gi S 1 6) : PT T X k := by
  obtain ⟨a, h1, h2⟩ := h
  exact ⟨a, e.trans h1, h2⟩
theorem LT.fr {S T : PS} {X : TX} {k : Nat} (h : LT S X k) (e : ∀ j, gi T 1 j = gi S 1 j) : LT T X k := by
  obtain ⟨h1, h2, h3, h4, h5, h6⟩ := h
  exact ⟨h1, h2, by rw [e]; exact h3, by rw [e]; exact h4, by rw [e]; exact h5, fun c => by rw [e]; exact h6 c⟩
theorem isN_1 {X : TX} {k : Nat} (h : isN X k = true) : tk X k = 1 := by
  unfold isN at h
  rw [Bool.and_eq_true, decide_eq_true_eq] at h
  exact h.1.1
theorem c_readProject {Y : XS} {n : Nat} {S : PS} {X : TX} {A : EL} {k0 : Nat} (hn : 10000 ≤ n) (hR : RSt Y S) (hX : RX S X) (hL : LT S X k0) (hT : TD Y S A) :
    ok (kc (fX7_readProject Y n S 1) (fun q39 => (if q39.1 = 0 then kzr (0 : Int32) (some ((0 : Int32), Y, q39.2)) else kc (fX7_readLineEnd Y n q39.2 1) (fun q46 => (if q46.1 = 0 then kzr (0 : Int32) (some ((0 : Int32), Y, q46.2)) else kzr (1 : Int32) (some ((1 : Int32), Y, q46.2))))))) (fun q => q.2.1 = Y ∧ Fr Mr S q.2.2 ∧ LnP Y S X q.1 q.2.2 (sProject X A k0)) := by
  have a7 := hT.ew
  have b1 := a7.2.1
  obtain ⟨e4, e5, e6, l3, l4, l5⟩ := hR.2.2.2.2.2.2.2
  rw [show 2 + 1 = 3 from rfl] at l3
  rw [show 2 + 2 = 4 from rfl] at l4
  rw [show 2 + 3 = 5 from rfl] at l5
  have toM : ∀ b, b = 1 → Mr b := fun b hb => by unfold Mr; omega
  have bad : ∀ (T : PS) (e : Nat × Nat), Fr Mr S T → FT T e → ok (kc (some ((0 : Int32), T)) (fun q39 => (if q39.1 = 0 then kzr (0 : Int32) (some ((0 : Int32), Y, q39.2)) else kc (fX7_readLineEnd Y n q39.2 1) (fun q46 => (if q46.1 = 0 then kzr (0 : Int32) (some ((0 : Int32), Y, q46.2)) else kzr (1 : Int32) (some ((1 : Int32), Y, q46.2))))))) (fun q => q.2.1 = Y ∧ Fr Mr S q.2.2 ∧ LnP Y S X q.1 q.2.2 (.inl e)) := by
    intro T e f h
    rw [kc_s, if_pos rfl, kzr0]
    exact ok_i ⟨rfl, f, rfl, h⟩
  unfold fX7_readProject sProject
  rw [kgr_n hR.1, kgi_n, hT.2.1, show (12 : Int32) = nI 12 from rfl, i_lt (by omega) (by decide)]
  by_cases c : 12 ≤ eP A
  · rw [if_neg (by omega), if_pos c, c_wrong hL, kc_s, kzr0]
    exact bad _ _ (((Fr.rf (M := fun x => x = 1)).si rfl).si rfl |>.mono toM) (FT.mk (c := 4) hX hL (by decide))
  · rw [if_pos (by omega), if_neg c]
    obtain ⟨T, h1, t1, t2, t3⟩ := c_next hn hR hX hL.nxt
    rw [h1, kc_s]
    have fT := t1.mono toM
    have hXT : RX T X := hX.l fT t3.l
    have hRT := hR.fr t1.2.1
    have hTT := hT.fr t1 (by omega)
    rw [c_isName hn hRT hXT t2, kc_s]
    cases d : isN X (nx X k0) with
    | false =>
      rw [ifF rfl, if_neg (by decide), c_wrong t2, kc_s, kzr0]
      exact bad _ _ (((t1.si rfl).si rfl).mono toM) (FT.mk (c := 1) hXT t2 (by decide))
    | true =>
      have k1 := isN_1 d
      rw [ifT rfl, if_pos rfl, c_named hn hRT hXT t2 k1 hTT, kc_s]
      cases g : nmd X A (nx X k0) with
      | some p =>
        have hp := fsf_lt g
        rw [oI_s, mm1, if_neg (by rw [nm1 (by omega)]; exact fun e => e), c_wrong t2, kc_s, kzr0]
        exact bad _ _ (((t1.si rfl).si rfl).mono toM) (FT.mk (c := 3) hXT t2 (by decide))
      | none =>
        rw [oI_0, mm1, if_pos rfl]
        /- the letters -/
        obtain ⟨U, h2, u1, u2, u3⟩ := iter_ok (n := n) (f := bX7_readProject_53 Y n 1 (nI (eP A))) (Q := fun U => Fr (fun x => x = 4) T U ∧ (∀ j, j < eP A * 6 → gi U 4 j = gi T 4 j) ∧ ∀ i, i < 6 → gi U 4 (eP A * 6 + i) = nI (lt1 X (nx X k0) i)) (s := ((0 : Int32), T)) (fun i t => t.1 = nI i ∧ Fr (fun x => x = 4) T t.2 ∧ (∀ j, j < eP A * 6 → gi t.2 4 j = gi T 4 j) ∧ ∀ j, j < i → gi t.2 4 (eP A * 6 + j) = nI (lt1 X (nx X k0) j)) 6 (fun i t hi h1 => by
          obtain ⟨t1', V⟩ := t
          obtain ⟨w1, w2, w3, w4⟩ := h1
          dsimp only at w1 w2 w3 w4
          subst w1
          have hRV := hRT.fr w2.2.1
          have hXV : RX V X := hXT.fr w2 (by omega) (fun j _ => w2.gi (by omega) j)
          unfold bX7_readProject_53
          dsimp only
          rw [show (6 : Int32) = nI 6 from rfl, i_le (by omega) (by omega), if_neg (by omega), kgr_n hRV.1, kgr_n (b := 4) (by rw [w2.gr, t1.gr]; exact e5), c_letter hRV hXV (t2.fr (fun j => w2.gi (by omega) j)) k1 hi, kc_s, nmul, nI_add, kwi_n (by omega) (by omega), nI_1, ok_some, so_l]
          refine ⟨rfl, w2.si rfl, fun j hj => by dsimp only; rw [Gn (by omega)]; exact w3 j hj, fun j hj => ?_⟩
          dsimp only
          by_cases e : j = i
          · subst e
            rw [Gp]
          · rw [Gn (by omega)]
            exact w4 j (by omega)) (fun t h1 => by
          obtain ⟨t1', V⟩ := t
          obtain ⟨w1, w2⟩ := h1
          dsimp only at w1 w2
          subst w1
          unfold bX7_readProject_53
          dsimp only
          rw [show (6 : Int32) = nI 6 from rfl, i_le (by omega) (by omega), if_pos (by omega), ok_some, so_r]
          exact w2) (by omega) ⟨rfl, Fr.rf, fun _ _ => rfl, fun j hj => absurd hj (Nat.not_lt_zero _)⟩
        rw [h2, kc_s]
        have fU : Fr Mr S U := fT.tr (u1.mono (fun b hb => by unfold Mr; omega))
        have gU : ∀ j, gi U 1 j = gi T 1 j := fun j => u1.gi (by omega) j
        have hXU : RX U X := hXT.fr u1 (by omega) (fun j _ => gU j)
        obtain ⟨⟨q1, V⟩, h3, v1, v2⟩ := c_readNumber (lo := 1) (hi := 9999) hn (hRT.fr u1.2.1) hXU (t2.nxt.fr (gU 6)) (by decide) (by decide)
        rw [show fX7_readNumber Y n U 1 1 9999 = some (q1, V) from h3, kc_s]
        dsimp only at v1 v2 ⊢
        have fV : Fr Mr S V := fU.tr (v1.mono toM)
        cases hs : sNum X (nx X (nx X k0)) 1 9999 with
        | inl e =>
          rw [hs] at v2
          obtain ⟨z1, z2⟩ := v2.z
          dsimp only at z1 z2
          subst z1
          rw [if_pos rfl, kzr0]
          exact bad V e fV z2
        | inr cst' =>
          rw [hs] at v2
          obtain ⟨z1, z2, z3, z4⟩ := v2
          dsimp only at z1 z2 z3 z4
          subst z1
          have hv := sNum_r hs
          rw [if_neg (by decide), kgr_n (b := 2) (by rw [fV.gr]; exact hR.1), kgr_n (b := 3) (by rw [fV.gr]; exact e4), kgi_n, z3, kwi_n (by omega) (by omega), kgr_n (b := 2) (by rw [Gr_si, fV.gr]; exact hR.1), kgi_n, Gn (by omega), v1.gi (by omega), u1.gi (by omega), t1.gi (by omega), hT.2.1, kpi_n, nI_1, kzr1, kc_s, if_neg (show ¬ (1 : Int32) = 0 by decide)]
          generalize hW : si (si V 3 (eP A) (nI cst')) 2 1 (nI (eP A + 1)) = W
          have f2 : Fr (fun x => x = 2 ∨ x = 3) V W := by rw [← hW]; exact (Fr.rf.si (Or.inr rfl)).si (Or.inl rfl)
          have w2 : ∀ j, gi W 2 j = if j = 1 then nI (eP A + 1) else gi V 2 j := by
            intro j
            rw [← hW]
            by_cases e : j = 1
            · subst e
              rw [Gp, if_pos rfl]
            · rw [Gn (by omega), Gn (by omega), if_neg e]
          have w3 : ∀ j, gi W 3 j = if j = eP A then nI cst' else gi V 3 j := by
            intro j
            rw [← hW, Gn (by omega)]
            by_cases e : j = eP A
            · subst e
              rw [Gp, if_pos rfl]
            · rw [Gn (by omega), if_neg e]
          clear hW
          have fW : Fr Mr S W := fV.tr (f2.mono (fun b hb => by unfold Mr; omega))
          have g2 : ∀ b, b ≠ 1 → b ≠ 4 → ∀ j, gi V b j = gi S b j := fun b n1 n4 j => by rw [v1.gi (by omega), u1.gi (by omega), t1.gi (by omega)]
          have hT2 : TD Y W (adP A (fun i => nI (lt1 X (nx X k0) i)) cst') := by
            obtain ⟨h1, h2, h3, h4, h5, h6, h7, h8, h9⟩ := hT
            refine ⟨by rw [w2, if_neg (by decide), g2 2 (by decide) (by decide)]; exact h1, by rw [w2, if_pos rfl]; rfl, by rw [w2, if_neg (by decide), g2 2 (by decide) (by decide)]; exact h3, fun p hp => ?_, fun p i hp hi => ?_, fun p v hp hv => by rw [f2.gi (by omega), g2 5 (by decide) (by decide)]; exact h6 p v hp hv, ?_, ⟨h8.1, ?_, h8.2.2.1, fun p hp => ?_, fun p v hp hv => ?_⟩, fun p v hpv => ?_⟩
            · have hp' : p < eP A + 1 := hp
              show _ = nI (if p = eP A then cst' else eC A p)
              rw [w3]
              by_cases e : p = eP A
              · rw [if_pos e, if_pos e]
              · rw [if_neg e, if_neg e, g2 3 (by decide) (by decide)]
                exact h4 p (by omega)
            · have hp' : p < eP A + 1 := hp
              show _ = (if p = eP A then nI (lt1 X (nx X k0) i) else eNm A p i)
              rw [f2.gi (by omega), v1.gi (by omega)]
              by_cases e : p = eP A
              · rw [if_pos e, e]
                exact u3 i hi
              · rw [if_neg e, u2 _ (by omega), t1.gi (by omega)]
                exact h5 p i (by omega) hi
            · have fW' : LH S W := LH.fr fW (by unfold Mr; omega)
              rw [fW.gr]
              exact h7.mv fW'
            · show eP A + 1 ≤ 12
              omega
            · have hp' : p < eP A + 1 := hp
              show 1 ≤ (if p = eP A then cst' else eC A p) ∧ (if p = eP A then cst' else eC A p) ≤ 9999
              split
              · exact ⟨hv.1, hv.2.1⟩
              · exact h8.2.2.2.1 p (by omega)
            · have hp' : p < eP A + 1 := hp
              show eS A p v ≤ 9
              by_cases e : p = eP A
              · rw [h9 p v (Or.inl (by omega))]
                exact Nat.zero_le _
              · exact h8.2.2.2.2 p v (by omega) hv
            · have hpv' : eP A + 1 ≤ p ∨ eV A ≤ v := hpv
              exact h9 p v (by omega)
          have gW : ∀ j, gi W 1 j = gi V 1 j := fun j => f2.gi (by omega) j
          have lW : FL S W := fun j hj => by rw [gW, z4 j (by omega), gU, t3 j (by omega)]
          refine ok_kc (c_readLineEnd hn (hR.fr fW.2.1) (hX.l fW lW) (z2.nxt.fr (gW 6)) hT2) ?_
          rintro ⟨q1, Z⟩ ⟨y1, y2⟩
          dsimp only at y1 y2 ⊢
          have fZ := fW.tr (y1.mono toM)
          cases he : sEnd X (adP A (fun i => nI (lt1 X (nx X k0) i)) cst') (nx X (nx X (nx X k0))) with
          | inl e =>
            rw [he] at y2
            obtain ⟨z1, z2⟩ := y2
            subst z1
            rw [if_pos rfl, kzr0]
            exact ok_i ⟨rfl, fZ, rfl, z2⟩
          | inr z =>
            rw [he] at y2
            obtain ⟨z1, z2, z3, z4⟩ := y2
            subst z1
            rw [if_neg (by decide), kzr1]
            exact ok_i ⟨rfl, fZ, rfl, z2, z3, lW.tr z4⟩
