/-! THE MODEL'S READER: a law is gone through. -/
/-- a sum begun: its first part, then all behind it -/
def cont (X : TX) (prt : Nat → PR) (f : Nat) (acc : Option (LF × Int32)) (k : Nat) : PR := match prt k with
  | .inl e => .inl e
  | .inr g => sV X prt f acc g.1 g.2
theorem cont_sum (X : TX) (prt : Nat → PR) (k : Nat) : sSum X prt k = cont X prt (X.1 + 1) none k := rfl
/-- behind a part: at k', with what is open as it was -/
def PM (S : PS) (X : TX) (d : Nat) (T : PS) : PR → Prop
  | .inl e => Fr (fun x => x = 215) S T ∧ FQ4 S T ∧ BD T e
  | .inr g => Fr (fun x => x = 215) S T ∧ FQ4 S T ∧ GD T ∧ ML T X g.2 ∧ gi T 215 37 = nI d
theorem z_readPart {Y : XS} {n : Nat} {S : PS} {e : Nat × Nat} {rc : PS → Nat → Option PS} (hn : 10000 ≤ n) (h : BD S e) : fX11_readPart Y n rc S 215 = some S := by
  unfold fX11_readPart jX11_readPart_83 jX11_readPart_128
  rw [z_isSign h, kc_s, if_pos rfl, kgi_n, if_neg h.ne, z_isWord hn h, kc_s, if_pos rfl, z_isWord hn h, kc_s, if_pos rfl, z_isWord hn h, kc_s, if_pos rfl, z_isWord hn h, kc_s, if_pos rfl, z_wrong h, kc_s, z_pass h, kc_s]
theorem z_readTerm {Y : XS} {n : Nat} {S : PS} {e : Nat × Nat} {rc : PS → Nat → Option PS} (hn : 10000 ≤ n) (h : BD S e) : fX11_readTerm Y n rc S 215 = some S := by
  unfold fX11_readTerm
  have : iter (bX11_readTerm_4 Y n rc 215) n S = some S := by
    refine iter_run (fun _ => S) 0 (fun i hi => absurd hi (Nat.not_lt_zero _)) ?_ (by omega) rfl
    unfold bX11_readTerm_4
    rw [z_isSign h, kc_s, if_pos rfl, z_isSign h, kc_s, if_pos rfl]
  rw [z_readPart hn h, kc_s, this, kc_s]
theorem z_readSum {Y : XS} {n : Nat} {S : PS} {e : Nat × Nat} {m : Nat} (hn : 10000 ≤ n) (h : BD S e) : fX11_readSumR Y n (m + 1) S 215 = some S := by
  show fX11_readSum Y n (fX11_readSumR Y n m) S 215 = some S
  unfold fX11_readSum
  have : iter (bX11_readSum_4 Y n (fX11_readSumR Y n m) 215) n S = some S := by
    refine iter_run (fun _ => S) 0 (fun i hi => absurd hi (Nat.not_lt_zero _)) ?_ (by omega) rfl
    unfold bX11_readSum_4
    rw [z_isSign h, kc_s, if_pos rfl, z_isSign h, kc_s, if_pos rfl]
  rw [z_readTerm hn h, kc_s, this, kc_s]
theorem op_sign {X : TX} {k : Nat} : ((isS X k 42 = true ∨ isS X k 47 = true) ↔ (opO X k ≠ 0 ∧ stg (opO X k) = 2)) ∧ ((isS X k 43 = true ∨ isS X k 45 = true) ↔ (opO X k ≠ 0 ∧ stg (opO X k) = 1)) := by
  unfold isS opO
  simp only [decide_eq_true_eq]
  by_cases c : tk X k = 3
  · simp only [c, if_true, true_and]
    by_cases d1 : X.2 k = 42
    · simp only [d1, if_true]
      decide
    · by_cases d2 : X.2 k = 43
      · simp only [d2, if_true]
        decide
      · by_cases d3 : X.2 k = 45
        · simp only [d3, if_true]
          decide
        · by_cases d4 : X.2 k = 47
          · simp only [d4, if_true]
            decide
          · simp only [d1, d2, d3, d4, if_false]
            simp
  · simp [c]
/-- readPart, at a level -/
def PartM (Y : XS) (n : Nat) (X : TX) (j m : Nat) : Prop := ∀ S k, MSt Y S → MX S X → GD S → ML S X k → gi S 215 37 = nI (6 - j) → ok (fX11_readPart Y n (fX11_readSumR Y n m) S 215) (fun T => PM S X (6 - j) T (sP X j k))
def TM (S0 : PS) (X : TX) (j : Nat) (R : PR) (T : PS) (lo : Nat) : Prop := (∃ e, R = .inl e ∧ Fr (fun x => x = 215) S0 T ∧ FQ4 S0 T ∧ BD T e) ∨ ∃ f acc m k, R = sV X (sP X j) f acc m k ∧ X.1 - k < f ∧ lo ≤ k ∧ k ≤ X.1 ∧ Fr (fun x => x = 215) S0 T ∧ FQ4 S0 T ∧ GD T ∧ ML T X k ∧ gi T 215 37 = nI (6 - j)
theorem TM.mono {S0 : PS} {X : TX} {j : Nat} {R : PR} {T : PS} {a b : Nat} (h : TM S0 X j R T b) (hab : a ≤ b) : TM S0 X j R T a := by
  rcases h with h | ⟨f, acc, m, k, h1, h2, h3, h4⟩
  · exact Or.inl h
  · exact Or.inr ⟨f, acc, m, k, h1, h2, by omega, h4⟩
/-- a part, then a sum goes on -/
theorem m_goPart {Y : XS} {n : Nat} {X : TX} {j m : Nat} {S0 S : PS} {R : PR} {f k : Nat} {acc : Option (LF × Int32)} (hp : PartM Y n X j m) (hM : MSt Y S) (hX : MX S X) (hf : Fr (fun x => x = 215) S0 S) (hq : FQ4 S0 S) (hG : GD S) (hL : ML S X k) (hd : gi S 215 37 = nI (6 - j)) (hR : R = cont X (sP X j) f acc k) (hfu : X.1 - k ≤ f) :
    ok (fX11_readPart Y n (fX11_readSumR Y n m) S 215) (fun T => TM S0 X j R T (k + 1)) := by
  refine ok_mono (hp S k hM hX hG hL hd) ?_
  intro T hT
  unfold cont at hR
  cases hs : sP X j k with
  | inl e =>
    rw [hs] at hT hR
    exact Or.inl ⟨e, hR, hf.tr hT.1, hq.tr hT.2.1, hT.2.2⟩
  | inr g =>
    have hg := sP_gt j k g hL.1 hs
    rw [hs] at hT hR
    obtain ⟨t1, t2, t3, t4, t5⟩ := hT
    exact Or.inr ⟨f, acc, g.1, g.2, hR, by omega, by omega, hg.2, hf.tr t1, hq.tr t2, t3, t4, t5⟩
theorem m_readTerm {Y : XS} {n : Nat} {X : TX} {j m : Nat} {S0 S : PS} {R : PR} {f k : Nat} {acc : Option (LF × Int32)} (hn : 10000 ≤ n) (hp : PartM Y n X j m) (hM0 : MSt Y S0) (hX0 : MX S0 X) (hf : Fr (fun x => x = 215) S0 S) (hq : FQ4 S0 S) (hG : GD S) (hL : ML S X k) (hd : gi S 215 37 = nI (6 - j)) (hR : R = cont X (sP X j) f acc k) (hfu : X.1 - k ≤ f) :
    ok (fX11_readTerm Y n (fX11_readSumR Y n m) S 215) (fun T => TM S0 X j R T (k + 1) ∧ ∀ f acc mm k, R = sV X (sP X j) f acc mm k → ML T X k → GD T → ¬ (opO X k ≠ 0 ∧ stg (opO X k) = 2)) := by
  have x5 := hX0.2.1
  have mv : ∀ T, Fr (fun x => x = 215) S0 T → FQ4 S0 T → MSt Y T ∧ MX T X := fun T f q => ⟨hM0.fr f.2.1, hX0.fr f (by omega) (q 29 (by omega))⟩
  unfold fX11_readTerm
  refine ok_kc (m_goPart hp (mv S hf hq).1 (mv S hf hq).2 hf hq hG hL hd hR hfu) ?_
  intro T1 h1
  refine ok_kc (iter_ok (fun i T => TM S0 X j R T (k + 1 + i)) (Q := fun T => TM S0 X j R T (k + 1) ∧ ∀ f acc mm k, R = sV X (sP X j) f acc mm k → ML T X k → GD T → ¬ (opO X k ≠ 0 ∧ stg (opO X k) = 2)) 502 (fun i T hi h => ?_) (fun T h => ?_) (by omega) h1) (fun r h => ok_i h)
  · unfold bX11_readTerm_4
    rcases h with ⟨e, e1, e2, e3, e4⟩ | ⟨f', acc', m', k', a1, a2, a3, a4, a5, a6, a7, a8, a9⟩
    · rw [z_isSign e4, kc_s, if_pos rfl, z_isSign e4, kc_s, if_pos rfl, ok_some, so_r]
      refine ⟨Or.inl ⟨e, e1, e2, e3, e4⟩, fun f acc mm k _ _ hg => ?_⟩
      exact absurd hg.e e4.ne
    · obtain ⟨hMT, hXT⟩ := mv T a5 a6
      have os := (op_sign (X := X) (k := k')).1
      rw [show (42 : Int32) = nI 42 from rfl, m_isSign hMT hXT a7 a8 (by decide), kc_s, show (47 : Int32) = nI 47 from rfl, m_isSign hMT hXT a7 a8 (by decide), kc_s]
      have go : opO X k' ≠ 0 ∧ stg (opO X k') = 2 → ok (jX11_readTerm_22_4 Y n (fX11_readSumR Y n m) T 215) (so (fun T => TM S0 X j R T (k + 1 + (i + 1))) (fun T => TM S0 X j R T (k + 1) ∧ ∀ f acc mm k, R = sV X (sP X j) f acc mm k → ML T X k → GD T → ¬ (opO X k ≠ 0 ∧ stg (opO X k) = 2))) := by
        rintro ⟨o1, o2⟩
        unfold jX11_readTerm_22_4
        refine ok_kc (m_pass hn hMT hXT a7 a8) ?_
        rintro U ⟨u1, u2, u3⟩
        have fU := a5.tr u1
        have qU := a6.tr u3.q4
        have hk' := (opO_3 o1).2.1
        have hnx := nx_gt hk'
        cases f' with
        | zero => omega
        | succ f' =>
          rw [sV_s, if_neg o1] at a1
          have a1' : R = cont X (fun kk => match sP X j kk with
            | .inl e => .inl e
            | .inr g => .inr (jnF (opO X k') m' g.1, g.2)) f' acc' (nx X k') ∨ True := Or.inr trivial
          obtain ⟨V, v0, v1⟩ := hp U (nx X k') (mv U fU qU).1 (mv U fU qU).2 (by unfold GD; rw [u3 34 (by omega)]; exact a7) u2 (by rw [u3 37 (by omega)]; exact a9)
          rw [v0, kc_s, ok_some, so_l]
          cases hs : sP X j (nx X k') with
          | inl e =>
            rw [hs] at v1 a1
            exact Or.inl ⟨e, a1, fU.tr v1.1, qU.tr v1.2.1, v1.2.2⟩
          | inr g =>
            have hg := sP_gt j _ g (nx_le a4) hs
            rw [hs] at v1 a1
            dsimp only at a1
            rw [if_pos o2] at a1
            obtain ⟨t1, t2, t3, t4, t5⟩ := v1
            exact Or.inr ⟨f', acc', _, g.2, a1, by omega, by omega, hg.2, fU.tr t1, qU.tr t2, t3, t4, t5⟩
      cases c42 : isS X k' 42 with
      | true =>
        rw [ifT rfl]
        exact go (os.mp (Or.inl c42))
      | false =>
        rw [ifF rfl]
        cases c47 : isS X k' 47 with
        | true =>
          rw [ifT rfl]
          exact go (os.mp (Or.inr c47))
        | false =>
          rw [ifF rfl, ok_some, so_r]
          refine ⟨Or.inr ⟨f', acc', m', k', a1, a2, by omega, a4, a5, a6, a7, a8, a9⟩, fun f2 acc2 m2 k2 _ hl2 _ ho => ?_⟩
          have ek : k2 = k' := by
            have e1 := hl2.2.2.2.1
            rw [a8.2.2.2.1, neq (by omega) (by have := hl2.1; omega)] at e1
            exact e1.symm
          rw [ek] at ho
          rcases os.mpr ho with z | z
          · rw [c42] at z; cases z
          · rw [c47] at z; cases z
  · unfold bX11_readTerm_4
    rcases h with ⟨e, e1, e2, e3, e4⟩ | ⟨f', acc', m', k', a1, a2, a3, a4, _⟩
    · rw [z_isSign e4, kc_s, if_pos rfl, z_isSign e4, kc_s, if_pos rfl, ok_some, so_r]
      refine ⟨Or.inl ⟨e, e1, e2, e3, e4⟩, fun f acc mm k _ _ hg => ?_⟩
      exact absurd hg.e e4.ne
    · omega
theorem m_readSum {Y : XS} {n : Nat} {X : TX} {j m : Nat} {S : PS} {k : Nat} (hn : 10000 ≤ n) (hp : PartM Y n X j m) (hM0 : MSt Y S) (hX0 : MX S X) (hG : GD S) (hL : ML S X k) (hd : gi S 215 37 = nI (6 - j)) :
    ok (fX11_readSumR Y n (m + 1) S 215) (fun T => PM S X (6 - j) T (sSum X (sP X j) k)) := by
  have x5 := hX0.2.1
  have mv : ∀ T, Fr (fun x => x = 215) S T → FQ4 S T → MSt Y T ∧ MX T X := fun T f q => ⟨hM0.fr f.2.1, hX0.fr f (by omega) (q 29 (by omega))⟩
  show ok (fX11_readSum Y n (fX11_readSumR Y n m) S 215) _
  unfold fX11_readSum
  generalize hR : sSum X (sP X j) k = R
  refine ok_kc (m_readTerm hn hp hM0 hX0 Fr.rf FQ4.rf hG hL hd (hR.symm.trans (cont_sum X (sP X j) k)) (by omega)) ?_
  intro T1 h1
  refine ok_kc (iter_ok (fun i T => TM S X j R T (k + 1 + i) ∧ ∀ f acc mm k, R = sV X (sP X j) f acc mm k → ML T X k → GD T → ¬ (opO X k ≠ 0 ∧ stg (opO X k) = 2)) (Q := fun T => PM S X (6 - j) T R) 502 (fun i T hi h => ?_) (fun T h => ?_) (by omega) h1) (fun r h => ok_i h)
  · obtain ⟨h, hno⟩ := h
    unfold bX11_readSum_4
    rcases h with ⟨e, e1, e2, e3, e4⟩ | ⟨f', acc', m', k', a1, a2, a3, a4, a5, a6, a7, a8, a9⟩
    · rw [z_isSign e4, kc_s, if_pos rfl, z_isSign e4, kc_s, if_pos rfl, ok_some, so_r, e1]
      exact ⟨e2, e3, e4⟩
    · obtain ⟨hMT, hXT⟩ := mv T a5 a6
      have os := (op_sign (X := X) (k := k')).2
      rw [show (43 : Int32) = nI 43 from rfl, m_isSign hMT hXT a7 a8 (by decide), kc_s, show (45 : Int32) = nI 45 from rfl, m_isSign hMT hXT a7 a8 (by decide), kc_s]
      have go : opO X k' ≠ 0 ∧ stg (opO X k') = 1 → ok (jX11_readSum_22_4 Y n (fX11_readSumR Y n m) T 215) (so (fun T => TM S X j R T (k + 1 + (i + 1)) ∧ ∀ f acc mm k, R = sV X (sP X j) f acc mm k → ML T X k → GD T → ¬ (opO X k ≠ 0 ∧ stg (opO X k) = 2)) (fun T => PM S X (6 - j) T R)) := by
        rintro ⟨o1, o2⟩
        unfold jX11_readSum_22_4
        refine ok_kc (m_pass hn hMT hXT a7 a8) ?_
        rintro U ⟨u1, u2, u3⟩
        have fU := a5.tr u1
        have qU := a6.tr u3.q4
        have hk' := (opO_3 o1).2.1
        have hnx := nx_gt hk'
        cases f' with
        | zero => omega
        | succ f' =>
          rw [sV_s, if_neg o1] at a1
          have a1' : R = cont X (sP X j) f' (some (adF acc' m', opO X k')) (nx X k') := by
            rw [a1]
            unfold cont
            cases sP X j (nx X k') with
            | inl e => rfl
            | inr g =>
              dsimp only
              rw [if_neg (by omega)]
          refine ok_kc (m_readTerm hn hp hM0 hX0 fU qU (by unfold GD; rw [u3 34 (by omega)]; exact a7) u2 (by rw [u3 37 (by omega)]; exact a9) a1' (by omega)) ?_
          rintro V ⟨v1, v2⟩
          rw [ok_some, so_l]
          exact ⟨v1.mono (by omega), v2⟩
      cases c43 : isS X k' 43 with
      | true =>
        rw [ifT rfl]
        exact go (os.mp (Or.inl c43))
      | false =>
        rw [ifF rfl]
        cases c45 : isS X k' 45 with
        | true =>
          rw [ifT rfl]
          exact go (os.mp (Or.inr c45))
        | false =>
          rw [ifF rfl, ok_some, so_r]
          have o0 : opO X k' = 0 := by
            by_cases z : opO X k' = 0
            · exact z
            · exfalso
              rcases (opO_stg z).1 with z1 | z1
              · rcases os.mpr ⟨z, z1⟩ with w | w
                · rw [c43] at w; cases w
                · rw [c45] at w; cases w
              · exact hno f' acc' m' k' a1 a8 a7 ⟨z, z1⟩
          cases f' with
          | zero => omega
          | succ f' =>
            rw [sV_s, if_pos o0] at a1
            rw [a1]
            exact ⟨a5, a6, a7, a8, a9⟩
  · obtain ⟨h, hno⟩ := h
    unfold bX11_readSum_4
    rcases h with ⟨e, e1, e2, e3, e4⟩ | ⟨f', acc', m', k', a1, a2, a3, a4, _⟩
    · rw [z_isSign e4, kc_s, if_pos rfl, z_isSign e4, kc_s, if_pos rfl, ok_some, so_r, e1]
      exact ⟨e2, e3, e4⟩
    · omega
theorem m_atom {Y : XS} {n : Nat} {X : TX} {d : Nat} {S : PS} {k : Nat} {rc : PS → Nat → Option PS} (hn : 10000 ≤ n) (hM : MSt Y S) (hX : MX S X) (hG : GD S) (hL : ML S X k) (hd : gi S 215 37 = nI d) (h40 : isS X k 40 = false) :
    ok (fX11_readPart Y n rc S 215) (fun T => PM S X d T (sAtom X k)) := by
  have tl := tk_le X k
  unfold fX11_readPart sAtom
  rw [show (40 : Int32) = nI 40 from rfl, m_isSign hM hX hG hL (by decide), kc_s, ifF h40, kgi_n, if_pos hG.e, kgi_n, hL.2.2.1, show (2 : Int32) = nI 2 from rfl, i_eq (by omega) (by decide)]
  by_cases c : tk X k = 2
  · rw [if_pos c, if_pos c]
    obtain ⟨⟨q1, U⟩, u0, u1⟩ := m_number (lo := 0) (hi := 9999) hn hM hX hG hL (by decide) (by decide)
    rw [show fX11_number Y n S 215 0 9999 = some (q1, U) from u0, kc_s]
    unfold sNum at u1
    rw [if_pos c] at u1
    by_cases e : nv X k ≤ 9999
    · rw [if_pos ⟨Nat.zero_le _, e⟩] at u1
      rw [if_pos e]
      obtain ⟨z1, z2, z3, z4⟩ := u1
      exact ok_i ⟨z2, z4.q4, by unfold GD; rw [z4 34 (by omega)]; exact hG, z3, by rw [z4 37 (by omega)]; exact hd⟩
    · rw [if_neg (fun z => e z.2)] at u1
      rw [if_neg e]
      obtain ⟨z1, z2⟩ := u1
      dsimp only at z1 z2
      subst z1
      exact ok_i ⟨wrS_fr, fun j hj => wrS_j (by omega) (by omega), z2⟩
  · rw [if_neg c, if_neg c]
    unfold jX11_readPart_83
    rw [show fX11_isWord Y n S 215 20 = _ from m_isWord (i := 5) hn hM hX hG hL (by decide) (by decide), kc_s, show fX11_isWord Y n S 215 21 = _ from m_isWord (i := 6) hn hM hX hG hL (by decide) (by decide), kc_s, show fX11_isWord Y n S 215 22 = _ from m_isWord (i := 7) hn hM hX hG hL (by decide) (by decide), kc_s, show fX11_isWord Y n S 215 23 = _ from m_isWord (i := 8) hn hM hX hG hL (by decide) (by decide), kc_s]
    have good : ∀ g : LF, ok (jX11_readPart_128 Y n rc S 215) (fun T => PM S X d T (.inr (g, nx X k))) := by
      intro g
      unfold jX11_readPart_128
      refine ok_kc (m_pass hn hM hX hG hL) ?_
      rintro U ⟨u1, u2, u3⟩
      exact ok_i ⟨u1, u3.q4, by unfold GD; rw [u3 34 (by omega)]; exact hG, u2, by rw [u3 37 (by omega)]; exact hd⟩
    cases e5 : isW X k 5 with
    | true => rw [ifT rfl, if_pos (show true = true from rfl)]; exact good _
    | false =>
      rw [ifF rfl, if_neg (show ¬ false = true by decide)]
      cases e6 : isW X k 6 with
      | true => rw [ifT rfl, if_pos (show true = true from rfl)]; exact good _
      | false =>
        rw [ifF rfl, if_neg (show ¬ false = true by decide)]
        cases e7 : isW X k 7 with
        | true => rw [ifT rfl, if_pos (show true = true from rfl)]; exact good _
        | false =>
          rw [ifF rfl, if_neg (show ¬ false = true by decide)]
          cases e8 : isW X k 8 with
          | true => rw [ifT rfl, if_pos (show true = true from rfl)]; exact good _
          | false =>
            rw [ifF rfl, if_neg (show ¬ false = true by decide), show (1 : Int32) = nI 1 from rfl, m_wrong hG hL, kc_s]
            unfold jX11_readPart_128
            rw [z_pass (wrS_bd (by decide)), kc_s]
            exact ok_i ⟨wrS_fr, fun j hj => wrS_j (by omega) (by omega), wrS_bd (by decide)⟩
theorem partM {Y : XS} {n : Nat} {X : TX} (hn : 10000 ≤ n) : ∀ j m, j ≤ 6 → j + 1 ≤ m → PartM Y n X j m
  | 0, m, hj, hm => by
    intro S k hM hX hG hL hd
    rw [sP_0]
    cases c : isS X k 40 with
    | false =>
      rw [if_neg (by decide)]
      exact m_atom hn hM hX hG hL hd c
    | true =>
      rw [if_pos rfl]
      unfold fX11_readPart
      rw [show (40 : Int32) = nI 40 from rfl, m_isSign hM hX hG hL (by decide), kc_s, ifT c, kgi_n, hd, if_pos (show nI (6 - 0) = 6 from rfl), show (4 : Int32) = nI 4 from rfl, m_wrong hG hL, kc_s]
      unfold jX11_readPart_23
      generalize hU : wrS S 4 k = U
      have hb : BD U (4, k) := by rw [← hU]; exact wrS_bd (by decide)
      have fU : Fr (fun x => x = 215) S U := by rw [← hU]; exact wrS_fr
      have qU : FQ4 S U := by rw [← hU]; exact fun j hj => wrS_j (by omega) (by omega)
      clear hU
      rw [kgi_n, kpi_n]
      generalize hV : si U 215 37 (gi U 215 37 + 1) = V
      have gV : ∀ j, j ≠ 37 → gi V 215 j = gi U 215 j := fun j hj => by rw [← hV, Gn (by omega)]
      have fV : Fr (fun x => x = 215) U V := by rw [← hV]; exact Fr.rf.si rfl
      clear hV
      have hbV : BD V (4, k) := ⟨by rw [gV 34 (by decide)]; exact hb.1, by rw [gV 35 (by decide)]; exact hb.2.1, hb.2.2⟩
      obtain ⟨m', rfl⟩ : ∃ m', m = m' + 1 := ⟨m - 1, by omega⟩
      rw [z_pass hbV, kc_s, z_readSum hn hbV, kc_s, z_must hbV, kc_s, kgi_n, kpi_n]
      refine ok_i ⟨(fU.tr fV).si rfl, fun j hj => by rw [Gn (by omega), gV j (by omega)]; exact qU j hj, ⟨by rw [Gn (by omega)]; exact hbV.1, by rw [Gn (by omega)]; exact hbV.2.1, hbV.2.2⟩⟩
  | j + 1, m, hj, hm => by
    intro S k hM hX hG hL hd
    rw [sP_s]
    cases c : isS X k 40 with
    | false =>
      rw [if_neg (by decide)]
      exact m_atom hn hM hX hG hL hd c
    | true =>
      rw [if_pos rfl]
      unfold fX11_readPart
      rw [show (40 : Int32) = nI 40 from rfl, m_isSign hM hX hG hL (by decide), kc_s, ifT c, kgi_n, hd, show (6 : Int32) = nI 6 from rfl, i_eq (by omega) (by decide), if_neg (by omega)]
      unfold jX11_readPart_23
      rw [kgi_n, hd, kpi_n, nI_1]
      generalize hV : si S 215 37 (nI (6 - (j + 1) + 1)) = V
      have gV : ∀ i, i ≠ 37 → gi V 215 i = gi S 215 i := fun i hi => by rw [← hV, Gn (by omega)]
      have v37 : gi V 215 37 = nI (6 - j) := by
        rw [← hV, Gp]
        congr 1
        omega
      have fV : Fr (fun x => x = 215) S V := by rw [← hV]; exact Fr.rf.si rfl
      clear hV
      have hLV : ML V X k := by
        obtain ⟨a1, a2, a3, a4, a5⟩ := hL
        exact ⟨a1, by rw [gV _ (by decide)]; exact a2, by rw [gV _ (by decide)]; exact a3, by rw [gV _ (by decide)]; exact a4, by rw [gV _ (by decide)]; exact a5⟩
      have hMV := hM.fr fV.2.1
      have hXV := hX.fr fV (by omega) (gV 29 (by decide))
      have hGV : GD V := by unfold GD; rw [gV 34 (by decide)]; exact hG
      obtain ⟨W, w0, w1, w2, w3⟩ := m_pass hn hMV hXV hGV hLV
      have fW := fV.tr w1
      have qW : FQ4 S W := fun i hi => by rw [w3 i (by omega), gV i (by omega)]
      have hMW := hM.fr fW.2.1
      have hXW := hX.fr fW (by omega) (qW 29 (by omega))
      rw [w0, kc_s]
      obtain ⟨m', rfl⟩ : ∃ m', m = m' + 1 := ⟨m - 1, by omega⟩
      obtain ⟨P1, p0, p1⟩ := m_readSum hn (partM hn j m' (by omega) (by omega)) hMW hXW (by unfold GD; rw [w3 34 (by omega)]; exact hGV) w2 (by rw [w3 37 (by omega)]; exact v37)
      rw [p0, kc_s]
      cases hs : sSum X (sP X j) (nx X k) with
      | inl e =>
        rw [hs] at p1
        obtain ⟨x1, x2, x3⟩ := p1
        rw [z_must x3, kc_s, kgi_n, kpi_n]
        exact ok_i ⟨(fW.tr x1).si rfl, fun i hi => by rw [Gn (by omega), x2 i hi]; exact qW i hi, ⟨by rw [Gn (by omega)]; exact x3.1, by rw [Gn (by omega)]; exact x3.2.1, x3.2.2⟩⟩
      | inr g =>
        rw [hs] at p1
        obtain ⟨x1, x2, x3, x4, x5⟩ := p1
        have fP := fW.tr x1
        have qP := qW.tr x2
        rw [show (41 : Int32) = nI 41 from rfl]
        refine ok_kc (m_must hn (hM.fr fP.2.1) (hX.fr fP (by omega) (qP 29 (by omega))) x3 x4 (by decide)) ?_
        intro Z hz
        rcases hz with ⟨c1, z1, z2, z3⟩ | ⟨c1, z1, z2⟩
        · dsimp only
          rw [c1, if_pos rfl, kgi_n, z3 37 (by omega), x5, show nI (6 - j) - 1 = nI (6 - (j + 1)) from (nsub1 (by omega)).trans (by congr 1), kpi_n]
          refine ok_i ⟨(fP.tr z1).si rfl, fun i hi => by rw [Gn (by omega), z3 i (by omega)]; exact qP i hi, by unfold GD; rw [Gn (by omega), z3 34 (by omega)]; exact x3, ?_, Gp⟩
          obtain ⟨a1, a2, a3, a4, a5⟩ := z2
          exact ⟨a1, by rw [Gn (by omega)]; exact a2, by rw [Gn (by omega)]; exact a3, by rw [Gn (by omega)]; exact a4, by rw [Gn (by omega)]; exact a5⟩
        · dsimp only
          rw [c1, if_neg (by decide), kgi_n, kpi_n]
          subst z1
          exact ok_i ⟨(fP.tr wrS_fr).si rfl, fun i hi => by rw [Gn (by omega), wrS_j (by omega) (by omega)]; exact qP i hi, ⟨by rw [Gn (by omega)]; exact z2.1, by rw [Gn (by omega)]; exact z2.2.1, z2.2.2⟩⟩
