/-! LAWS: how they are read; the class's steps. -/
abbrev PR : Type := (Nat × Nat) ⊕ (LF × Nat)
def sAtom (X : TX) (k : Nat) : PR := if tk X k = 2 then (if nv X k ≤ 9999 then .inr (fun _ _ _ _ => nI (nv X k), nx X k) else .inl (2, k)) else if isW X k 5 = true then .inr (fun s _ _ _ => s, nx X k) else if isW X k 6 = true then .inr (fun _ c _ _ => c, nx X k) else if isW X k 7 = true then .inr (fun _ _ l _ => l, nx X k) else if isW X k 8 = true then .inr (fun _ _ _ v => v, nx X k) else .inl (1, k)
def jnF (o : Int32) (a b : LF) : LF := fun s co l vo => jn o (a s co l vo) (b s co l vo)
def adF : Option (LF × Int32) → LF → LF
  | none, m => m
  | some a, m => jnF a.2 a.1 m
/-- all behind a part: the sum and the term so far -/
def sV (X : TX) (prt : Nat → PR) : Nat → Option (LF × Int32) → LF → Nat → PR
  | 0, _, _, _ => .inl (1, 0)
  | f + 1, acc, m, k => if opO X k = 0 then .inr (adF acc m, k) else (match prt (nx X k) with
    | .inl e => .inl e
    | .inr g => if stg (opO X k) = 2 then sV X prt f acc (jnF (opO X k) m g.1) g.2 else sV X prt f (some (adF acc m, opO X k)) g.1 g.2)
def sSum (X : TX) (prt : Nat → PR) (k : Nat) : PR := match prt k with
  | .inl e => .inl e
  | .inr g => sV X prt (X.1 + 1) none g.1 g.2
def sP (X : TX) : Nat → Nat → PR
  | 0, k => if isS X k 40 = true then .inl (4, k) else sAtom X k
  | j + 1, k => if isS X k 40 = true then (match sSum X (sP X j) (nx X k) with
    | .inl e => .inl e
    | .inr g => if isS X g.2 41 = true then .inr (g.1, nx X g.2) else .inl (1, g.2)) else sAtom X k
theorem sV_s (X : TX) (prt : Nat → PR) (f : Nat) (acc : Option (LF × Int32)) (m : LF) (k : Nat) : sV X prt (f + 1) acc m k = if opO X k = 0 then .inr (adF acc m, k) else (match prt (nx X k) with
    | .inl e => .inl e
    | .inr g => if stg (opO X k) = 2 then sV X prt f acc (jnF (opO X k) m g.1) g.2 else sV X prt f (some (adF acc m, opO X k)) g.1 g.2) := rfl
theorem sP_0 (X : TX) (k : Nat) : sP X 0 k = if isS X k 40 = true then .inl (4, k) else sAtom X k := rfl
theorem sP_s (X : TX) (j k : Nat) : sP X (j + 1) k = if isS X k 40 = true then (match sSum X (sP X j) (nx X k) with
    | .inl e => .inl e
    | .inr g => if isS X g.2 41 = true then .inr (g.1, nx X g.2) else .inl (1, g.2)) else sAtom X k := rfl
theorem isS_lt {X : TX} {k b : Nat} (h : isS X k b = true) : k < X.1 ∧ tk X k = 3 ∧ X.2 k = b := by
  unfold isS at h
  rw [decide_eq_true_eq] at h
  exact ⟨(tk_3 h.1).1, h⟩
theorem isW_lt {X : TX} {k i : Nat} (h : isW X k i = true) : tk X k = 1 ∧ k < X.1 := by
  unfold isW at h
  rw [Bool.and_eq_true, decide_eq_true_eq] at h
  exact ⟨h.1.1, (tk_1 h.1.1).1⟩
theorem opO_3 {X : TX} {k : Nat} (h : opO X k ≠ 0) : tk X k = 3 ∧ k < X.1 ∧ ((opO X k = -7 ∧ X.2 k = 42) ∨ (opO X k = -5 ∧ X.2 k = 43) ∨ (opO X k = -6 ∧ X.2 k = 45) ∨ (opO X k = -8 ∧ X.2 k = 47)) := by
  unfold opO at *
  by_cases c : tk X k = 3
  · rw [if_pos c] at *
    refine ⟨c, (tk_3 c).1, ?_⟩
    by_cases d1 : X.2 k = 42
    · rw [if_pos d1]; exact Or.inl ⟨rfl, d1⟩
    · rw [if_neg d1] at *
      by_cases d2 : X.2 k = 43
      · rw [if_pos d2]; exact Or.inr (Or.inl ⟨rfl, d2⟩)
      · rw [if_neg d2] at *
        by_cases d3 : X.2 k = 45
        · rw [if_pos d3]; exact Or.inr (Or.inr (Or.inl ⟨rfl, d3⟩))
        · rw [if_neg d3] at *
          by_cases d4 : X.2 k = 47
          · rw [if_pos d4]; exact Or.inr (Or.inr (Or.inr ⟨rfl, d4⟩))
          · rw [if_neg d4] at h
            exact absurd rfl h
  · rw [if_neg c] at h
    exact absurd rfl h
theorem opO_stg {X : TX} {k : Nat} (h : opO X k ≠ 0) : (stg (opO X k) = 1 ∨ stg (opO X k) = 2) ∧ opO X k ≤ -5 := by
  obtain ⟨_, _, h | h | h | h⟩ := opO_3 h <;> rw [h.1] <;> decide
theorem isS_not {X : TX} {k b : Nat} (h : opO X k ≠ 0) (hb : b = 59 ∨ b = 41 ∨ b = 40) : isS X k b = false := by
  obtain ⟨h1, _, h2⟩ := opO_3 h
  unfold isS
  rw [decide_eq_false_iff_not]
  rintro ⟨_, e⟩
  omega
theorem isS_op {X : TX} {k b : Nat} (h : isS X k b = true) (hb : b = 59 ∨ b = 41) : opO X k = 0 := by
  by_cases c : opO X k = 0
  · exact c
  · rw [isS_not c (by omega)] at h
    cases h
theorem sAtom_gt {X : TX} {k : Nat} {g : LF × Nat} (h : sAtom X k = .inr g) (hk : k ≤ X.1) : k < g.2 ∧ g.2 ≤ X.1 := by
  have fin : k < X.1 → g.2 = nx X k → k < g.2 ∧ g.2 ≤ X.1 := fun h1 h2 => by rw [h2]; exact ⟨nx_gt h1, nx_le hk⟩
  unfold sAtom at h
  split at h
  · next c =>
    split at h
    · cases h
      exact fin (tk_2 c).1 rfl
    · cases h
  · split at h
    · next c => cases h; exact fin (isW_lt c).2 rfl
    · split at h
      · next c => cases h; exact fin (isW_lt c).2 rfl
      · split at h
        · next c => cases h; exact fin (isW_lt c).2 rfl
        · split at h
          · next c => cases h; exact fin (isW_lt c).2 rfl
          · cases h
theorem sV_ge {X : TX} {prt : Nat → PR} (hp : ∀ k g, k ≤ X.1 → prt k = .inr g → k < g.2 ∧ g.2 ≤ X.1) : ∀ f acc m k r, k ≤ X.1 → sV X prt f acc m k = .inr r → k ≤ r.2 ∧ r.2 ≤ X.1 ∧ opO X r.2 = 0
  | 0, acc, m, k, r, hk, h => by cases h
  | f + 1, acc, m, k, r, hk, h => by
    rw [sV_s] at h
    by_cases c : opO X k = 0
    · rw [if_pos c] at h
      cases h
      exact ⟨Nat.le_refl _, hk, c⟩
    · rw [if_neg c] at h
      have hk' := (opO_3 c).2.1
      cases hg : prt (nx X k) with
      | inl e => rw [hg] at h; cases h
      | inr g =>
        rw [hg] at h
        dsimp only at h
        have h1 := hp _ g (nx_le hk) hg
        have h2 := nx_gt hk'
        split at h
        · have := sV_ge hp f _ _ _ r h1.2 h
          exact ⟨by omega, this.2⟩
        · have := sV_ge hp f _ _ _ r h1.2 h
          exact ⟨by omega, this.2⟩
theorem sP_gt {X : TX} : ∀ j k g, k ≤ X.1 → sP X j k = .inr g → k < g.2 ∧ g.2 ≤ X.1
  | 0, k, g, hk, h => by
    rw [sP_0] at h
    split at h
    · cases h
    · exact sAtom_gt h hk
  | j + 1, k, g, hk, h => by
    rw [sP_s] at h
    split at h
    · next c =>
      have hk' := (isS_lt c).1
      have h2 := nx_gt hk'
      cases hs : sSum X (sP X j) (nx X k) with
      | inl e => rw [hs] at h; cases h
      | inr r =>
        rw [hs] at h
        dsimp only at h
        split at h
        · next c2 =>
          cases h
          unfold sSum at hs
          cases hg : sP X j (nx X k) with
          | inl e => rw [hg] at hs; cases hs
          | inr g1 =>
            rw [hg] at hs
            have h3 := sP_gt j _ g1 (nx_le hk) hg
            have h4 := sV_ge (fun k g hk h => sP_gt j k g hk h) _ _ _ _ r h3.2 hs
            have h5 := nx_gt (isS_lt c2).1
            exact ⟨show k < nx X r.2 by omega, nx_le h4.2.1⟩
        · cases h
    · exact sAtom_gt h hk
/-- a code that pushes a value -/
def VC (c : Int32) (g : LF) : Prop := ¬ c ≤ -5 ∧ ∀ s co l vo, vOf c s co l vo = g s co l vo
theorem VC.num {v : Nat} (h : v ≤ 1000000) : VC (nI v) (fun _ _ _ _ => nI v) := by
  have ht := nI_toInt (n := v) (by omega)
  have ne : ∀ c : Int32, c.toInt < 0 → nI v ≠ c := by
    intro c hc e
    rw [← e, ht] at hc
    omega
  refine ⟨?_, fun s co l vo => ?_⟩
  · rw [Int32.not_le, Int32.lt_iff_toInt_lt, ht]
    have : (-5 : Int32).toInt = -5 := by decide
    omega
  · unfold vOf
    rw [if_neg (ne _ (by decide)), if_neg (ne _ (by decide)), if_neg (ne _ (by decide)), if_neg (ne _ (by decide))]
def PP (S : PS) (c ws : List Int32) (d : Nat) (q : Int32 × PS) : PR → Prop
  | .inl e => q.1 = 0 ∧ FT q.2 e
  | .inr g => q.1 = 1 ∧ ∃ cd, CL q.2 (c ++ [cd]) ws d ∧ VC cd g.1 ∧ ∀ j, j ≠ 11 → gi q.2 1 j = gi S 1 j
theorem c_readPart {Y : XS} {n : Nat} {S : PS} {X : TX} {k d : Nat} {c ws : List Int32} (hn : 10000 ≤ n) (hR : RSt Y S) (hX : RX S X) (hL : LT S X k) (hC : CL S c ws d) (hc : c.length < 500) :
    ok (fX7_readPart Y n S 1) (fun q => Fr (fun b => b = 1 ∨ b = 7) S q.2 ∧ PP S c ws d q (sAtom X k)) := by
  have tl := tk_le X k
  have mvL : ∀ T : PS, Fr (fun b => b = 1 ∨ b = 7) S T → (∀ j, j ≠ 11 → gi T 1 j = gi S 1 j) → LT T X k ∧ RX T X := by
    intro T f g
    refine ⟨?_, hX.fr f (by omega) (fun j hj => g j (by omega))⟩
    obtain ⟨h1, h2, h3, h4, h5, h6⟩ := hL
    exact ⟨h1, h2, by rw [g 7 (by decide)]; exact h3, by rw [g 8 (by decide)]; exact h4, by rw [g 6 (by decide)]; exact h5, fun z => by rw [g 9 (by decide)]; exact h6 z⟩
  unfold fX7_readPart jX7_readPart_34 jX7_readPart_39 sAtom
  rw [kgi_n, hL.2.2.1, show (2 : Int32) = nI 2 from rfl, i_eq (by omega) (by decide)]
  by_cases t2 : tk X k = 2
  · have h9 := hL.2.2.2.2.2 (by omega)
    unfold vl at h9
    rw [if_neg (by omega), if_pos t2] at h9
    have nl : nv X k ≤ 1000000 := nvl_le _ _ _
    rw [if_pos t2, if_pos t2, kgi_n, h9]
    refine ok_kc (c_put (x := nI (nv X k)) hR hC hc) ?_
    rintro T ⟨t3, t4, t5⟩
    obtain ⟨m1', m2⟩ := mvL T t3 t5
    rw [kgi_n, t5 9 (by decide), h9, show (9999 : Int32) = nI 9999 from rfl, i_le (by omega) (by decide)]
    by_cases e : nv X k ≤ 9999
    · rw [if_pos e, if_pos e, kzr1]
      exact ok_i ⟨t3, rfl, nI (nv X k), t4, VC.num nl, t5⟩
    · rw [if_neg e, if_neg e, c_wrong m1', kc_s, if_pos rfl, kzr0]
      exact ok_i ⟨(t3.si (Or.inl rfl)).si (Or.inl rfl), rfl, FT.mk (c := 2) m2 m1' (by decide)⟩
  · rw [if_neg t2, if_neg t2, c_isWord hn hR hX hL (by decide) (by decide), kc_s, c_isWord hn hR hX hL (by decide) (by decide), kc_s, c_isWord hn hR hX hL (by decide) (by decide), kc_s, c_isWord hn hR hX hL (by decide) (by decide), kc_s]
    have good : ∀ (cd : Int32) (g : LF), cd ≠ 0 → VC cd g → ok (jX7_readPart_96 Y n S 1 cd) (fun q => Fr (fun b => b = 1 ∨ b = 7) S q.2 ∧ PP S c ws d q (.inr (g, nx X k))) := by
      intro cd g h0 hv
      unfold jX7_readPart_96 jX7_readPart_114 jX7_readPart_119
      refine ok_kc (c_put (x := cd) hR hC hc) ?_
      rintro T ⟨t3, t4, t5⟩
      rw [if_neg h0, kzr1]
      exact ok_i ⟨t3, rfl, cd, t4, hv, t5⟩
    cases e5 : isW X k 5 with
    | true =>
      rw [ifT rfl, if_pos (show true = true from rfl)]
      exact good (-1) _ (by decide) ⟨by decide, fun s co l vo => rfl⟩
    | false =>
      rw [ifF rfl, if_neg (show ¬ false = true by decide)]
      cases e6 : isW X k 6 with
      | true =>
        rw [ifT rfl, if_pos (show true = true from rfl)]
        exact good (-2) _ (by decide) ⟨by decide, fun s co l vo => rfl⟩
      | false =>
        rw [ifF rfl, if_neg (show ¬ false = true by decide)]
        cases e7 : isW X k 7 with
        | true =>
          rw [ifT rfl, if_pos (show true = true from rfl)]
          exact good (-3) _ (by decide) ⟨by decide, fun s co l vo => rfl⟩
        | false =>
          rw [ifF rfl, if_neg (show ¬ false = true by decide)]
          cases e8 : isW X k 8 with
          | true =>
            rw [ifT rfl, if_pos (show true = true from rfl)]
            exact good (-4) _ (by decide) ⟨by decide, fun s co l vo => rfl⟩
          | false =>
            rw [ifF rfl, if_neg (show ¬ false = true by decide)]
            unfold jX7_readPart_96 jX7_readPart_119
            refine ok_kc (c_put (x := 0) hR hC hc) ?_
            rintro T ⟨t3, t4, t5⟩
            obtain ⟨m1', m2⟩ := mvL T t3 t5
            rw [if_pos rfl, c_wrong m1', kc_s, if_pos rfl, kzr0]
            exact ok_i ⟨(t3.si (Or.inl rfl)).si (Or.inl rfl), rfl, FT.mk (c := 1) m2 m1' (by decide)⟩
