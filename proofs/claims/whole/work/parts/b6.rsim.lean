/-! THE CLASS READS A LAW: its loop, step by step. -/
/-- where the loop stands: the token at k comes next -/
def SM (Y : XS) (X : TX) (A : EL) (S0 S : PS) (i k : Nat) (c ws : List Int32) (d : Nat) : Prop := RSt Y S ∧ RX S X ∧ TD Y S A ∧ CL S c ws d ∧ (∃ a, gi S 1 6 = nI a ∧ a ≤ X.1 ∧ sk X isBk a = k ∧ c.length + ws.length + 3 ≤ a ∧ i + 3 ≤ a) ∧ Fr Mr S0 S ∧ FL S0 S
abbrev LQ : Type := (PS ⊕ (PS ⊕ (Int32 × XS × PS))) → Prop
def Wq (Y : XS) (n : Nat) (Q : LQ) (w : Int32) (i : Nat) (S : PS) : Prop := ∀ n', 700 ≤ n' + i → ok (iter (bX7_readLaw_35 Y n 1) n' (w, nI i, S)) Q
def BadQ (Y : XS) (S0 : PS) (Q : LQ) (e : Nat × Nat) : Prop := ∀ T, Fr Mr S0 T → FT T e → Q (.inl T) ∧ Q (.inr (.inr (0, Y, T)))
theorem it_l {σ ρ : Type} {f : σ → Option (σ ⊕ ρ)} {s s' : σ} {m : Nat} {Q : ρ → Prop} (h : f s = some (.inl s')) (k : ok (iter f m s') Q) : ok (iter f (m + 1) s) Q := by
  unfold iter
  rw [h]
  exact k
theorem it_r {σ ρ : Type} {f : σ → Option (σ ⊕ ρ)} {s : σ} {r : ρ} {m : Nat} {Q : ρ → Prop} (h : f s = some (.inr r)) (k : Q r) : ok (iter f (m + 1) s) Q := by
  unfold iter
  rw [h]
  exact ok_i k
/-- the token is here -/
def SL (Y : XS) (X : TX) (A : EL) (S0 T : PS) (i k : Nat) (c ws : List Int32) (d : Nat) : Prop := RSt Y T ∧ RX T X ∧ TD Y T A ∧ CL T c ws d ∧ LT T X k ∧ Fr Mr S0 T ∧ FL S0 T ∧ (i ≤ 497 ∧ c.length + ws.length ≤ 497) ∧ (k < X.1 → c.length + ws.length + 4 ≤ te X k ∧ i + 4 ≤ te X k)
theorem SM.nx {Y : XS} {n : Nat} {X : TX} {A : EL} {S0 S : PS} {i k d : Nat} {c ws : List Int32} (hn : 10000 ≤ n) (h : SM Y X A S0 S i k c ws d) : ∃ T, fX7_next Y n S 1 = some T ∧ SL Y X A S0 T i k c ws d ∧ i ≤ 497 := by
  obtain ⟨h1, h2, h3, h4, ⟨a, a1, a2, a3, a4, a5⟩, h6, h7⟩ := h
  obtain ⟨T, t0, t1, t2, t3⟩ := c_next hn h1 h2 ⟨a, a1, a2, a3⟩
  have ge := sk_ge (X := X) (P := isBk) a
  rw [a3] at ge
  have x5 := h2.2.1.1
  refine ⟨T, t0, ⟨h1.fr t1.2.1, h2.fr t1 (by omega) (fun j hj => t3 j (by omega)), h3.fr t1 (by omega), h4.fr t1 (by omega) (by omega) (fun j hj => t3 j (by omega)), t2, h6.tr (t1.mono (fun b hb => by unfold Mr; omega)), h7.tr t3.l, ⟨by omega, by omega⟩, fun hk => ?_⟩, by omega⟩
  have := te_gt hk
  omega
/-- the next token's place, from a heap in which this one is here -/
theorem SL.to {Y : XS} {X : TX} {A : EL} {S0 T U : PS} {i k d d' : Nat} {c ws c' ws' : List Int32} (h : SL Y X A S0 T i k c ws d) (hk : k < X.1) (f : Fr Mr T U) (hT : TD Y U A) (g : ∀ j, j ≤ 10 → gi U 1 j = gi T 1 j) (hC : CL U c' ws' d') (hl : c'.length + ws'.length ≤ c.length + ws.length + 1) : SM Y X A S0 U (i + 1) (nx X k) c' ws' d' := by
  obtain ⟨h1, h2, h3, h4, h5, h6, h7, h8, h9⟩ := h
  have := h9 hk
  refine ⟨h1.fr f.2.1, h2.fr f (by unfold Mr; omega) (fun j hj => g j (by omega)), hT, hC, ⟨te X k, by rw [g 6 (by decide)]; exact h5.2.2.2.2.1, te_le h5.1, rfl, by omega, by omega⟩, h6.tr f, h7.tr (fun j hj => g j (by omega))⟩
def lB (Y : XS) (n : Nat) (T : PS) (w : Int32) (i : Nat) : Option ((Int32 × Int32 × PS) ⊕ (PS ⊕ (PS ⊕ (Int32 × XS × PS)))) := if w = 0 then kc (fX7_isSign Y n T 1 (59 : Int32)) (fun q88 => (if q88 = 0 then jX7_readLaw_133_35 Y n T 1 w (nI i) else kgi T 1 14 (fun x95 => (if x95 = 0 then kc (fX7_putWaiting Y n T 1 (1 : Int32)) (fun q103 => kc (fLawBlk Y n q103 1) (fun qq => some (.inr (.inr (.inr qq))))) else jX7_readLaw_133_35 Y n T 1 w (nI i))))) else kc (fX7_isSign Y n T 1 (40 : Int32)) (fun q53 => (if q53 = 0 then kc (fX7_readPart Y n T 1) (fun q72 => (if q72.1 = 0 then some (.inr (.inl q72.2)) else jX7_readLaw_80_35 Y n q72.2 1 (nI i) q53)) else kc (fX7_readOpen Y n T 1) (fun q62 => (if q62.1 = 0 then some (.inr (.inl q62.2)) else jX7_readLaw_80_35 Y n q62.2 1 (nI i) q53))))
theorem lB_eq {Y : XS} {n : Nat} {S T : PS} {w : Int32} {i : Nat} (h0 : fX7_next Y n S 1 = some T) (hi : i ≤ 497) : bX7_readLaw_35 Y n 1 (w, nI i, S) = lB Y n T w i := by
  unfold bX7_readLaw_35 lB
  dsimp only
  rw [show (500 : Int32) = nI 500 from rfl, i_lt (by decide) (by omega), if_neg (by omega), h0, kc_s]
/-- a step that goes on -/
theorem W_l {Y : XS} {n : Nat} {S T U : PS} {w w' : Int32} {i : Nat} {Q : LQ} (h0 : fX7_next Y n S 1 = some T) (hi : i ≤ 497) (hb : lB Y n T w i = some (.inl (w', nI (i + 1), U))) (k : Wq Y n Q w' (i + 1) U) : Wq Y n Q w i S := by
  intro n' hn'
  cases n' with
  | zero => omega
  | succ m => exact it_l ((lB_eq h0 hi).trans hb) (k m (by omega))
theorem W_r {Y : XS} {n : Nat} {S T : PS} {w : Int32} {i : Nat} {Q : LQ} {r : PS ⊕ (PS ⊕ (Int32 × XS × PS))} (h0 : fX7_next Y n S 1 = some T) (hi : i ≤ 497) (hb : lB Y n T w i = some (.inr r)) (k : Q r) : Wq Y n Q w i S := by
  intro n' hn'
  cases n' with
  | zero => omega
  | succ m => exact it_r ((lB_eq h0 hi).trans hb) k
theorem sAtom_nx {X : TX} {k : Nat} {g : LF × Nat} (h : sAtom X k = .inr g) : g.2 = nx X k := by
  unfold sAtom at h
  split at h
  · split at h
    · cases h; rfl
    · cases h
  · split at h
    · cases h; rfl
    · split at h
      · cases h; rfl
      · split at h
        · cases h; rfl
        · split at h
          · cases h; rfl
          · cases h
def AQ (Y : XS) (n : Nat) (X : TX) (A : EL) (S0 : PS) (i : Nat) (c ws : List Int32) (d : Nat) (Q : LQ) : PR → Prop
  | .inl e => BadQ Y S0 Q e
  | .inr g => ∀ T cd, SM Y X A S0 T (i + 1) g.2 (c ++ [cd]) ws d → VC cd g.1 → Wq Y n Q 0 (i + 1) T
theorem b_atom {Y : XS} {n : Nat} {X : TX} {A : EL} {S0 S : PS} {i k d : Nat} {c ws : List Int32} {Q : LQ} (hn : 10000 ≤ n) (h : SM Y X A S0 S i k c ws d) (h40 : isS X k 40 = false) (hq : AQ Y n X A S0 i c ws d Q (sAtom X k)) : Wq Y n Q 1 i S := by
  obtain ⟨T, t0, hL, hi⟩ := h.nx hn
  have hL' := hL
  obtain ⟨h1, h2, h3, h4, h5, h6, h7, h8, h9⟩ := hL
  obtain ⟨⟨q1, U⟩, u0, u1, u2⟩ := c_readPart hn h1 h2 h5 h4 (by omega)
  dsimp only at u1 u2
  have fU : Fr Mr T U := u1.mono (fun b hb => by unfold Mr; omega)
  have e40 := c_isSign (Y := Y) (n := n) (b := 40) h2 h5 (by decide)
  rw [h40, show (if false = true then (1 : Int32) else 0) = 0 from rfl] at e40
  cases hs : sAtom X k with
  | inl e =>
    rw [hs] at u2 hq
    obtain ⟨z1, z2⟩ := u2
    dsimp only at z1 z2
    subst z1
    refine W_r (r := .inl U) t0 hi ?_ (hq U (h6.tr fU) z2).1
    unfold lB
    rw [if_neg (by decide), show fX7_isSign Y n T 1 40 = some 0 from e40, kc_s, if_pos rfl, u0, kc_s, if_pos rfl]
  | inr g =>
    have hg := sAtom_gt hs h5.1
    have hnx := sAtom_nx hs
    rw [hs] at u2 hq
    obtain ⟨z1, cd, z2, z3, z4⟩ := u2
    dsimp only at z1 z2 z4
    subst z1
    refine W_l (w' := 0) (U := U) t0 hi ?_ (hq U cd ?_ z3)
    · unfold lB jX7_readLaw_80_35 jX7_readLaw_182_35
      rw [if_neg (by decide), show fX7_isSign Y n T 1 40 = some 0 from e40, kc_s, if_pos rfl, u0, kc_s, if_neg (show ¬ (1 : Int32) = 0 by decide), nI_1]
    · rw [hnx]
      exact hL'.to (by omega) fU (h3.fr u1 (by omega)) (fun j hj => z4 j (by omega)) z2 (by rw [List.length_append]; show c.length + 1 + ws.length ≤ _; omega)
theorem b_open {Y : XS} {n : Nat} {X : TX} {A : EL} {S0 S : PS} {i k d : Nat} {c ws : List Int32} {Q : LQ} (hn : 10000 ≤ n) (h : SM Y X A S0 S i k c ws d) (h40 : isS X k 40 = true) (hd : d < 6) (hq : ∀ T, SM Y X A S0 T (i + 1) (nx X k) c (ws ++ [0]) (d + 1) → Wq Y n Q 1 (i + 1) T) : Wq Y n Q 1 i S := by
  obtain ⟨T, t0, hL, hi⟩ := h.nx hn
  have hL' := hL
  obtain ⟨h1, h2, h3, h4, h5, h6, h7, h8, h9⟩ := hL
  have hk := (isS_lt h40).1
  have e40 := c_isSign (Y := Y) (n := n) (b := 40) h2 h5 (by decide)
  rw [h40, show (if true = true then (1 : Int32) else 0) = 1 from rfl] at e40
  have f1 : Fr (fun b => b = 1) T (si T 1 14 (nI (d + 1))) := Fr.rf.si rfl
  have c1 : CL (si T 1 14 (nI (d + 1))) c ws (d + 1) := by
    obtain ⟨g1, g2, g3, g4, g5⟩ := h4
    exact ⟨by rw [Gn (by omega)]; exact g1, fun j hj => by rw [Gn (by omega)]; exact g2 j hj, by rw [Gn (by omega)]; exact g3, fun j hj => by rw [Gn (by omega)]; exact g4 j hj, Gp⟩
  obtain ⟨U, u0, u1, u2, u3⟩ := c_holdBack (n := n) (x := 0) (h1.fr f1.2.1) c1 (by omega)
  refine W_l (w' := 1) (U := U) t0 hi ?_ (hq U (hL'.to hk ((f1.mono (fun b hb => by unfold Mr; omega)).tr (u1.mono (fun b hb => by unfold Mr; omega))) ((h3.fr f1 (by omega)).fr u1 (by omega)) (fun j hj => by rw [u3 j (by omega), Gn (by omega)]) u2 (by rw [List.length_append, List.length_singleton]; omega)))
  unfold lB jX7_readLaw_80_35 jX7_readLaw_182_35 fX7_readOpen
  rw [if_neg (by decide), show fX7_isSign Y n T 1 40 = some 1 from e40, kc_s, if_neg (by decide), kgi_n, h4.2.2.2.2, show (6 : Int32) = nI 6 from rfl, i_lt (by omega) (by decide), if_pos hd, kgi_n, h4.2.2.2.2, kpi_n, nI_1, u0, kc_s, kzr1, kc_s, if_neg (show ¬ (1 : Int32) = 0 by decide), nI_1]
theorem b_open6 {Y : XS} {n : Nat} {X : TX} {A : EL} {S0 S : PS} {i k : Nat} {c ws : List Int32} {Q : LQ} (hn : 10000 ≤ n) (h : SM Y X A S0 S i k c ws 6) (h40 : isS X k 40 = true) (hq : BadQ Y S0 Q (4, k)) : Wq Y n Q 1 i S := by
  obtain ⟨T, t0, hL, hi⟩ := h.nx hn
  obtain ⟨h1, h2, h3, h4, h5, h6, h7, h8, h9⟩ := hL
  have e40 := c_isSign (Y := Y) (n := n) (b := 40) h2 h5 (by decide)
  rw [h40, show (if true = true then (1 : Int32) else 0) = 1 from rfl] at e40
  have f1 : Fr (fun b => b = 1) T (si (si T 1 4 (nI 4)) 1 1 (nI k)) := (show Fr (fun b => b = 1) T (si T 1 4 (nI 4)) from Fr.rf.si rfl).si rfl
  refine W_r (r := .inl (si (si T 1 4 (nI 4)) 1 1 (nI k))) t0 hi ?_ (hq _ (h6.tr (f1.mono (fun b hb => by unfold Mr; omega))) (FT.mk h2 h5 (by decide))).1
  unfold lB fX7_readOpen
  rw [if_neg (by decide), show fX7_isSign Y n T 1 40 = some 1 from e40, kc_s, if_neg (by decide), kgi_n, h4.2.2.2.2, show (6 : Int32) = nI 6 from rfl, i_lt (by omega) (by decide), if_neg (by omega), show (4 : Int32) = nI 4 from rfl, c_wrong h5, kc_s, kzr0, kc_s, if_pos rfl]
theorem b_op {Y : XS} {n : Nat} {X : TX} {A : EL} {S0 S : PS} {i k d : Nat} {c ws ps : List Int32} {Q : LQ} (hn : 10000 ≤ n) (h : SM Y X A S0 S i k c (ws ++ ps) d) (ho : opO X k ≠ 0) (hw : ws = [] ∨ ∃ w0 b, ws = w0 ++ [b] ∧ stg b < stg (opO X k)) (hp : ∀ x, x ∈ ps → stg (opO X k) ≤ stg x) (hq : ∀ T, SM Y X A S0 T (i + 1) (nx X k) (c ++ ps.reverse) (ws ++ [opO X k]) d → Wq Y n Q 1 (i + 1) T) : Wq Y n Q 0 i S := by
  obtain ⟨T, t0, hL, hi⟩ := h.nx hn
  have hL' := hL
  obtain ⟨h1, h2, h3, h4, h5, h6, h7, h8, h9⟩ := hL
  have hk := (opO_3 ho).2.1
  rw [List.length_append] at h8
  have e59 := c_isSign (Y := Y) (n := n) (b := 59) h2 h5 (by decide)
  rw [isS_not ho (by omega), show (if false = true then (1 : Int32) else 0) = 0 from rfl] at e59
  have e41 := c_isSign (Y := Y) (n := n) (b := 41) h2 h5 (by decide)
  rw [isS_not ho (by omega), show (if false = true then (1 : Int32) else 0) = 0 from rfl] at e41
  have so := opO_stg ho
  obtain ⟨U, u0, u1, u2, u3⟩ := c_putW (n := n) hn h1 (show stg (opO X k) ≤ 2 by omega) hw h4 (by omega) hp
  obtain ⟨V, v0, v1, v2, v3⟩ := c_holdBack (n := n) (x := opO X k) (h1.fr u1.2.1) u2 (by omega)
  refine W_l (w' := 1) (U := V) t0 hi ?_ (hq V (hL'.to hk ((u1.mono (fun b hb => by unfold Mr; omega)).tr (v1.mono (fun b hb => by unfold Mr; omega))) ((h3.fr u1 (by omega)).fr v1 (by omega)) (fun j hj => by rw [v3 j (by omega), u3 j (by omega) (by omega)]) v2 (by simp only [List.length_append, List.length_reverse, List.length_singleton]; omega)))
  unfold lB jX7_readLaw_133_35 jX7_readLaw_156_35 jX7_readLaw_182_35 fX7_readOperator
  rw [if_pos rfl, show fX7_isSign Y n T 1 59 = some 0 from e59, kc_s, if_pos rfl, show fX7_isSign Y n T 1 41 = some 0 from e41, kc_s, if_pos rfl, c_operator h2 h5, kc_s, if_neg ho, kc_s, c_strength, kc_s, u0, kc_s, v0, kc_s, kc_s, nI_1]
theorem b_close {Y : XS} {n : Nat} {X : TX} {A : EL} {S0 S : PS} {i k d : Nat} {c ws ps : List Int32} {Q : LQ} (hn : 10000 ≤ n) (h : SM Y X A S0 S i k c ((ws ++ [0]) ++ ps) (d + 1)) (hd : d < 6) (h41 : isS X k 41 = true) (hp : ∀ x, x ∈ ps → 1 ≤ stg x) (hq : ∀ T, SM Y X A S0 T (i + 1) (nx X k) (c ++ ps.reverse) ws d → Wq Y n Q 0 (i + 1) T) : Wq Y n Q 0 i S := by
  obtain ⟨T, t0, hL, hi⟩ := h.nx hn
  have hL' := hL
  obtain ⟨h1, h2, h3, h4, h5, h6, h7, h8, h9⟩ := hL
  have hk := (isS_lt h41).1
  rw [List.length_append, List.length_append] at h8
  have h8b : c.length + (ws.length + 1 + ps.length) ≤ 497 := h8.2
  have n59 : isS X k 59 = false := by
    have := (isS_lt h41).2
    unfold isS
    rw [decide_eq_false_iff_not]
    omega
  have e59 := c_isSign (Y := Y) (n := n) (b := 59) h2 h5 (by decide)
  rw [n59, show (if false = true then (1 : Int32) else 0) = 0 from rfl] at e59
  have e41 := c_isSign (Y := Y) (n := n) (b := 41) h2 h5 (by decide)
  rw [h41, show (if true = true then (1 : Int32) else 0) = 1 from rfl] at e41
  obtain ⟨U, u0, u1, u2, u3⟩ := c_putW (n := n) (s := 1) hn h1 (by decide) (Or.inr ⟨ws, 0, rfl, by decide⟩) h4 (by simp only [List.length_append, List.length_singleton]; omega) hp
  have wl : (ws ++ [(0 : Int32)]).length = ws.length + 1 := by rw [List.length_append]; rfl
  refine W_l (w' := 0) (U := si (si U 1 13 (nI ws.length)) 1 14 (nI d)) t0 hi ?_ (hq _ (hL'.to hk ((u1.mono (fun b hb => by unfold Mr; omega)).tr (show Fr Mr U _ from (Fr.rf.si (by unfold Mr; omega)).si (by unfold Mr; omega))) ?_ (fun j hj => by rw [Gn (by omega), Gn (by omega), u3 j (by omega) (by omega)]) ?_ (by simp only [List.length_append, List.length_reverse, List.length_singleton]; omega)))
  · unfold lB jX7_readLaw_133_35 jX7_readLaw_182_35 fX7_readClose
    rw [if_pos rfl, show fX7_isSign Y n T 1 59 = some 0 from e59, kc_s, if_pos rfl, show fX7_isSign Y n T 1 41 = some 1 from e41, kc_s, if_neg (by decide), kgi_n, h4.2.2.2.2, if_neg (nI_nle (by omega) (by omega)), show fX7_putWaiting Y n T 1 1 = some U from u0, kc_s, kgi_n, u2.2.2.1, wl, nI_pred, show imax 0 (nI ws.length) = nI (max 0 ws.length) from nmax (a := 0) (by decide) (by omega), Nat.max_eq_right (Nat.zero_le _), kpi_n, kgi_n, Gn (by omega), u2.2.2.2.2, nI_pred, kpi_n, kc_s, nI_1]
  · have f2 : Fr (fun b => b = 1) U (si (si U 1 13 (nI ws.length)) 1 14 (nI d)) := (show Fr (fun b => b = 1) U (si U 1 13 (nI ws.length)) from Fr.rf.si rfl).si rfl
    exact (h3.fr u1 (by omega)).fr f2 (by omega)
  · obtain ⟨g1, g2, g3, g4, g5⟩ := u2
    refine ⟨by rw [Gn (by omega), Gn (by omega)]; exact g1, fun j hj => by rw [Gn (by omega), Gn (by omega)]; exact g2 j hj, by rw [Gn (by omega), Gp], fun j hj => ?_, Gp⟩
    rw [Gn (by omega), Gn (by omega), g4 j (by omega), getD_app hj]
theorem b_bad {Y : XS} {n : Nat} {X : TX} {A : EL} {S0 S : PS} {i k d : Nat} {c ws : List Int32} {Q : LQ} (hn : 10000 ≤ n) (h : SM Y X A S0 S i k c ws d) (hd : d ≤ 6) (ho : opO X k = 0) (h1 : isS X k 59 = false ∨ 0 < d) (h2 : isS X k 41 = false ∨ d = 0) (hq : BadQ Y S0 Q (1, k)) : Wq Y n Q 0 i S := by
  obtain ⟨T, t0, hL, hi⟩ := h.nx hn
  obtain ⟨g1, g2, g3, g4, g5, g6, g7, g8, g9⟩ := hL
  have f1 : Fr (fun b => b = 1) T (si (si T 1 4 (nI 1)) 1 1 (nI k)) := (show Fr (fun b => b = 1) T (si T 1 4 (nI 1)) from Fr.rf.si rfl).si rfl
  have e59 := c_isSign (Y := Y) (n := n) (b := 59) g2 g5 (by decide)
  have e41 := c_isSign (Y := Y) (n := n) (b := 41) g2 g5 (by decide)
  have j156 : jX7_readLaw_156_35 Y n T 1 (nI i) = some (.inr (.inr (.inr (0, Y, si (si T 1 4 (nI 1)) 1 1 (nI k))))) := by
    unfold jX7_readLaw_156_35
    rw [c_operator g2 g5, kc_s, if_pos ho, show (1 : Int32) = nI 1 from rfl, c_wrong g5, kc_s, kzr0]
  have j133 : jX7_readLaw_133_35 Y n T 1 0 (nI i) = some (.inr (.inr (.inr (0, Y, si (si T 1 4 (nI 1)) 1 1 (nI k))))) := by
    unfold jX7_readLaw_133_35
    rw [show fX7_isSign Y n T 1 41 = _ from e41, kc_s, kgi_n, g4.2.2.2.2]
    cases c : isS X k 41 with
    | false =>
      rw [ifF rfl]
      exact j156
    | true =>
      rcases h2 with h2 | h2
      · rw [c] at h2; cases h2
      · subst h2
        rw [ifT rfl, if_pos (by decide)]
        exact j156
  refine W_r (r := .inr (.inr (0, Y, si (si T 1 4 (nI 1)) 1 1 (nI k)))) t0 hi ?_ (hq _ (g6.tr (f1.mono (fun b hb => by unfold Mr; omega))) (FT.mk g2 g5 (by decide))).2
  unfold lB
  rw [if_pos rfl, show fX7_isSign Y n T 1 59 = _ from e59, kc_s, kgi_n, g4.2.2.2.2, j133]
  cases c : isS X k 59 with
  | false => rw [ifF rfl]
  | true =>
    rcases h1 with h1 | h1
    · rw [c] at h1; cases h1
    · rw [ifT rfl, if_neg (nI_ne0 h1 (by omega))]
