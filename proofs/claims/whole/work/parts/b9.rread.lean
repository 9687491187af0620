/-! THE CLASS READS A TEXT. -/
/-- more cells -/
def GY (Y Y' : XS) : Prop := nX Y ≤ nX Y' ∧ ∀ a, a < nX Y → ln Y' a = ln Y a ∧ kd Y' a = kd Y a
theorem GY.rf {Y : XS} : GY Y Y := ⟨Nat.le_refl _, fun _ _ => ⟨rfl, rfl⟩⟩
theorem GY.tr {Y Y' Y'' : XS} (h : GY Y Y') (k : GY Y' Y'') : GY Y Y'' := ⟨Nat.le_trans h.1 k.1, fun a ha => ⟨(k.2 a (Nat.lt_of_lt_of_le ha h.1)).1.trans (h.2 a ha).1, (k.2 a (Nat.lt_of_lt_of_le ha h.1)).2.trans (h.2 a ha).2⟩⟩
/-- of the old cells only the reader's changed -/
def FY (Y : XS) (S T : PS) : Prop := ∀ b, b < nX Y → (¬ Mr b → T.1 b = S.1 b ∧ T.2.1 b = S.2.1 b) ∧ ∀ k, ¬ (b = 2 ∧ k = 3) → T.2.2 b k = S.2.2 b k
theorem FY.rf {Y : XS} {S : PS} : FY Y S S := fun _ _ => ⟨fun _ => ⟨rfl, rfl⟩, fun _ _ => rfl⟩
theorem FY.tr {Y Y' : XS} {S T U : PS} (h : FY Y S T) (k : FY Y' T U) (g : GY Y Y') : FY Y S U := fun b hb => by
  have h1 := h b hb
  have h2 := k b (Nat.lt_of_lt_of_le hb g.1)
  exact ⟨fun hm => ⟨(h2.1 hm).1.trans (h1.1 hm).1, (h2.1 hm).2.trans (h1.1 hm).2⟩, fun j hj => (h2.2 j hj).trans (h1.2 j hj)⟩
theorem FY.of {Y : XS} {S T : PS} (h : Fr Mr S T) : FY Y S T := fun b _ => ⟨fun hm => ⟨h.2.2 b hm, h.1 b hm⟩, fun k _ => by rw [h.2.1]⟩
theorem LawV.gy {Y Y' : XS} {S T : PS} {r : Option Nat} {f : Option LF} (h : LawV Y S r f) (g : GY Y Y') (e : ∀ b, 235 ≤ b → b < nX Y → T.1 b = S.1 b ∧ T.2.2 b = S.2.2 b) : LawV Y' T r f := by
  cases r with
  | none => cases f with
    | none => exact h
    | some f => exact h
  | some l => cases f with
    | none => exact h
    | some f =>
      obtain ⟨c, code, h1, h2, h3, h4, h5, h6, h7, h8, h9⟩ := h
      refine ⟨c, code, h1, Nat.lt_of_lt_of_le h2 g.1, h3, Nat.lt_of_lt_of_le h4 g.1, ?_, by rw [(g.2 c h4).1]; exact h6, h7, fun j hj => ?_, h9⟩
      · show T.2.2 l 0 = some c
        rw [(e l h1 h2).2]
        exact h5
      · show T.1 c j = _
        rw [(e c h3 h4).1]
        exact h8 j hj
theorem c_lawBlk {Y : XS} {n : Nat} {S : PS} {X : TX} {A : EL} {c : List Int32} {d : Nat} {f : LF} (hY : 235 ≤ nX Y) (hR : RSt Y S) (hX : RX S X) (hT : TD Y S A) (hC : CL S c [] d) (hl : c.length ≤ 497) (hf : LawOK c f) :
    ok (fLawBlk Y n S 1) (fun q => q.1 = 1 ∧ GY Y q.2.1 ∧ nX q.2.1 = nX Y + 2 ∧ FY Y S q.2.2 ∧ RSt q.2.1 q.2.2 ∧ RX q.2.2 X ∧ TD q.2.1 q.2.2 (setL A f) ∧ ∀ b, b < 235 → ∀ j, gi q.2.2 b j = gi S b j) := by
  have l7 := hR.2.2.2.2.2.1
  unfold fLawBlk knw
  rw [kgr_n hR.1]
  dsimp only
  rw [kgr_n (b := 7) (by rw [gr_zS, if_neg (by omega)]; exact hR.2.2.1), kgi_n, gi_zS, if_neg (by omega), hC.1]
  unfold fJ7_copyOf
  rw [kln_n (N := 500) (by rw [ln_nY, if_neg (by omega)]; exact l7), i_eq (by omega) (by decide), if_neg (by omega), show (500 : Int32) = nI 500 from rfl, i_lt (by decide) (by omega), if_neg (by omega)]
  unfold kna
  rw [if_neg (nI_pos (by omega)), ncl (by omega)]
  dsimp only
  rw [kln_n (N := 500) (by rw [ln_nY, if_neg (by rw [nX_nY]; omega), ln_nY, if_neg (by omega)]; exact l7), nmin (by decide) (by omega), Nat.min_eq_right (by omega), show (0 : Int32) = nI 0 from rfl, nX_nY]
  rw [kcp_n (by rw [ln_nY, if_neg (by rw [nX_nY]; omega), ln_nY, if_neg (by omega)]; omega) (by rw [ln_nY, if_pos nX_nY.symm]; omega) (by rw [ln_nY, if_neg (by rw [nX_nY]; omega), ln_nY, if_neg (by omega)]; omega) (by rw [ln_nY, if_pos nX_nY.symm]; omega), kc_s]
  unfold kty fX4_init kpr
  dsimp only
  rw [if_pos ⟨by rw [nX_nY, nX_nY]; omega, by rw [kd_nY, if_pos nX_nY.symm]⟩, kc_s, nX_nY, nX_nY, if_pos rfl]
  generalize hU : sr (sr (sc (zS (zS S (nX Y)) (nX Y + 1)) (nX Y + 1) (va_cpy ((zS (zS S (nX Y)) (nX Y + 1)).1 7) ((zS (zS S (nX Y)) (nX Y + 1)).1 (nX Y + 1)) 0 0 c.length)) (nX Y) 0 (some (nX Y + 1))) 2 3 (some (nX Y)) = U
  have ui : ∀ b, b < nX Y → ∀ j, gi U b j = gi S b j := by
    intro b hb j
    rw [← hU, Gi_sr, Gi_sr, Gi_sc, if_neg (by omega), gi_zS, if_neg (by omega), gi_zS, if_neg (by omega)]
  have ug : ∀ b k, b < nX Y → ¬ (b = 2 ∧ k = 3) → gr U b k = gr S b k := by
    intro b k hb hk
    rw [← hU, Gr_sr, if_neg hk, Gr_sr, if_neg (by omega), Gr_sc, gr_zS, if_neg (by omega), gr_zS, if_neg (by omega)]
  have ul : ∀ b, b < nX Y → U.2.1 b = S.2.1 b := by
    intro b hb
    funext j
    show gl U b j = gl S b j
    rw [← hU, Gl_sr, Gl_sr, Gl_sc, gl_zS, if_neg (by omega), gl_zS, if_neg (by omega)]
  have uc : ∀ j, j < c.length → gi U (nX Y + 1) j = c.getD j 0 := by
    intro j hj
    rw [← hU, Gi_sr, Gi_sr, Gi_sc, if_pos rfl, cpy0 hj]
    show gi (zS (zS S (nX Y)) (nX Y + 1)) 7 j = _
    rw [gi_zS, if_neg (by omega), gi_zS, if_neg (by omega)]
    exact hC.2.1 j hj
  have u0 : gr U (nX Y) 0 = some (nX Y + 1) := by
    rw [← hU, Gr_sr, if_neg (by omega), Gr_sr, if_pos ⟨rfl, rfl⟩]
  have u3 : gr U 2 3 = some (nX Y) := by
    rw [← hU, Gr_sr, if_pos ⟨rfl, rfl⟩]
  clear hU
  have gy : GY Y (nY (nY Y 4 0) 12 c.length) := by
    refine ⟨by rw [nX_nY, nX_nY]; omega, fun a ha => ⟨?_, ?_⟩⟩
    · rw [ln_nY, if_neg (by rw [nX_nY]; omega), ln_nY, if_neg (by omega)]
    · rw [kd_nY, if_neg (by rw [nX_nY]; omega), kd_nY, if_neg (by omega)]
  refine ok_i ⟨rfl, gy, rfl, fun b hb => ⟨fun _ => ⟨funext (fun j => ui b hb j), ul b hb⟩, fun k hk => ug b k hb hk⟩, ?_, ⟨by rw [ui 1 (by omega)]; exact hX.1, ⟨hX.2.1.1, by rw [ui 1 (by omega)]; exact hX.2.1.2⟩, fun j hj => by rw [ui 6 (by omega)]; exact hX.2.2 j hj⟩, ?_, fun b hb j => ui b (by omega) j⟩
  · obtain ⟨r1, r2, r3, r4, r5, r6, r7, e1, e2, e3, e4, e5, e6⟩ := hR
    have ll : ∀ a, a < 235 → ln (nY (nY Y 4 0) 12 c.length) a = ln Y a := fun a ha => (gy.2 a (by omega)).1
    exact ⟨by rw [ug 1 0 (by omega) (by omega)]; exact r1, by rw [ug 1 2 (by omega) (by omega)]; exact r2, by rw [ug 1 10 (by omega) (by omega)]; exact r3, by rw [ug 1 12 (by omega) (by omega)]; exact r4, by rw [ll 6 (by decide)]; exact r5, by rw [ll 7 (by decide)]; exact r6, by rw [ll 8 (by decide)]; exact r7, by rw [ug 2 4 (by omega) (by omega)]; exact e1, by rw [ug 2 5 (by omega) (by omega)]; exact e2, by rw [ug 2 6 (by omega) (by omega)]; exact e3, by rw [ll _ (by decide)]; exact e4, by rw [ll _ (by decide)]; exact e5, by rw [ll _ (by decide)]; exact e6⟩
  · obtain ⟨h1, h2, h3, h4, h5, h6, h7, h8, h9⟩ := hT
    refine ⟨by rw [ui 2 (by omega)]; exact h1, by rw [ui 2 (by omega)]; exact h2, by rw [ui 2 (by omega)]; exact h3, fun p hp => by rw [ui 3 (by omega)]; exact h4 p hp, fun p k hp hk => by rw [ui 4 (by omega)]; exact h5 p k hp hk, fun p v hp hv => by rw [ui 5 (by omega)]; exact h6 p v hp hv, ?_, h8, h9⟩
    dsimp only
    rw [u3]
    refine ⟨nX Y + 1, c, by omega, by rw [nX_nY, nX_nY]; omega, by omega, by rw [nX_nY, nX_nY]; omega, u0, ?_, by omega, uc, hf⟩
    rw [ln_nY, if_pos (by rw [nX_nY])]
/-- behind a line -/
def LY (Y : XS) (S : PS) (X : TX) (A : EL) (q : Int32 × XS × PS) : RR → Prop
  | .inl e => q.1 = 0 ∧ q.2.1 = Y ∧ FY Y S q.2.2 ∧ FT q.2.2 e
  | .inr z => q.1 = 1 ∧ GY Y q.2.1 ∧ nX q.2.1 = nX Y + (if (eL z.1).isSome = true ∧ (eL A).isSome = false then 2 else 0) ∧ FY Y S q.2.2 ∧ RSt q.2.1 q.2.2 ∧ TD q.2.1 q.2.2 z.1 ∧ PT q.2.2 X z.2 ∧ FL S q.2.2
