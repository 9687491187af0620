/-! UNDO, IMAGE, BACK: the class's answers. -/
def aUndo (A : EL) (H : List EL) : Int32 × EL × List EL := match H with
  | [] => (m1, A, [])
  | B :: R => (nI R.length, B, R)
theorem c_undo {Y : XS} {n : Nat} {S : PS} {A : EL} {H : List EL} {K : Option EL} {tp : List Nat} {fp : Int32} (hn : 10000 ≤ n) (hC : CSt Y S) (hV : CVs Y S A H K tp fp) :
    ok (fX10_undo Y n S 0) (fun q => q.1 = (aUndo A H).1 ∧ QC Y S q.2 (aUndo A H).2.1 (aUndo A H).2.2 K tp fp) := by
  have hV0 := hV
  obtain ⟨a1, ⟨h1, en, h2, h3, h4, h5⟩, a3, a4, a5, a6, a7⟩ := hV
  have hi := hC.2.2.2.2.2.2.1
  unfold fX10_undo
  simp only [kgr_n hC.1.2.2.2.2.2.2.2.1, kgr_n hC.1.2.1, kgr_n hC.2.1.2.1, kgi, h4]
  cases H with
  | nil =>
    rw [if_pos (show nI ([] : List EL).length = 0 from rfl)]
    exact ok_i ⟨rfl, hC, hV0, CF.rf⟩
  | cons B R =>
    have hl : (B :: R).length = R.length + 1 := rfl
    rw [hl] at h1 h4 h5
    rw [hl, if_neg (nI_ne0 (by omega) (by omega))]
    unfold fX3_giveBack
    rw [kgi_n, h3, show (20 : Int32) = nI 20 from rfl, show (1 : Int32) = nI 1 from rfl, nI_add, nsub (by omega)]
    unfold kirem
    rw [if_neg (by decide), nmod (by omega) (by decide) (by decide)]
    dsimp only
    rw [kpi_n]
    have he : (en + 20 - 1) % 20 < 20 := Nat.mod_lt _ (by decide)
    generalize hS1 : si S 57 1 (nI ((en + 20 - 1) % 20)) = S1
    have f1 : Fr (fun x => x = 57) S S1 := by rw [← hS1]; exact Fr.rf.si rfl
    have hC1 : CSt Y S1 := hC.fr f1.2.1
    have hi1 := hC1.2.2.2.2.2.2.1
    have r1 := hi1.2.2 _ he
    have g1 : gi S1 57 1 = nI ((en + 20 - 1) % 20) := by rw [← hS1, Gi_si, if_pos ⟨rfl, rfl⟩]
    rw [kgr_n hi1.1, kgi_n, g1, kar_n (by have := hi1.2.1; omega) (by have := hi1.2.1; omega) r1.1]
    have eB := h5 0 (by omega)
    rw [show (en + 19 - 0) % 20 = (en + 20 - 1) % 20 by omega] at eB
    have eB' : EV Y S (59 + 4 * ((en + 20 - 1) % 20)) B := eB
    refine ok_kc (ok_kc (s_copyV (e := 10) (e' := 59 + 4 * ((en + 20 - 1) % 20)) hC1.2.1.1 r1.2 (by omega) (by omega) (eB'.fr f1 (by omega) (by omega))) (P := fun T => FE 10 (gr S1 (59 + 4 * ((en + 20 - 1) % 20)) 3) S1 T ∧ EV Y T 10 B) (Q := fun U => ∃ T, (FE 10 (gr S1 (59 + 4 * ((en + 20 - 1) % 20)) 3) S1 T ∧ EV Y T 10 B) ∧ U = si T 57 2 (nI R.length)) ?_) ?_
    · rintro T ⟨f2, e2⟩
      have g2 : gi T 57 2 = nI (R.length + 1) := by rw [f2.gi (by omega), ← hS1, Gi_si, if_neg (by decide)]; exact h4
      rw [kgi_n, g2, nsub (by omega), kpi_n, Nat.add_sub_cancel]
      exact ok_i ⟨T, ⟨f2, e2⟩, rfl⟩
    · rintro U ⟨T, ⟨f2, e2⟩, rfl⟩
      have f3 : Fr (fun x => x = 57) T (si T 57 2 (nI R.length)) := Fr.rf.si rfl
      have hCT : CSt Y T := hC1.fe f2 (by omega)
      have hCU : CSt Y (si T 57 2 (nI R.length)) := hCT.fr f3.2.1
      have hH : HsV Y (si T 57 2 (nI R.length)) B R := by
        refine ⟨by omega, (en + 20 - 1) % 20, he, ?_, ?_, fun k hk => ?_⟩
        · rw [Gi_si, if_neg (by decide), f2.gi (by omega)]; exact g1
        · rw [Gi_si, if_pos ⟨rfl, rfl⟩]
        · have ev := h5 (k + 1) (by omega)
          have hm := Nat.mod_lt (en + 19 - (k + 1)) (show 0 < 20 by decide)
          rw [show ((en + 20 - 1) % 20 + 19 - k) % 20 = (en + 19 - (k + 1)) % 20 by omega]
          have hg : R.getD k B = (B :: R).getD (k + 1) A := by
            show R.getD k B = R.getD k A
            rw [List.getD_eq_getElem?_getD, List.getD_eq_getElem?_getD, List.getElem?_eq_getElem hk]
            rfl
          rw [hg]
          exact (((ev.fr f1 (by omega) (by omega)).fe f2 (by omega) (by omega)).fr f3 (by omega) (by omega))
      have hK : KpV Y (si T 57 2 (nI R.length)) K := by
        cases K with
        | none =>
          show gi (si T 57 2 (nI R.length)) 0 11 = nI 0
          rw [f3.gi (by omega), f2.gi (by omega), f1.gi (by omega)]; exact a3
        | some C => exact ⟨by rw [f3.gi (by omega), f2.gi (by omega), f1.gi (by omega)]; exact a3.1, ((a3.2.fr f1 (by omega) (by omega)).fe f2 (by omega) (by omega)).fr f3 (by omega) (by omega)⟩
      have hZ : ZS (si T 57 2 (nI R.length)) 44 := (show ZS T 44 from (show ZS (T.1, T.2.1, S1.2.2) 44 from (a5.fr f1 (by omega)).fr f2.num (by omega))).fr f3 (by omega)
      have hG : ZG (si T 57 2 (nI R.length)) 51 := (show ZG T 51 from (show ZG (T.1, T.2.1, S1.2.2) 51 from (a6.fr f1 (by omega)).fr f2.num (by omega))).fr f3 (by omega)
      have hT : TpV (si T 57 2 (nI R.length)) tp fp := (show TpV T tp fp from (show TpV (T.1, T.2.1, S1.2.2) tp fp from (a7.fr f1 (by omega) (by omega) (f1.gi (by omega) 1)).fr f2.num (by omega) (by omega) (f2.gi (by omega) 1))).fr f3 (by omega) (by omega) (f3.gi (by omega) 1)
      refine ok_kc (s_refresh hn hCU (e2.fr f3 (by omega) (by omega)) hH hK hZ hG hT) ?_
      rintro W ⟨w1, w2, w3⟩
      obtain ⟨_, en', _, _, w4, _⟩ := w2.2.1
      rw [kgr_n w1.1.2.2.2.2.2.2.2.1, w4]
      exact ok_i ⟨rfl, w1, w2, (((CF.of f1 (by omega)).tr (CF.fe f2 (by omega))).tr (CF.of f3 (by omega))).tr w3⟩
theorem c_image {Y : XS} {n : Nat} {S : PS} {A : EL} {H : List EL} {K : Option EL} {tp : List Nat} {fp : Int32} (hC : CSt Y S) (hV : CVs Y S A H K tp fp) :
    ok (fX10_image Y n S 0) (fun S' => QC Y S S' A H (some A) tp fp) := by
  obtain ⟨a1, a2, a3, a4, a5, a6, a7⟩ := hV
  unfold fX10_image
  rw [kgr_n hC.1.2.2.2.2.2.2.2.2, kgr_n hC.1.2.1, kgr_n hC.2.1.2.1]
  refine ok_kc (s_copyV (e := 139) (e' := 10) hC.2.2.2.2.2.2.2.1 hC.2.1.1 (by omega) (by omega) a1.1) ?_
  rintro T ⟨f1, e1⟩
  unfold kpz
  rw [if_pos (Or.inr rfl)]
  have f2 : Fr (fun x => x = 0) T (si T 0 11 1) := Fr.rf.si rfl
  have hCT : CSt Y T := hC.fe f1 (by omega)
  have g0 : ∀ j, j ≠ 11 → gi (si T 0 11 1) 0 j = gi T 0 j := fun j hj => by rw [Gi_si, if_neg (fun z => hj z.2)]
  refine ok_i ⟨hCT.fr f2.2.1, ⟨(a1.fe f1 (by omega) (by omega)).fr f2 (by omega) (by omega), ?_, ⟨by rw [Gi_si, if_pos ⟨rfl, rfl⟩]; rfl, e1.fr f2 (by omega) (by omega)⟩, ?_, ?_, ?_, ?_⟩, (CF.fe f1 (by omega)).tr (CF.of f2 (by omega))⟩
  · obtain ⟨h1, en, h2, h3, h4, h5⟩ := a2
    refine ⟨h1, en, h2, by rw [f2.gi (by omega), f1.gi (by omega)]; exact h3, by rw [f2.gi (by omega), f1.gi (by omega)]; exact h4, fun k hk => ?_⟩
    have hm := Nat.mod_lt (en + 19 - k) (show 0 < 20 by decide)
    exact ((h5 k hk).fe f1 (by omega) (by omega)).fr f2 (by omega) (by omega)
  · obtain ⟨kn, w1, w2, w3⟩ := a4.fe f1 (by omega) (by omega)
    exact ⟨kn, w1, by rw [g0 4 (by decide)]; exact w2, fun r hr hb => (w3 r hr hb).fr f2 (by omega)⟩
  · exact (show ZS T 44 from (show ZS (T.1, T.2.1, S.2.2) 44 from a5.fr f1.num (by omega))).fr f2 (by omega)
  · exact (show ZG T 51 from (show ZG (T.1, T.2.1, S.2.2) 51 from a6.fr f1.num (by omega))).fr f2 (by omega)
  · exact (show TpV T tp fp from (show TpV (T.1, T.2.1, S.2.2) tp fp from a7.fr f1.num (by omega) (by omega) (f1.gi (by omega) 1))).fr f2 (by omega) (by omega) (g0 1 (by decide))
/-- all begins anew from another election -/
theorem s_startFrom {Y : XS} {n : Nat} {S : PS} {A B : EL} {H : List EL} {K : Option EL} {tp : List Nat} {fp : Int32} {e : Nat} (hn : 10000 ≤ n) (hC : CSt Y S) (hV : CVs Y S A H K tp fp) (he : e = 2 ∨ e = 139) (hE : EV Y S e B) :
    ok (fX10_startFrom Y n S 0 e) (fun S' => QC Y S S' B [] K tp fp) := by
  obtain ⟨a1, a2, a3, a4, a5, a6, a7⟩ := hV
  have hSE : SE Y S e := by
    rcases he with rfl | rfl
    · exact hC.2.2.2.2.2.2.2.2.1
    · exact hC.2.2.2.2.2.2.2.1
  unfold fX10_startFrom
  rw [kgr_n hC.1.2.1, kgr_n hC.2.1.2.1]
  refine ok_kc (s_copyV (e := 10) (e' := e) hC.2.1.1 hSE (by omega) (by omega) hE) ?_
  rintro T ⟨f1, e1⟩
  have hCT : CSt Y T := hC.fe f1 (by omega)
  rw [kgr_n hCT.1.2.2.2.2.2.2.2.1, kpi_n]
  have f2 : Fr (fun x => x = 57) T (si T 57 2 0) := Fr.rf.si rfl
  have hCU : CSt Y (si T 57 2 0) := hCT.fr f2.2.1
  obtain ⟨h1, en, h2, h3, h4, h5⟩ := a2
  have hH : HsV Y (si T 57 2 0) B [] := ⟨by decide, en, h2, by rw [Gi_si, if_neg (by decide), f1.gi (by omega)]; exact h3, by rw [Gi_si, if_pos ⟨rfl, rfl⟩]; rfl, fun k hk => absurd hk (Nat.not_lt_zero _)⟩
  have hK : KpV Y (si T 57 2 0) K := by
    cases K with
    | none =>
      show gi (si T 57 2 0) 0 11 = nI 0
      rw [f2.gi (by omega), f1.gi (by omega)]; exact a3
    | some C => exact ⟨by rw [f2.gi (by omega), f1.gi (by omega)]; exact a3.1, (a3.2.fe f1 (by omega) (by omega)).fr f2 (by omega) (by omega)⟩
  have hZ : ZS (si T 57 2 0) 44 := (show ZS T 44 from (show ZS (T.1, T.2.1, S.2.2) 44 from a5.fr f1.num (by omega))).fr f2 (by omega)
  have hG : ZG (si T 57 2 0) 51 := (show ZG T 51 from (show ZG (T.1, T.2.1, S.2.2) 51 from a6.fr f1.num (by omega))).fr f2 (by omega)
  have hT : TpV (si T 57 2 0) tp fp := (show TpV T tp fp from (show TpV (T.1, T.2.1, S.2.2) tp fp from a7.fr f1.num (by omega) (by omega) (f1.gi (by omega) 1))).fr f2 (by omega) (by omega) (f2.gi (by omega) 1)
  obtain ⟨W, hW, w1, w2, w3⟩ := s_refresh (n := n) hn hCU (e1.fr f2 (by omega) (by omega)) hH hK hZ hG hT
  unfold fX10_refresh at hW
  rw [hW]
  exact ok_i ⟨w1, w2, ((CF.fe f1 (by omega)).tr (CF.of f2 (by omega))).tr w3⟩
def aBack (A : EL) (H : List EL) (K : Option EL) : Int32 × EL × List EL := match K with
  | none => (nI 0, A, H)
  | some B => (nI 1, B, [])
theorem c_back {Y : XS} {n : Nat} {S : PS} {A : EL} {H : List EL} {K : Option EL} {tp : List Nat} {fp : Int32} (hn : 10000 ≤ n) (hC : CSt Y S) (hV : CVs Y S A H K tp fp) :
    ok (fX10_back Y n S 0) (fun q => q.1 = (aBack A H K).1 ∧ QC Y S q.2 (aBack A H K).2.1 (aBack A H K).2.2 K tp fp) := by
  unfold fX10_back
  have a3 := hV.2.2.1
  rw [kgi_n]
  cases K with
  | none =>
    have a3' : gi S 0 11 = nI 0 := a3
    rw [a3', if_pos (show nI 0 = 0 from rfl)]
    unfold kzr
    rw [if_pos (Or.inl rfl)]
    exact ok_i ⟨rfl, hC, hV, CF.rf⟩
  | some B =>
    rw [a3.1, if_neg (show ¬ nI 1 = 0 by decide), kgr_n hC.1.2.2.2.2.2.2.2.2]
    refine ok_kc (s_startFrom hn hC hV (Or.inr rfl) a3.2) ?_
    rintro W ⟨w1, w2, w3⟩
    unfold kzr
    rw [if_pos (Or.inr rfl)]
    exact ok_i ⟨rfl, w1, w2, w3⟩
