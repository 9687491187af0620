/-! ELECTION: the class's answer. -/
/-- the answer, and what holds behind it -/
def aElection (A : EL) (H : List EL) (tp : List Nat) (fp : Int32) (x : Int32) : AN × EL × List EL × List Nat × Int32 := match ix x (tp.length + 1) with
  | none => (.inr 2, A, H, tp, fp)
  | some m => (match sAll (tX tp m) with
    | .inl e => (.inl ((-10 : Int32) - nI e.1), A, H, [], nI e.2)
    | .inr B => (.inl (nI (eP B)), B, [], [], m1))
/-- between calls, with more cells -/
def QE (Y Y' : XS) (S T : PS) (A : EL) (H : List EL) (K : Option EL) (tp : List Nat) (fp : Int32) : Prop := CSt Y' T ∧ CVs Y' T A H K tp fp ∧ GY Y Y' ∧ nX Y' ≤ nX Y + 2 ∧ ∀ b, 215 ≤ b → b < nX Y → T.1 b = S.1 b ∧ T.2.1 b = S.2.1 b ∧ T.2.2 b = S.2.2 b
def outE (Y : XS) (S : PS) (K : Option EL) (a : AN × EL × List EL × List Nat × Int32) : (Int32 × XS × PS) ⊕ (Nat × PS) → Prop
  | .inl q => a.1 = .inl q.1 ∧ QE Y q.2.1 S q.2.2 a.2.1 a.2.2.1 K a.2.2.2.1 a.2.2.2.2
  | .inr q => a.1 = .inr q.1 ∧ QE Y Y S q.2 a.2.1 a.2.2.1 K a.2.2.2.1 a.2.2.2.2
theorem c_election {Y : XS} {n : Nat} {S : PS} {A : EL} {H : List EL} {K : Option EL} {tp : List Nat} {fp : Int32} {x : Int32} (hn : 10000 ≤ n) (hC : CSt Y S) (hV : CVs Y S A H K tp fp) :
    ok (fX10_election Y n S 0 x) (outE Y S K (aElection A H tp fp x)) := by
  have hY : 235 ≤ nX Y := hC.2.2.2.2.2.2.2.2.2.2.1
  have hTp := hV.2.2.2.2.2.2
  have tl := hTp.2.1
  have qs : QE Y Y S S A H K tp fp := ⟨hC, hV, GY.rf, by omega, fun b _ _ => ⟨rfl, rfl, rfl⟩⟩
  unfold fX10_election aElection
  rw [kgr_n hC.1.1, kgi_n, hTp.1]
  cases hx : ix x (tp.length + 1) with
  | none =>
    rcases ix_none hx with h1 | ⟨h1, h2⟩
    · rw [if_pos h1]
      exact ok_i ⟨rfl, qs⟩
    · rw [if_neg h1, if_neg (le_ix (by omega) h2)]
      exact ok_i ⟨rfl, qs⟩
  | some m =>
    obtain ⟨rfl, hm⟩ := ix_some (by omega) hx
    dsimp only
    rw [if_neg (nI_pos (by omega)), i_le (by omega) (by omega), if_pos (by omega), kgr_n hC.1.1]
    refine ok_kc (c_readText hn hC hTp (by omega)) ?_
    rintro ⟨q1, Y', T⟩ ⟨h1, h2, h3, h4, h5⟩
    dsimp only at h1 h2 h3 h4 h5
    have eg : EG S T := fun b k hb hk => (h4 b (by omega)).2 k hk
    have hC' := hC.gy h2 eg
    have keep : ∀ b, 215 ≤ b → b < nX Y → T.1 b = S.1 b ∧ T.2.1 b = S.2.1 b ∧ T.2.2 b = S.2.2 b := fun b h1 h2 => ⟨((h4 b h2).1 (by unfold Mr; omega)).1, ((h4 b h2).1 (by unfold Mr; omega)).2, funext (fun k => (h4 b h2).2 k (by omega))⟩
    have e0 : ∀ j, gi T 0 j = gi S 0 j := fun j => congrFun ((h4 0 (by omega)).1 (by unfold Mr; omega)).1 j
    cases hs : sAll (tX tp m) with
    | inl e =>
      rw [hs] at h5
      obtain ⟨g1, g2, g3, g4, g5, g6⟩ := h5
      rw [if_neg (by rw [h1, g1]; exact nI_ne0 (by omega) (by omega)), kgr_n hC'.1.1, kgi_n, g2, kpi_n, h1, g1]
      have f1 : Fr (fun b => b = 0) T (si T 0 1 (nI e.2)) := Fr.rf.si rfl
      have ht : TpV (si T 0 1 (nI e.2)) [] (nI e.2) := ⟨by rw [Gn (by omega)]; exact g6, Nat.zero_le _, fun j hj => absurd hj (Nat.not_lt_zero _), Gp⟩
      have hV' : CVs Y' T A H K [] (gi T 0 1) := hV.gy hY h2 h4 ⟨g6, Nat.zero_le _, fun j hj => absurd hj (Nat.not_lt_zero _), rfl⟩
      refine ok_i ⟨rfl, hC'.fr f1.2.1, ?_, h2, h3, fun b hb1 hb2 => ?_⟩
      · obtain ⟨v1, v2, v3, ⟨kn, v4, v5, v6⟩, v7, v8, v9⟩ := hV'
        exact ⟨v1.fr f1 (by omega) (by omega), v2.fr f1 (by omega) (by omega), v3.fr f1 (Gn (by omega)) (by omega) (by omega), ⟨kn, v4, by rw [Gn (by omega)]; exact v5, fun r hr hb => (v6 r hr hb).fr f1 (by omega)⟩, v7.fr f1 (by omega), v8.fr f1 (by omega), ht⟩
      · dsimp only
        have := keep b hb1 hb2
        exact ⟨by rw [f1.2.2 b (by omega)]; exact this.1, this.2.1, this.2.2⟩
    | inr B =>
      rw [hs] at h5
      obtain ⟨g1, g2, g3⟩ := h5
      dsimp only at g1 g2 g3
      rw [if_pos (by rw [h1, g1]; rfl), kpi_n]
      have f1 : Fr (fun b => b = 0) T (si T 0 1 (-1)) := Fr.rf.si rfl
      have hC1 := hC'.fr f1.2.1
      have hV' : CVs Y' T A H K [] (gi T 0 1) := hV.gy hY h2 h4 ⟨g2, Nat.zero_le _, fun j hj => absurd hj (Nat.not_lt_zero _), rfl⟩
      have hV1 : CVs Y' (si T 0 1 (-1)) A H K [] m1 := by
        obtain ⟨v1, v2, v3, ⟨kn, v4, v5, v6⟩, v7, v8, v9⟩ := hV'
        exact ⟨v1.fr f1 (by omega) (by omega), v2.fr f1 (by omega) (by omega), v3.fr f1 (Gn (by omega)) (by omega) (by omega), ⟨kn, v4, by rw [Gn (by omega)]; exact v5, fun r hr hb => (v6 r hr hb).fr f1 (by omega)⟩, v7.fr f1 (by omega), v8.fr f1 (by omega), by rw [Gn (by omega)]; exact g2, Nat.zero_le _, fun j hj => absurd hj (Nat.not_lt_zero _), Gp⟩
      rw [kgr_n hC1.1.1, kgr_n hC1.rst.1]
      refine ok_kc (s_startFrom hn hC1 hV1 (Or.inl rfl) (g3.fr f1 (by omega)).ev) ?_
      rintro U ⟨u1, u2, u3⟩
      rw [kgr_n u1.1.2.1, kgr_n u1.2.1.2.1, kgi_n, u2.1.1.2.1]
      refine ok_i ⟨rfl, u1, u2, h2, h3, fun b hb1 hb2 => ?_⟩
      dsimp only
      have k1 := keep b hb1 hb2
      have k2 := u3 b hb1
      exact ⟨by rw [k2.1, f1.2.2 b (by omega)]; exact k1.1, k2.2.1.trans k1.2.1, k2.2.2.trans k1.2.2⟩
