/-! THE MODEL: nothing is chosen yet. -/
theorem m_clear {Y : XS} {n : Nat} {S : PS} {A : EL} (hn : 10000 ≤ n) (hM : MSt Y S) :
    ok (fX11_clear Y n S 215) (fun S' => Fr (fun b => b = 215 ∨ b = 226) S S' ∧ MO S' A [] ∧ (∀ j, j < 288 → gi S' 226 j = nI 0) ∧ ∀ j, j ≠ 21 → j ≠ 22 → gi S' 215 j = gi S 215 j) := by
  have l6 := hM.2.2.2.2.1.2.2.2.2.2
  unfold fX11_clear
  rw [kpi_n, kpi_n]
  generalize hS1 : si (si S 215 21 0) 215 22 0 = S1
  have f1 : Fr (fun b => b = 215 ∨ b = 226) S S1 := by rw [← hS1]; exact (Fr.rf.si (Or.inl rfl)).si (Or.inl rfl)
  have e1 : gi S1 215 22 = nI 0 := by rw [← hS1, Gi_si, if_pos ⟨rfl, rfl⟩]; rfl
  have e2 : gi S1 215 21 = nI 0 := by rw [← hS1, Gi_si, if_neg (by decide), Gi_si, if_pos ⟨rfl, rfl⟩]; rfl
  have e3 : ∀ j, j ≠ 21 → j ≠ 22 → gi S1 215 j = gi S 215 j := fun j j1 j2 => by rw [← hS1, Gi_si, if_neg (by omega), Gi_si, if_neg (by omega)]
  have fin : ∀ T : PS, Fr (fun b => b = 226) S1 T → (∀ j, j < 288 → gi T 226 j = nI 0) → Fr (fun b => b = 215 ∨ b = 226) S T ∧ MO T A [] ∧ (∀ j, j < 288 → gi T 226 j = nI 0) ∧ ∀ j, j ≠ 21 → j ≠ 22 → gi T 215 j = gi S 215 j := by
    intro T k2 k3
    refine ⟨f1.tr (k2.mono (fun b hb => Or.inr hb)), ⟨?_, ?_, fun i hi => absurd hi (Nat.not_lt_zero _), GL.nil⟩, k3, fun j j1 j2 => ?_⟩
    · rw [k2.gi (by omega)]; exact e1
    · rw [k2.gi (by omega)]; exact e2
    · rw [k2.gi (by omega)]; exact e3 j j1 j2
  refine ok_kc (iter_ok (fun i t => t.1 = nI i ∧ Fr (fun b => b = 226) S1 t.2 ∧ ∀ j, j < i → gi t.2 226 j = nI 0) (Q := fun T => Fr (fun b => b = 226) S1 T ∧ ∀ j, j < 288 → gi T 226 j = nI 0) 288 (fun i t hi h1 => ?_) (fun t h1 => ?_) (by omega) ⟨rfl, Fr.rf, fun p hp => absurd hp (Nat.not_lt_zero _)⟩) (fun r h => ok_i (fin r h.1 h.2))
  · obtain ⟨t1, T⟩ := t
    obtain ⟨k1, k2, k3⟩ := h1
    simp only at k1 k2 k3
    subst k1
    have hMT : MSt Y T := (hM.fr f1.2.1).fr k2.2.1
    unfold bX11_clear_12 kln
    rw [kgr_n hMT.2.1.2.2.2.2.2]
    dsimp only
    rw [l6, show Int32.ofNat 288 = nI 288 from rfl]
    simp (discharger := omega) only [nle, if_neg]
    rw [kgr_n hMT.2.1.2.2.2.2.2, kwi_n (by omega) (by omega), show (1 : Int32) = nI 1 from rfl, nI_add, ok_some, so_l]
    refine ⟨rfl, k2.si rfl, fun v hv => ?_⟩
    dsimp only
    rw [Gi_si]
    by_cases c : v = i
    · rw [if_pos ⟨rfl, c⟩]; rfl
    · rw [if_neg (by omega)]
      exact k3 v (by omega)
  · obtain ⟨t1, T⟩ := t
    obtain ⟨k1, k2, k3⟩ := h1
    simp only at k1 k2 k3
    subst k1
    have hMT : MSt Y T := (hM.fr f1.2.1).fr k2.2.1
    unfold bX11_clear_12 kln
    rw [kgr_n hMT.2.1.2.2.2.2.2]
    dsimp only
    rw [l6, show Int32.ofNat 288 = nI 288 from rfl, if_pos (by rw [nle (by omega) (by omega)]; omega), ok_some, so_r]
    exact ⟨k2, k3⟩
