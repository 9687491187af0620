/-! THE MODEL: the order of choice. -/
/-- what is chosen, in its order -/
def MO (S : PS) (A : EL) (L : List Nat) : Prop := gi S 215 22 = nI L.length ∧ gi S 215 21 = nI (lb L) ∧ (∀ i, i < L.length → gi S 224 i = nI (L.getD i 0)) ∧ GL A L
theorem m_choose {Y : XS} {n : Nat} {S : PS} {A : EL} {L : List Nat} {q : Nat} (hA : EW A) (hM : MSt Y S) (h : MO S A L) (hq : q < eP A) (hb : (lb L).testBit q = false) :
    ok (fX11_choose Y n S 215 (nI q)) (fun S' => Fr (fun b => b = 215 ∨ b = 224) S S' ∧ MO S' A (L ++ [q]) ∧ ∀ j, j ≠ 21 → j ≠ 22 → gi S' 215 j = gi S 215 j) := by
  have o0 := hM.2.1.2.2.2.1
  have l1 := hM.2.2.2.2.1.2.2.2.1
  obtain ⟨h1, h2, h4, h5⟩ := h
  obtain ⟨g1, g2, g3⟩ := h5.add hq hb
  have hP := hA.2.1
  unfold fX11_choose
  simp (discharger := omega) only [kgi, kpi, h1, kgr_n o0, kwi_n, Gi_si, h2, and_self, if_true, if_pos, if_neg, n2p, nor, nI_add, nI_1]
  refine ok_i ⟨((Fr.rf.si (Or.inr rfl)).si (Or.inl rfl)).si (Or.inl rfl), ⟨?_, ?_, fun i hi => ?_, g1⟩, fun j j1 j2 => ?_⟩
  · simp (discharger := omega) only [Gi_si, if_neg, if_pos, and_self, if_true]
    rw [List.length_append]
    rfl
  · simp (discharger := omega) only [Gi_si, if_neg, if_pos, and_self, if_true]
    rw [lb_app]
  · rw [Gi_si, if_neg (by omega), Gi_si, if_neg (by omega), Gi_si]
    rw [List.length_append] at hi
    have hi' : i < L.length + 1 := hi
    by_cases c : i = L.length
    · subst c
      rw [if_pos ⟨rfl, rfl⟩]
      simp
    · rw [if_neg (by omega), h4 i (by omega)]
      have hi2 : i < L.length := by omega
      simp [List.getElem?_append_left hi2]
  · rw [Gi_si, if_neg (by omega), Gi_si, if_neg (by omega), Gi_si, if_neg (by omega)]
