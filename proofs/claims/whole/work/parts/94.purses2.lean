/-! THE MODEL: purses, and what is given at a price. -/
/-- the purses at hand -/
def BV (S : PS) (A : EL) (b : Nat → Nat) : Prop := ∀ v, v < eV A → gi S 225 v = nI (b v)
theorem BV.fr {S S' : PS} {M : Nat → Prop} {A : EL} {b : Nat → Nat} (h : BV S A b) (hf : Fr M S S') (h1 : ¬ M 225) : BV S' A b := fun v hv => by rw [hf.gi h1]; exact h v hv
theorem m_layPurses {Y : XS} {n : Nat} {S : PS} {A : EL} {m : Nat} (hn : 10000 ≤ n) (hM : MSt Y S) (h : NV S A) :
    ok (fX11_layPurses Y n S 215 (nI (m * 1000))) (fun S' => Fr (fun x => x = 225) S S' ∧ BV S' A (fun _ => pu A m)) := by
  have a7 := h.ew
  have b0 := a7.1
  have b2 := a7.2.2.1
  have l := hM.2.2.2.1.1
  have l5 := hM.2.2.2.2.1.2.2.2.2.1
  unfold fX11_layPurses
  refine ok_kc (iter_ok (fun i t => t.1 = nI i ∧ Fr (fun x => x = 225) S t.2 ∧ ∀ v, v < i → gi t.2 225 v = nI (pu A m)) (Q := fun S' => Fr (fun x => x = 225) S S' ∧ BV S' A (fun _ => pu A m)) (eV A) (fun i t hi h1 => ?_) (fun t h1 => ?_) (by omega) ⟨rfl, Fr.rf, fun p hp => absurd hp (Nat.not_lt_zero _)⟩) (fun r h => ok_i h)
  · obtain ⟨t1, T⟩ := t
    obtain ⟨k1, k2, k3⟩ := h1
    simp only at k1 k2 k3
    subst k1
    have hMT : MSt Y T := hM.fr k2.2.1
    have hT : NV T A := h.fr k2 (by omega)
    unfold bX11_layPurses_2
    rw [m_people hMT hT, kc_s]
    simp (discharger := omega) only [nle, if_neg]
    rw [kgr_n hMT.2.1.2.2.2.2.1, kgr_n hMT.1.1, show (0 : Int32) = nI 0 from rfl, kai_n (by omega) (by omega), hT.m, kc_s]
    unfold kidiv
    rw [if_neg (nI_ne0 (by omega) (by omega)), show (1000 : Int32) = nI 1000 from rfl, nmul, ndiv (by omega) (by omega)]
    dsimp only
    rw [nI_add, kwi_n (by omega) (by omega), show (1 : Int32) = nI 1 from rfl, nI_add, ok_some, so_l]
    refine ⟨rfl, k2.si rfl, fun v hv => ?_⟩
    dsimp only
    rw [Gi_si]
    by_cases c : v = i
    · rw [if_pos ⟨rfl, c⟩]
      unfold pu
      rw [if_pos (by omega)]
    · rw [if_neg (by omega)]
      exact k3 v (by omega)
  · obtain ⟨t1, T⟩ := t
    obtain ⟨k1, k2, k3⟩ := h1
    simp only at k1 k2 k3
    subst k1
    unfold bX11_layPurses_2
    rw [m_people (hM.fr k2.2.1) (h.fr k2 (by omega)), kc_s]
    simp (discharger := omega) only [nle, if_pos, ok_some, so_r]
    exact ⟨k2, k3⟩
theorem m_givenBy {Y : XS} {n : Nat} {S : PS} {A : EL} {b : Nat → Nat} {p x : Nat} (hn : 10000 ≤ n) (hM : MSt Y S) (h : NV S A) (hW : MW S A) (hb : BV S A b) (hp : p < eP A) (hx : x ≤ 20000000) (hB : ∀ v, v < eV A → b v ≤ 200000000) :
    fX11_givenBy Y n S 215 (nI p) (lN x) = some (lN (Gv b (wo A p) (eV A) x)) := by
  have a7 := h.ew
  have b1 := a7.2.1
  have b2 := a7.2.2.1
  have l1 := hM.2.2.2.2.1.1
  have l5 := hM.2.2.2.2.1.2.2.2.2.1
  unfold fX11_givenBy
  refine kc_run (fun i => (lN (Gv b (wo A p) i x), nI i)) (eV A) (fun i hi => ?_) ?_ (by omega) rfl rfl
  · have w1 := (hW p hp).2.2 i hi
    have w2 := hb i hi
    have w3 := hB i hi
    have w4 := wo_le A p i
    have w5 : x * wo A p i ≤ 20000000 * 9999 := Nat.mul_le_mul hx w4
    unfold bX11_givenBy_6
    rw [m_people hM h, kc_s]
    simp (discharger := omega) only [nle, if_neg]
    rw [kgr_n hM.2.1.2.2.2.2.1, kai_n (by omega) (by omega), kgr_n hM.2.1.1, show (12 : Int32) = nI 12 from rfl, nmul, nI_add, kai_n (by omega) (by omega), w1, w2, nI_l (by omega), nI_l (by omega), lN_mul, lmin_n (by omega) (by omega), lN_add, show (1 : Int32) = nI 1 from rfl, nI_add]
    rfl
  · unfold bX11_givenBy_6
    rw [m_people hM h, kc_s]
    simp (discharger := omega) only [nle, if_pos]
