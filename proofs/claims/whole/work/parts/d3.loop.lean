/-! THE LAW'S LOOP. -/
theorem lp_end {L k : Nat} (hL : L ≤ 3072) (hk : k ≤ 600) : (Int32.ofNat L - 6 < nI (6 * k)) = (L < 6 * k + 6) := by
  apply propext
  have e : (nI L - nI 6).toInt = (L : Int) - 6 := by
    rw [Int32.toInt_sub, nI_toInt (by omega), nI_toInt (by omega)]
    apply Int.bmod_eq_of_le
    · omega
    · omega
  have e2 : Int32.ofNat L - 6 = nI L - nI 6 := rfl
  rw [e2, Int32.lt_iff_toInt_lt, e, nI_toInt (by omega)]
  omega
theorem lp_in {L k j : Nat} (hL : L ≤ 3072) (h : 6 * k + 6 ≤ L) (hj : j < 6) : inb (nI (6 * k) + nI j) L = true := by
  rw [nI_add]
  exact inb_n (by omega) (by omega)
theorem lp_all {xs : Nat → Int32} {L n : Nat} {Y : XS} {S : PS} (hn : 100000 ≤ n) (hL : L ≤ 3072) (h : GG Y S) : ok (iter (bLaw xs L n 0 215 234) n ((0 : Int32), Y, S)) (fun _ => True) := by
  refine iter_ok (fun k s => s.1 = nI (6 * k) ∧ GG s.2.1 s.2.2) (L / 6) ?_ ?_ (by omega) ⟨rfl, h⟩
  · rintro k ⟨s1, s2, s3⟩ hk ⟨e, hg⟩
    dsimp only at e hg
    subst e
    have hk6 : 6 * k + 6 ≤ L := by omega
    unfold bLaw
    dsimp only
    simp only [lp_end hL (show k ≤ 600 by omega)]
    rw [if_neg (by omega)]
    have i0 : inb (nI (6 * k)) L = true := inb_n (by omega) (by omega)
    rw [ksc_n i0]
    refine ok_kc (GG.step hn (lp_in hL hk6 (j := 1) (by omega)) (lp_in hL hk6 (j := 2) (by omega)) (lp_in hL hk6 (j := 3) (by omega)) (lp_in hL hk6 (j := 4) (by omega)) (lp_in hL hk6 (j := 5) (by omega)) hg) ?_
    intro o ho
    exact ok_i ⟨show nI (6 * k) + nI 6 = nI (6 * (k + 1)) by rw [nI_add]; rfl, ho⟩
  · rintro ⟨s1, s2, s3⟩ ⟨e, hg⟩
    dsimp only at e hg
    subst e
    unfold bLaw
    dsimp only
    simp only [lp_end hL (show L / 6 ≤ 600 by omega)]
    rw [if_pos (by omega)]
    exact ok_i trivial
