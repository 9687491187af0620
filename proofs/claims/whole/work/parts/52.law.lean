/-! A LAW'S WORTH: Law.worthFor goes through the code as runC does. -/
def clp (x : Int32) : Int32 := imax 0 (imin 9999 x)
def clN (x : Int32) : Nat := (clp x).toNatClampNeg
theorem clp_r (x : Int32) : 0 ≤ (clp x).toInt ∧ (clp x).toInt ≤ 9999 := by
  have e0 : (0 : Int32).toInt = 0 := rfl
  have e1 : (9999 : Int32).toInt = 9999 := rfl
  unfold clp imax imin
  by_cases h : x < 9999
  · rw [if_pos h]
    rw [Int32.lt_iff_toInt_lt] at h
    by_cases k : (0 : Int32) < x
    · rw [if_pos k]
      rw [Int32.lt_iff_toInt_lt] at k
      omega
    · rw [if_neg k]
      omega
  · rw [if_neg h, if_pos (by decide)]
    omega
theorem clp_n (x : Int32) : clp x = nI (clN x) := (Int32.ofNat_toNatClampNeg (clp x) (by rw [Int32.le_iff_toInt_le]; exact (clp_r x).1)).symm
theorem clN_le (x : Int32) : clN x ≤ 9999 := by
  have h := clp_r x
  show (clp x).toInt.toNat ≤ 9999
  omega
theorem nam1 (k : Nat) : nI (k + 1) + (-1) = nI k := by
  rw [← Int32.sub_eq_add_neg]
  exact nI_pred k
theorem s_valueOf {Y : XS} {n : Nat} {S : PS} {c s co l vo : Int32} : fX4_valueOf Y n S c s co l vo = some (vOf c s co l vo) := by
  unfold fX4_valueOf vOf
  split
  · rfl
  · split
    · rfl
    · split
      · rfl
      · split <;> rfl
theorem s_join {Y : XS} {n : Nat} {S : PS} {c a b : Int32} : fX4_join Y n S c a b = some (jn c a b) := by
  unfold fX4_join jn kidiv
  split
  · rfl
  · split
    · rfl
    · split
      · rfl
      · split <;> rfl
theorem s_worthFor {Y : XS} {n : Nat} {S : PS} {l c t : Nat} {s co li vo : Int32} {code : List Int32} {f : LF} (hn : 1000 ≤ n) (hg : gr S l 0 = some c) (hl : ln Y c = code.length) (hk : code.length ≤ 500) (hc : ∀ j, j < code.length → gi S c j = code.getD j 0) (hf : LawOK code f) (ht : ln Y t = 15) (htc : t ≠ c) :
    ok (fX4_worthFor Y n S l s co li vo t) (fun r => r.1 = nI (clN (f s co li vo)) ∧ Fr (fun b => b = t) S r.2) := by
  unfold fX4_worthFor
  have key : ok (iter (bX4_worthFor_6 Y n l s co li vo t) n ((0 : Int32), (0 : Int32), S)) (fun r => r.1 = nI 1 ∧ gi r.2 t 0 = f s co li vo ∧ Fr (fun b => b = t) S r.2) := by
    refine iter_ok (fun i q => ∃ st : List Int32, runC s co li vo (code.drop i) st = some [f s co li vo] ∧ st.length ≤ 15 ∧ q.1 = nI st.length ∧ q.2.1 = nI i ∧ Fr (fun b => b = t) S q.2.2 ∧ ∀ j, j < st.length → gi q.2.2 t j = st.getD (st.length - 1 - j) 0) code.length (fun i q hi h => ?_) (fun q h => ?_) (by omega) ⟨[], by rw [List.drop_zero]; exact hf s co li vo, by decide, rfl, rfl, Fr.rf, fun j hj => absurd hj (Nat.not_lt_zero _)⟩
    · obtain ⟨top, qi, T⟩ := q
      obtain ⟨st, h1, h2, h3, h4, h5, h6⟩ := h
      simp only at h3 h4 h5 h6
      subst h3 h4
      have hgT : gr T l 0 = some c := by rw [h5.gr]; exact hg
      have hcT : gi T c i = code[i] := by
        rw [h5.gi (fun q => htc q.symm), hc i hi]
        simp [hi]
      rw [List.drop_eq_getElem_cons hi] at h1
      generalize code[i] = x at h1 hcT
      have hlen : (Int32.ofNat code.length) = nI code.length := rfl
      simp (discharger := omega) only [bX4_worthFor_6, kgr_n hgT, kln, hl, ht, hlen, nle, if_neg, kai_n, hcT]
      by_cases hx : x ≤ -5
      · rw [if_pos hx]
        unfold runC at h1
        rw [if_pos hx] at h1
        match st, h1, h2, h6 with
        | b :: a :: r, h1, h2, h6 =>
          simp only [List.length_cons] at h2 h6 ⊢
          have e1 : gi T t (r.length + 1) = b := by
            have := h6 (r.length + 1) (by omega)
            rw [this]
            have e : r.length + 1 + 1 - 1 - (r.length + 1) = 0 := by omega
            rw [e]; rfl
          have e2 : gi T t r.length = a := by
            have := h6 r.length (by omega)
            rw [this]
            have e : r.length + 1 + 1 - 1 - r.length = 1 := by omega
            rw [e]; rfl
          unfold jX4_worthFor_61_6
          rw [if_neg (by rw [Int32.not_lt]; exact hx), if_neg (by rw [show (2 : Int32) = nI 2 from rfl, nlt (by omega) (by omega)]; omega), nam1, nI_pred, kai_n (by omega) (by omega), kai_n (by omega) (by omega), e1, e2, s_join, kc_s, kwi_n (by omega) (by omega)]
          unfold jX4_worthFor_101_6
          rw [ok_some, so_l]
          refine ⟨jn x a b :: r, h1, by simp only [List.length_cons]; omega, rfl, nI_1 i, h5.si rfl, fun j hj => ?_⟩
          simp only [List.length_cons] at hj ⊢
          rw [Gi_si]
          by_cases hj2 : j = r.length
          · rw [if_pos ⟨rfl, hj2⟩, hj2]
            have e : r.length + 1 - 1 - r.length = 0 := by omega
            rw [e]; rfl
          · rw [if_neg (fun q => hj2 q.2), h6 j (by omega)]
            have e : r.length + 1 + 1 - 1 - j = (r.length - 1 - j) + 2 := by omega
            have e' : r.length + 1 - 1 - j = (r.length - 1 - j) + 1 := by omega
            rw [e, e']
            rfl
      · rw [if_neg hx]
        unfold runC at h1
        rw [if_neg hx] at h1
        by_cases hs : st.length < 15
        · rw [if_pos hs] at h1
          rw [if_neg (by rw [show Int32.ofNat 15 = nI 15 from rfl, nle (by omega) (by omega)]; omega), s_valueOf, kc_s, kwi_n (by omega) (by omega)]
          unfold jX4_worthFor_101_6
          rw [ok_some, so_l]
          refine ⟨vOf x s co li vo :: st, h1, by simp only [List.length_cons]; omega, nI_1 _, nI_1 i, h5.si rfl, fun j hj => ?_⟩
          simp only [List.length_cons] at hj ⊢
          rw [Gi_si]
          by_cases hj2 : j = st.length
          · rw [if_pos ⟨rfl, hj2⟩, hj2]
            have e : st.length + 1 - 1 - st.length = 0 := by omega
            rw [e]; rfl
          · rw [if_neg (fun q => hj2 q.2), h6 j (by omega)]
            have e : st.length + 1 - 1 - j = (st.length - 1 - j) + 1 := by omega
            rw [e]
            rfl
        · rw [if_neg hs] at h1
          cases h1
    · obtain ⟨top, qi, T⟩ := q
      obtain ⟨st, h1, h2, h3, h4, h5, h6⟩ := h
      simp only at h3 h4 h5 h6
      subst h3 h4
      have hgT : gr T l 0 = some c := by rw [h5.gr]; exact hg
      have hlen : (Int32.ofNat code.length) = nI code.length := rfl
      simp (discharger := omega) only [bX4_worthFor_6, kgr_n hgT, kln, hl, hlen, nle, if_pos, ok_some, so_r]
      rw [List.drop_length] at h1
      unfold runC at h1
      cases h1
      exact ⟨rfl, h6 0 (by simp), h5⟩
  refine ok_kc key ?_
  rintro ⟨r1, r2⟩ ⟨k1, k2, k3⟩
  simp only at k1 k2 k3
  subst k1
  dsimp only
  rw [if_neg (by decide)]
  have e : kai Y r2 t (0 : Int32) (fun x115 => jX4_worthFor_120 Y n r2 x115) = jX4_worthFor_120 Y n r2 (gi r2 t 0) := kai_n (k := 0) (by omega) (by omega)
  rw [e, k2]
  exact ok_i ⟨clp_n _, k3⟩
