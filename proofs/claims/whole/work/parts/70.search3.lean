/-! SEARCH, CLASS: worstWith; bestSet. -/
def mwi (f : Nat → Nat) : Nat → Nat
  | 0 => 119988
  | i + 1 => min (mwi f i) (f i)
theorem mwi_s (f : Nat → Nat) (i : Nat) : mwi f (i + 1) = min (mwi f i) (f i) := rfl
theorem mwi_le (f : Nat → Nat) : ∀ i, mwi f i ≤ 119988
  | 0 => Nat.le_refl _
  | i + 1 => by have := mwi_le f i; rw [mwi_s]; omega
theorem mwi_mw {f : Nat → Nat} (h : ∀ i, f i ≤ 119988) : ∀ i, mwi f (i + 1) = mw f i
  | 0 => by have := h 0; rw [mwi_s]; show min 119988 (f 0) = f 0; omega
  | i + 1 => by rw [mwi_s, mwi_mw h i]; rfl
theorem ww_mwi {A : EL} (h : EW A) (s : Nat) (hV : eV A ≠ 0) : ww A s = mwi (fun v => wt A v s) (eV A) := by
  unfold ww
  rw [if_neg hV]
  have := mwi_mw (f := fun v => wt A v s) (fun v => wt_le h v s) (eV A - 1)
  rw [show eV A - 1 + 1 = eV A by omega] at this
  exact this.symm
theorem mw_at {f : Nat → Nat} {v : Nat} : ∀ {n : Nat}, v ≤ n → mw f n ≤ f v
  | 0, h => by
    have : v = 0 := by omega
    subst this
    exact Nat.le_refl _
  | n + 1, h => by
    by_cases e : v = n + 1
    · subst e; unfold mw; omega
    · have := mw_at (f := f) (v := v) (n := n) (by omega)
      unfold mw; omega
theorem ww_at {A : EL} {s v : Nat} (hv : v < eV A) : ww A s ≤ wt A v s := by
  unfold ww
  rw [if_neg (by omega)]
  exact mw_at (f := fun v => wt A v s) (by omega)
theorem s_worstWith {Y : XS} {n : Nat} {S : PS} {p se s ask : Nat} {A : EL} (hn : 100 ≤ n) (hs : se + 6 ≤ 235) (hd : p + 11 ≤ se ∨ se + 6 ≤ p) (hP : SP Y S p) (hA : PV Y S p A) (hS : SR Y S se) (hs2 : s < 2 ^ eP A) (h0 : 0 < s) (hask : ask ≤ 119988) (he : ∀ v, v < eV A → gi S (se + 3) (lo (s - 2 ^ lo s) * 24 + v) = nI (wt A v (s - 2 ^ lo s))) (hle : ∀ v, v < eV A → gi S (se + 5) (lo s * 24 + v) = nI (sm (fun i => wo A i v) (lo s))) (hne : lo s < lo (s - 2 ^ lo s)) (hl12 : lo (s - 2 ^ lo s) ≤ 12) :
    ok (fX8_worstWith Y n S se p (nI (lo s)) (nI (lo (s - 2 ^ lo s))) (nI ask)) (fun r => Fr (fun x => x = se + 3) S r.2 ∧ (∀ j, (j < lo s * 24 ∨ lo s * 24 + 24 ≤ j) → gi r.2 (se + 3) j = gi S (se + 3) j) ∧ ((r.1 = m1 ∧ ∃ v, v < eV A ∧ wt A v s + sm (fun i => wo A i v) (lo s) < ask) ∨ (r.1 = nI (ww A s) ∧ ∀ v, v < eV A → gi r.2 (se + 3) (lo s * 24 + v) = nI (wt A v s)))) := by
  have a7 := hA.1.2.2.2.2.2.2.2
  have b1 := a7.2.1
  have b2 := a7.2.2.1
  have hsb : s < 4096 := Nat.lt_of_lt_of_le hs2 (p12 b1)
  have hl := lo_lt hs2 b1 h0
  have l8 := hP.2.2.2.2.2.2.2.2.2.2.2.1
  obtain ⟨s0, s1, s2, s3, s4, l1, l2, l3, l4, l5⟩ := hS
  generalize hup : s - 2 ^ lo s = u at *
  have hwt : ∀ v, wt A v s = wt A v u + wo A (lo s) v := by
    intro v
    rw [← hup]
    exact lo_wt hsb h0 hl
  have key : ∀ x : Nat, (x = mwi (fun v => wt A v s) 0 ∨ eV A = 0) → ok (jX8_worstWith_26 Y n S se (nI (lo s)) (nI (lo u)) (nI ask) (p + 8) (nI (eV A)) (nI x)) (fun r => Fr (fun x => x = se + 3) S r.2 ∧ (∀ j, (j < lo s * 24 ∨ lo s * 24 + 24 ≤ j) → gi r.2 (se + 3) j = gi S (se + 3) j) ∧ ((r.1 = m1 ∧ ∃ v, v < eV A ∧ wt A v s + sm (fun i => wo A i v) (lo s) < ask) ∨ (r.1 = nI (if eV A = 0 then x else mwi (fun v => wt A v s) (eV A)) ∧ ∀ v, v < eV A → gi r.2 (se + 3) (lo s * 24 + v) = nI (wt A v s)))) := by
    intro x hx
    unfold jX8_worstWith_26
    refine ok_kc (iter_ok (fun i t => t.1 = nI (if eV A = 0 then x else mwi (fun v => wt A v s) i) ∧ t.2.1 = nI i ∧ Fr (fun x => x = se + 3) S t.2.2 ∧ (∀ j, (j < lo s * 24 ∨ lo s * 24 + 24 ≤ j) → gi t.2.2 (se + 3) j = gi S (se + 3) j) ∧ ∀ v, v < i → gi t.2.2 (se + 3) (lo s * 24 + v) = nI (wt A v s)) (Q := fun r => ∃ r1 r2, (r = .inl (r1, r2) ∨ r = .inr (r1, r2)) ∧ Fr (fun x => x = se + 3) S r2 ∧ (∀ j, (j < lo s * 24 ∨ lo s * 24 + 24 ≤ j) → gi r2 (se + 3) j = gi S (se + 3) j) ∧ ((r1 = m1 ∧ ∃ v, v < eV A ∧ wt A v s + sm (fun i => wo A i v) (lo s) < ask) ∨ (r1 = nI (if eV A = 0 then x else mwi (fun v => wt A v s) (eV A)) ∧ ∀ v, v < eV A → gi r2 (se + 3) (lo s * 24 + v) = nI (wt A v s)))) (eV A) (fun i t hi h => ?_) (fun t h => ?_) (by omega) ⟨?_, rfl, Fr.rf, fun _ _ => rfl, fun v hv => absurd hv (Nat.not_lt_zero _)⟩) ?_
    · obtain ⟨t1, t2, T⟩ := t
      obtain ⟨k1, k2, k3, k4, k5⟩ := h
      simp only at k1 k2 k3 k4 k5
      rw [if_neg (by omega)] at k1
      subst k1 k2
      have hPT : SP Y T p := hP.fr k3.2.1
      have hAT : PV Y T p A := hA.fr k3 (by omega) (by omega)
      have r2 : gr T se 2 = some (se + 3) := by rw [k3.gr]; exact s2
      have r4 : gr T se 4 = some (se + 5) := by rw [k3.gr]; exact s4
      have w1 : gi T (se + 3) (lo u * 24 + i) = nI (wt A i u) := by rw [k4 _ (by omega)]; exact he i hi
      have w2 := (hAT.2 (lo s) hl).2.2.2 i hi
      have w3 : gi T (se + 5) (lo s * 24 + i) = nI (sm (fun j => wo A j i) (lo s)) := by rw [k3.gi (by omega)]; exact hle i hi
      have x1 := wt_le a7 i s
      have x2 : sm (fun j => wo A j i) (lo s) ≤ 12 * 9999 := by
        have := sm_le (f := fun j => wo A j i) (c := 9999) (n := lo s) (fun j _ => wo_le A j i)
        exact Nat.le_trans this (Nat.mul_le_mul_right _ (by omega))
      have x3 := mwi_le (fun v => wt A v s) i
      have x4 := hwt i
      unfold bX8_worstWith_31
      simp (discharger := omega) only [nle, if_neg, show (24 : Int32) = nI 24 from rfl, nmul, nI_add, kgr_n r2, kai_n, w1, w2, kgr_n r4, w3, kwi_n]
      rw [← x4]
      by_cases hc : ask ≤ wt A i s + sm (fun j => wo A j i) (lo s)
      · rw [if_pos hc, nmin (by omega) (by omega), nI_1, ok_some, so_l]
        refine ⟨?_, rfl, k3.si rfl, fun j hj => ?_, fun v hv => ?_⟩
        · rfl
        · rw [Gi_si, if_neg (by omega)]; exact k4 j hj
        · rw [Gi_si]
          by_cases e : v = i
          · rw [if_pos ⟨rfl, by omega⟩, e]
          · rw [if_neg (by omega)]; exact k5 v (by omega)
      · rw [if_neg hc, ok_some, so_r]
        exact ⟨_, T, Or.inr rfl, k3, k4, Or.inl ⟨rfl, i, hi, by omega⟩⟩
    · obtain ⟨t1, t2, T⟩ := t
      obtain ⟨k1, k2, k3, k4, k5⟩ := h
      simp only at k1 k2 k3 k4 k5
      subst k1 k2
      unfold bX8_worstWith_31
      simp (discharger := omega) only [nle, if_pos, ok_some, so_r]
      exact ⟨_, T, Or.inl rfl, k3, k4, Or.inr ⟨rfl, k5⟩⟩
    · dsimp only
      by_cases z : eV A = 0
      · rw [if_pos z]
      · rw [if_neg z, hx.resolve_right z]
    · rintro r ⟨r1, r2, hr, h1, h2, h3⟩
      rcases hr with rfl | rfl
      · exact ok_i ⟨h1, h2, h3⟩
      · exact ok_i ⟨h1, h2, h3⟩
  unfold fX8_worstWith
  have a2 := hA.1.2.2.1
  simp (discharger := omega) only [kgr_n hP.2.2.2.2.2.1, kgr_n hP.2.1, kgi, a2]
  by_cases z : eV A = 0
  · rw [if_pos (show nI (eV A) = 0 by rw [z]; rfl)]
    refine ok_mono (key 0 (Or.inr z)) ?_
    rintro r ⟨h1, h2, h3⟩
    refine ⟨h1, h2, ?_⟩
    rw [if_pos z] at h3
    have : ww A s = 0 := by unfold ww; rw [if_pos z]
    rw [this]
    exact h3
  · rw [if_neg (nI_ne0 (by omega) (by omega))]
    refine ok_mono (key 119988 (Or.inl rfl)) ?_
    rintro r ⟨h1, h2, h3⟩
    refine ⟨h1, h2, ?_⟩
    rw [if_neg z, ← ww_mwi a7 s z] at h3
    exact h3
theorem bs132 {Y : XS} {n : Nat} {S : PS} {v0 v1 : Nat} {v2 v3 v4 v5 v6 v8 v9 v10 v11 v12 : Int32} : jX8_bestSet_132_22 Y n S v0 v1 v2 v3 v4 v5 v6 v8 v9 v10 v11 v12 = some (.inl (v3, v4, v5, v6, v8 + imax 1 (v8 &&& (-v8)), S)) := by
  unfold jX8_bestSet_132_22 jX8_bestSet_137_22
  rw [if_neg (by decide)]
  unfold jX8_bestSet_148_22 jX8_bestSet_163_22
  rw [if_neg (by decide)]
  rfl
theorem bs163n {Y : XS} {n : Nat} {S : PS} {v0 v1 : Nat} {v2 v3 v4 v5 v6 v8 v9 v11 v12 : Int32} : jX8_bestSet_163_22 Y n S v0 v1 v2 v3 v4 v5 v6 v8 v9 v11 v12 0 (-1) = some (.inl (v3, v4, v5, v6, v8 + imax 1 (v8 &&& (-v8)), S)) := by
  unfold jX8_bestSet_163_22
  rw [if_pos rfl, if_pos rfl]
  rfl
theorem bs163 {Y : XS} {n : Nat} {S : PS} {se v1 l s b u0 u c w c0 w0 : Nat} {v2 : Int32} (hS : SR Y S se) (hl : l < 12) (hu : u < 2147483648) (hu0 : u0 < 2147483648) (hw : w < 2147483648) (hw0 : w0 < 2147483648) (hc : c < 2147483648) (hc0 : c0 < 2147483648) :
    jX8_bestSet_163_22 Y n S se v1 v2 (nI b) (nI u0) (nI w0) (nI c0) (nI s) (nI l) (nI c) (nI w) 0 (nI u) = if u0 < u ∨ (u = u0 ∧ (w0 < w ∨ (w = w0 ∧ c < c0))) then some (.inl (nI s, nI u, nI w, nI c, nI (s + 1), si (si S (se + 1) l (nI c)) (se + 2) l (nI w))) else some (.inl (nI b, nI u0, nI w0, nI c0, nI (s + 1), si (si S (se + 1) l (nI c)) (se + 2) l (nI w))) := by
  obtain ⟨s0, s1, s2, s3, s4, l1, l2, l3, l4, l5⟩ := hS
  have hno : ¬ nI u = -1 := by rw [show (-1 : Int32) = m1 from rfl, nm1 hu]; exact fun h => h
  have h1 : imax (1 : Int32) 1 = 1 := by decide
  have g1 : gr (si S (se + 1) l (nI c)) se 1 = some (se + 2) := by rw [Gr_si]; exact s1
  unfold jX8_bestSet_163_22
  rw [if_pos rfl, if_neg hno, kgr_n s0, kwi_n (by omega) (by omega), kgr_n g1, kwi_n (by omega) (by omega)]
  unfold jX8_bestSet_229_22 jX8_bestSet_233_22 jX8_bestSet_234_22 jX8_bestSet_255_22 jX8_bestSet_270_22
  rw [h1, nI_1, if_neg (show ¬ (1 : Int32) = 0 by decide), if_pos (show (0 : Int32) = 0 from rfl)]
  simp (discharger := omega) only [nlt, neq, nle]
  by_cases c1 : w0 < w
  · rw [if_pos c1]
    by_cases c2 : u0 < u
    · rw [if_pos c2, if_pos (Or.inl c2)]
    · rw [if_neg c2]
      by_cases c3 : u = u0
      · rw [if_pos c3, if_pos (Or.inr ⟨c3, Or.inl c1⟩)]
      · rw [if_neg c3, if_neg (by omega)]
  · rw [if_neg c1]
    by_cases c4 : w = w0
    · rw [if_pos c4]
      by_cases c5 : c0 ≤ c
      · rw [if_pos c5]
        by_cases c2 : u0 < u
        · rw [if_pos c2, if_pos (Or.inl c2)]
        · rw [if_neg c2]
          by_cases c3 : u = u0
          · rw [if_pos c3, if_neg (by omega)]
          · rw [if_neg c3, if_neg (by omega)]
      · rw [if_neg c5]
        by_cases c2 : u0 < u
        · rw [if_pos c2, if_pos (Or.inl c2)]
        · rw [if_neg c2]
          by_cases c3 : u = u0
          · rw [if_pos c3, if_pos (by omega)]
          · rw [if_neg c3, if_neg (by omega)]
    · rw [if_neg c4]
      by_cases c2 : u0 < u
      · rw [if_pos c2, if_pos (Or.inl c2)]
      · rw [if_neg c2]
        by_cases c3 : u = u0
        · rw [if_pos c3, if_neg (by omega)]
        · rw [if_neg c3, if_neg (by omega)]
