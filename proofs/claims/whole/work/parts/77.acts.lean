/-! ACTS on elections. -/
def aM (A : EL) (m : Nat) : EL := (m, eP A, eV A, eC A, eNm A, eS A, eL A)
def aC (A : EL) (q x : Nat) : EL := (eM A, eP A, eV A, fun p => if p = q then x else eC A p, eNm A, eS A, eL A)
def aS (A : EL) (v q x : Nat) : EL := (eM A, eP A, eV A, eC A, eNm A, fun p u => if p = q ∧ u = v then x else eS A p u, eL A)
def aDP (A : EL) (q : Nat) : EL := (eM A, eP A - 1, eV A, fun p => if p < q then eC A p else eC A (p + 1), fun p k => if p < q then eNm A p k else eNm A (p + 1) k, fun p v => if p < q then eS A p v else eS A (p + 1) v, eL A)
def aDV (A : EL) (v : Nat) : EL := (eM A, eP A, eV A - 1, eC A, eNm A, fun p u => if u < v then eS A p u else eS A p (u + 1), eL A)
theorem EV.ew {Y : XS} {S : PS} {e : Nat} {A : EL} (h : EV Y S e A) : EW A := h.2.2.2.2.2.2.2
theorem s_dropProject {Y : XS} {n : Nat} {S : PS} {e q : Nat} {A : EL} (hn : 100 ≤ n) (he : e + 4 ≤ 235) (hE : SE Y S e) (hA : EV Y S e A) (hq : q < eP A) :
    ok (fX1_dropProject Y n S e (nI q)) (fun S' => Fr (fun x => e ≤ x ∧ x < e + 4) S S' ∧ EV Y S' e (aDP A q)) := by
  have hE0 := hE
  obtain ⟨h1, h2, h3, h4, h5, h6⟩ := hE
  obtain ⟨a0, a1, a2, a3, a4, a5, a6, a7⟩ := hA
  have b1 := a7.2.1
  have b2 := a7.2.2.1
  unfold fX1_dropProject
  rw [kgi_n, a1, show (1 : Int32) = nI 1 from rfl, nsub (by omega), kpi_n]
  refine ok_kc (iter_ok (fun i t => t.1 = nI (q + i) ∧ Fr (fun x => e ≤ x ∧ x < e + 4) S t.2 ∧ gi t.2 e 0 = nI (eM A) ∧ gi t.2 e 1 = nI (eP A - 1) ∧ gi t.2 e 2 = nI (eV A) ∧ (∀ p, gi t.2 (e + 1) p = if q ≤ p ∧ p < q + i then gi S (e + 1) (p + 1) else gi S (e + 1) p) ∧ (∀ p k, k < 6 → gi t.2 (e + 2) (p * 6 + k) = if q ≤ p ∧ p < q + i then gi S (e + 2) ((p + 1) * 6 + k) else gi S (e + 2) (p * 6 + k)) ∧ ∀ p v, v < 24 → gi t.2 (e + 3) (p * 24 + v) = if q ≤ p ∧ p < q + i then gi S (e + 3) ((p + 1) * 24 + v) else gi S (e + 3) (p * 24 + v)) (Q := fun S' => Fr (fun x => e ≤ x ∧ x < e + 4) S S' ∧ EV Y S' e (aDP A q)) (eP A - 1 - q) (fun i t hi h => ?_) (fun t h => ?_) (by omega) ⟨by rw [Nat.add_zero], Fr.rf.si (by omega), ?_, ?_, ?_, fun p => ?_, fun p k hk => ?_, fun p v hv => ?_⟩) (fun r h => ok_i h)
  · obtain ⟨t1, T⟩ := t
    obtain ⟨k1, k2, k3, k4, k5, k6, k7, k8⟩ := h
    simp only at k1 k2 k3 k4 k5 k6 k7 k8
    subst k1
    have hET : SE Y T e := hE0.fr k2.2.1
    have c1 : gi T (e + 1) (q + i + 1) = gi S (e + 1) (q + i + 1) := by rw [k6, if_neg (by omega)]
    unfold bX1_dropProject_12
    simp (discharger := omega) only [kgi, k4, nle, if_neg, kgr_n hET.1, show (1 : Int32) = nI 1 from rfl, show (6 : Int32) = nI 6 from rfl, show (24 : Int32) = nI 24 from rfl, nI_add, nmul, kai_n, c1, kwi_n]
    generalize hT1 : si T (e + 1) (q + i) (gi S (e + 1) (q + i + 1)) = T1
    have r5 : gr T1 e 5 = some (e + 2) := by rw [← hT1, Gr_si]; exact hET.2.1
    rw [kgr_n r5, kgr_n r5, kcp_n (by omega) (by omega) (by omega) (by omega)]
    generalize hT2 : sc T1 (e + 2) (va_cpy (T1.1 (e + 2)) (T1.1 (e + 2)) ((q + i + 1) * 6) ((q + i) * 6) 6) = T2
    have r6 : gr T2 e 6 = some (e + 3) := by rw [← hT2, Gr_sc, ← hT1, Gr_si]; exact hET.2.2.1
    rw [kgr_n r6, kgr_n r6, kcp_n (by omega) (by omega) (by omega) (by omega), ok_some, so_l]
    generalize hT3 : sc T2 (e + 3) (va_cpy (T2.1 (e + 3)) (T2.1 (e + 3)) ((q + i + 1) * 24) ((q + i) * 24) 24) = T3
    have f3 : Fr (fun x => e ≤ x ∧ x < e + 4) S T3 := by
      rw [← hT3, ← hT2, ← hT1]
      exact ((k2.si (by omega)).sc (by omega)).sc (by omega)
    have g0 : ∀ j, gi T3 e j = gi T e j := by
      intro j
      rw [← hT3, Gi_sc, if_neg (by omega), ← hT2, Gi_sc, if_neg (by omega), ← hT1, Gi_si, if_neg (by omega)]
    refine ⟨by rw [Nat.add_assoc], f3, by rw [g0]; exact k3, by rw [g0]; exact k4, by rw [g0]; exact k5, fun p => ?_, fun p k hk => ?_, fun p v hv => ?_⟩
    · rw [← hT3, Gi_sc, if_neg (by omega), ← hT2, Gi_sc, if_neg (by omega), ← hT1, Gi_si]
      by_cases e1 : p = q + i
      · rw [if_pos ⟨rfl, e1⟩, if_pos (by omega), e1]
      · rw [if_neg (fun y => e1 y.2), k6]
        by_cases y : q ≤ p ∧ p < q + i
        · rw [if_pos y, if_pos (by omega)]
        · rw [if_neg y, if_neg (by omega)]
    · rw [← hT3, Gi_sc, if_neg (by omega), ← hT2, Gi_sc, if_pos rfl]
      have old : ∀ j, T1.1 (e + 2) j = gi T (e + 2) j := by
        intro j
        show gi T1 (e + 2) j = _
        rw [← hT1, Gi_si, if_neg (by omega)]
      unfold va_cpy
      by_cases e1 : p = q + i
      · rw [if_pos (by omega), old, if_pos (by omega)]
        rw [show (q + i + 1) * 6 + (p * 6 + k - (q + i) * 6) = (p + 1) * 6 + k by omega, k7 _ k hk, if_neg (by omega)]
      · rw [if_neg (by omega), old, k7 p k hk]
        by_cases y : q ≤ p ∧ p < q + i
        · rw [if_pos y, if_pos (by omega)]
        · rw [if_neg y, if_neg (by omega)]
    · rw [← hT3, Gi_sc, if_pos rfl]
      have old : ∀ j, T2.1 (e + 3) j = gi T (e + 3) j := by
        intro j
        show gi T2 (e + 3) j = _
        rw [← hT2, Gi_sc, if_neg (by omega), ← hT1, Gi_si, if_neg (by omega)]
      unfold va_cpy
      by_cases e1 : p = q + i
      · rw [if_pos (by omega), old, if_pos (by omega)]
        rw [show (q + i + 1) * 24 + (p * 24 + v - (q + i) * 24) = (p + 1) * 24 + v by omega, k8 _ v hv, if_neg (by omega)]
      · rw [if_neg (by omega), old, k8 p v hv]
        by_cases y : q ≤ p ∧ p < q + i
        · rw [if_pos y, if_pos (by omega)]
        · rw [if_neg y, if_neg (by omega)]
  · obtain ⟨t1, T⟩ := t
    obtain ⟨k1, k2, k3, k4, k5, k6, k7, k8⟩ := h
    simp only at k1 k2 k3 k4 k5 k6 k7 k8
    subst k1
    unfold bX1_dropProject_12
    simp (discharger := omega) only [kgi, k4, nle, if_pos, ok_some, so_r]
    have hP' : eP (aDP A q) = eP A - 1 := rfl
    refine ⟨k2, k3, k4, k5, fun p hp => ?_, fun p k hp hk => ?_, fun p v hp hv => ?_, ?_, ?_⟩
    · rw [hP'] at hp
      rw [k6]
      show _ = nI (if p < q then eC A p else eC A (p + 1))
      by_cases y : p < q
      · rw [if_neg (by omega), if_pos y]; exact a3 p (by omega)
      · rw [if_pos (by omega), if_neg y]; exact a3 (p + 1) (by omega)
    · rw [hP'] at hp
      rw [k7 p k hk]
      show _ = (if p < q then eNm A p k else eNm A (p + 1) k)
      by_cases y : p < q
      · rw [if_neg (by omega), if_pos y]; exact a4 p k (by omega) hk
      · rw [if_pos (by omega), if_neg y]; exact a4 (p + 1) k (by omega) hk
    · rw [hP'] at hp
      have hv' : v < eV A := hv
      rw [k8 p v (by omega)]
      show _ = nI (if p < q then eS A p v else eS A (p + 1) v)
      by_cases y : p < q
      · rw [if_neg (by omega), if_pos y]; exact a5 p v (by omega) hv'
      · rw [if_pos (by omega), if_neg y]; exact a5 (p + 1) v (by omega) hv'
    · rw [k2.gr]
      exact a6.mv (LH.fr k2 (by omega))
    · refine ⟨a7.1, ?_, a7.2.2.1, fun p hp => ?_, fun p v hp hv => ?_⟩
      · rw [hP']; omega
      · rw [hP'] at hp
        show 1 ≤ (if p < q then eC A p else eC A (p + 1)) ∧ (if p < q then eC A p else eC A (p + 1)) ≤ 9999
        split
        · exact a7.2.2.2.1 p (by omega)
        · exact a7.2.2.2.1 (p + 1) (by omega)
      · rw [hP'] at hp
        have hv' : v < eV A := hv
        show (if p < q then eS A p v else eS A (p + 1) v) ≤ 9
        split
        · exact a7.2.2.2.2 p v (by omega) hv'
        · exact a7.2.2.2.2 (p + 1) v (by omega) hv'
  · rw [Gi_si, if_neg (by omega)]; exact a0
  · rw [Gi_si, if_pos ⟨rfl, rfl⟩]
  · rw [Gi_si, if_neg (by omega)]; exact a2
  · rw [Gi_si, if_neg (by omega), if_neg (by omega)]
  · rw [Gi_si, if_neg (by omega), if_neg (by omega)]
  · rw [Gi_si, if_neg (by omega), if_neg (by omega)]
theorem s_dropVoter {Y : XS} {n : Nat} {S : PS} {e w : Nat} {A : EL} (hn : 100 ≤ n) (he : e + 4 ≤ 235) (hE : SE Y S e) (hA : EV Y S e A) (hw : w < eV A) :
    ok (fX1_dropVoter Y n S e (nI w)) (fun S' => Fr (fun x => e ≤ x ∧ x < e + 4) S S' ∧ EV Y S' e (aDV A w)) := by
  have hE0 := hE
  obtain ⟨h1, h2, h3, h4, h5, h6⟩ := hE
  obtain ⟨a0, a1, a2, a3, a4, a5, a6, a7⟩ := hA
  have b1 := a7.2.1
  have b2 := a7.2.2.1
  unfold fX1_dropVoter
  rw [kgi_n, a2, show (1 : Int32) = nI 1 from rfl, nsub (by omega), kpi_n]
  generalize hS1 : si S e 2 (nI (eV A - 1)) = S1
  have f1 : Fr (fun x => e ≤ x ∧ x < e + 4) S S1 := by rw [← hS1]; exact Fr.rf.si (by omega)
  have g0 : gi S1 e 0 = nI (eM A) := by rw [← hS1, Gi_si, if_neg (by omega)]; exact a0
  have g1 : gi S1 e 1 = nI (eP A) := by rw [← hS1, Gi_si, if_neg (by omega)]; exact a1
  have g2 : gi S1 e 2 = nI (eV A - 1) := by rw [← hS1, Gi_si, if_pos ⟨rfl, rfl⟩]
  have gx : ∀ (x j : Nat), x ≠ e → gi S1 x j = gi S x j := by intro x j hx; rw [← hS1, Gi_si, if_neg (by omega)]
  refine ok_kc (iter_ok (fun i t => t.1 = nI i ∧ Fr (fun x => x = e + 3) S1 t.2 ∧ ∀ p v, v < 24 → gi t.2 (e + 3) (p * 24 + v) = if p < i ∧ w ≤ v ∧ v < eV A - 1 then gi S (e + 3) (p * 24 + v + 1) else gi S (e + 3) (p * 24 + v)) (Q := fun S' => Fr (fun x => e ≤ x ∧ x < e + 4) S S' ∧ EV Y S' e (aDV A w)) (eP A) (fun i t hi h => ?_) (fun t h => ?_) (by omega) ⟨rfl, Fr.rf, fun p v hv => ?_⟩) (fun r h => ok_i h)
  · obtain ⟨t1, T⟩ := t
    obtain ⟨k1, k2, k3⟩ := h
    simp only at k1 k2 k3
    subst k1
    have q1 : gi T e 1 = nI (eP A) := by rw [k2.gi (by omega)]; exact g1
    unfold bX1_dropVoter_12
    simp (discharger := omega) only [kgi, q1, nle, if_neg]
    refine ok_kc (iter_ok (fun d u => u.1 = nI (w + d) ∧ Fr (fun x => x = e + 3) S1 u.2 ∧ ∀ p v, v < 24 → gi u.2 (e + 3) (p * 24 + v) = if (p < i ∧ w ≤ v ∧ v < eV A - 1) ∨ (p = i ∧ w ≤ v ∧ v < w + d) then gi S (e + 3) (p * 24 + v + 1) else gi S (e + 3) (p * 24 + v)) (Q := fun S' => Fr (fun x => x = e + 3) S1 S' ∧ ∀ p v, v < 24 → gi S' (e + 3) (p * 24 + v) = if p < i + 1 ∧ w ≤ v ∧ v < eV A - 1 then gi S (e + 3) (p * 24 + v + 1) else gi S (e + 3) (p * 24 + v)) (eV A - 1 - w) (fun d u hd h => ?_) (fun u h => ?_) (by omega) ⟨by rw [Nat.add_zero], k2, fun p v hv => ?_⟩) ?_
    · obtain ⟨u1, U⟩ := u
      obtain ⟨m1', m2, m3⟩ := h
      simp only at m1' m2 m3
      subst m1'
      have q2 : gi U e 2 = nI (eV A - 1) := by rw [m2.gi (by omega)]; exact g2
      have r6 : gr U e 6 = some (e + 3) := by rw [(f1.tr (m2.mono (by omega))).gr]; exact h3
      have c1 : gi U (e + 3) (i * 24 + (w + d) + 1) = gi S (e + 3) (i * 24 + (w + d) + 1) := by
        rw [Nat.add_assoc, m3 i (w + d + 1) (by omega), if_neg (by omega)]
      unfold bX1_dropVoter_22
      simp (discharger := omega) only [kgi, q2, nle, if_neg, kgr_n r6, show (1 : Int32) = nI 1 from rfl, show (24 : Int32) = nI 24 from rfl, nmul, nI_add, kai_n, c1, kwi_n, ok_some, so_l]
      refine ⟨by rw [Nat.add_assoc], m2.si rfl, fun p v hv => ?_⟩
      rw [Gi_si]
      by_cases e1 : p * 24 + v = i * 24 + (w + d)
      · have e2 : p = i ∧ v = w + d := by omega
        rw [if_pos ⟨rfl, e1⟩, if_pos (by omega), e2.1, e2.2]
      · rw [if_neg (fun y => e1 y.2), m3 p v hv]
        by_cases y : (p < i ∧ w ≤ v ∧ v < eV A - 1) ∨ (p = i ∧ w ≤ v ∧ v < w + d)
        · rw [if_pos y, if_pos (by omega)]
        · rw [if_neg y, if_neg (by omega)]
    · obtain ⟨u1, U⟩ := u
      obtain ⟨m1', m2, m3⟩ := h
      simp only at m1' m2 m3
      subst m1'
      have q2 : gi U e 2 = nI (eV A - 1) := by rw [m2.gi (by omega)]; exact g2
      unfold bX1_dropVoter_22
      simp (discharger := omega) only [kgi, q2, nle, if_pos, ok_some, so_r]
      refine ⟨m2, fun p v hv => ?_⟩
      rw [m3 p v hv]
      by_cases y : p < i + 1 ∧ w ≤ v ∧ v < eV A - 1
      · rw [if_pos (by omega), if_pos y]
      · rw [if_neg (by omega), if_neg y]
    · dsimp only
      rw [k3 p v hv]
      by_cases y : p < i ∧ w ≤ v ∧ v < eV A - 1
      · rw [if_pos y, if_pos (Or.inl y)]
      · rw [if_neg y, if_neg (by omega)]
    · rintro U ⟨m2, m3⟩
      rw [nI_1, ok_some, so_l]
      exact ⟨rfl, m2, m3⟩
  · obtain ⟨t1, T⟩ := t
    obtain ⟨k1, k2, k3⟩ := h
    simp only at k1 k2 k3
    subst k1
    have q : ∀ j, gi T e j = gi S1 e j := fun j => k2.gi (by omega) j
    have fT : Fr (fun x => e ≤ x ∧ x < e + 4) S T := f1.tr (k2.mono (by omega))
    have q1 : gi T e 1 = nI (eP A) := by rw [q]; exact g1
    unfold bX1_dropVoter_12
    simp (discharger := omega) only [kgi, q1, nle, if_pos, ok_some, so_r]
    have hV' : eV (aDV A w) = eV A - 1 := rfl
    refine ⟨fT, by rw [q]; exact g0, by rw [q]; exact g1, by rw [q]; exact g2, fun p hp => ?_, fun p k hp hk => ?_, fun p v hp hv => ?_, ?_, ?_⟩
    · rw [k2.gi (by omega), gx _ _ (by omega)]; exact a3 p hp
    · rw [k2.gi (by omega), gx _ _ (by omega)]; exact a4 p k hp hk
    · rw [hV'] at hv
      have hp' : p < eP A := hp
      rw [k3 p v (by omega)]
      show _ = nI (if v < w then eS A p v else eS A p (v + 1))
      by_cases y : v < w
      · rw [if_neg (by omega), if_pos y]; exact a5 p v hp' (by omega)
      · rw [if_pos (by omega), if_neg y, Nat.add_assoc]; exact a5 p (v + 1) hp' (by omega)
    · rw [fT.gr]
      exact a6.mv (LH.fr fT (by omega))
    · refine ⟨a7.1, a7.2.1, ?_, a7.2.2.2.1, fun p v hp hv => ?_⟩
      · rw [hV']; omega
      · rw [hV'] at hv
        have hp' : p < eP A := hp
        show (if v < w then eS A p v else eS A p (v + 1)) ≤ 9
        split
        · exact a7.2.2.2.2 p v hp' (by omega)
        · exact a7.2.2.2.2 p (v + 1) hp' (by omega)
  · dsimp only
    rw [if_neg (by omega), gx _ _ (by omega)]
