/-! THE MODEL: a project goes. -/
/-- the row T is the row S with the projects from q to o - 1 replaced by their next ones -/
def RPr (S T : PS) (V q o : Nat) : Prop :=
  (∀ p, p < 12 → gi T 216 (3 + p) = if q ≤ p ∧ p < o then gi S 216 (3 + (p + 1)) else gi S 216 (3 + p)) ∧
  (∀ p k, p < 12 → k < 6 → gi T 216 (15 + 6 * p + k) = if q ≤ p ∧ p < o then gi S 216 (15 + 6 * (p + 1) + k) else gi S 216 (15 + 6 * p + k)) ∧
  (∀ v p, v < V → p < 12 → gi T 216 (87 + 12 * v + p) = if q ≤ p ∧ p < o then gi S 216 (87 + 12 * v + (p + 1)) else gi S 216 (87 + 12 * v + p)) ∧
  ∀ j, (j < 3 ∨ 375 ≤ j) → gi T 216 j = gi S 216 j
theorem m_rpNames {Y : XS} {n : Nat} {S : PS} {o : Nat} (hn : 10000 ≤ n) (hM : MSt Y S) (ho : o < 11) :
    ok (iter (bX11_removeProject_29 Y n 215 (nI o)) n ((0 : Int32), S)) (fun T => Fr (fun x => x = 216) S T ∧ (∀ k, k < 6 → gi T 216 (15 + 6 * o + k) = gi S 216 (15 + 6 * (o + 1) + k)) ∧ ∀ j, (j < 15 + 6 * o ∨ 15 + 6 * o + 6 ≤ j) → gi T 216 j = gi S 216 j) := by
  have l := hM.2.2.2.1.1
  refine iter_ok (fun i t => t.1 = nI i ∧ Fr (fun x => x = 216) S t.2 ∧ (∀ k, k < i → gi t.2 216 (15 + 6 * o + k) = gi S 216 (15 + 6 * (o + 1) + k)) ∧ ∀ j, (j < 15 + 6 * o ∨ 15 + 6 * o + 6 ≤ j) → gi t.2 216 j = gi S 216 j) 6 (fun i t hi h1 => ?_) (fun t h1 => ?_) (by omega) ⟨rfl, Fr.rf, fun k hk => absurd hk (Nat.not_lt_zero _), fun j _ => rfl⟩
  · obtain ⟨t1, T⟩ := t
    obtain ⟨k1, k2, k3, k4⟩ := h1
    simp only at k1 k2 k3 k4
    subst k1
    have hMT : MSt Y T := hM.fr k2.2.1
    unfold bX11_removeProject_29
    dsimp only
    rw [show (6 : Int32) = nI 6 from rfl, show (15 : Int32) = nI 15 from rfl, i_le (by omega) (by omega), if_neg (by omega), kgr_n hMT.1.1, kgr_n hMT.1.1, nI_1, nmul, nmul, nI_add, nI_add, nI_add, nI_add, kai_n (by omega) (by omega), kwi_n (by omega) (by omega), nI_1, ok_some, so_l]
    refine ⟨rfl, k2.si rfl, fun k hk => ?_, fun j hj => ?_⟩
    · dsimp only
      by_cases e : k = i
      · subst e
        rw [Gp, k4 _ (by omega)]
      · rw [Gn (by omega)]
        exact k3 k (by omega)
    · dsimp only
      rw [Gn (by omega)]
      exact k4 j hj
  · obtain ⟨t1, T⟩ := t
    obtain ⟨k1, k2, k3, k4⟩ := h1
    simp only at k1 k2 k3 k4
    subst k1
    unfold bX11_removeProject_29
    dsimp only
    rw [show (6 : Int32) = nI 6 from rfl, i_le (by omega) (by omega), if_pos (by omega), ok_some, so_r]
    exact ⟨k2, k3, k4⟩
theorem m_pplRaw {Y : XS} {n : Nat} {S : PS} {V : Nat} (hM : MSt Y S) (h : gi S 216 2 = nI V) : fX11_people Y n S 215 = some (nI V) := by
  have l := hM.2.2.2.1.1
  unfold fX11_people
  rw [kgr_n hM.1.1, show (2 : Int32) = nI 2 from rfl, kai_n (by omega) (by omega), h]
theorem m_mnyRaw {Y : XS} {n : Nat} {S : PS} {V : Nat} (hM : MSt Y S) (h : gi S 216 1 = nI V) : fX11_many Y n S 215 = some (nI V) := by
  have l := hM.2.2.2.1.1
  unfold fX11_many
  rw [kgr_n hM.1.1, show (1 : Int32) = nI 1 from rfl, kai_n (by omega) (by omega), h]
theorem m_rpScores {Y : XS} {n : Nat} {S : PS} {o V : Nat} (hn : 10000 ≤ n) (hM : MSt Y S) (ho : o < 11) (hV : V ≤ 24) (h2 : gi S 216 2 = nI V) :
    ok (iter (bX11_removeProject_73 Y n 215 (nI o)) n ((0 : Int32), S)) (fun T => Fr (fun x => x = 216) S T ∧ (∀ v p, v < V → p < 12 → gi T 216 (87 + 12 * v + p) = if p = o then gi S 216 (87 + 12 * v + (o + 1)) else gi S 216 (87 + 12 * v + p)) ∧ ∀ j, (j < 87 ∨ 375 ≤ j) → gi T 216 j = gi S 216 j) := by
  have l := hM.2.2.2.1.1
  refine iter_ok (fun i t => t.1 = nI i ∧ Fr (fun x => x = 216) S t.2 ∧ (∀ v p, v < V → p < 12 → gi t.2 216 (87 + 12 * v + p) = if p = o ∧ v < i then gi S 216 (87 + 12 * v + (o + 1)) else gi S 216 (87 + 12 * v + p)) ∧ ∀ j, (j < 87 ∨ 375 ≤ j) → gi t.2 216 j = gi S 216 j) V (fun i t hi h1 => ?_) (fun t h1 => ?_) (by omega) ⟨rfl, Fr.rf, fun v p _ _ => by rw [if_neg (by omega)], fun j _ => rfl⟩
  · obtain ⟨t1, T⟩ := t
    obtain ⟨k1, k2, k3, k4⟩ := h1
    simp only at k1 k2 k3 k4
    subst k1
    have hMT : MSt Y T := hM.fr k2.2.1
    unfold bX11_removeProject_73
    dsimp only
    rw [m_pplRaw hMT (by rw [k4 2 (by omega)]; exact h2), kc_s, i_le (by omega) (by omega), if_neg (by omega), kgr_n hMT.1.1, m_scoreAt, kc_s, nI_1, m_scoreRaw hMT (by omega) (by omega), kc_s, kwi_n (by omega) (by omega), nI_1, ok_some, so_l]
    refine ⟨rfl, k2.si rfl, fun v p hv hp => ?_, fun j hj => ?_⟩
    · dsimp only
      by_cases e : p = o ∧ v = i
      · obtain ⟨rfl, rfl⟩ := e
        rw [Gp, k3 v (p + 1) hv (by omega), if_neg (by omega), if_pos (by omega)]
      · rw [Gn (by omega), k3 v p hv hp]
        by_cases c : p = o ∧ v < i
        · rw [if_pos c, if_pos (by omega)]
        · rw [if_neg c, if_neg (by omega)]
    · dsimp only
      rw [Gn (by omega)]
      exact k4 j hj
  · obtain ⟨t1, T⟩ := t
    obtain ⟨k1, k2, k3, k4⟩ := h1
    simp only at k1 k2 k3 k4
    subst k1
    have hMT : MSt Y T := hM.fr k2.2.1
    unfold bX11_removeProject_73
    dsimp only
    rw [m_pplRaw hMT (by rw [k4 2 (by omega)]; exact h2), kc_s, i_le (by omega) (by omega), if_pos (by omega), ok_some, so_r]
    refine ⟨k2, fun v p hv hp => ?_, k4⟩
    rw [k3 v p hv hp]
    by_cases c : p = o
    · rw [if_pos ⟨c, hv⟩, if_pos c]
    · rw [if_neg (by omega), if_neg c]
theorem m_costRaw {Y : XS} {n : Nat} {S : PS} {p : Nat} (hM : MSt Y S) (hp : p < 12) : fX11_costOf Y n S 215 (nI p) = some (gi S 216 (3 + p)) := by
  have l := hM.2.2.2.1.1
  unfold fX11_costOf
  rw [kgr_n hM.1.1, show (3 : Int32) = nI 3 from rfl, nI_add, kai_n (by omega) (by omega)]
/-- the zeros behind the last -/
theorem m_rpZ1 {Y : XS} {n : Nat} {S : PS} {o : Nat} (hn : 10000 ≤ n) (hM : MSt Y S) (ho : o < 12) :
    ok (iter (bX11_removeProject_129 Y n 215 (nI o)) n ((0 : Int32), S)) (fun T => Fr (fun x => x = 216) S T ∧ ∀ j, (j < 15 + 6 * o ∨ 15 + 6 * o + 6 ≤ j) → gi T 216 j = gi S 216 j) := by
  have l := hM.2.2.2.1.1
  refine iter_ok (fun i t => t.1 = nI i ∧ Fr (fun x => x = 216) S t.2 ∧ ∀ j, (j < 15 + 6 * o ∨ 15 + 6 * o + 6 ≤ j) → gi t.2 216 j = gi S 216 j) 6 (fun i t hi h1 => ?_) (fun t h1 => ?_) (by omega) ⟨rfl, Fr.rf, fun j _ => rfl⟩
  · obtain ⟨t1, T⟩ := t
    obtain ⟨k1, k2, k4⟩ := h1
    simp only at k1 k2 k4
    subst k1
    have hMT : MSt Y T := hM.fr k2.2.1
    unfold bX11_removeProject_129
    dsimp only
    rw [show (6 : Int32) = nI 6 from rfl, show (15 : Int32) = nI 15 from rfl, i_le (by omega) (by omega), if_neg (by omega), kgr_n hMT.1.1, nmul, nI_add, nI_add, kwi_n (by omega) (by omega), nI_1, ok_some, so_l]
    refine ⟨rfl, k2.si rfl, fun j hj => ?_⟩
    dsimp only
    rw [Gn (by omega)]
    exact k4 j hj
  · obtain ⟨t1, T⟩ := t
    obtain ⟨k1, k2, k4⟩ := h1
    simp only at k1 k2 k4
    subst k1
    unfold bX11_removeProject_129
    dsimp only
    rw [show (6 : Int32) = nI 6 from rfl, i_le (by omega) (by omega), if_pos (by omega), ok_some, so_r]
    exact ⟨k2, k4⟩
theorem m_rpZ2 {Y : XS} {n : Nat} {S : PS} {o V : Nat} (hn : 10000 ≤ n) (hM : MSt Y S) (ho : o < 12) (hV : V ≤ 24) (h2 : gi S 216 2 = nI V) :
    ok (iter (bX11_removeProject_158 Y n 215 (nI o)) n ((0 : Int32), S)) (fun T => Fr (fun x => x = 216) S T ∧ (∀ v p, p < 12 → p ≠ o → gi T 216 (87 + 12 * v + p) = gi S 216 (87 + 12 * v + p)) ∧ ∀ j, (j < 87 ∨ 375 ≤ j) → gi T 216 j = gi S 216 j) := by
  have l := hM.2.2.2.1.1
  refine iter_ok (fun i t => t.1 = nI i ∧ Fr (fun x => x = 216) S t.2 ∧ (∀ v p, p < 12 → p ≠ o → gi t.2 216 (87 + 12 * v + p) = gi S 216 (87 + 12 * v + p)) ∧ ∀ j, (j < 87 ∨ 375 ≤ j) → gi t.2 216 j = gi S 216 j) V (fun i t hi h1 => ?_) (fun t h1 => ?_) (by omega) ⟨rfl, Fr.rf, fun v p _ _ => rfl, fun j _ => rfl⟩
  · obtain ⟨t1, T⟩ := t
    obtain ⟨k1, k2, k3, k4⟩ := h1
    simp only at k1 k2 k3 k4
    subst k1
    have hMT : MSt Y T := hM.fr k2.2.1
    unfold bX11_removeProject_158
    dsimp only
    rw [m_pplRaw hMT (by rw [k4 2 (by omega)]; exact h2), kc_s, i_le (by omega) (by omega), if_neg (by omega), kgr_n hMT.1.1, m_scoreAt, kc_s, kwi_n (by omega) (by omega), nI_1, ok_some, so_l]
    refine ⟨rfl, k2.si rfl, fun v p hp hpo => ?_, fun j hj => ?_⟩
    · dsimp only
      rw [Gn (by omega)]
      exact k3 v p hp hpo
    · dsimp only
      rw [Gn (by omega)]
      exact k4 j hj
  · obtain ⟨t1, T⟩ := t
    obtain ⟨k1, k2, k3, k4⟩ := h1
    simp only at k1 k2 k3 k4
    subst k1
    have hMT : MSt Y T := hM.fr k2.2.1
    unfold bX11_removeProject_158
    dsimp only
    rw [m_pplRaw hMT (by rw [k4 2 (by omega)]; exact h2), kc_s, i_le (by omega) (by omega), if_pos (by omega), ok_some, so_r]
    exact ⟨k2, k3, k4⟩
theorem m_removeProject {Y : XS} {n : Nat} {S : PS} {A : EL} {q : Nat} (hn : 10000 ≤ n) (hM : MSt Y S) (h : NV S A) (hq : q < eP A) :
    ok (fX11_removeProject Y n S 215 (nI q)) (fun T => Fr (fun x => x = 216) S T ∧ NV T (aDP A q)) := by
  have a7 := h.ew
  have b1 := a7.2.1
  have b2 := a7.2.2.1
  have l := hM.2.2.2.1.1
  unfold fX11_removeProject
  refine ok_kc (P := fun T => Fr (fun x => x = 216) S T ∧ RPr S T (eV A) q (eP A - 1)) (iter_ok (fun i t => t.1 = nI (q + i) ∧ Fr (fun x => x = 216) S t.2 ∧ RPr S t.2 (eV A) q (q + i)) (eP A - 1 - q) (fun i t hi h1 => ?_) (fun t h1 => ?_) (by omega) ⟨rfl, Fr.rf, fun p _ => by rw [if_neg (by omega)], fun p k _ _ => by rw [if_neg (by omega)], fun v p _ _ => by rw [if_neg (by omega)], fun j _ => rfl⟩) ?_
  · obtain ⟨t1, T⟩ := t
    obtain ⟨k1, k2, k3, k4, k5, k6⟩ := h1
    simp only at k1 k2
    subst k1
    have hMT : MSt Y T := hM.fr k2.2.1
    unfold bX11_removeProject_2
    dsimp only
    rw [m_mnyRaw hMT (by rw [k6 1 (by omega)]; exact h.p), kc_s, nsub1 (by omega), i_le (by omega) (by omega), if_neg (by omega), kgr_n hMT.1.1, nI_1, m_costRaw hMT (by omega), kc_s, show (3 : Int32) = nI 3 from rfl, nI_add, kwi_n (by omega) (by omega)]
    generalize hU : si T 216 (3 + (q + i)) (gi T 216 (3 + (q + i + 1))) = U
    have fU : Fr (fun x => x = 216) T U := by rw [← hU]; exact Fr.rf.si rfl
    have gU : ∀ j, j ≠ 3 + (q + i) → gi U 216 j = gi T 216 j := fun j hj => by rw [← hU, Gn (by omega)]
    have gU' : gi U 216 (3 + (q + i)) = gi T 216 (3 + (q + i + 1)) := by rw [← hU, Gp]
    clear hU
    refine ok_kc (m_rpNames (o := q + i) hn (hMT.fr fU.2.1) (by omega)) ?_
    rintro W ⟨w1, w2, w3⟩
    refine ok_kc (m_rpScores (o := q + i) (V := eV A) hn ((hMT.fr fU.2.1).fr w1.2.1) (by omega) b2 (by rw [w3 2 (by omega), gU 2 (by omega), k6 2 (by omega)]; exact h.v)) ?_
    rintro X ⟨x1, x2, x3⟩
    rw [ok_some, so_l]
    refine ⟨rfl, ((k2.tr fU).tr w1).tr x1, fun p hp => ?_, fun p k hp hk => ?_, fun v p hv hp => ?_, fun j hj => ?_⟩
    · dsimp only
      rw [x3 _ (by omega), w3 _ (by omega)]
      by_cases e : p = q + i
      · subst e
        rw [gU', k3 _ (by omega), if_neg (by omega), if_pos (by omega)]
      · rw [gU _ (by omega), k3 p hp]
        by_cases c : q ≤ p ∧ p < q + i
        · rw [if_pos c, if_pos (by omega)]
        · rw [if_neg c, if_neg (by omega)]
    · dsimp only
      rw [x3 _ (by omega)]
      by_cases e : p = q + i
      · subst e
        rw [w2 k hk, gU _ (by omega), k4 _ k (by omega) hk, if_neg (by omega), if_pos (by omega)]
      · rw [w3 _ (by omega), gU _ (by omega), k4 p k hp hk]
        by_cases c : q ≤ p ∧ p < q + i
        · rw [if_pos c, if_pos (by omega)]
        · rw [if_neg c, if_neg (by omega)]
    · dsimp only
      rw [x2 v p hv hp]
      by_cases e : p = q + i
      · subst e
        rw [if_pos rfl, w3 _ (by omega), gU _ (by omega), k5 v _ hv (by omega), if_neg (by omega), if_pos (by omega)]
      · rw [if_neg e, w3 _ (by omega), gU _ (by omega), k5 v p hv hp]
        by_cases c : q ≤ p ∧ p < q + i
        · rw [if_pos c, if_pos (by omega)]
        · rw [if_neg c, if_neg (by omega)]
    · dsimp only
      rw [x3 j (by omega), w3 j (by omega), gU j (by omega)]
      exact k6 j hj
  · obtain ⟨t1, T⟩ := t
    obtain ⟨k1, k2, k3⟩ := h1
    simp only at k1 k2 k3
    subst k1
    have hMT : MSt Y T := hM.fr k2.2.1
    unfold bX11_removeProject_2
    dsimp only
    rw [m_mnyRaw hMT (by rw [k3.2.2.2 1 (by omega)]; exact h.p), kc_s, nsub1 (by omega), i_le (by omega) (by omega), if_pos (by omega), ok_some, so_r]
    have e : q + (eP A - 1 - q) = eP A - 1 := by omega
    rw [e] at k3
    exact ⟨k2, k3⟩
  · rintro T ⟨k2, k3, k4, k5, k6⟩
    have hMT : MSt Y T := hM.fr k2.2.1
    rw [m_mnyRaw hMT (by rw [k6 1 (by omega)]; exact h.p), kc_s, nsub1 (by omega), kgr_n hMT.1.1, show (3 : Int32) = nI 3 from rfl, nI_add, kwi_n (by omega) (by omega)]
    generalize hU : si T 216 (3 + (eP A - 1)) 0 = U
    have fU : Fr (fun x => x = 216) T U := by rw [← hU]; exact Fr.rf.si rfl
    have gU : ∀ j, j ≠ 3 + (eP A - 1) → gi U 216 j = gi T 216 j := fun j hj => by rw [← hU, Gn (by omega)]
    clear hU
    refine ok_kc (m_rpZ1 (o := eP A - 1) hn (hMT.fr fU.2.1) (by omega)) ?_
    rintro W ⟨w1, w3⟩
    refine ok_kc (m_rpZ2 (o := eP A - 1) (V := eV A) hn ((hMT.fr fU.2.1).fr w1.2.1) (by omega) b2 (by rw [w3 2 (by omega), gU 2 (by omega), k6 2 (by omega)]; exact h.v)) ?_
    rintro X ⟨x1, x2, x3⟩
    have fX : Fr (fun x => x = 216) S X := ((k2.tr fU).tr w1).tr x1
    have hMX : MSt Y X := hM.fr fX.2.1
    have low : ∀ j, (j < 3 ∨ 375 ≤ j) → gi X 216 j = gi S 216 j := fun j hj => by rw [x3 j (by omega), w3 j (by omega), gU j (by omega)]; exact k6 j hj
    rw [kgr_n hMX.1.1, show (1 : Int32) = nI 1 from rfl, kai_n (by omega) (by omega), kwi_n (by omega) (by omega), low 1 (by omega), h.p, nsub (by omega)]
    refine ok_i ⟨fX.si rfl, ?_⟩
    refine NV.mk ?_ Gp ?_ (fun p hp => ?_) (fun p k hp hk => ?_) (fun u p hu hp => ?_) ?_ ⟨a7.1, ?_, a7.2.2.1, fun p hp => ?_, fun p u hp hu => ?_⟩
    · rw [Gn (by omega), low 0 (by omega)]; exact h.m
    · rw [Gn (by omega), low 2 (by omega)]; exact h.v
    · have hp' : p < eP A - 1 := hp
      show _ = nI (if p < q then eC A p else eC A (p + 1))
      rw [Gn (by omega), x3 _ (by omega), w3 _ (by omega), gU _ (by omega), k3 p (by omega)]
      by_cases c : p < q
      · rw [if_neg (by omega), if_pos c]
        exact h.c (by omega)
      · rw [if_pos (by omega), if_neg c]
        exact h.c (by omega)
    · have hp' : p < eP A - 1 := hp
      show _ = (if p < q then eNm A p k else eNm A (p + 1) k)
      rw [Gn (by omega), x3 _ (by omega), w3 _ (by omega), gU _ (by omega), k4 p k (by omega) hk]
      by_cases c : p < q
      · rw [if_neg (by omega), if_pos c]
        exact h.n (by omega) hk
      · rw [if_pos (by omega), if_neg c]
        exact h.n (by omega) hk
    · have hp' : p < eP A - 1 := hp
      have hu' : u < eV A := hu
      show _ = nI (if p < q then eS A p u else eS A (p + 1) u)
      rw [Gn (by omega), x2 u p (by omega) (by omega), w3 _ (by omega), gU _ (by omega), k5 u p hu (by omega)]
      by_cases c : p < q
      · rw [if_neg (by omega), if_pos c]
        exact h.s (by omega) hu
      · rw [if_pos (by omega), if_neg c]
        exact h.s (by omega) hu
    · exact h.2.2.2.2.2.2.1.mv (fun j j1 j2 => by rw [Gn (by omega)]; exact low _ (by omega))
    · show eP A - 1 ≤ 12
      omega
    · have hp' : p < eP A - 1 := hp
      show 1 ≤ (if p < q then eC A p else eC A (p + 1)) ∧ (if p < q then eC A p else eC A (p + 1)) ≤ 9999
      split
      · exact a7.2.2.2.1 p (by omega)
      · exact a7.2.2.2.1 (p + 1) (by omega)
    · have hp' : p < eP A - 1 := hp
      show (if p < q then eS A p u else eS A (p + 1) u) ≤ 9
      split
      · exact a7.2.2.2.2 p u (by omega) hu
      · exact a7.2.2.2.2 (p + 1) u (by omega) hu
