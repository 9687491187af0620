/-! THE MODEL: rows copied and changed. -/
theorem m_copy {Y : XS} {n : Nat} {S : PS} {a b : Nat} (hn : 10000 ≤ n) (hab : a ≠ b) (ha : ln Y a = 877) (hb : ln Y b = 877) :
    ok (fX11_copy Y n S a b) (fun T => Fr (fun x => x = a) S T ∧ ∀ j, j < 877 → gi T a j = gi S b j) := by
  unfold fX11_copy
  refine ok_kc (iter_ok (fun i t => t.1 = nI i ∧ Fr (fun x => x = a) S t.2 ∧ ∀ j, j < i → gi t.2 a j = gi S b j) (Q := fun T => Fr (fun x => x = a) S T ∧ ∀ j, j < 877 → gi T a j = gi S b j) 877 (fun i t hi h1 => ?_) (fun t h1 => ?_) (by omega) ⟨rfl, Fr.rf, fun p hp => absurd hp (Nat.not_lt_zero _)⟩) (fun r h => ok_i h)
  · obtain ⟨t1, T⟩ := t
    obtain ⟨k1, k2, k3⟩ := h1
    simp only at k1 k2 k3
    subst k1
    unfold bX11_copy_2
    dsimp only
    rw [show (877 : Int32) = nI 877 from rfl, i_le (by omega) (by omega), if_neg (by omega), kai_n (by omega) (by omega), kwi_n (by omega) (by omega), nI_1, ok_some, so_l]
    refine ⟨rfl, k2.si rfl, fun j hj => ?_⟩
    dsimp only
    by_cases e : j = i
    · subst e
      rw [Gp, k2.gi (fun e => hab e.symm)]
    · rw [Gn (by omega)]
      exact k3 j (by omega)
  · obtain ⟨t1, T⟩ := t
    obtain ⟨k1, k2, k3⟩ := h1
    simp only at k1 k2 k3
    subst k1
    unfold bX11_copy_2
    dsimp only
    rw [show (877 : Int32) = nI 877 from rfl, i_le (by omega) (by omega), if_pos (by omega), ok_some, so_r]
    exact ⟨k2, k3⟩
theorem m_scoreRaw {Y : XS} {n : Nat} {S : PS} {v p : Nat} (hM : MSt Y S) (hv : v < 24) (hp : p < 12) : fX11_scoreOf Y n S 215 (nI v) (nI p) = some (gi S 216 (87 + 12 * v + p)) := by
  have l := hM.2.2.2.1.1
  unfold fX11_scoreOf
  rw [kgr_n hM.1.1, m_scoreAt, kc_s, kai_n (by omega) (by omega)]
/-- a law's cells, in another heap -/
theorem LawR.mv {S S' : PS} {a o : Nat} {f : Option LF} (h : LawR S a o f) (e : ∀ j, 375 ≤ j → j < 877 → gi S' a (o + j) = gi S a (o + j)) : LawR S' a o f := by
  cases f with
  | none => exact (e 375 (by omega) (by omega)).trans h
  | some f =>
    obtain ⟨x1, tx, x2, x3, x4, x5⟩ := h
    exact ⟨(e 375 (by omega) (by omega)).trans x1, tx, (e 376 (by omega) (by omega)).trans x2, x3, fun j hj => (e (377 + j) (by omega) (by omega)).trans (x4 j hj), x5⟩
theorem NV.mk {S : PS} {A : EL} (h0 : gi S 216 0 = nI (eM A)) (h1 : gi S 216 1 = nI (eP A)) (h2 : gi S 216 2 = nI (eV A)) (h3 : ∀ p, p < eP A → gi S 216 (3 + p) = nI (eC A p)) (h4 : ∀ p k, p < eP A → k < 6 → gi S 216 (15 + 6 * p + k) = eNm A p k) (h5 : ∀ v p, v < eV A → p < eP A → gi S 216 (87 + 12 * v + p) = nI (eS A p v)) (h6 : LawR S 216 0 (eL A)) (h7 : EW A) : NV S A := by
  refine ⟨h0, h1, h2, fun p hp => ?_, fun p k hp hk => ?_, fun v p hv hp => ?_, h6, h7⟩
  · rw [Nat.zero_add]; exact h3 p hp
  · rw [Nat.zero_add]; exact h4 p k hp hk
  · rw [Nat.zero_add]; exact h5 v p hv hp
theorem NV.setM {S : PS} {A : EL} {m : Nat} (h : NV S A) (hm : m ≤ 99999) : NV (si S 216 0 (nI m)) (aM A m) := by
  have b1 := h.ew.2.1
  have b2 := h.ew.2.2.1
  refine NV.mk Gp ?_ ?_ (fun p hp => ?_) (fun p k hp hk => ?_) (fun v p hv hp => ?_) ?_ ⟨hm, h.ew.2⟩
  · rw [Gn (by omega)]; exact h.p
  · rw [Gn (by omega)]; exact h.v
  · rw [Gn (by omega)]; exact h.c hp
  · rw [Gn (by omega)]; exact h.n hp hk
  · rw [Gn (by omega)]; exact h.s hp hv
  · exact h.2.2.2.2.2.2.1.mv (fun j j1 j2 => Gn (by omega))
theorem NV.setC {S : PS} {A : EL} {q x : Nat} (h : NV S A) (hq : q < eP A) (hx : 1 ≤ x ∧ x ≤ 9999) : NV (si S 216 (3 + q) (nI x)) (aC A q x) := by
  have b1 := h.ew.2.1
  have b2 := h.ew.2.2.1
  refine NV.mk ?_ ?_ ?_ (fun p hp => ?_) (fun p k hp hk => ?_) (fun v p hv hp => ?_) ?_ ⟨h.ew.1, h.ew.2.1, h.ew.2.2.1, fun p hp => ?_, h.ew.2.2.2.2⟩
  · rw [Gn (by omega)]; exact h.m
  · rw [Gn (by omega)]; exact h.p
  · rw [Gn (by omega)]; exact h.v
  · show _ = nI (if p = q then x else eC A p)
    by_cases e : p = q
    · subst e
      rw [Gp, if_pos rfl]
    · rw [Gn (by omega), if_neg e]
      exact h.c hp
  · have hp' : p < eP A := hp
    rw [Gn (by omega)]; exact h.n hp hk
  · have hp' : p < eP A := hp
    have hv' : v < eV A := hv
    rw [Gn (by omega)]; exact h.s hp hv
  · exact h.2.2.2.2.2.2.1.mv (fun j j1 j2 => Gn (by omega))
  · show 1 ≤ (if p = q then x else eC A p) ∧ (if p = q then x else eC A p) ≤ 9999
    split
    · exact hx
    · exact h.ew.2.2.2.1 p hp
theorem NV.setS {S : PS} {A : EL} {v q x : Nat} (h : NV S A) (hq : q < eP A) (hv : v < eV A) (hx : x ≤ 9) : NV (si S 216 (87 + 12 * v + q) (nI x)) (aS A v q x) := by
  have b1 := h.ew.2.1
  have b2 := h.ew.2.2.1
  refine NV.mk ?_ ?_ ?_ (fun p hp => ?_) (fun p k hp hk => ?_) (fun u p hu hp => ?_) ?_ ⟨h.ew.1, h.ew.2.1, h.ew.2.2.1, h.ew.2.2.2.1, fun p u hp hu => ?_⟩
  · rw [Gn (by omega)]; exact h.m
  · rw [Gn (by omega)]; exact h.p
  · rw [Gn (by omega)]; exact h.v
  · have hp' : p < eP A := hp
    rw [Gn (by omega)]; exact h.c hp
  · have hp' : p < eP A := hp
    rw [Gn (by omega)]; exact h.n hp hk
  · have hp' : p < eP A := hp
    have hu' : u < eV A := hu
    show _ = nI (if p = q ∧ u = v then x else eS A p u)
    by_cases e : p = q ∧ u = v
    · rw [if_pos e, e.1, e.2, Gp]
    · rw [Gn (by omega), if_neg e]
      exact h.s hp hu
  · exact h.2.2.2.2.2.2.1.mv (fun j j1 j2 => Gn (by omega))
  · show (if p = q ∧ u = v then x else eS A p u) ≤ 9
    split
    · exact hx
    · exact h.ew.2.2.2.2 p u hp hu
theorem nsub1 {a : Nat} (h : 1 ≤ a) : nI a - 1 = nI (a - 1) := nsub (b := 1) h
theorem m_removeVoter {Y : XS} {n : Nat} {S : PS} {A : EL} {v : Nat} (hn : 10000 ≤ n) (hM : MSt Y S) (h : NV S A) (hv : v < eV A) :
    ok (fX11_removeVoter Y n S 215 (nI v)) (fun T => Fr (fun x => x = 216) S T ∧ NV T (aDV A v)) := by
  have a7 := h.ew
  have b1 := a7.2.1
  have b2 := a7.2.2.1
  have l := hM.2.2.2.1.1
  unfold fX11_removeVoter
  have ppl : ∀ T : PS, MSt Y T → gi T 216 2 = nI (eV A) → fX11_people Y n T 215 = some (nI (eV A)) := by
    intro T hMT e
    unfold fX11_people
    rw [kgr_n hMT.1.1, show (2 : Int32) = nI 2 from rfl, kai_n (by omega) (by omega), e]
  refine ok_kc (P := fun T => Fr (fun x => x = 216) S T ∧ ∀ j, gi T 216 j = if 87 + 12 * v ≤ j ∧ j < 87 + 12 * (eV A - 1) then gi S 216 (j + 12) else gi S 216 j) (iter_ok (fun i t => t.1 = nI (v + i) ∧ Fr (fun x => x = 216) S t.2 ∧ ∀ j, gi t.2 216 j = if 87 + 12 * v ≤ j ∧ j < 87 + 12 * (v + i) then gi S 216 (j + 12) else gi S 216 j) (eV A - 1 - v) (fun i t hi h1 => ?_) (fun t h1 => ?_) (by omega) ⟨rfl, Fr.rf, fun j => by rw [if_neg (by omega)]⟩) ?_
  · obtain ⟨t1, T⟩ := t
    obtain ⟨k1, k2, k3⟩ := h1
    simp only at k1 k2 k3
    subst k1
    have hMT : MSt Y T := hM.fr k2.2.1
    unfold bX11_removeVoter_2
    dsimp only
    rw [ppl T hMT (by rw [k3, if_neg (by omega)]; exact h.v), kc_s, nsub1 (by omega), i_le (by omega) (by omega), if_neg (by omega)]
    refine ok_kc (P := fun U => Fr (fun x => x = 216) S U ∧ ∀ j, gi U 216 j = if 87 + 12 * v ≤ j ∧ j < 87 + 12 * (v + i) + 12 then gi S 216 (j + 12) else gi S 216 j) (iter_ok (fun p t => t.1 = nI p ∧ Fr (fun x => x = 216) S t.2 ∧ ∀ j, gi t.2 216 j = if 87 + 12 * v ≤ j ∧ j < 87 + 12 * (v + i) + p then gi S 216 (j + 12) else gi S 216 j) 12 (fun p t hp h1 => ?_) (fun t h1 => ?_) (by omega) ⟨rfl, k2, k3⟩) ?_
    · obtain ⟨t1, U⟩ := t
      obtain ⟨u1, u2, u3⟩ := h1
      simp only at u1 u2 u3
      subst u1
      have hMU : MSt Y U := hM.fr u2.2.1
      unfold bX11_removeVoter_14
      dsimp only
      rw [show (12 : Int32) = nI 12 from rfl, i_le (by omega) (by omega), if_neg (by omega), kgr_n hMU.1.1, m_scoreAt, kc_s, nI_1, m_scoreRaw hMU (by omega) hp, kc_s, kwi_n (by omega) (by omega), nI_1, ok_some, so_l]
      refine ⟨rfl, u2.si rfl, fun j => ?_⟩
      dsimp only
      by_cases e : j = 87 + 12 * (v + i) + p
      · subst e
        rw [Gp, u3, if_neg (by omega), if_pos (by omega)]
        congr 1
        omega
      · rw [Gn (by omega), u3]
        by_cases c : 87 + 12 * v ≤ j ∧ j < 87 + 12 * (v + i) + p
        · rw [if_pos c, if_pos (by omega)]
        · rw [if_neg c, if_neg (by omega)]
    · obtain ⟨t1, U⟩ := t
      obtain ⟨u1, u2, u3⟩ := h1
      simp only at u1 u2 u3
      subst u1
      unfold bX11_removeVoter_14
      dsimp only
      rw [show (12 : Int32) = nI 12 from rfl, i_le (by omega) (by omega), if_pos (by omega), ok_some, so_r]
      exact ⟨u2, u3⟩
    · rintro U ⟨u2, u3⟩
      rw [nI_1, ok_some, so_l]
      refine ⟨rfl, u2, fun j => ?_⟩
      dsimp only
      rw [u3]
      have e : 87 + 12 * (v + i) + 12 = 87 + 12 * (v + (i + 1)) := by omega
      rw [e]
  · obtain ⟨t1, T⟩ := t
    obtain ⟨k1, k2, k3⟩ := h1
    simp only at k1 k2 k3
    subst k1
    have hMT : MSt Y T := hM.fr k2.2.1
    unfold bX11_removeVoter_2
    dsimp only
    rw [ppl T hMT (by rw [k3, if_neg (by omega)]; exact h.v), kc_s, nsub1 (by omega), i_le (by omega) (by omega), if_pos (by omega), ok_some, so_r]
    refine ⟨k2, fun j => ?_⟩
    rw [k3]
    have e : v + (eV A - 1 - v) = eV A - 1 := by omega
    rw [e]
  · rintro T ⟨k2, k3⟩
    refine ok_kc (P := fun U => Fr (fun x => x = 216) S U ∧ ∀ j, (j < 87 + 12 * (eV A - 1) ∨ 87 + 12 * eV A ≤ j) → gi U 216 j = gi T 216 j) (iter_ok (fun p t => t.1 = nI p ∧ Fr (fun x => x = 216) S t.2 ∧ ∀ j, (j < 87 + 12 * (eV A - 1) ∨ 87 + 12 * eV A ≤ j) → gi t.2 216 j = gi T 216 j) 12 (fun p t hp h1 => ?_) (fun t h1 => ?_) (by omega) ⟨rfl, k2, fun j _ => rfl⟩) ?_
    · obtain ⟨t1, U⟩ := t
      obtain ⟨u1, u2, u3⟩ := h1
      simp only at u1 u2 u3
      subst u1
      have hMU : MSt Y U := hM.fr u2.2.1
      unfold bX11_removeVoter_52
      dsimp only
      rw [show (12 : Int32) = nI 12 from rfl, i_le (by omega) (by omega), if_neg (by omega), kgr_n hMU.1.1, ppl U hMU (by rw [u3 2 (by omega), k3, if_neg (by omega)]; exact h.v), kc_s, nsub1 (by omega), m_scoreAt, kc_s, kwi_n (by omega) (by omega), nI_1, ok_some, so_l]
      refine ⟨rfl, u2.si rfl, fun j hj => ?_⟩
      dsimp only
      rw [Gn (by omega)]
      exact u3 j hj
    · obtain ⟨t1, U⟩ := t
      obtain ⟨u1, u2, u3⟩ := h1
      simp only at u1 u2 u3
      subst u1
      unfold bX11_removeVoter_52
      dsimp only
      rw [show (12 : Int32) = nI 12 from rfl, i_le (by omega) (by omega), if_pos (by omega), ok_some, so_r]
      exact ⟨u2, u3⟩
    · rintro U ⟨u2, u3⟩
      have hMU : MSt Y U := hM.fr u2.2.1
      have lo : ∀ j, j < 87 → gi U 216 j = gi S 216 j := fun j hj => by rw [u3 j (by omega), k3, if_neg (by omega)]
      have hi : ∀ j, 375 ≤ j → gi U 216 j = gi S 216 j := fun j hj => by rw [u3 j (by omega), k3, if_neg (by omega)]
      rw [kgr_n hMU.1.1, show (2 : Int32) = nI 2 from rfl, kai_n (by omega) (by omega), kwi_n (by omega) (by omega), lo 2 (by omega), h.v, nsub1 (by omega)]
      refine ok_i ⟨u2.si rfl, ?_⟩
      refine NV.mk ?_ ?_ Gp (fun p hp => ?_) (fun p k hp hk => ?_) (fun u p hu hp => ?_) ?_ ⟨a7.1, a7.2.1, ?_, a7.2.2.2.1, fun p u hp hu => ?_⟩
      · rw [Gn (by omega), lo 0 (by omega)]; exact h.m
      · rw [Gn (by omega), lo 1 (by omega)]; exact h.p
      · have hp' : p < eP A := hp
        rw [Gn (by omega), lo _ (by omega)]; exact h.c hp
      · have hp' : p < eP A := hp
        rw [Gn (by omega), lo _ (by omega)]; exact h.n hp hk
      · have hp' : p < eP A := hp
        have hu' : u < eV A - 1 := hu
        show _ = nI (if u < v then eS A p u else eS A p (u + 1))
        rw [Gn (by omega), u3 _ (by omega), k3]
        by_cases c : u < v
        · rw [if_neg (by omega), if_pos c]
          exact h.s hp (by omega)
        · rw [if_pos (by omega), if_neg c, show 87 + 12 * u + p + 12 = 87 + 12 * (u + 1) + p by omega]
          exact h.s hp (by omega)
      · exact h.2.2.2.2.2.2.1.mv (fun j j1 j2 => by rw [Gn (by omega)]; exact hi _ (by omega))
      · show eV A - 1 ≤ 24
        omega
      · have hu' : u < eV A - 1 := hu
        show (if u < v then eS A p u else eS A p (u + 1)) ≤ 9
        split
        · exact a7.2.2.2.2 p u hp (by omega)
        · exact a7.2.2.2.2 p (u + 1) hp (by omega)
