/-! TIME: keepTime. -/
def sS (A : EL) (f : Nat → Nat) (q : Nat) : Nat → Nat := sm (fun v => if 0 < eS A q v then f v else 0)
def due (A : EL) (f : Nat → Nat) (q : Nat) : Nat := (eC A q * 1000 + sS A f q (eV A) + lk A q - 1) / lk A q
def tq (A : EL) (B : Nat) (f : Nat → Nat) : Nat → Option Nat := amf (fun q => !B.testBit q && decide (0 < lk A q)) (due A f) (lk A)
def tms (A : EL) : Nat → List Nat × (Nat → Nat)
  | 0 => ([], fun _ => 0)
  | r + 1 => match tq A (lb (tms A r).1) (tms A r).2 (eP A) with
    | none => tms A r
    | some q => if csum A (lb (tms A r).1) + eC A q ≤ eM A then ((tms A r).1 ++ [q], fun v => if 0 < eS A q v then due A (tms A r).2 q else (tms A r).2 v) else tms A r
theorem tms_s (A : EL) (r : Nat) : tms A (r + 1) = match tq A (lb (tms A r).1) (tms A r).2 (eP A) with
    | none => tms A r
    | some q => if csum A (lb (tms A r).1) + eC A q ≤ eM A then ((tms A r).1 ++ [q], fun v => if 0 < eS A q v then due A (tms A r).2 q else (tms A r).2 v) else tms A r := rfl
theorem sS_le {A : EL} {f : Nat → Nat} {q c : Nat} (h : ∀ v, v < eV A → f v ≤ c) : sS A f q (eV A) ≤ lk A q * c := by
  unfold sS lk
  rw [Nat.mul_comm, ← sm_mul]
  refine sm_mono (fun v hv => ?_)
  have := h v hv
  by_cases z : 0 < eS A q v
  · simp [z]; exact this
  · simp [z]
theorem due_le {A : EL} (hA : EW A) {f : Nat → Nat} {q c : Nat} (hq : q < eP A) (h : ∀ v, v < eV A → f v ≤ c) : due A f q ≤ c + 10000000 := by
  have h1 := sS_le (A := A) (q := q) h
  have h2 := hA.2.2.2.1 q hq
  unfold due
  by_cases z : lk A q = 0
  · rw [z, Nat.div_zero]; exact Nat.zero_le _
  · have hz : 0 < lk A q := by omega
    have h3 : (eC A q * 1000 + sS A f q (eV A) + lk A q - 1) / lk A q < c + 10000000 + 1 := by
      rw [Nat.div_lt_iff_lt_mul hz, Nat.add_mul, Nat.add_mul, Nat.mul_comm c]
      have h4 : 10000000 ≤ 10000000 * lk A q := Nat.le_mul_of_pos_right _ hz
      omega
    omega
def cap : Nat → Nat
  | 0 => 0
  | r + 1 => cap r + 10000000
theorem cap_s (r : Nat) : cap (r + 1) = cap r + 10000000 := rfl
theorem cap_up (r : Nat) : ∀ d, cap r ≤ cap (r + d)
  | 0 => Nat.le_refl _
  | d + 1 => by have := cap_up r d; rw [← Nat.add_assoc, cap_s]; omega
theorem cap_le {r : Nat} (h : r ≤ 12) : cap r ≤ 120000000 := by
  have := cap_up r (12 - r)
  rw [show r + (12 - r) = 12 by omega] at this
  exact Nat.le_trans this (by decide)
theorem tms_ok {A : EL} (hA : EW A) : ∀ r, GL A (tms A r).1 ∧ ∀ v, v < eV A → (tms A r).2 v ≤ cap r
  | 0 => ⟨GL.nil, fun _ _ => Nat.zero_le _⟩
  | r + 1 => by
    obtain ⟨i1, i2⟩ := tms_ok hA r
    rw [tms_s]
    cases h : tq A (lb (tms A r).1) (tms A r).2 (eP A) with
    | none => exact ⟨i1, fun v hv => Nat.le_trans (i2 v hv) (Nat.le_add_right _ _)⟩
    | some q =>
      obtain ⟨q1, q2, _⟩ := amf_some h
      rw [Bool.and_eq_true] at q2
      dsimp only
      split
      · refine ⟨(i1.add q1 (by simpa using q2.1)).1, fun v hv => ?_⟩
        have h1 := i2 v hv
        have h2 := due_le hA q1 i2
        rw [cap_s]
        dsimp only
        split <;> omega
      · exact ⟨i1, fun v hv => Nat.le_trans (i2 v hv) (Nat.le_add_right _ _)⟩
theorem tms_stay {A : EL} {r : Nat} (h : tms A (r + 1) = tms A r) : ∀ d, tms A (r + d) = tms A r
  | 0 => rfl
  | d + 1 => by
    have ih := tms_stay h d
    rw [← Nat.add_assoc, tms_s, ih, ← tms_s, h]
theorem s_dueAt {Y : XS} {n : Nat} {S : PS} {c p q : Nat} {A : EL} {f : Nat → Nat} (hn : 100 ≤ n) (hP : SP Y S p) (hA : PV Y S p A) (hc : gr S c 2 = some (c + 10)) (hl : ln Y (c + 10) = 24) (hf : ∀ v, v < eV A → gl S (c + 10) v = lN (f v)) (hb : ∀ v, v < eV A → f v ≤ 1000000000) (hq : q < eP A) (hk : 0 < lk A q) :
    fX0_dueAt Y n S c p (nI q) = some (lN (due A f q)) := by
  obtain ⟨⟨e1, e2, e3, e4, e5, e6⟩, h0, h1, h2, h3, h4, h5, h6, l1, l2, l3, l4, l5, l6⟩ := hP
  obtain ⟨⟨a0, a1, a2, a3, a4, a5, a6, a7⟩, hT⟩ := hA
  have b1 := a7.2.1
  have b2 := a7.2.2.1
  have hcq := a7.2.2.2.1 q hq
  have a3' := a3 q hq
  have hlk := lk_le a7 q
  have hsl := sS_le (A := A) (q := q) hb
  have hsl2 : lk A q * 1000000000 ≤ 24 * 1000000000 := Nat.mul_le_mul_right _ hlk
  unfold fX0_dueAt jX0_dueAt_93
  simp (discharger := omega) only [kgr_n h0, kgr_n e1, kai_n, a3']
  rw [show (1000 : Int64) = lN 1000 from rfl, nI_l (by omega), lN_mul]
  have key : iter (bX0_dueAt_21 Y n S c p (nI q)) n (lN (eC A q * 1000), (0 : Int64), (0 : Int32)) = some (lN (eC A q * 1000 + sS A f q (eV A)), lN (lk A q)) := by
    refine iter_run (fun i => (lN (eC A q * 1000 + sS A f q i), lN (sm (fun v => if 0 < eS A q v then 1 else 0) i), nI i)) (eV A) (fun i hi => ?_) ?_ (by omega) (by show _ = (lN (eC A q * 1000 + 0), _, _); rw [Nat.add_zero]; rfl)
    · have a5' := a5 q i hq hi
      have hs9 := a7.2.2.2.2 q i hq hi
      have hfi := hf i hi
      unfold bX0_dueAt_21 jX0_dueAt_67_21
      simp (discharger := omega) only [kgr_n h0, kgr_n e3, kgi, a2, nle, if_neg, show (24 : Int32) = nI 24 from rfl, show (0 : Int32) = nI 0 from rfl, nmul, nI_add, kai_n, a5', kgr_n hc, kal_n, hfi, lN_add, nI_1]
      have es : sS A f q (i + 1) = sS A f q i + if 0 < eS A q i then f i else 0 := rfl
      rw [es, sm_s]
      by_cases z : 0 < eS A q i
      · rw [if_neg (by omega), if_pos z, if_pos z, show (1 : Int64) = lN 1 from rfl, lN_add, Nat.add_assoc]
      · rw [if_pos (by omega), if_neg z, if_neg z]
        rfl
    · unfold bX0_dueAt_21
      simp (discharger := omega) only [kgr_n h0, kgi, a2, nle, if_pos]
      rfl
  rw [key, kc_s]
  dsimp only
  simp (discharger := omega) only [show (0 : Int64) = lN 0 from rfl, show (0 : Int32) = nI 0 from rfl, cmp_le, l_le, if_neg]
  unfold kldiv due
  rw [show (1 : Int64) = lN 1 from rfl, lN_add, lN_sub (by omega), if_neg (by rw [show (0 : Int64) = lN 0 from rfl, l_eq (by omega) (by omega)]; omega), ldiv (by omega) (by omega)]
theorem s_emptyPurses {Y : XS} {n : Nat} {S : PS} {c p q t : Nat} {A : EL} {f : Nat → Nat} (hn : 100 ≤ n) (hc2 : c + 11 ≤ 235) (hd : p + 11 ≤ c ∨ c + 11 ≤ p) (hP : SP Y S p) (hA : PV Y S p A) (hc : gr S c 2 = some (c + 10)) (hl : ln Y (c + 10) = 24) (hf : ∀ v, v < eV A → gl S (c + 10) v = lN (f v)) (hq : q < eP A) :
    ok (fX0_emptyPurses Y n S c p (nI q) (lN t)) (fun S' => Fr (fun x => x = c + 10) S S' ∧ ∀ v, v < eV A → gl S' (c + 10) v = lN (if 0 < eS A q v then t else f v)) := by
  have a7 := hA.1.2.2.2.2.2.2.2
  have b1 := a7.2.1
  have b2 := a7.2.2.1
  have l := hP.1.2.2.2.2.2
  unfold fX0_emptyPurses
  refine ok_kc (iter_ok (fun i u => u.1 = nI i ∧ Fr (fun x => x = c + 10) S u.2 ∧ ∀ v, v < eV A → gl u.2 (c + 10) v = lN (if v < i ∧ 0 < eS A q v then t else f v)) (Q := fun S' => Fr (fun x => x = c + 10) S S' ∧ ∀ v, v < eV A → gl S' (c + 10) v = lN (if 0 < eS A q v then t else f v)) (eV A) (fun i u hi h => ?_) (fun u h => ?_) (by omega) ⟨rfl, Fr.rf, fun v hv => by rw [if_neg (by omega)]; exact hf v hv⟩) (fun r h => ok_i h)
  · obtain ⟨u1, T⟩ := u
    obtain ⟨k1, k2, k3⟩ := h
    simp only at k1 k2 k3
    subst k1
    have hPT : SP Y T p := hP.fr k2.2.1
    have hAT : PV Y T p A := hA.fr k2 (by omega) (by omega)
    have hcT : gr T c 2 = some (c + 10) := by rw [k2.gr]; exact hc
    have g2 := hAT.1.2.2.1
    have a5' := hAT.1.2.2.2.2.2.1 q i hq hi
    have hs9 := a7.2.2.2.2 q i hq hi
    unfold bX0_emptyPurses_3 jX0_emptyPurses_41_3
    simp (discharger := omega) only [kgr_n hPT.2.1, kgr_n hPT.1.2.2.1, kgi, g2, nle, if_neg, show (24 : Int32) = nI 24 from rfl, show (0 : Int32) = nI 0 from rfl, nmul, nI_add, kai_n, a5', kgr_n hcT, kwl_n, nI_1]
    by_cases z : 0 < eS A q i
    · rw [if_neg (by omega), ok_some, so_l]
      refine ⟨rfl, k2.sj rfl, fun v hv => ?_⟩
      rw [Gl_sj]
      by_cases e : v = i
      · rw [if_pos ⟨rfl, e⟩, if_pos ⟨by omega, by rw [e]; exact z⟩]
      · rw [if_neg (fun y => e y.2), k3 v hv]
        by_cases y : v < i ∧ 0 < eS A q v
        · rw [if_pos y, if_pos ⟨by omega, y.2⟩]
        · rw [if_neg y, if_neg (fun w => y ⟨by omega, w.2⟩)]
    · rw [if_pos (by omega), ok_some, so_l]
      refine ⟨rfl, k2, fun v hv => ?_⟩
      rw [k3 v hv]
      by_cases e : v = i
      · rw [if_neg (by omega), if_neg (fun w => z (by rw [← e]; exact w.2))]
      · by_cases y : v < i ∧ 0 < eS A q v
        · rw [if_pos y, if_pos ⟨by omega, y.2⟩]
        · rw [if_neg y, if_neg (fun w => y ⟨by omega, w.2⟩)]
  · obtain ⟨u1, T⟩ := u
    obtain ⟨k1, k2, k3⟩ := h
    simp only at k1 k2 k3
    subst k1
    have hPT : SP Y T p := hP.fr k2.2.1
    have hAT : PV Y T p A := hA.fr k2 (by omega) (by omega)
    have g2 := hAT.1.2.2.1
    unfold bX0_emptyPurses_3
    simp (discharger := omega) only [kgr_n hPT.2.1, kgi, g2, nle, if_pos, ok_some, so_r]
    refine ⟨k2, fun v hv => ?_⟩
    rw [k3 v hv]
    by_cases y : 0 < eS A q v
    · rw [if_pos ⟨hv, y⟩, if_pos y]
    · rw [if_neg (fun w => y w.2), if_neg y]
