/-! THE MODEL: all that a rule makes. -/
theorem bq_lt (A : EL) (wf : Bool) : bq A wf (2 ^ eP A) < 2 ^ eP A := by
  have : ∀ s, 0 < s → bq A wf s < s := by
    intro s
    induction s with
    | zero => intro h; omega
    | succ s ih =>
      intro _
      rw [bq_s]
      split
      · omega
      · have := bq_le A wf s; omega
  exact this _ (Nat.two_pow_pos _)
def Mg (x : Nat) : Prop := x = 215 ∨ (221 ≤ x ∧ x < 232)
/-- fields that going by a rule keeps -/
def FG (S S' : PS) : Prop := ∀ j, (j < 8 ∨ (12 ≤ j ∧ j ≠ 21 ∧ j ≠ 22 ∧ j ≠ 23)) → gi S' 215 j = gi S 215 j
theorem FG.rf {S : PS} : FG S S := fun _ _ => rfl
theorem FG.tr {S S' S'' : PS} (h : FG S S') (k : FG S' S'') : FG S S'' := fun j hj => (k j hj).trans (h j hj)
theorem FG.k {S S' : PS} (h : FK S S') : FG S S' := fun j hj => h j (by omega) (by omega)
/-- what a rule gives, as the model holds it -/
def MRu (S : PS) (A : EL) (r : Nat) : Prop := MW S A ∧ MO S A (RLs A r) ∧ gi S 215 23 = nI (rd A r) ∧ (r ≤ 3 → BV S A (bst A (fun _ => pu A (rd A r)) 12).2 ∧ ∀ v p, v < eV A → p < eP A → gi S 226 (12 * v + p) = nI (pdk A (fun _ => pu A (rd A r)) p v 12)) ∧ (r = 0 → FM S A 0)
theorem m_goes {Y : XS} {n : Nat} {S : PS} {A : EL} {r : Nat} (hn : 10000 ≤ n) (hM : MSt Y S) (h : NV S A) (hr : r < 9) :
    ok (fX11_goes Y n S 215 (nI r)) (fun T => Fr Mg S T ∧ FG S T ∧ MRu T A r) := by
  have a7 := h.ew
  have b1 := a7.2.1
  have hP2 : 2 ^ eP A ≤ 4096 := p12 b1
  unfold fX11_goes
  refine ok_kc (m_layWorths hn hM h) ?_
  rintro S1 ⟨p1, p2, p3⟩
  rw [kpi_n]
  generalize hS2 : si S1 215 23 0 = S2
  have g2 : Fr (fun x => x = 215) S1 S2 := by rw [← hS2]; exact Fr.rf.si rfl
  have f2 : Fr Mg S S2 := (p1.mono (fun b hb => by unfold Mg; omega)).tr (g2.mono (fun b hb => by unfold Mg; omega))
  have k2 : FG S S2 := fun j hj => by rw [← hS2, Gn (by omega)]; exact p2 j (by omega)
  have e23 : gi S2 215 23 = nI 0 := by rw [← hS2, Gp]; rfl
  have w2 : MW S2 A := p3.fr g2 (by omega) (by omega) (by omega)
  refine ok_kc (m_clear (A := A) hn (hM.fr f2.2.1)) ?_
  rintro S3 ⟨q1, q2, q3, q4⟩
  have f3 : Fr Mg S S3 := f2.tr (q1.mono (fun b hb => by unfold Mg; omega))
  have k3 : FG S S3 := k2.tr (FG.k q4)
  have w3 : MW S3 A := w2.fr q1 (by omega) (by omega) (by omega)
  have e3 : gi S3 215 23 = nI 0 := by rw [q4 23 (by decide) (by decide)]; exact e23
  have hM3 : MSt Y S3 := hM.fr f3.2.1
  have h3 : NV S3 A := h.fr f3 (by unfold Mg; omega)
  clear hS2 g2 f2 k2 e23 w2 q1 q3 q4 p1 p2 p3
  have sh : ∀ T, Fr Ms S3 T → FK S3 T → FM T A 0 → Fr Mg S T ∧ FG S T ∧ MW T A ∧ gi T 215 23 = nI 0 ∧ MSt Y T ∧ NV T A := fun T t1 t2 t3 => ⟨f3.tr (t1.mono (fun b hb => by unfold Ms at hb; unfold Mg; omega)), k3.tr (FG.k t2), w3.fr t1 (by unfold Ms; omega) (by unfold Ms; omega) (by unfold Ms; omega), by rw [t2 23 (by decide) (by decide)]; exact e3, hM3.fr t1.2.1, h3.fr t1 (by unfold Ms; omega)⟩
  have ra : ∀ T, Fr Ms S3 T → (∀ j, j ≠ 21 → j ≠ 22 → j ≠ 23 → gi T 215 j = gi S3 215 j) → Fr Mg S T ∧ FG S T ∧ MW T A ∧ MSt Y T ∧ NV T A := fun T t1 t2 => ⟨f3.tr (t1.mono (fun b hb => by unfold Ms at hb; unfold Mg; omega)), k3.tr (fun j hj => t2 j (by omega) (by omega) (by omega)), w3.fr t1 (by unfold Ms; omega) (by unfold Ms; omega) (by unfold Ms; omega), hM3.fr t1.2.1, h3.fr t1 (by unfold Ms; omega)⟩
  have cases9 : r = 0 ∨ r = 1 ∨ r = 2 ∨ r = 3 ∨ r = 4 ∨ r = 5 ∨ r = 6 ∨ r = 7 ∨ r = 8 := by omega
  have fl : ∀ (bc : Bool) (T : PS) (L : List Nat), Fr Mg S T → FG S T → MW T A → MSt Y T → NV T A → MO T A L → ok (fX11_fills Y n T 215 (if bc = true then 1 else 0)) (fun U => Fr (fun b => b = 215 ∨ b = 224) T U ∧ Fr Mg S U ∧ FG S U ∧ MW U A ∧ MO U A (flz A bc L) ∧ gi U 215 23 = gi T 215 23) := by
    intro bc T L t1 t2 t3 t4 t5 t6
    refine ok_mono (m_fills hn t4 t5 t3 t6) ?_
    rintro U ⟨u1, u2, u3⟩
    exact ⟨u1, t1.tr (u1.mono (fun b hb => by unfold Mg; omega)), t2.tr (FG.k u3), t3.fr u1 (by omega) (by omega) (by omega), u2, u3 23 (by decide) (by decide)⟩
  have tk : ∀ s, s < 4096 → ok (fX11_takes Y n S3 215 (nI s)) (fun U => Fr Mg S U ∧ FG S U ∧ MW U A ∧ MO U A (sel s (eP A)) ∧ gi U 215 23 = nI 0) := by
    intro s hs
    refine ok_mono (m_takes hn hM3 h3 q2 hs) ?_
    rintro U ⟨u1, u2, u3⟩
    exact ⟨f3.tr (u1.mono (fun b hb => by unfold Mg; omega)), k3.tr (FG.k u3), w3.fr u1 (by omega) (by omega) (by omega), u2, by rw [u3 23 (by decide) (by decide)]; exact e3⟩
  unfold jX11_goes_88 jX11_goes_120 jX11_goes_130 jX11_goes_135
  rcases cases9 with rfl | rfl | rfl | rfl | rfl | rfl | rfl | rfl | rfl
  · rw [if_pos (by decide)]
    refine ok_kc (m_shares12 (m := 0) hn hM3 h3 w3 (by decide)) ?_
    rintro T ⟨t1, t2, t3⟩
    obtain ⟨x1, x2, x3, x4, x5, x6⟩ := sh T t1 t2 t3
    rw [if_neg (by decide), if_neg (by decide)]
    exact ok_i ⟨x1, x2, x3, t3.o.1, x4, fun _ => ⟨t3.o.2.1, t3.o.2.2.2.2⟩, fun _ => t3⟩
  · rw [if_neg (by decide), if_pos (by decide)]
    refine ok_kc (m_shares12 (m := 0) hn hM3 h3 w3 (by decide)) ?_
    rintro T ⟨t1, t2, t3⟩
    obtain ⟨x1, x2, x3, x4, x5, x6⟩ := sh T t1 t2 t3
    rw [if_pos (by decide)]
    refine ok_kc (fl false T _ x1 x2 x3 x5 x6 t3.o.1) ?_
    rintro U ⟨u0, u1, u2, u3, u4, u5⟩
    refine ok_i ⟨u1, u2, u3, u4, by rw [u5]; exact x4, fun _ => ⟨t3.o.2.1.fr u0 (by omega), fun v p hv hp => ?_⟩, fun e => absurd e (by decide)⟩
    rw [u0.gi (by omega)]
    exact t3.o.2.2.2.2 v p hv hp
  · rw [if_neg (by decide), if_neg (by decide), if_pos (by decide)]
    refine ok_kc (m_raises hn hM3 h3 w3) ?_
    rintro T ⟨t1, t2, t4, t3⟩
    obtain ⟨x1, x2, x3, x5, x6⟩ := ra T t1 t2
    rw [if_neg (by decide), if_neg (by decide)]
    exact ok_i ⟨x1, x2, x3, t3.o.1, t4, fun _ => ⟨t3.o.2.1, t3.o.2.2.2.2⟩, fun e => absurd e (by decide)⟩
  · rw [if_neg (by decide), if_neg (by decide), if_neg (by decide), if_pos (by decide)]
    refine ok_kc (m_raises hn hM3 h3 w3) ?_
    rintro T ⟨t1, t2, t4, t3⟩
    obtain ⟨x1, x2, x3, x5, x6⟩ := ra T t1 t2
    rw [if_neg (by decide), if_pos (by decide)]
    refine ok_kc (fl false T _ x1 x2 x3 x5 x6 t3.o.1) ?_
    rintro U ⟨u0, u1, u2, u3, u4, u5⟩
    refine ok_i ⟨u1, u2, u3, u4, by rw [u5]; exact t4, fun _ => ⟨t3.o.2.1.fr u0 (by omega), fun v p hv hp => ?_⟩, fun e => absurd e (by decide)⟩
    rw [u0.gi (by omega)]
    exact t3.o.2.2.2.2 v p hv hp
  · rw [if_neg (by decide), if_neg (by decide), if_neg (by decide), if_neg (by decide), if_pos (by decide), if_neg (by decide)]
    refine ok_kc (fl false S3 [] f3 k3 w3 hM3 h3 q2) ?_
    rintro U ⟨u0, u1, u2, u3, u4, u5⟩
    rw [if_neg (by decide), if_neg (by decide)]
    exact ok_i ⟨u1, u2, u3, u4, by rw [u5]; exact e3, fun e => absurd e (by decide), fun e => absurd e (by decide)⟩
  · rw [if_neg (by decide), if_neg (by decide), if_neg (by decide), if_neg (by decide), if_neg (by decide), if_pos (by decide), if_pos (by decide)]
    refine ok_kc (fl true S3 [] f3 k3 w3 hM3 h3 q2) ?_
    rintro U ⟨u0, u1, u2, u3, u4, u5⟩
    rw [if_neg (by decide), if_neg (by decide)]
    exact ok_i ⟨u1, u2, u3, u4, by rw [u5]; exact e3, fun e => absurd e (by decide), fun e => absurd e (by decide)⟩
  · rw [if_neg (by decide), if_neg (by decide), if_neg (by decide), if_neg (by decide), if_neg (by decide), if_neg (by decide), if_pos (by decide), m_mostWorth hn hM3 h3 w3, kc_s]
    have := bq_lt A false
    refine ok_kc (tk _ (by omega)) ?_
    rintro U ⟨u1, u2, u3, u4, u5⟩
    rw [if_neg (by decide), if_neg (by decide)]
    exact ok_i ⟨u1, u2, u3, u4, u5, fun e => absurd e (by decide), fun e => absurd e (by decide)⟩
  · rw [if_neg (by decide), if_neg (by decide), if_neg (by decide), if_neg (by decide), if_neg (by decide), if_neg (by decide), if_neg (by decide), if_pos (by decide), m_worstFirst hn hM3 h3 w3, kc_s]
    have := bq_lt A true
    refine ok_kc (tk _ (by omega)) ?_
    rintro U ⟨u1, u2, u3, u4, u5⟩
    rw [if_neg (by decide), if_neg (by decide)]
    exact ok_i ⟨u1, u2, u3, u4, u5, fun e => absurd e (by decide), fun e => absurd e (by decide)⟩
  · rw [if_neg (by decide), if_neg (by decide), if_neg (by decide), if_neg (by decide), if_neg (by decide), if_neg (by decide), if_neg (by decide), if_neg (by decide)]
    refine ok_kc (m_earns hn hM3 h3 w3 q2) ?_
    rintro U ⟨u1, u2, u3⟩
    rw [if_neg (by decide), if_neg (by decide)]
    exact ok_i ⟨f3.tr (u1.mono (fun b hb => by unfold Mg; omega)), k3.tr (FG.k u3), w3.fr u1 (by omega) (by omega) (by omega), u2, by rw [u3 23 (by decide) (by decide)]; exact e3, fun e => absurd e (by decide), fun e => absurd e (by decide)⟩
