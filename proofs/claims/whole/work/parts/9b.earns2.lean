/-! THE MODEL: time that earns. -/
theorem m_dueOf {Y : XS} {n : Nat} {S : PS} {A : EL} {f : Nat → Nat} {q tk : Nat} (hn : 100 ≤ n) (hM : MSt Y S) (h : NV S A) (hW : MW S A) (hf : ∀ v, v < eV A → gl S 231 v = lN (f v)) (hb : ∀ v, v < eV A → f v ≤ 1000000000) (hq : q < eP A) (hk : 0 < lk A q) (ht : tk ≤ due A f q) :
    fX11_dueOf Y n S 215 (nI q) (lN tk) = some (lN (due A f q)) := by
  have a7 := h.ew
  have b1 := a7.2.1
  have b2 := a7.2.2.1
  have hcq := a7.2.2.2.1 q hq
  have hlk := lk_le a7 q
  have hsl := sS_le (A := A) (q := q) hb
  have hsl2 : lk A q * 1000000000 ≤ 24 * 1000000000 := Nat.mul_le_mul_right _ hlk
  have l5 := hM.2.2.2.2.2.2.2.2.2.1
  have l2 := hM.2.2.2.2.1.2.1
  have e1 := (hW q hq).1
  have hd : due A f q ≤ 1000000000 + 10000000 := due_le a7 hq hb
  unfold fX11_dueOf
  rw [m_costOf hM h hq, kc_s, show (1000 : Int64) = lN 1000 from rfl, nI_l (by omega), lN_mul, Nat.mul_comm]
  have key : iter (bX11_dueOf_15 Y n S 215 (nI q) (lN tk)) n (lN (eC A q * 1000), (0 : Int32)) = some (lN (eC A q * 1000 + sS A f q (eV A))) := by
    refine iter_run (fun i => (lN (eC A q * 1000 + sS A f q i), nI i)) (eV A) (fun i hi => ?_) ?_ (by omega) (by show _ = (lN (eC A q * 1000 + 0), _); rw [Nat.add_zero]; rfl)
    · have hs9 := a7.2.2.2.2 q i hq hi
      have hfi := hf i hi
      unfold bX11_dueOf_15 jX11_dueOf_47_15
      rw [m_people hM h, kc_s]
      simp (discharger := omega) only [nle, if_neg]
      rw [m_scoreOf hM h hi hq, kc_s, kgr_n hM.2.2.1.2.2.2.2.1, kal_n (by omega) (by omega), hfi, show (0 : Int32) = nI 0 from rfl, i_le (by omega) (by omega), nI_1, lN_add]
      have es : sS A f q (i + 1) = sS A f q i + if 0 < eS A q i then f i else 0 := rfl
      rw [es]
      by_cases z : 0 < eS A q i
      · rw [if_neg (by omega), if_pos z, Nat.add_assoc]
      · rw [if_pos (by omega), if_neg z, show (0 : Int64) = lN 0 from rfl, lN_add]
        simp only [Nat.add_zero]
    · unfold bX11_dueOf_15
      rw [m_people hM h, kc_s]
      simp (discharger := omega) only [nle, if_pos]
  rw [key, kc_s, kgr_n hM.2.1.2.1, kai_n (by omega) (by omega), e1, kgr_n hM.2.1.2.1, kai_n (by omega) (by omega), e1, nI_l (by omega), lN_add, show (1 : Int64) = lN 1 from rfl, lN_sub (by omega)]
  unfold kldiv
  rw [if_neg (by rw [show (0 : Int64) = lN 0 from rfl, l_eq (by omega) (by omega)]; omega), ldiv (by omega) (by omega)]
  have ed : (eC A q * 1000 + sS A f q (eV A) + lk A q - 1) / lk A q = due A f q := rfl
  dsimp only
  rw [ed, lmax_n (by omega) (by omega), Nat.max_eq_right ht]
theorem m_earnIn {Y : XS} {n : Nat} {S : PS} {A : EL} {f : Nat → Nat} {B tk : Nat} (hn : 100 ≤ n) (hM : MSt Y S) (h : NV S A) (hW : MW S A) (hf : ∀ v, v < eV A → gl S 231 v = lN (f v)) (hb : ∀ v, v < eV A → f v ≤ 1000000000) (hB : gi S 215 21 = nI B) (hB2 : B < 4096) (ht : ∀ q, q < eP A → B.testBit q = false → 0 < lk A q → tk ≤ due A f q) :
    iter (bX11_earns_38 Y n S 215 (lN tk)) n ((-1 : Int32), (0 : Int64), (0 : Int32)) = some (oI (tq A B f (eP A)), lN (tdv A f (tq A B f (eP A)))) := by
  have a7 := h.ew
  have b1 := a7.2.1
  have l2 := hM.2.2.2.2.1.2.1
  refine iter_run (fun i => (oI (tq A B f i), lN (tdv A f (tq A B f i)), nI i)) (eP A) (fun i hi => ?_) ?_ (by omega) rfl
  · have e1 := (hW i hi).1
    have hlk := lk_le a7 i
    have hd : due A f i ≤ 1000000000 + 10000000 := due_le a7 hi hb
    unfold bX11_earns_38 jX11_earns_105_38 jX11_earns_113_38
    rw [m_many hM h, kc_s]
    simp (discharger := omega) only [nle, if_neg, kgi, hB, m_isOf, kc_s, nI_1]
    rw [tq_s]
    by_cases c : B.testBit i = true
    · rw [if_pos c, if_neg (by decide), if_neg (by rw [c]; simp)]
    · have c' : B.testBit i = false := by simpa using c
      rw [if_neg c, if_pos rfl, kgr_n hM.2.1.2.1, kai_n (by omega) (by omega), e1]
      by_cases d : lk A i = 0
      · rw [d, if_pos (show nI 0 = 0 from rfl), if_neg (by simp)]
      · have hcc : (!B.testBit i && decide (0 < lk A i)) = true := by rw [c', decide_eq_true (by omega)]; rfl
        rw [if_neg (nI_ne0 (by omega) (by omega)), m_dueOf hn hM h hW hf hb hi (by omega) (ht i hi c' (by omega)), kc_s, if_pos hcc]
        cases hg : tq A B f i with
        | none => rw [if_pos (show oI none = -1 from rfl)]; rfl
        | some o =>
          obtain ⟨q1, q2, _⟩ := amf_some hg
          have hno : ¬ oI (some o) = -1 := by show ¬ nI o = m1; rw [nm1 (by omega)]; exact fun h => h
          have hdo : due A f o ≤ 1000000000 + 10000000 := due_le a7 (by omega) hb
          have et : tdv A f (some o) = due A f o := rfl
          rw [if_neg hno, oI_s, et, m_isFirst hM a7 hW hi q1 (by omega) (by omega), kc_s]
          dsimp only
          split
          · rw [if_neg (by decide)]; rfl
          · rw [if_pos rfl]; rfl
  · unfold bX11_earns_38
    rw [m_many hM h, kc_s]
    simp (discharger := omega) only [nle, if_pos]
theorem sS_mono {A : EL} {f g : Nat → Nat} {q : Nat} (h : ∀ v, v < eV A → f v ≤ g v) : sS A f q (eV A) ≤ sS A g q (eV A) := sm_mono (fun v hv => by
  split
  · exact h v hv
  · exact Nat.le_refl _)
theorem due_mono {A : EL} {f g : Nat → Nat} {q : Nat} (h : ∀ v, v < eV A → f v ≤ g v) : due A f q ≤ due A g q := by
  unfold due
  apply Nat.div_le_div_right
  have := sS_mono (A := A) (q := q) h
  omega
theorem m_earnW {Y : XS} {n : Nat} {S : PS} {A : EL} {f : Nat → Nat} {q t : Nat} {x : Int32} (hn : 10000 ≤ n) (hM : MSt Y S) (h : NV S A) (hf : ∀ v, v < eV A → gl S 231 v = lN (f v)) (hq : q < eP A) :
    ok (iter (bX11_earns_174 Y n 215 (lN t) x (nI q)) n ((0 : Int32), S)) (fun T => Fr (fun x => x = 231) S T ∧ ∀ v, v < eV A → gl T 231 v = lN (if 0 < eS A q v then t else f v)) := by
  have a7 := h.ew
  have b1 := a7.2.1
  have b2 := a7.2.2.1
  have l5 := hM.2.2.2.2.2.2.2.2.2.1
  refine iter_ok (fun i s => s.1 = nI i ∧ Fr (fun x => x = 231) S s.2 ∧ (∀ v, v < i → gl s.2 231 v = lN (if 0 < eS A q v then t else f v)) ∧ (∀ v, i ≤ v → v < eV A → gl s.2 231 v = lN (f v))) (eV A) (fun i s hi h1 => ?_) (fun s h1 => ?_) (by omega) ⟨rfl, Fr.rf, fun v hv => absurd hv (Nat.not_lt_zero _), fun v _ hv => hf v hv⟩
  · obtain ⟨s1, T⟩ := s
    obtain ⟨k1, k2, k3, k4⟩ := h1
    simp only at k1 k2 k3 k4
    subst k1
    have hMT : MSt Y T := hM.fr k2.2.1
    have hT : NV T A := h.fr k2 (by omega)
    have hs9 := a7.2.2.2.2 q i hq hi
    unfold bX11_earns_174 jX11_earns_202_174
    rw [m_people hMT hT, kc_s]
    simp (discharger := omega) only [nle, if_neg]
    rw [m_scoreOf hMT hT hi hq, kc_s, show (0 : Int32) = nI 0 from rfl, i_le (by omega) (by omega)]
    by_cases z : 0 < eS A q i
    · rw [if_neg (by omega), kgr_n hMT.2.2.1.2.2.2.2.1, kwl_n (by omega) (by omega), nI_1, ok_some, so_l]
      refine ⟨rfl, k2.sj rfl, fun v hv => ?_, fun v hv hv2 => ?_⟩
      · dsimp only
        rw [Gl_sj]
        by_cases e : v = i
        · rw [if_pos ⟨rfl, e⟩, e, if_pos z]
        · rw [if_neg (by omega)]
          exact k3 v (by omega)
      · dsimp only
        rw [Gl_sj, if_neg (by omega)]
        exact k4 v (by omega) hv2
    · rw [if_pos (by omega), nI_1, ok_some, so_l]
      refine ⟨rfl, k2, fun v hv => ?_, fun v hv hv2 => k4 v (by omega) hv2⟩
      by_cases e : v = i
      · subst e
        rw [if_neg z]
        exact k4 v (Nat.le_refl _) hi
      · exact k3 v (by omega)
  · obtain ⟨s1, T⟩ := s
    obtain ⟨k1, k2, k3, k4⟩ := h1
    simp only at k1 k2 k3 k4
    subst k1
    unfold bX11_earns_174
    rw [m_people (hM.fr k2.2.1) (h.fr k2 (by omega)), kc_s]
    simp (discharger := omega) only [nle, if_pos, ok_some, so_r]
    exact ⟨k2, k3⟩
theorem m_earns {Y : XS} {n : Nat} {S : PS} {A : EL} (hn : 10000 ≤ n) (hM : MSt Y S) (h : NV S A) (hW : MW S A) (hO : MO S A []) :
    ok (fX11_earns Y n S 215) (fun T => Fr (fun x => x = 215 ∨ x = 224 ∨ x = 231) S T ∧ MO T A (tml A) ∧ FK S T) := by
  have a7 := h.ew
  have b0 := a7.1
  have b1 := a7.2.1
  have b2 := a7.2.2.1
  have l := hM.2.2.2.1.1
  have l5 := hM.2.2.2.2.2.2.2.2.2.1
  unfold fX11_earns
  refine ok_kc (P := fun T => Fr (fun x => x = 231) S T ∧ ∀ v, v < 24 → gl T 231 v = lN 0) (iter_ok (fun i s => s.1 = nI i ∧ Fr (fun x => x = 231) S s.2 ∧ ∀ v, v < i → gl s.2 231 v = lN 0) 24 (fun i s hi h1 => ?_) (fun s h1 => ?_) (by omega) ⟨rfl, Fr.rf, fun v hv => absurd hv (Nat.not_lt_zero _)⟩) ?_
  · obtain ⟨s1, T⟩ := s
    obtain ⟨k1, k2, k3⟩ := h1
    simp only at k1 k2 k3
    subst k1
    unfold bX11_earns_2
    dsimp only
    rw [show (24 : Int32) = nI 24 from rfl, i_le (by omega) (by omega), if_neg (by omega), kgr_n (hM.fr k2.2.1).2.2.1.2.2.2.2.1, kwl_n (by omega) (by omega), nI_1, ok_some, so_l]
    refine ⟨rfl, k2.sj rfl, fun v hv => ?_⟩
    dsimp only
    rw [Gl_sj]
    by_cases e : v = i
    · rw [if_pos ⟨rfl, e⟩]; rfl
    · rw [if_neg (by omega)]
      exact k3 v (by omega)
  · obtain ⟨s1, T⟩ := s
    obtain ⟨k1, k2, k3⟩ := h1
    simp only at k1 k2 k3
    subst k1
    unfold bX11_earns_2
    dsimp only
    rw [show (24 : Int32) = nI 24 from rfl, i_le (by omega) (by omega), if_pos (by omega), ok_some, so_r]
    exact ⟨k2, k3⟩
  rintro S1 ⟨p1, p2⟩
  have p1' : Fr (fun x => x = 215 ∨ x = 224 ∨ x = 231) S S1 := p1.mono (fun b hb => by omega)
  refine ok_kc (iter_ok (fun r t => Fr (fun x => x = 215 ∨ x = 224 ∨ x = 231) S t.2.2 ∧ FK S t.2.2 ∧ ((t.2.1 = 1 ∧ r ≤ eP A ∧ MO t.2.2 A (tms A r).1 ∧ (tms A r).1.length = r ∧ (∀ v, v < eV A → gl t.2.2 231 v = lN ((tms A r).2 v)) ∧ ∃ tk, t.1 = lN tk ∧ tk ≤ cap r ∧ (∀ v, v < eV A → (tms A r).2 v ≤ tk) ∧ ∀ q, q < eP A → (lb (tms A r).1).testBit q = false → 0 < lk A q → tk ≤ due A (tms A r).2 q) ∨ (t.2.1 = 0 ∧ MO t.2.2 A (tml A)))) (Q := fun T => Fr (fun x => x = 215 ∨ x = 224 ∨ x = 231) S T ∧ MO T A (tml A) ∧ FK S T) 14 (fun r t hr h1 => ?_) (fun t h1 => ?_) (by omega) ⟨p1', fun j _ _ => p1.gi (by omega) j, Or.inl ⟨rfl, Nat.zero_le _, hO.fr p1 (fun j _ => p1.gi (by omega) j) (by omega), rfl, fun v hv => p2 v (by omega), 0, rfl, Nat.le_refl _, fun v _ => Nat.le_refl _, fun q _ _ _ => Nat.zero_le _⟩⟩) (fun r h => ok_i h)
  · obtain ⟨t1, t2, T⟩ := t
    obtain ⟨k1, k2, k3⟩ := h1
    simp only at k1 k2 k3
    unfold bX11_earns_25
    dsimp only
    rcases k3 with ⟨e, q1, q2, q3, q4, tk, q5, q6, q7, q8⟩ | ⟨e, q1⟩
    · subst e
      subst q5
      have hMT : MSt Y T := hM.fr k1.2.1
      have hT : NV T A := h.fr k1 (by omega)
      have hWT : MW T A := hW.fr k1 (by omega) (by omega) (by omega)
      obtain ⟨g1, g2⟩ := tms_ok a7 r
      have hcap := cap_le (show r ≤ 12 by omega)
      have hb : ∀ v, v < eV A → (tms A r).2 v ≤ 1000000000 := fun v hv => by have := g2 v hv; omega
      have lbl := g1.lt a7
      have hcl := csum_le a7 (lb (tms A r).1)
      have stop : tms A (r + 1) = tms A r → tml A = (tms A r).1 := by
        intro e
        have e2 := tms_stay e (eP A - r)
        rw [show r + (eP A - r) = eP A by omega] at e2
        unfold tml
        rw [e2]
      rw [if_neg (by decide), m_earnIn (by omega) hMT hT hWT q4 hb q2.2.1 lbl q8, kc_s]
      unfold jX11_earns_153_25 jX11_earns_154_25
      cases hg : tq A (lb (tms A r).1) (tms A r).2 (eP A) with
      | none =>
        rw [if_pos (show oI none = -1 from rfl), if_pos rfl, ok_some, so_l]
        refine ⟨k1, k2, Or.inr ⟨rfl, ?_⟩⟩
        rw [stop (by rw [tms_s, hg])]
        exact q2
      | some q =>
        obtain ⟨z1, z2, z3⟩ := amf_some hg
        rw [Bool.and_eq_true] at z2
        have z4 : (lb (tms A r).1).testBit q = false := by simpa using z2.1
        have z5 : 0 < lk A q := of_decide_eq_true z2.2
        have hno : ¬ oI (some q) = -1 := by show ¬ nI q = m1; rw [nm1 (by omega)]; exact fun h => h
        have hcq := a7.2.2.2.1 q z1
        rw [if_neg hno, oI_s, kgi_n, q2.2.1, m_costsOf (by omega) hMT hT (by omega), kc_s, m_costOf hMT hT z1, kc_s, kgr_n hMT.1.1, show (0 : Int32) = nI 0 from rfl, kai_n (by omega) (by omega), hT.m, nI_add, i_lt (by omega) (by omega)]
        have et : tdv A (tms A r).2 (some q) = due A (tms A r).2 q := rfl
        rw [et]
        by_cases hx : eM A < csum A (lb (tms A r).1) + eC A q
        · rw [if_pos hx, if_pos rfl, ok_some, so_l]
          refine ⟨k1, k2, Or.inr ⟨rfl, ?_⟩⟩
          rw [stop (by rw [tms_s, hg]; dsimp only; rw [if_neg (by omega)])]
          exact q2
        · rw [if_neg hx, if_neg (by decide)]
          have e : tms A (r + 1) = ((tms A r).1 ++ [q], fun v => if 0 < eS A q v then due A (tms A r).2 q else (tms A r).2 v) := by
            rw [tms_s, hg]
            dsimp only
            rw [if_pos (by omega)]
          refine ok_kc (m_choose a7 hMT q2 z1 z4) ?_
          rintro U ⟨u1, u2, u3⟩
          have fU : Fr (fun x => x = 215 ∨ x = 224 ∨ x = 231) S U := k1.tr (u1.mono (fun b hb => by omega))
          refine ok_kc (m_earnW (f := (tms A r).2) hn (hM.fr fU.2.1) (h.fr fU (by omega)) (fun v hv => by rw [u1.gl (by omega)]; exact q4 v hv) z1) ?_
          rintro W ⟨w1, w2⟩
          rw [ok_some, so_l]
          have tq0 := q8 q z1 z4 z5
          have up : ∀ v, v < eV A → (tms A r).2 v ≤ (if 0 < eS A q v then due A (tms A r).2 q else (tms A r).2 v) := by
            intro v hv
            have := q7 v hv
            split
            · omega
            · exact Nat.le_refl _
          refine ⟨fU.tr (w1.mono (fun b hb => by omega)), (k2.tr u3).tr (fun j _ _ => w1.gi (by omega) j), Or.inl ⟨rfl, ?_, ?_, ?_, ?_, due A (tms A r).2 q, rfl, ?_, fun v hv => ?_, fun p hp hp2 hp3 => ?_⟩⟩
          · have := (g1.add z1 z4).2.2
            omega
          · rw [e]
            exact u2.fr w1 (fun j _ => w1.gi (by omega) j) (by omega)
          · rw [e, List.length_append, q3]
            rfl
          · rw [e]
            exact w2
          · rw [cap_s]
            exact due_le a7 z1 g2
          · rw [e]
            have := q7 v hv
            dsimp only
            split
            · exact Nat.le_refl _
            · omega
          · rw [e] at hp2 ⊢
            dsimp only at hp2 ⊢
            rw [lb_app, tb_or, Bool.or_eq_false_iff, decide_eq_false_iff_not] at hp2
            have ah := z3 p hp (by rw [Bool.and_eq_true, hp2.1]; exact ⟨rfl, decide_eq_true hp3⟩) (fun e => hp2.2 e.symm)
            have mono := due_mono (A := A) (q := p) up
            have : due A (tms A r).2 q ≤ due A (tms A r).2 p := by
              rcases ah with a | a
              · omega
              · omega
            omega
    · subst e
      rw [if_pos rfl, ok_some, so_r]
      exact ⟨k1, q1, k2⟩
  · obtain ⟨t1, t2, T⟩ := t
    obtain ⟨k1, k2, k3⟩ := h1
    simp only at k1 k2 k3
    unfold bX11_earns_25
    dsimp only
    rcases k3 with ⟨e, q1, _⟩ | ⟨e, q1⟩
    · omega
    · subst e
      rw [if_pos rfl, ok_some, so_r]
      exact ⟨k1, q1, k2⟩
