/-! SHARES, CLASS: raise; priceBehind. -/
/-- equal shares to their end, purses raised m times -/
def FO (S : PS) (o : Nat) (A : EL) (m : Nat) : Prop := gi S o 4 = nI m ∧ gi S o 11 = nI 0 ∧ ∃ k, k ≤ eP A ∧ ShO S o A (fun _ => pu A m) k ∧ sq A (fun _ => pu A m) k = none
def RI (A : EL) (m : Nat) : Prop := (rz A = if m = 0 then rzf A 300 0 else if eM A < csum A (fin A m) then m - 1 else rzf A (300 - m) m) ∧ (m = 0 ∨ ¬ ovr A (m - 1))
theorem rzf_s (A : EL) (f j : Nat) : rzf A (f + 1) j = if (sl A (fun _ => pu A j) 12).length = eP A then j else if eM A < csum A (fin A (j + 1)) then j else rzf A f (j + 1) := rfl
theorem RI.is {A : EL} {m : Nat} (h : RI A m) (h1 : ¬ ovr A m) : rz A = rzf A (300 - m) m := by
  rw [h.1]
  by_cases z : m = 0
  · rw [if_pos z, z]
  · rw [if_neg z, if_neg (show ¬ eM A < csum A (fin A m) from h1)]
theorem RI.next {A : EL} {m : Nat} (h : RI A m) (hm : m < 300) (h1 : ¬ ovr A m) (h2 : ¬ alc A m) : RI A (m + 1) := by
  refine ⟨?_, Or.inr h1⟩
  rw [h.is h1, if_neg (by omega), show 300 - m = 300 - (m + 1) + 1 by omega, rzf_s, if_neg (show ¬ (sl A (fun _ => pu A m) 12).length = eP A from h2), Nat.add_sub_cancel]
theorem RI.here {A : EL} {m : Nat} (h : RI A m) (hm : m ≤ 300) (h1 : ¬ ovr A m) (h2 : alc A m ∨ m = 300) : rz A = m := by
  rw [h.is h1]
  by_cases z : m = 300
  · rw [show 300 - m = 0 by omega]
    rfl
  · rw [show 300 - m = (299 - m) + 1 by omega, rzf_s, if_pos (show (sl A (fun _ => pu A m) 12).length = eP A from h2.resolve_right z)]
theorem RI.back {A : EL} {m : Nat} (h : RI A m) (h1 : ovr A m) : m ≠ 0 ∧ rz A = m - 1 ∧ ¬ ovr A (m - 1) := by
  have z : m ≠ 0 := by
    intro z
    subst z
    exact ovr_0 A h1
  refine ⟨z, ?_, h.2.resolve_left z⟩
  rw [h.1, if_neg z, if_pos (show eM A < csum A (fin A m) from h1)]
theorem RI.zero (A : EL) : RI A 0 := ⟨by rw [if_pos rfl, rz], Or.inl rfl⟩
theorem s_raise {Y : XS} {n : Nat} {S : PS} {p s o : Nat} {A : EL} (hn : 1000 ≤ n) (hp : p + 11 ≤ 235) (ho : o + 8 ≤ 235) (hs : s + 3 ≤ 235) (hpo : p + 11 ≤ o ∨ o + 8 ≤ p) (hps : p + 11 ≤ s ∨ s + 3 ≤ p) (hos : o + 8 ≤ s ∨ s + 3 ≤ o) (hP : SP Y S p) (hA : PV Y S p A) (hS : SH Y S s) (hO : SO Y S o) :
    ok (fX9_raise Y n S s p o) (fun S' => Fr (fun x => x = s + 1 ∨ (o ≤ x ∧ x < o + 8)) S S' ∧ FO S' o A (rz A)) := by
  have a7 := hA.1.2.2.2.2.2.2.2
  have b0 := a7.1
  have b1 := a7.2.1
  have run : ∀ (m : Nat) (T : PS), m ≤ 300 → Fr (fun x => x = s + 1 ∨ (o ≤ x ∧ x < o + 8)) S T → RI A m → ok (jX9_raise_31_2 Y n T s p o (nI m)) (so (fun t => t.1 = nI (m + 1) ∧ Fr (fun x => x = s + 1 ∨ (o ≤ x ∧ x < o + 8)) S t.2 ∧ (m < 300 → RI A (m + 1)) ∧ (m = 300 → FO t.2 o A (rz A))) (fun r => ∃ S', (r = .inl S' ∨ r = .inr S') ∧ Fr (fun x => x = s + 1 ∨ (o ≤ x ∧ x < o + 8)) S S' ∧ FO S' o A (rz A))) := by
    intro m T hm k2 hR
    have hPT : SP Y T p := hP.fr k2.2.1
    have hAT : PV Y T p A := hA.fr k2 (by omega) (by omega)
    have hST : SH Y T s := hS.fr k2.2.1
    have hOT : SO Y T o := hO.fr k2.2.1
    unfold jX9_raise_31_2 jX9_raise_81_2
    refine ok_kc (s_share (by omega) hm hp ho hs hpo hps hos hPT hAT hST hOT) ?_
    rintro U ⟨u1, u2, u3, k, u4, u5, u6⟩
    have fU := k2.tr u1
    have hPU : SP Y U p := hP.fr fU.2.1
    have hAU : PV Y U p A := hA.fr fU (by omega) (by omega)
    have hSU : SH Y U s := hS.fr fU.2.1
    have hOU : SO Y U o := hO.fr fU.2.1
    have gs := u5.2.1.2.2.1
    have gk := u5.2.1.1
    rw [lb_sl] at gs
    rw [sl_len u5.1] at gk
    have g0 := hAU.1.1
    have g1 := hAU.1.2.1
    have hcl := csum_le a7 (bst A (fun _ => pu A m) k).1
    simp (discharger := omega) only [kgi, gs, kgr_n hPU.2.1, g0, nle, gk, g1, neq]
    by_cases hx : csum A (bst A (fun _ => pu A m) k).1 ≤ eM A
    · have u7 := u6.resolve_right (by omega)
      obtain ⟨z1, z2, z3⟩ := at_end (A := A) (k := k) (by omega) u7
      have no : ¬ ovr A m := by unfold ovr fin; rw [z1]; omega
      have hlen : (sl A (fun _ => pu A m) 12).length = k := by rw [z2, sl_len u5.1]
      rw [if_pos hx]
      by_cases hk : k = eP A
      · rw [if_pos hk, ok_some, so_r]
        have hr := hR.here hm no (Or.inl (by unfold alc; omega))
        exact ⟨U, Or.inr rfl, fU, by rw [hr]; exact ⟨u2, u3, k, u4, u5, u7⟩⟩
      · rw [if_neg hk, nI_1, ok_some, so_l]
        refine ⟨rfl, fU, fun h3 => hR.next h3 no (by unfold alc; omega), fun h3 => ?_⟩
        have hr := hR.here hm no (Or.inr h3)
        rw [hr]
        exact ⟨u2, u3, k, u4, u5, u7⟩
    · rw [if_neg hx]
      have yes : ovr A m := by
        have := csum_up (A := A) (b0 := fun _ => pu A m) (k := k) (12 - k)
        rw [show k + (12 - k) = 12 by omega] at this
        unfold ovr fin
        omega
      obtain ⟨m0, hr, no⟩ := hR.back yes
      have em : imax (0 : Int32) (nI m - 1) = nI (m - 1) := by
        rw [show (1 : Int32) = nI 1 from rfl, nsub (by omega), show (0 : Int32) = nI 0 from rfl, nmax (by omega) (by omega), Nat.max_eq_right (by omega)]
      rw [em]
      refine ok_kc (s_share (by omega) (by omega) hp ho hs hpo hps hos hPU hAU hSU hOU) ?_
      rintro W ⟨w1, w2, w3, k', w4, w5, w6⟩
      rw [ok_some, so_r]
      refine ⟨W, Or.inr rfl, fU.tr w1, ?_⟩
      rw [hr]
      refine ⟨w2, w3, k', w4, w5, ?_⟩
      rcases w6 with w6 | w6
      · exact w6
      · exfalso
        apply no
        have := csum_up (A := A) (b0 := fun _ => pu A (m - 1)) (k := k') (12 - k')
        rw [show k' + (12 - k') = 12 by omega] at this
        unfold ovr fin
        omega
  unfold fX9_raise
  refine ok_kc (iter_ok (fun i t => t.1 = nI i ∧ Fr (fun x => x = s + 1 ∨ (o ≤ x ∧ x < o + 8)) S t.2 ∧ (i ≤ 300 → RI A i) ∧ (i = 301 → FO t.2 o A (rz A))) (Q := fun r => ∃ S', (r = .inl S' ∨ r = .inr S') ∧ Fr (fun x => x = s + 1 ∨ (o ≤ x ∧ x < o + 8)) S S' ∧ FO S' o A (rz A)) 301 (fun i t hi h => ?_) (fun t h => ?_) (by omega) ⟨rfl, Fr.rf, fun _ => RI.zero A, fun z => absurd z (by omega)⟩) ?_
  · obtain ⟨t1, T⟩ := t
    obtain ⟨k1, k2, k3, k4⟩ := h
    simp only at k1 k2
    subst k1
    have hPT : SP Y T p := hP.fr k2.2.1
    have hAT : PV Y T p A := hA.fr k2 (by omega) (by omega)
    have hR := k3 (by omega)
    have fix : ∀ {m : Option ((Int32 × PS) ⊕ (PS ⊕ PS))}, ok m (so (fun t => t.1 = nI (i + 1) ∧ Fr (fun x => x = s + 1 ∨ (o ≤ x ∧ x < o + 8)) S t.2 ∧ (i < 300 → RI A (i + 1)) ∧ (i = 300 → FO t.2 o A (rz A))) (fun r => ∃ S', (r = .inl S' ∨ r = .inr S') ∧ Fr (fun x => x = s + 1 ∨ (o ≤ x ∧ x < o + 8)) S S' ∧ FO S' o A (rz A))) → ok m (so (fun t => t.1 = nI (i + 1) ∧ Fr (fun x => x = s + 1 ∨ (o ≤ x ∧ x < o + 8)) S t.2 ∧ (i + 1 ≤ 300 → RI A (i + 1)) ∧ (i + 1 = 301 → FO t.2 o A (rz A))) (fun r => ∃ S', (r = .inl S' ∨ r = .inr S') ∧ Fr (fun x => x = s + 1 ∨ (o ≤ x ∧ x < o + 8)) S S' ∧ FO S' o A (rz A))) := by
      intro m hm
      refine ok_mono hm ?_
      intro r hr
      cases r with
      | inl t => exact ⟨hr.1, hr.2.1, fun z => hr.2.2.1 (by omega), fun z => hr.2.2.2 (by omega)⟩
      | inr r => exact hr
    apply fix
    unfold bX9_raise_2
    simp (discharger := omega) only [show (300 : Int32) = nI 300 from rfl, nlt, nle, if_neg]
    by_cases h3 : 300 ≤ i
    · rw [if_pos h3]
      exact run i T (by omega) k2 hR
    · rw [if_neg h3, s_purseOf hPT hAT.1, kc_s, s_mayEnd (by omega) hPT hAT (pu_le a7 (by omega)), kc_s]
      by_cases hb : meb A (pu A i) = true
      · rw [if_pos hb, if_neg (by decide)]
        exact run i T (by omega) k2 hR
      · rw [if_neg hb, if_pos rfl]
        unfold jX9_raise_81_2
        rw [nI_1, ok_some, so_l]
        obtain ⟨n1, n2⟩ := may_not a7 (by simpa using hb)
        exact ⟨rfl, k2, fun z => hR.next z n1 n2, fun z => absurd z (by omega)⟩
  · obtain ⟨t1, T⟩ := t
    obtain ⟨k1, k2, k3, k4⟩ := h
    simp only at k1 k2 k4
    subst k1
    unfold bX9_raise_2
    simp (discharger := omega) only [show (300 : Int32) = nI 300 from rfl, nlt, if_pos, ok_some, so_r]
    exact ⟨T, Or.inl rfl, k2, k4 trivial⟩
  · rintro r ⟨S', hr, h1, h2⟩
    rcases hr with rfl | rfl
    · exact ok_i ⟨h1, h2⟩
    · exact ok_i ⟨h1, h2⟩
theorem s_paidBy {Y : XS} {n : Nat} {S : PS} {o v q B : Nat} {x : Int32} (hO : SO Y S o) (hB : gi S o 5 = nI B) (hB2 : B < 2147483648) (hq : q < 12) (hv : v < 24) (hx : B.testBit q = true → gi S (o + 2) (q * 24 + v) = x) : fX5_paidBy Y n S o (nI v) (nI q) = some (if B.testBit q = true then x else nI 0) := by
  have l2 := hO.2.2.2.2.2.2.2.2.1
  unfold fX5_paidBy jX5_paidBy_26
  rw [kgi_n, hB, s_isIn hB2 (by omega), kc_s]
  by_cases hb : B.testBit q = true
  · rw [if_pos hb, if_neg (by decide), kgr_n hO.2.1, show (24 : Int32) = nI 24 from rfl, nmul, nI_add, kai_n (by omega) (by omega), hx hb, if_pos hb]
  · rw [if_neg hb, if_pos rfl, if_neg hb]
    rfl
/-- what the v-th voter pays in the i-th step -/
noncomputable def itk (A : EL) (b0 : Nat → Nat) (i v : Nat) : Nat := match sq A b0 i with
  | none => 0
  | some q => its (bst A b0 i).2 (wo A q) (spr A b0 i q) (eC A q * 1000) v
theorem bst_back {A : EL} {b0 : Nat → Nat} {i v : Nat} : (bst A b0 (i + 1)).2 v + itk A b0 i v = (bst A b0 i).2 v := by
  unfold itk
  cases h : sq A b0 i with
  | none => rw [bst_0 h]; rfl
  | some q =>
    rw [bst_s h]
    have := (its_le (bst A b0 i).2 (wo A q) (spr A b0 i q) (eC A q * 1000) v).1
    show pay _ _ _ _ v + its _ _ _ _ v = _
    unfold pay
    omega
theorem bst_dn {A : EL} {b0 : Nat → Nat} {k v : Nat} : ∀ d, (bst A b0 (k + d)).2 v ≤ (bst A b0 k).2 v
  | 0 => Nat.le_refl _
  | d + 1 => by
    have h1 := bst_dn (A := A) (b0 := b0) (k := k) (v := v) d
    have h2 := bst_back (A := A) (b0 := b0) (i := k + d) (v := v)
    rw [← Nat.add_assoc]
    omega
theorem s_giveBack {Y : XS} {n : Nat} {S : PS} {p s o q i z : Nat} {A : EL} {b0 f : Nat → Nat} (hn : 100 ≤ n) (hp : p + 11 ≤ 235) (ho : o + 8 ≤ 235) (hs : s + 3 ≤ 235) (hps : p + 11 ≤ s ∨ s + 3 ≤ p) (hos : o + 8 ≤ s ∨ s + 3 ≤ o) (hP : SP Y S p) (hA : PV Y S p A) (hS : SH Y S s) (hO : SO Y S o) (h : ShO S o A b0 z) (hi : i < z) (hq : sq A b0 i = some q) (hf : ∀ v, v < eV A → gi S (s + 2) v = nI (f v)) :
    ok (fX9_giveBack Y n S s p o (nI q)) (fun S' => Fr (fun x => x = s + 2) S S' ∧ ∀ v, v < eV A → gi S' (s + 2) v = nI (f v + itk A b0 i v)) := by
  have a7 := hA.1.2.2.2.2.2.2.2
  have b1 := a7.2.1
  have b2 := a7.2.2.1
  have l2 := hS.2.2.2
  obtain ⟨q1, q2, q3⟩ := nxt_some hq
  have hit : ∀ v, itk A b0 i v = its (bst A b0 i).2 (wo A q) (spr A b0 i q) (eC A q * 1000) v := by
    intro v
    unfold itk
    rw [hq]
  unfold fX9_giveBack
  refine ok_kc (iter_ok (fun j t => t.1 = nI j ∧ Fr (fun x => x = s + 2) S t.2 ∧ ∀ v, v < eV A → gi t.2 (s + 2) v = nI (if v < j then f v + itk A b0 i v else f v)) (Q := fun S' => Fr (fun x => x = s + 2) S S' ∧ ∀ v, v < eV A → gi S' (s + 2) v = nI (f v + itk A b0 i v)) (eV A) (fun j t hj h1 => ?_) (fun t h1 => ?_) (by omega) ⟨rfl, Fr.rf, fun v hv => by rw [if_neg (by omega)]; exact hf v hv⟩) (fun r h => ok_i h)
  · obtain ⟨t1, T⟩ := t
    obtain ⟨k1, k2, k3⟩ := h1
    simp only at k1 k2 k3
    subst k1
    have hPT : SP Y T p := hP.fr k2.2.1
    have hAT : PV Y T p A := hA.fr k2 (by omega) (by omega)
    have hST : SH Y T s := hS.fr k2.2.1
    have hOT : SO Y T o := hO.fr k2.2.1
    have hT : ShO T o A b0 z := h.fr k2 (by omega)
    have gV := hAT.1.2.2.1
    have hx := k3 j hj
    rw [if_neg (by omega)] at hx
    have hlt : (bst A b0 z).1 < 2147483648 := by
      have := (sl_gl (A := A) (b0 := b0) z).lt a7
      rw [lb_sl] at this
      omega
    have hpb := s_paidBy (Y := Y) (n := n) (x := nI (itk A b0 i j)) hOT hT.2.2.1 hlt (show q < 12 by omega) (show j < 24 by omega) (fun _ => by rw [hit]; exact (hT.2.2.2.2 i q hi hq).2.2.2 j hj)
    unfold bX9_giveBack_3
    simp (discharger := omega) only [kgr_n hPT.2.1, kgi, gV, nle, if_neg, kgr_n hST.2.1, kai_n, hx]
    rw [hpb, kc_s, if_pos (bst_in hi hq), kwi_n (by omega) (by omega), nI_add, nI_1, ok_some, so_l]
    refine ⟨rfl, k2.si rfl, fun v hv => ?_⟩
    rw [Gi_si]
    by_cases e : v = j
    · rw [if_pos ⟨rfl, e⟩, if_pos (by omega), e]
    · rw [if_neg (fun y => e y.2), k3 v hv]
      by_cases y : v < j
      · rw [if_pos y, if_pos (by omega)]
      · rw [if_neg y, if_neg (by omega)]
  · obtain ⟨t1, T⟩ := t
    obtain ⟨k1, k2, k3⟩ := h1
    simp only at k1 k2 k3
    subst k1
    have hPT : SP Y T p := hP.fr k2.2.1
    have hAT : PV Y T p A := hA.fr k2 (by omega) (by omega)
    have gV := hAT.1.2.2.1
    unfold bX9_giveBack_3
    simp (discharger := omega) only [kgr_n hPT.2.1, kgi, gV, nle, if_pos, ok_some, so_r]
    exact ⟨k2, fun v hv => by rw [k3 v hv, if_pos hv]⟩
