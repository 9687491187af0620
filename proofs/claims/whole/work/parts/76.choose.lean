/-! THE NINE RULES: what each chooses; choose. -/
/-- how often purses are raised by a rule -/
noncomputable def rd (A : EL) (r : Nat) : Nat := if r = 2 ∨ r = 3 then rz A else 0
noncomputable def RLs (A : EL) (r : Nat) : List Nat :=
  if r = 0 then sl A (fun _ => pu A 0) 12
  else if r = 1 then flz A false (sl A (fun _ => pu A 0) 12)
  else if r = 2 then sl A (fun _ => pu A (rz A)) 12
  else if r = 3 then flz A false (sl A (fun _ => pu A (rz A)) 12)
  else if r = 4 then flz A false []
  else if r = 5 then flz A true []
  else if r = 6 then sel (bq A false (2 ^ eP A)) (eP A)
  else if r = 7 then sel (bq A true (2 ^ eP A)) (eP A)
  else tml A
theorem rd_le (A : EL) (r : Nat) : rd A r ≤ 300 := by
  unfold rd
  split
  · exact rz_le A
  · omega
/-- what was paid by shares -/
def SPt (S : PS) (o : Nat) (A : EL) (b0 : Nat → Nat) : Prop := gi S o 5 = nI (bst A b0 12).1 ∧ (∀ v, v < eV A → gi S (o + 3) v = nI ((bst A b0 12).2 v)) ∧ ∀ i q, i < 12 → sq A b0 i = some q → ∀ v, v < eV A → gi S (o + 2) (q * 24 + v) = nI (itk A b0 i v)
theorem itk_eq {A : EL} {b0 : Nat → Nat} {i q v : Nat} (h : sq A b0 i = some q) : itk A b0 i v = its (bst A b0 i).2 (wo A q) (spr A b0 i q) (eC A q * 1000) v := by
  unfold itk
  rw [h]
theorem ShO.spt {S : PS} {o k : Nat} {A : EL} {b0 : Nat → Nat} (hk : k ≤ 12) (h : ShO S o A b0 k) (he : sq A b0 k = none) : OC S o A (sl A b0 12) ∧ SPt S o A b0 := by
  obtain ⟨z1, z2, z3⟩ := at_end hk he
  obtain ⟨h1, h2, h3, h4, h5⟩ := h
  refine ⟨by rw [z2]; exact h2, by rw [z1]; exact h3, fun v hv => by rw [z1]; exact h4 v hv, fun i q hi hq v hv => ?_⟩
  rw [itk_eq hq]
  have hik : i < k := by
    by_cases z : i < k
    · exact z
    · have := (sq_stay he (i - k)).1
      rw [show k + (i - k) = i by omega, hq] at this
      cases this
  exact (h5 i q hik hq).2.2.2 v hv
theorem share_end {S : PS} {o k : Nat} {A : EL} (hk : k ≤ 12) (h : sq A (fun _ => pu A 0) k = none ∨ eM A < csum A (bst A (fun _ => pu A 0) k).1) : sq A (fun _ => pu A 0) k = none := by
  rcases h with h | h
  · exact h
  · exfalso
    apply ovr_0 A
    have := csum_up (A := A) (b0 := fun _ => pu A 0) (k := k) (12 - k)
    rw [show k + (12 - k) = 12 by omega] at this
    unfold ovr fin
    omega
/-- an outcome that holds what a rule gives -/
def ORr (S : PS) (o : Nat) (A : EL) (r : Nat) : Prop := OC S o A (RLs A r) ∧ gi S o 4 = nI (rd A r) ∧ (gi S o 11 = nI 0 ∨ (gi S o 11 = nI 1 ∧ GF S (o + 7) A (lb (RLs A r)) (2 ^ eP A))) ∧ (r ≤ 3 → SPt S o A (fun _ => pu A (rd A r))) ∧ (r = 0 → ∃ k, k ≤ eP A ∧ ShO S o A (fun _ => pu A 0) k ∧ sq A (fun _ => pu A 0) k = none)
theorem SPt.fr {S S' : PS} {M : Nat → Prop} {o : Nat} {A : EL} {b0 : Nat → Nat} (h : SPt S o A b0) (hf : Fr M S S') (h2 : ¬ M (o + 2)) (h3 : ¬ M (o + 3)) (h5 : gi S' o 5 = gi S o 5) : SPt S' o A b0 :=
  ⟨h5.trans h.1, fun v hv => by rw [hf.gi h3]; exact h.2.1 v hv, fun i q hi hq v hv => by rw [hf.gi h2]; exact h.2.2 i q hi hq v hv⟩
def SCh (Y : XS) (S : PS) (c : Nat) : Prop := gr S c 0 = some (c + 1) ∧ gr S c 1 = some (c + 4) ∧ gr S c 2 = some (c + 10) ∧ ln Y (c + 10) = 24 ∧ SH Y S (c + 1) ∧ SR Y S (c + 4)
theorem SCh.fr {Y : XS} {S S' : PS} {c : Nat} (h : SCh Y S c) (hf : S'.2.2 = S.2.2) : SCh Y S' c := by
  obtain ⟨h1, h2, h3, h4, h5, h6⟩ := h
  refine ⟨?_, ?_, ?_, h4, h5.fr hf, h6.fr hf⟩ <;> (unfold gr at *; rw [hf]; assumption)
theorem ZS.fr {S S' : PS} {M : Nat → Prop} {s : Nat} (h : ZS S s) (hf : Fr M S S') (hd : ∀ b, s ≤ b → b < s + 6 → ¬ M b) : ZS S' s := by
  obtain ⟨z1, z2, z3, z4, z5⟩ := h
  exact ⟨by rw [hf.gi (hd _ (by omega) (by omega))]; exact z1, by rw [hf.gi (hd _ (by omega) (by omega))]; exact z2, fun v hv => by rw [hf.gi (hd _ (by omega) (by omega))]; exact z3 v hv, by rw [hf.gi (hd _ (by omega) (by omega))]; exact z4, fun v hv => by rw [hf.gi (hd _ (by omega) (by omega))]; exact z5 v hv⟩
theorem s_choose {Y : XS} {n : Nat} {S : PS} {c p o r : Nat} {A : EL} (hn : 10000 ≤ n) (hp : p + 11 ≤ 235) (ho : o + 8 ≤ 235) (hcc : c + 11 ≤ 235) (hpo : p + 11 ≤ o ∨ o + 8 ≤ p) (hpc : p + 11 ≤ c ∨ c + 11 ≤ p) (hoc : o + 8 ≤ c ∨ c + 11 ≤ o) (hP : SP Y S p) (hA : PV Y S p A) (hO : SO Y S o) (hC : SCh Y S c) (hZ : ZS S (c + 4)) (hr : r < 9) :
    ok (fX0_choose Y n S c (nI r) p o) (fun S' => Fr (fun x => (c + 1 ≤ x ∧ x < c + 11) ∨ (o ≤ x ∧ x < o + 8)) S S' ∧ ZS S' (c + 4) ∧ ORr S' o A r ∧ gi S' o 11 = nI 0) := by
  have a7 := hA.1.2.2.2.2.2.2.2
  have b1 := a7.2.1
  have hN := p12 b1
  have hC0 := hC
  unfold fX0_choose
  refine ok_kc (s_oclear (A := A)) ?_
  rintro S1 ⟨f1, c1, c2, c3, c4⟩
  have f1' : Fr (fun x => (c + 1 ≤ x ∧ x < c + 11) ∨ (o ≤ x ∧ x < o + 8)) S S1 := f1.mono (by omega)
  have hP1 : SP Y S1 p := hP.fr f1.2.1
  have hA1 : PV Y S1 p A := hA.fr f1 (by omega) (by omega)
  have hO1 : SO Y S1 o := hO.fr f1.2.1
  have hC1 : SCh Y S1 c := hC0.fr f1.2.1
  have hZ1 : ZS S1 (c + 4) := hZ.fr f1 (by omega)
  have lits : (0 : Int32) = nI 0 ∧ (1 : Int32) = nI 1 ∧ (2 : Int32) = nI 2 ∧ (3 : Int32) = nI 3 ∧ (4 : Int32) = nI 4 ∧ (5 : Int32) = nI 5 ∧ (6 : Int32) = nI 6 ∧ (7 : Int32) = nI 7 := ⟨rfl, rfl, rfl, rfl, rfl, rfl, rfl, rfl⟩
  -- the shares, then what is filled up
  have fillS : ∀ (m : Nat) (T : PS), Fr (fun x => (c + 1 ≤ x ∧ x < c + 11) ∨ (o ≤ x ∧ x < o + 8)) S T → ZS T (c + 4) → OC T o A (sl A (fun _ => pu A m) 12) → SPt T o A (fun _ => pu A m) → gi T o 4 = nI m → gi T o 11 = nI 0 → ok (fX0_fillUp Y n T c p o (0 : Int32)) (fun S' => Fr (fun x => (c + 1 ≤ x ∧ x < c + 11) ∨ (o ≤ x ∧ x < o + 8)) S S' ∧ ZS S' (c + 4) ∧ OC S' o A (flz A false (sl A (fun _ => pu A m) 12)) ∧ SPt S' o A (fun _ => pu A m) ∧ gi S' o 4 = nI m ∧ gi S' o 11 = nI 0) := by
    intro m T k1 k2 k3 k4 k5 k6
    have h := s_fillUp (n := n) (a := c) (bc := false) (by omega) hp ho hpo (hP.fr k1.2.1) (hA.fr k1 (by omega) (by omega)) (hO.fr k1.2.1) k3
    refine ok_mono h ?_
    rintro U ⟨u1, u2, u3⟩
    refine ⟨k1.tr (u1.mono (by omega)), k2.fr u1 (by omega), u2, k4.fr u1 (by omega) (by omega) (u3 5 (by decide) (by decide) (by decide)), ?_, ?_⟩
    · rw [u3 4 (by decide) (by decide) (by decide)]; exact k5
    · rw [u3 11 (by decide) (by decide) (by decide)]; exact k6
  have sh0 : ok (fX9_share Y n S1 (c + 1) p o (nI 0)) (fun T => Fr (fun x => (c + 1 ≤ x ∧ x < c + 11) ∨ (o ≤ x ∧ x < o + 8)) S T ∧ ZS T (c + 4) ∧ gi T o 4 = nI 0 ∧ gi T o 11 = nI 0 ∧ ∃ k, k ≤ eP A ∧ ShO T o A (fun _ => pu A 0) k ∧ sq A (fun _ => pu A 0) k = none) := by
    refine ok_mono (s_share (m := 0) (by omega) (by omega) hp ho (by omega) hpo (by omega) (by omega) hP1 hA1 hC1.2.2.2.2.1 hO1) ?_
    rintro T ⟨k1, k2, k3, k, k4, k5, k6⟩
    exact ⟨f1'.tr (k1.mono (by omega)), hZ1.fr k1 (by omega), k2, k3, k, k4, k5, share_end (S := T) (o := o) (by omega) k6⟩
  have ra : ok (fX9_raise Y n S1 (c + 1) p o) (fun T => Fr (fun x => (c + 1 ≤ x ∧ x < c + 11) ∨ (o ≤ x ∧ x < o + 8)) S T ∧ ZS T (c + 4) ∧ gi T o 4 = nI (rz A) ∧ gi T o 11 = nI 0 ∧ OC T o A (sl A (fun _ => pu A (rz A)) 12) ∧ SPt T o A (fun _ => pu A (rz A))) := by
    refine ok_mono (s_raise (by omega) hp ho (by omega) hpo (by omega) (by omega) hP1 hA1 hC1.2.2.2.2.1 hO1) ?_
    rintro T ⟨k1, k2, k3, k, k4, k5, k6⟩
    obtain ⟨y1, y2⟩ := k5.spt (by omega) k6
    exact ⟨f1'.tr (k1.mono (by omega)), hZ1.fr k1 (by omega), k2, k3, y1, y2⟩
  have greedy : ∀ bc : Bool, ok (fX0_fillUp Y n S1 c p o (if bc = true then 1 else 0)) (fun S' => Fr (fun x => (c + 1 ≤ x ∧ x < c + 11) ∨ (o ≤ x ∧ x < o + 8)) S S' ∧ ZS S' (c + 4) ∧ OC S' o A (flz A bc []) ∧ gi S' o 4 = nI 0 ∧ gi S' o 11 = nI 0) := by
    intro bc
    refine ok_mono (s_fillUp (n := n) (a := c) (bc := bc) (by omega) hp ho hpo hP1 hA1 hO1 c1) ?_
    rintro U ⟨u1, u2, u3⟩
    refine ⟨f1'.tr (u1.mono (by omega)), hZ1.fr u1 (by omega), u2, ?_, ?_⟩
    · rw [u3 4 (by decide) (by decide) (by decide)]; exact c2
    · rw [u3 11 (by decide) (by decide) (by decide)]; exact c4
  have most : ∀ wf : Bool, ok (kc (fX8_bestSet Y n S1 (c + 4) p (if wf = true then 1 else 0)) (fun q => fX0_addAll Y n q.2 p o q.1)) (fun S' => Fr (fun x => (c + 1 ≤ x ∧ x < c + 11) ∨ (o ≤ x ∧ x < o + 8)) S S' ∧ ZS S' (c + 4) ∧ OC S' o A (sel (bq A wf (2 ^ eP A)) (eP A)) ∧ gi S' o 4 = nI 0 ∧ gi S' o 11 = nI 0) := by
    intro wf
    refine ok_kc (s_bestSet (by omega) hp (by omega) (by omega) hP1 hA1 hC1.2.2.2.2.2 hZ1) ?_
    rintro ⟨x, T⟩ ⟨k1, k2, k3⟩
    simp only at k1 k2 k3
    subst k1
    have hb : bq A wf (2 ^ eP A) < 4096 + 1 := by have := bq_le A wf (2 ^ eP A); omega
    have hb2 : bq A wf (2 ^ eP A) < 2 ^ eP A := by
      have : ∀ s, 0 < s → bq A wf s < s := by
        intro s
        induction s with
        | zero => intro h; omega
        | succ s ih =>
          intro _
          rw [bq_s]
          split
          · omega
          · have := bq_le A wf s; omega
      exact this _ (Nat.two_pow_pos _)
    have kO : OC T o A [] := c1.fr k2 (by omega) (by omega)
    refine ok_mono (s_addAll (by omega) hp ho hpo (hP1.fr k2.2.1) (hA1.fr k2 (by omega) (by omega)) (hO1.fr k2.2.1) kO (by omega)) ?_
    rintro U ⟨u1, u2, u3⟩
    refine ⟨(f1'.tr (k2.mono (by omega))).tr (u1.mono (by omega)), k3.fr u1 (by omega), u2, ?_, ?_⟩
    · rw [u3 4 (by decide) (by decide) (by decide), k2.gi (by omega)]; exact c2
    · rw [u3 11 (by decide) (by decide) (by decide), k2.gi (by omega)]; exact c4
  have cases9 : r = 0 ∨ r = 1 ∨ r = 2 ∨ r = 3 ∨ r = 4 ∨ r = 5 ∨ r = 6 ∨ r = 7 ∨ r = 8 := by omega
  have tail : ∀ (T : PS), Fr (fun x => (c + 1 ≤ x ∧ x < c + 11) ∨ (o ≤ x ∧ x < o + 8)) S T ∧ ZS T (c + 4) ∧ ORr T o A r ∧ gi T o 11 = nI 0 → ok (jX0_choose_176 Y n T) (fun S' => Fr (fun x => (c + 1 ≤ x ∧ x < c + 11) ∨ (o ≤ x ∧ x < o + 8)) S S' ∧ ZS S' (c + 4) ∧ ORr S' o A r ∧ gi S' o 11 = nI 0) := fun T h => ok_i h
  rcases cases9 with rfl | rfl | rfl | rfl | rfl | rfl | rfl | rfl | rfl
  · rw [if_pos (by decide), kgr_n hC1.1]
    refine ok_kc sh0 ?_
    rintro T ⟨k1, k2, k3, k4, k, k5, k6, k7⟩
    obtain ⟨y1, y2⟩ := k6.spt (by omega) k7
    exact tail T ⟨k1, k2, ⟨y1, k3, Or.inl k4, fun _ => y2, fun _ => ⟨k, k5, k6, k7⟩⟩, k4⟩
  · rw [if_neg (by decide), if_pos (by decide), kgr_n hC1.1]
    refine ok_kc sh0 ?_
    rintro T ⟨k1, k2, k3, k4, k, k5, k6, k7⟩
    obtain ⟨y1, y2⟩ := k6.spt (by omega) k7
    refine ok_kc (fillS 0 T k1 k2 y1 y2 k3 k4) ?_
    rintro U ⟨u1, u2, u3, u4, u5, u6⟩
    exact tail U ⟨u1, u2, ⟨u3, u5, Or.inl u6, fun _ => u4, fun h => by cases h⟩, u6⟩
  · rw [if_neg (by decide), if_neg (by decide), if_pos (by decide), kgr_n hC1.1]
    refine ok_kc ra ?_
    rintro T ⟨k1, k2, k3, k4, y1, y2⟩
    exact tail T ⟨k1, k2, ⟨y1, k3, Or.inl k4, fun _ => y2, fun h => by cases h⟩, k4⟩
  · rw [if_neg (by decide), if_neg (by decide), if_neg (by decide), if_pos (by decide), kgr_n hC1.1]
    refine ok_kc ra ?_
    rintro T ⟨k1, k2, k3, k4, y1, y2⟩
    refine ok_kc (fillS (rz A) T k1 k2 y1 y2 k3 k4) ?_
    rintro U ⟨u1, u2, u3, u4, u5, u6⟩
    exact tail U ⟨u1, u2, ⟨u3, u5, Or.inl u6, fun _ => u4, fun h => by cases h⟩, u6⟩
  · rw [if_neg (by decide), if_neg (by decide), if_neg (by decide), if_neg (by decide), if_pos (by decide)]
    refine ok_kc (greedy false) ?_
    rintro U ⟨u1, u2, u3, u4, u5⟩
    exact tail U ⟨u1, u2, ⟨u3, u4, Or.inl u5, fun h => absurd h (by decide), fun h => by cases h⟩, u5⟩
  · rw [if_neg (by decide), if_neg (by decide), if_neg (by decide), if_neg (by decide), if_neg (by decide), if_pos (by decide)]
    refine ok_kc (greedy true) ?_
    rintro U ⟨u1, u2, u3, u4, u5⟩
    exact tail U ⟨u1, u2, ⟨u3, u4, Or.inl u5, fun h => absurd h (by decide), fun h => by cases h⟩, u5⟩
  · rw [if_neg (by decide), if_neg (by decide), if_neg (by decide), if_neg (by decide), if_neg (by decide), if_neg (by decide), if_pos (by decide), kgr_n hC1.2.1]
    obtain ⟨T, h1, u1, u2, u3, u4, u5⟩ := most false
    have h1' : kc (fX8_bestSet Y n S1 (c + 4) p 0) (fun q => fX0_addAll Y n q.2 p o q.1) = some T := h1
    obtain ⟨q, hq, hq2⟩ := kc_some h1'
    rw [hq, kc_s, hq2, kc_s]
    exact tail T ⟨u1, u2, ⟨u3, u4, Or.inl u5, fun h => absurd h (by decide), fun h => by cases h⟩, u5⟩
  · rw [if_neg (by decide), if_neg (by decide), if_neg (by decide), if_neg (by decide), if_neg (by decide), if_neg (by decide), if_neg (by decide), if_pos (by decide), kgr_n hC1.2.1]
    obtain ⟨T, h1, u1, u2, u3, u4, u5⟩ := most true
    have h1' : kc (fX8_bestSet Y n S1 (c + 4) p 1) (fun q => fX0_addAll Y n q.2 p o q.1) = some T := h1
    obtain ⟨q, hq, hq2⟩ := kc_some h1'
    rw [hq, kc_s, hq2, kc_s]
    exact tail T ⟨u1, u2, ⟨u3, u4, Or.inl u5, fun h => absurd h (by decide), fun h => by cases h⟩, u5⟩
  · rw [if_neg (by decide), if_neg (by decide), if_neg (by decide), if_neg (by decide), if_neg (by decide), if_neg (by decide), if_neg (by decide), if_neg (by decide)]
    refine ok_kc (s_keepTime (by omega) hp ho hcc hpo hpc hoc hP1 hA1 hO1 hC1.2.2.1 hC1.2.2.2.1 c1) ?_
    rintro U ⟨u1, u2, u3⟩
    have u4 : gi U o 4 = nI 0 := by rw [u3 4 (by decide) (by decide) (by decide)]; exact c2
    have u5 : gi U o 11 = nI 0 := by rw [u3 11 (by decide) (by decide) (by decide)]; exact c4
    exact tail U ⟨f1'.tr (u1.mono (by omega)), hZ1.fr u1 (by omega), ⟨u2, u4, Or.inl u5, fun h => absurd h (by decide), fun h => by cases h⟩, u5⟩
