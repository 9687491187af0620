/-! constructors -/
def AG (ρ : Nat → Nat) (Y : XS) (ρ' : Nat → Nat) (Y' : XS) : Prop := ∀ a k, Ty Y a k → ρ' a = ρ a ∧ Ty Y' a k
theorem AG.refl (ρ : Nat → Nat) (Y : XS) : AG ρ Y ρ Y := fun _ _ h => ⟨rfl, h⟩
theorem AG.new {ρ ρ1 ρ2 : Nat → Nat} {Y Y1 Y2 : XS} (h : AG ρ Y ρ1 Y1) (hag : ∀ a k, Ty Y1 a k → ρ2 a = ρ1 a) (hup : ∀ a k, Ty Y1 a k → Ty Y2 a k) : AG ρ Y ρ2 Y2 := fun a k q => ⟨(hag a k (h a k q).2).trans (h a k q).1, hup a k (h a k q).2⟩
theorem AG.trans {ρ ρ1 ρ2 : Nat → Nat} {Y Y1 Y2 : XS} (h : AG ρ Y ρ1 Y1) (hag : ∀ a k, Ty Y1 a k → ρ2 a = ρ1 a ∧ Ty Y2 a k) : AG ρ Y ρ2 Y2 := fun a k q => ⟨(hag a k (h a k q).2).1.trans (h a k q).1, (hag a k (h a k q).2).2⟩
-- X1_init
theorem dX1_init_0 : decode cX1_init 0 = .ok (.aload_n 0, 1) := by decide +kernel
theorem dX1_init_1 : decode cX1_init 1 = .ok (.invokespecial 3, 3) := by decide +kernel
theorem dX1_init_4 : decode cX1_init 4 = .ok (.aload_n 0, 1) := by decide +kernel
theorem dX1_init_5 : decode cX1_init 5 = .ok (.iconst 0, 1) := by decide +kernel
theorem dX1_init_6 : decode cX1_init 6 = .ok (.putfield 9, 3) := by decide +kernel
theorem dX1_init_9 : decode cX1_init 9 = .ok (.aload_n 0, 1) := by decide +kernel
theorem dX1_init_10 : decode cX1_init 10 = .ok (.iconst 0, 1) := by decide +kernel
theorem dX1_init_11 : decode cX1_init 11 = .ok (.putfield 15, 3) := by decide +kernel
theorem dX1_init_14 : decode cX1_init 14 = .ok (.aload_n 0, 1) := by decide +kernel
theorem dX1_init_15 : decode cX1_init 15 = .ok (.iconst 0, 1) := by decide +kernel
theorem dX1_init_16 : decode cX1_init 16 = .ok (.putfield 18, 3) := by decide +kernel
theorem dX1_init_19 : decode cX1_init 19 = .ok (.aload_n 0, 1) := by decide +kernel
theorem dX1_init_20 : decode cX1_init 20 = .ok (.aconst_null, 1) := by decide +kernel
theorem dX1_init_21 : decode cX1_init 21 = .ok (.putfield 21, 3) := by decide +kernel
theorem dX1_init_24 : decode cX1_init 24 = .ok (.aload_n 0, 1) := by decide +kernel
theorem dX1_init_25 : decode cX1_init 25 = .ok (.bipush 12, 2) := by decide +kernel
theorem dX1_init_27 : decode cX1_init 27 = .ok (.newarray .int, 2) := by decide +kernel
theorem dX1_init_29 : decode cX1_init 29 = .ok (.putfield 25, 3) := by decide +kernel
theorem dX1_init_32 : decode cX1_init 32 = .ok (.aload_n 0, 1) := by decide +kernel
theorem dX1_init_33 : decode cX1_init 33 = .ok (.bipush 72, 2) := by decide +kernel
theorem dX1_init_35 : decode cX1_init 35 = .ok (.newarray .int, 2) := by decide +kernel
theorem dX1_init_37 : decode cX1_init 37 = .ok (.putfield 29, 3) := by decide +kernel
theorem dX1_init_40 : decode cX1_init 40 = .ok (.aload_n 0, 1) := by decide +kernel
theorem dX1_init_41 : decode cX1_init 41 = .ok (.sipush 288, 3) := by decide +kernel
theorem dX1_init_44 : decode cX1_init 44 = .ok (.newarray .int, 2) := by decide +kernel
theorem dX1_init_46 : decode cX1_init 46 = .ok (.putfield 32, 3) := by decide +kernel
theorem dX1_init_49 : decode cX1_init 49 = .ok (.return_, 1) := by decide +kernel
def fX1_init (Y : XS) (n : Nat) (S : PS) (a0 : Nat) : Option (XS × PS) :=
  kpi S a0 0 (0 : Int32) (fun S5 => kpi S5 a0 1 (0 : Int32) (fun S8 => kpi S8 a0 2 (0 : Int32) (fun S11 => kpr S11 a0 3 none (fun S14 => kna Y S14 12 (12 : Int32) (fun Y1 Sn1 n1 => kpr Sn1 a0 4 (some n1) (fun S18 => kna Y1 S18 12 (72 : Int32) (fun Y2 Sn2 n2 => kpr Sn2 a0 5 (some n2) (fun S22 => kna Y2 S22 12 (288 : Int32) (fun Y3 Sn3 n3 => kpr Sn3 a0 6 (some n3) (fun S26 => some (Y3, S26)))))))))))
theorem wX1_init {C : CT} {ρ : Nat → Nat} {Y : XS} (hC : CK C RX1 cX1_init 1 none 1) (hI : CI C) (n : Nat) (S : PS) (a0 : Nat) (hTa0 : Ty Y a0 1) {o : XS × PS} (hf : fX1_init Y n S a0 = some o) (hB : XB C (ρ, Y, 0, 0) 3 372) (hR : RtA C ρ Y cX1_init none 3 372 (fun _ => none) o.2 o.1) : UW C (ρ, Y, 0, 0) S 0 [(0, .ref (ρ a0))] [] := by
  unfold fX1_init at hf
  have hAG := AG.refl ρ Y
  refine u_aload_n hC dX1_init_0 0 rfl rfl ?_
  refine u_oinit (a := a0) hC (tb_1 45 rfl rfl) (by decide) (Nat.le_of_ble_eq_true rfl) dX1_init_1 ?_
  refine u_aload_n hC dX1_init_4 0 rfl rfl ?_
  refine u_iconst (v := (0 : Int32)) hC dX1_init_5 (by decide) ?_
  refine u_pi hC lf_X1_9 rfl rfl rfl hTa0 dX1_init_6 hf (fun S5 hf => ?_)
  refine u_aload_n hC dX1_init_9 0 rfl rfl ?_
  refine u_iconst (v := (0 : Int32)) hC dX1_init_10 (by decide) ?_
  refine u_pi hC lf_X1_15 rfl rfl rfl hTa0 dX1_init_11 hf (fun S8 hf => ?_)
  refine u_aload_n hC dX1_init_14 0 rfl rfl ?_
  refine u_iconst (v := (0 : Int32)) hC dX1_init_15 (by decide) ?_
  refine u_pi hC lf_X1_18 rfl rfl rfl hTa0 dX1_init_16 hf (fun S11 hf => ?_)
  refine u_aload_n hC dX1_init_19 0 rfl rfl ?_
  refine u_null hC dX1_init_20 ?_
  refine u_pr (r := none) hC lf_X1_21 rfl rfl rfl hTa0 dX1_init_21 (fun b h => nomatch h) hf (fun S14 hf => ?_)
  refine u_aload_n hC dX1_init_24 0 rfl rfl ?_
  refine u_bipush (v := (12 : Int32)) hC dX1_init_25 (by decide) ?_
  refine u_newi (N := 12) hC (by decide) (by decide) (hB.at (Nat.le_of_ble_eq_true rfl) (Nat.le_of_ble_eq_true rfl)) dX1_init_27 hf (fun ρ1 Y1 Sn1 n1 hag hup hTn1 hf => ?_)
  replace hag : ∀ a k, Ty Y a k → ρ1 a = ρ a := hag
  replace hup : ∀ a k, Ty Y a k → Ty Y1 a k := hup
  show UW C (ρ1, Y1, 0 + 1, 0 + 12) Sn1 _ _ _
  show UW C (ρ1, Y1, 1, 12) Sn1 _ _ _
  rw [← hag a0 _ hTa0]
  have hTa0 := hup _ _ hTa0
  have hAG := AG.new hAG hag hup
  refine u_prF hC hI lf_X1_25 rfl rfl rfl rfl hTa0 hTn1 dX1_init_29 hf (fun S18 hf => ?_)
  refine u_aload_n hC dX1_init_32 0 rfl rfl ?_
  refine u_bipush (v := (72 : Int32)) hC dX1_init_33 (by decide) ?_
  refine u_newi (N := 72) hC (by decide) (by decide) (hB.at (Nat.le_of_ble_eq_true rfl) (Nat.le_of_ble_eq_true rfl)) dX1_init_35 hf (fun ρ2 Y2 Sn2 n2 hag hup hTn2 hf => ?_)
  replace hag : ∀ a k, Ty Y1 a k → ρ2 a = ρ1 a := hag
  replace hup : ∀ a k, Ty Y1 a k → Ty Y2 a k := hup
  show UW C (ρ2, Y2, 1 + 1, 12 + 72) Sn2 _ _ _
  show UW C (ρ2, Y2, 2, 84) Sn2 _ _ _
  rw [← hag a0 _ hTa0]
  have hTa0 := hup _ _ hTa0
  have hAG := AG.new hAG hag hup
  refine u_prF hC hI lf_X1_29 rfl rfl rfl rfl hTa0 hTn2 dX1_init_37 hf (fun S22 hf => ?_)
  refine u_aload_n hC dX1_init_40 0 rfl rfl ?_
  refine u_sipush (v := (288 : Int32)) hC dX1_init_41 (by decide) ?_
  refine u_newi (N := 288) hC (by decide) (by decide) (hB.at (Nat.le_of_ble_eq_true rfl) (Nat.le_of_ble_eq_true rfl)) dX1_init_44 hf (fun ρ3 Y3 Sn3 n3 hag hup hTn3 hf => ?_)
  replace hag : ∀ a k, Ty Y2 a k → ρ3 a = ρ2 a := hag
  replace hup : ∀ a k, Ty Y2 a k → Ty Y3 a k := hup
  show UW C (ρ3, Y3, 2 + 1, 84 + 288) Sn3 _ _ _
  show UW C (ρ3, Y3, 3, 372) Sn3 _ _ _
  rw [← hag a0 _ hTa0]
  have hTa0 := hup _ _ hTa0
  have hAG := AG.new hAG hag hup
  refine u_prF hC hI lf_X1_32 rfl rfl rfl rfl hTa0 hTn3 dX1_init_46 hf (fun S26 hf => ?_)
  cases hf
  exact hR _ hAG _ _ (Nat.le_of_ble_eq_true rfl) (Nat.le_of_ble_eq_true rfl) _ _ dX1_init_49 trivial
theorem ctX1_init (l : Launch) (hl : l.stackTraces = false) (G : GT) (ρ : Nat → Nat) (Y : XS) (n : Nat) (S : PS) (a0 : Nat) (hTa0 : Ty Y a0 1) {o : XS × PS} (hf : fX1_init Y n S a0 = some o) : Ma l G yX1_init cX1_init 1 none 1 3 372 ρ Y [.ref (ρ a0)] S (fun _ => none) o.2 o.1 :=
  Ma_of hl (by decide) (Nat.le_of_ble_eq_true rfl) (fun C _ _ hC hI hB hR => wX1_init hC (hI rfl) n S a0 hTa0 hf hB hR)
-- X6_init
theorem dX6_init_0 : decode cX6_init 0 = .ok (.aload_n 0, 1) := by decide +kernel
theorem dX6_init_1 : decode cX6_init 1 = .ok (.invokespecial 3, 3) := by decide +kernel
theorem dX6_init_4 : decode cX6_init 4 = .ok (.aload_n 0, 1) := by decide +kernel
theorem dX6_init_5 : decode cX6_init 5 = .ok (.new 9, 3) := by decide +kernel
theorem dX6_init_8 : decode cX6_init 8 = .ok (.dup, 1) := by decide +kernel
theorem dX6_init_9 : decode cX6_init 9 = .ok (.invokespecial 11, 3) := by decide +kernel
theorem dX6_init_12 : decode cX6_init 12 = .ok (.putfield 12, 3) := by decide +kernel
theorem dX6_init_15 : decode cX6_init 15 = .ok (.aload_n 0, 1) := by decide +kernel
theorem dX6_init_16 : decode cX6_init 16 = .ok (.bipush 12, 2) := by decide +kernel
theorem dX6_init_18 : decode cX6_init 18 = .ok (.newarray .int, 2) := by decide +kernel
theorem dX6_init_20 : decode cX6_init 20 = .ok (.putfield 18, 3) := by decide +kernel
theorem dX6_init_23 : decode cX6_init 23 = .ok (.aload_n 0, 1) := by decide +kernel
theorem dX6_init_24 : decode cX6_init 24 = .ok (.bipush 12, 2) := by decide +kernel
theorem dX6_init_26 : decode cX6_init 26 = .ok (.newarray .int, 2) := by decide +kernel
theorem dX6_init_28 : decode cX6_init 28 = .ok (.putfield 22, 3) := by decide +kernel
theorem dX6_init_31 : decode cX6_init 31 = .ok (.aload_n 0, 1) := by decide +kernel
theorem dX6_init_32 : decode cX6_init 32 = .ok (.bipush 12, 2) := by decide +kernel
theorem dX6_init_34 : decode cX6_init 34 = .ok (.newarray .int, 2) := by decide +kernel
theorem dX6_init_36 : decode cX6_init 36 = .ok (.putfield 25, 3) := by decide +kernel
theorem dX6_init_39 : decode cX6_init 39 = .ok (.aload_n 0, 1) := by decide +kernel
theorem dX6_init_40 : decode cX6_init 40 = .ok (.sipush 288, 3) := by decide +kernel
theorem dX6_init_43 : decode cX6_init 43 = .ok (.newarray .int, 2) := by decide +kernel
theorem dX6_init_45 : decode cX6_init 45 = .ok (.putfield 28, 3) := by decide +kernel
theorem dX6_init_48 : decode cX6_init 48 = .ok (.aload_n 0, 1) := by decide +kernel
theorem dX6_init_49 : decode cX6_init 49 = .ok (.bipush 10, 2) := by decide +kernel
theorem dX6_init_51 : decode cX6_init 51 = .ok (.newarray .int, 2) := by decide +kernel
theorem dX6_init_53 : decode cX6_init 53 = .ok (.putfield 31, 3) := by decide +kernel
theorem dX6_init_56 : decode cX6_init 56 = .ok (.aload_n 0, 1) := by decide +kernel
theorem dX6_init_57 : decode cX6_init 57 = .ok (.bipush 15, 2) := by decide +kernel
theorem dX6_init_59 : decode cX6_init 59 = .ok (.newarray .int, 2) := by decide +kernel
theorem dX6_init_61 : decode cX6_init 61 = .ok (.putfield 36, 3) := by decide +kernel
theorem dX6_init_64 : decode cX6_init 64 = .ok (.return_, 1) := by decide +kernel
def fX6_init (Y : XS) (n : Nat) (S : PS) (a0 : Nat) : Option (XS × PS) :=
  knw Y S 1 0 (fun Y1 Sn1 n1 => kc (fX1_init Y1 n Sn1 n1) (fun q2 => kpr q2.2 a0 0 (some n1) (fun S7 => kna q2.1 S7 12 (12 : Int32) (fun Y3 Sn3 n3 => kpr Sn3 a0 1 (some n3) (fun S11 => kna Y3 S11 12 (12 : Int32) (fun Y4 Sn4 n4 => kpr Sn4 a0 2 (some n4) (fun S15 => kna Y4 S15 12 (12 : Int32) (fun Y5 Sn5 n5 => kpr Sn5 a0 3 (some n5) (fun S19 => kna Y5 S19 12 (288 : Int32) (fun Y6 Sn6 n6 => kpr Sn6 a0 4 (some n6) (fun S23 => kna Y6 S23 12 (10 : Int32) (fun Y7 Sn7 n7 => kpr Sn7 a0 5 (some n7) (fun S27 => kna Y7 S27 12 (15 : Int32) (fun Y8 Sn8 n8 => kpr Sn8 a0 6 (some n8) (fun S31 => some (Y8, S31))))))))))))))))
theorem wX6_init {C : CT} {ρ : Nat → Nat} {Y : XS} (hC : CK C RX6 cX6_init 1 none 2) (hI : CI C) (n : Nat) (S : PS) (a0 : Nat) (hTa0 : Ty Y a0 6) {o : XS × PS} (hf : fX6_init Y n S a0 = some o) (hB : XB C (ρ, Y, 0, 0) 10 728) (hR : RtA C ρ Y cX6_init none 10 728 (fun _ => none) o.2 o.1) : UW C (ρ, Y, 0, 0) S 0 [(0, .ref (ρ a0))] [] := by
  unfold fX6_init at hf
  have hAG := AG.refl ρ Y
  refine u_aload_n hC dX6_init_0 0 rfl rfl ?_
  refine u_oinit (a := a0) hC (tb_1 162 rfl rfl) (by decide) (Nat.le_of_ble_eq_true rfl) dX6_init_1 ?_
  refine u_aload_n hC dX6_init_4 0 rfl rfl ?_
  refine u_new (ci := 1) hC (by decide) ⟨(tb_1 163 rfl rfl), (tb_1 41 rfl rfl), (tb_1 3 rfl rfl)⟩ (hB.at (Nat.le_of_ble_eq_true rfl) (Nat.le_of_ble_eq_true rfl)) dX6_init_5 hf (fun ρ1 Y1 Sn1 n1 hag hup hTn1 hf => ?_)
  replace hag : ∀ a k, Ty Y a k → ρ1 a = ρ a := hag
  replace hup : ∀ a k, Ty Y a k → Ty Y1 a k := hup
  show UW C (ρ1, Y1, 0 + 1, 0 + 7) Sn1 _ _ _
  show UW C (ρ1, Y1, 1, 7) Sn1 _ _ _
  rw [← hag a0 _ hTa0]
  have hTa0 := hup _ _ hTa0
  have hAG := AG.new hAG hag hup
  refine u_dup hC dX6_init_8 rfl ?_
  obtain ⟨q2, hq2, hf⟩ := kc_some hf
  refine u_callIN (X := (ρ1, Y1, 1, 7)) (rest := [.ref (ρ1 n1), .ref (ρ1 a0)]) hC (ctX1_init (cL C) hC.tr (cG C) ρ1 Y1 n Sn1 n1 hTn1 hq2) (hB.at (Nat.le_of_ble_eq_true rfl) (Nat.le_of_ble_eq_true rfl)) lk_X6_11 (tb_1 43 rfl rfl) rfl rfl (by decide) (by decide) rfl rfl (Nat.le_of_ble_eq_true rfl) dX6_init_9 (fun ρ2 hag => ?_)
  replace hag : ∀ a k, Ty Y1 a k → ρ2 a = ρ1 a ∧ Ty q2.1 a k := hag
  show UW C (ρ2, q2.1, 1 + 3, 7 + 372) q2.2 _ _ _
  show UW C (ρ2, q2.1, 4, 379) q2.2 _ _ _
  rw [← (hag a0 _ hTa0).1]
  have hTa0 := (hag _ _ hTa0).2
  rw [← (hag n1 _ hTn1).1]
  have hTn1 := (hag _ _ hTn1).2
  have hAG := AG.trans hAG hag
  refine u_prF hC hI lf_X6_12 rfl rfl rfl rfl hTa0 hTn1 dX6_init_12 hf (fun S7 hf => ?_)
  refine u_aload_n hC dX6_init_15 0 rfl rfl ?_
  refine u_bipush (v := (12 : Int32)) hC dX6_init_16 (by decide) ?_
  refine u_newi (N := 12) hC (by decide) (by decide) (hB.at (Nat.le_of_ble_eq_true rfl) (Nat.le_of_ble_eq_true rfl)) dX6_init_18 hf (fun ρ3 Y3 Sn3 n3 hag hup hTn3 hf => ?_)
  replace hag : ∀ a k, Ty q2.1 a k → ρ3 a = ρ2 a := hag
  replace hup : ∀ a k, Ty q2.1 a k → Ty Y3 a k := hup
  show UW C (ρ3, Y3, 4 + 1, 379 + 12) Sn3 _ _ _
  show UW C (ρ3, Y3, 5, 391) Sn3 _ _ _
  rw [← hag a0 _ hTa0]
  have hTa0 := hup _ _ hTa0
  have hAG := AG.new hAG hag hup
  refine u_prF hC hI lf_X6_18 rfl rfl rfl rfl hTa0 hTn3 dX6_init_20 hf (fun S11 hf => ?_)
  refine u_aload_n hC dX6_init_23 0 rfl rfl ?_
  refine u_bipush (v := (12 : Int32)) hC dX6_init_24 (by decide) ?_
  refine u_newi (N := 12) hC (by decide) (by decide) (hB.at (Nat.le_of_ble_eq_true rfl) (Nat.le_of_ble_eq_true rfl)) dX6_init_26 hf (fun ρ4 Y4 Sn4 n4 hag hup hTn4 hf => ?_)
  replace hag : ∀ a k, Ty Y3 a k → ρ4 a = ρ3 a := hag
  replace hup : ∀ a k, Ty Y3 a k → Ty Y4 a k := hup
  show UW C (ρ4, Y4, 5 + 1, 391 + 12) Sn4 _ _ _
  show UW C (ρ4, Y4, 6, 403) Sn4 _ _ _
  rw [← hag a0 _ hTa0]
  have hTa0 := hup _ _ hTa0
  have hAG := AG.new hAG hag hup
  refine u_prF hC hI lf_X6_22 rfl rfl rfl rfl hTa0 hTn4 dX6_init_28 hf (fun S15 hf => ?_)
  refine u_aload_n hC dX6_init_31 0 rfl rfl ?_
  refine u_bipush (v := (12 : Int32)) hC dX6_init_32 (by decide) ?_
  refine u_newi (N := 12) hC (by decide) (by decide) (hB.at (Nat.le_of_ble_eq_true rfl) (Nat.le_of_ble_eq_true rfl)) dX6_init_34 hf (fun ρ5 Y5 Sn5 n5 hag hup hTn5 hf => ?_)
  replace hag : ∀ a k, Ty Y4 a k → ρ5 a = ρ4 a := hag
  replace hup : ∀ a k, Ty Y4 a k → Ty Y5 a k := hup
  show UW C (ρ5, Y5, 6 + 1, 403 + 12) Sn5 _ _ _
  show UW C (ρ5, Y5, 7, 415) Sn5 _ _ _
  rw [← hag a0 _ hTa0]
  have hTa0 := hup _ _ hTa0
  have hAG := AG.new hAG hag hup
  refine u_prF hC hI lf_X6_25 rfl rfl rfl rfl hTa0 hTn5 dX6_init_36 hf (fun S19 hf => ?_)
  refine u_aload_n hC dX6_init_39 0 rfl rfl ?_
  refine u_sipush (v := (288 : Int32)) hC dX6_init_40 (by decide) ?_
  refine u_newi (N := 288) hC (by decide) (by decide) (hB.at (Nat.le_of_ble_eq_true rfl) (Nat.le_of_ble_eq_true rfl)) dX6_init_43 hf (fun ρ6 Y6 Sn6 n6 hag hup hTn6 hf => ?_)
  replace hag : ∀ a k, Ty Y5 a k → ρ6 a = ρ5 a := hag
  replace hup : ∀ a k, Ty Y5 a k → Ty Y6 a k := hup
  show UW C (ρ6, Y6, 7 + 1, 415 + 288) Sn6 _ _ _
  show UW C (ρ6, Y6, 8, 703) Sn6 _ _ _
  rw [← hag a0 _ hTa0]
  have hTa0 := hup _ _ hTa0
  have hAG := AG.new hAG hag hup
  refine u_prF hC hI lf_X6_28 rfl rfl rfl rfl hTa0 hTn6 dX6_init_45 hf (fun S23 hf => ?_)
  refine u_aload_n hC dX6_init_48 0 rfl rfl ?_
  refine u_bipush (v := (10 : Int32)) hC dX6_init_49 (by decide) ?_
  refine u_newi (N := 10) hC (by decide) (by decide) (hB.at (Nat.le_of_ble_eq_true rfl) (Nat.le_of_ble_eq_true rfl)) dX6_init_51 hf (fun ρ7 Y7 Sn7 n7 hag hup hTn7 hf => ?_)
  replace hag : ∀ a k, Ty Y6 a k → ρ7 a = ρ6 a := hag
  replace hup : ∀ a k, Ty Y6 a k → Ty Y7 a k := hup
  show UW C (ρ7, Y7, 8 + 1, 703 + 10) Sn7 _ _ _
  show UW C (ρ7, Y7, 9, 713) Sn7 _ _ _
  rw [← hag a0 _ hTa0]
  have hTa0 := hup _ _ hTa0
  have hAG := AG.new hAG hag hup
  refine u_prF hC hI lf_X6_31 rfl rfl rfl rfl hTa0 hTn7 dX6_init_53 hf (fun S27 hf => ?_)
  refine u_aload_n hC dX6_init_56 0 rfl rfl ?_
  refine u_bipush (v := (15 : Int32)) hC dX6_init_57 (by decide) ?_
  refine u_newi (N := 15) hC (by decide) (by decide) (hB.at (Nat.le_of_ble_eq_true rfl) (Nat.le_of_ble_eq_true rfl)) dX6_init_59 hf (fun ρ8 Y8 Sn8 n8 hag hup hTn8 hf => ?_)
  replace hag : ∀ a k, Ty Y7 a k → ρ8 a = ρ7 a := hag
  replace hup : ∀ a k, Ty Y7 a k → Ty Y8 a k := hup
  show UW C (ρ8, Y8, 9 + 1, 713 + 15) Sn8 _ _ _
  show UW C (ρ8, Y8, 10, 728) Sn8 _ _ _
  rw [← hag a0 _ hTa0]
  have hTa0 := hup _ _ hTa0
  have hAG := AG.new hAG hag hup
  refine u_prF hC hI lf_X6_36 rfl rfl rfl rfl hTa0 hTn8 dX6_init_61 hf (fun S31 hf => ?_)
  cases hf
  exact hR _ hAG _ _ (Nat.le_of_ble_eq_true rfl) (Nat.le_of_ble_eq_true rfl) _ _ dX6_init_64 trivial
theorem ctX6_init (l : Launch) (hl : l.stackTraces = false) (G : GT) (ρ : Nat → Nat) (Y : XS) (n : Nat) (S : PS) (a0 : Nat) (hTa0 : Ty Y a0 6) {o : XS × PS} (hf : fX6_init Y n S a0 = some o) : Ma l G yX6_init cX6_init 1 none 2 10 728 ρ Y [.ref (ρ a0)] S (fun _ => none) o.2 o.1 :=
  Ma_of hl (by decide) (Nat.le_of_ble_eq_true rfl) (fun C _ _ hC hI hB hR => wX6_init hC (hI rfl) n S a0 hTa0 hf hB hR)
-- X7_init
theorem dX7_init_0 : decode cX7_init 0 = .ok (.aload_n 0, 1) := by decide +kernel
theorem dX7_init_1 : decode cX7_init 1 = .ok (.invokespecial 3, 3) := by decide +kernel
theorem dX7_init_4 : decode cX7_init 4 = .ok (.aload_n 0, 1) := by decide +kernel
theorem dX7_init_5 : decode cX7_init 5 = .ok (.new 9, 3) := by decide +kernel
theorem dX7_init_8 : decode cX7_init 8 = .ok (.dup, 1) := by decide +kernel
theorem dX7_init_9 : decode cX7_init 9 = .ok (.invokespecial 11, 3) := by decide +kernel
theorem dX7_init_12 : decode cX7_init 12 = .ok (.putfield 12, 3) := by decide +kernel
theorem dX7_init_15 : decode cX7_init 15 = .ok (.aload_n 0, 1) := by decide +kernel
theorem dX7_init_16 : decode cX7_init 16 = .ok (.iconst (-1), 1) := by decide +kernel
theorem dX7_init_17 : decode cX7_init 17 = .ok (.putfield 18, 3) := by decide +kernel
theorem dX7_init_20 : decode cX7_init 20 = .ok (.aload_n 0, 1) := by decide +kernel
theorem dX7_init_21 : decode cX7_init 21 = .ok (.sipush 500, 3) := by decide +kernel
theorem dX7_init_24 : decode cX7_init 24 = .ok (.newarray .byte, 2) := by decide +kernel
theorem dX7_init_26 : decode cX7_init 26 = .ok (.putfield 22, 3) := by decide +kernel
theorem dX7_init_29 : decode cX7_init 29 = .ok (.aload_n 0, 1) := by decide +kernel
theorem dX7_init_30 : decode cX7_init 30 = .ok (.iconst 0, 1) := by decide +kernel
theorem dX7_init_31 : decode cX7_init 31 = .ok (.putfield 26, 3) := by decide +kernel
theorem dX7_init_34 : decode cX7_init 34 = .ok (.aload_n 0, 1) := by decide +kernel
theorem dX7_init_35 : decode cX7_init 35 = .ok (.iconst 0, 1) := by decide +kernel
theorem dX7_init_36 : decode cX7_init 36 = .ok (.putfield 29, 3) := by decide +kernel
theorem dX7_init_39 : decode cX7_init 39 = .ok (.aload_n 0, 1) := by decide +kernel
theorem dX7_init_40 : decode cX7_init 40 = .ok (.iconst 0, 1) := by decide +kernel
theorem dX7_init_41 : decode cX7_init 41 = .ok (.putfield 32, 3) := by decide +kernel
theorem dX7_init_44 : decode cX7_init 44 = .ok (.aload_n 0, 1) := by decide +kernel
theorem dX7_init_45 : decode cX7_init 45 = .ok (.iconst 0, 1) := by decide +kernel
theorem dX7_init_46 : decode cX7_init 46 = .ok (.putfield 35, 3) := by decide +kernel
theorem dX7_init_49 : decode cX7_init 49 = .ok (.aload_n 0, 1) := by decide +kernel
theorem dX7_init_50 : decode cX7_init 50 = .ok (.iconst 0, 1) := by decide +kernel
theorem dX7_init_51 : decode cX7_init 51 = .ok (.putfield 38, 3) := by decide +kernel
theorem dX7_init_54 : decode cX7_init 54 = .ok (.aload_n 0, 1) := by decide +kernel
theorem dX7_init_55 : decode cX7_init 55 = .ok (.iconst 0, 1) := by decide +kernel
theorem dX7_init_56 : decode cX7_init 56 = .ok (.putfield 41, 3) := by decide +kernel
theorem dX7_init_59 : decode cX7_init 59 = .ok (.aload_n 0, 1) := by decide +kernel
theorem dX7_init_60 : decode cX7_init 60 = .ok (.iconst 0, 1) := by decide +kernel
theorem dX7_init_61 : decode cX7_init 61 = .ok (.putfield 44, 3) := by decide +kernel
theorem dX7_init_64 : decode cX7_init 64 = .ok (.aload_n 0, 1) := by decide +kernel
theorem dX7_init_65 : decode cX7_init 65 = .ok (.sipush 500, 3) := by decide +kernel
theorem dX7_init_68 : decode cX7_init 68 = .ok (.newarray .int, 2) := by decide +kernel
theorem dX7_init_70 : decode cX7_init 70 = .ok (.putfield 47, 3) := by decide +kernel
theorem dX7_init_73 : decode cX7_init 73 = .ok (.aload_n 0, 1) := by decide +kernel
theorem dX7_init_74 : decode cX7_init 74 = .ok (.iconst 0, 1) := by decide +kernel
theorem dX7_init_75 : decode cX7_init 75 = .ok (.putfield 51, 3) := by decide +kernel
theorem dX7_init_78 : decode cX7_init 78 = .ok (.aload_n 0, 1) := by decide +kernel
theorem dX7_init_79 : decode cX7_init 79 = .ok (.sipush 500, 3) := by decide +kernel
theorem dX7_init_82 : decode cX7_init 82 = .ok (.newarray .int, 2) := by decide +kernel
theorem dX7_init_84 : decode cX7_init 84 = .ok (.putfield 54, 3) := by decide +kernel
theorem dX7_init_87 : decode cX7_init 87 = .ok (.aload_n 0, 1) := by decide +kernel
theorem dX7_init_88 : decode cX7_init 88 = .ok (.iconst 0, 1) := by decide +kernel
theorem dX7_init_89 : decode cX7_init 89 = .ok (.putfield 57, 3) := by decide +kernel
theorem dX7_init_92 : decode cX7_init 92 = .ok (.aload_n 0, 1) := by decide +kernel
theorem dX7_init_93 : decode cX7_init 93 = .ok (.iconst 0, 1) := by decide +kernel
theorem dX7_init_94 : decode cX7_init 94 = .ok (.putfield 60, 3) := by decide +kernel
theorem dX7_init_97 : decode cX7_init 97 = .ok (.return_, 1) := by decide +kernel
def fX7_init (Y : XS) (n : Nat) (S : PS) (a0 : Nat) : Option (XS × PS) :=
  knw Y S 1 0 (fun Y1 Sn1 n1 => kc (fX1_init Y1 n Sn1 n1) (fun q2 => kpr q2.2 a0 0 (some n1) (fun S7 => kpi S7 a0 1 (-1 : Int32) (fun S10 => kna q2.1 S10 13 (500 : Int32) (fun Y3 Sn3 n3 => kpr Sn3 a0 2 (some n3) (fun S14 => kpi S14 a0 3 (0 : Int32) (fun S17 => kpi S17 a0 4 (0 : Int32) (fun S20 => kpi S20 a0 5 (0 : Int32) (fun S23 => kpi S23 a0 6 (0 : Int32) (fun S26 => kpi S26 a0 7 (0 : Int32) (fun S29 => kpi S29 a0 8 (0 : Int32) (fun S32 => kpi S32 a0 9 (0 : Int32) (fun S35 => kna Y3 S35 12 (500 : Int32) (fun Y4 Sn4 n4 => kpr Sn4 a0 10 (some n4) (fun S39 => kpi S39 a0 11 (0 : Int32) (fun S42 => kna Y4 S42 12 (500 : Int32) (fun Y5 Sn5 n5 => kpr Sn5 a0 12 (some n5) (fun S46 => kpi S46 a0 13 (0 : Int32) (fun S49 => kpi S49 a0 14 (0 : Int32) (fun S52 => some (Y5, S52)))))))))))))))))))))
theorem wX7_init {C : CT} {ρ : Nat → Nat} {Y : XS} (hC : CK C RX7 cX7_init 1 none 2) (hI : CI C) (n : Nat) (S : PS) (a0 : Nat) (hTa0 : Ty Y a0 7) {o : XS × PS} (hf : fX7_init Y n S a0 = some o) (hB : XB C (ρ, Y, 0, 0) 7 1879) (hR : RtA C ρ Y cX7_init none 7 1879 (fun _ => none) o.2 o.1) : UW C (ρ, Y, 0, 0) S 0 [(0, .ref (ρ a0))] [] := by
  unfold fX7_init at hf
  have hAG := AG.refl ρ Y
  refine u_aload_n hC dX7_init_0 0 rfl rfl ?_
  refine u_oinit (a := a0) hC (tb_1 39 rfl rfl) (by decide) (Nat.le_of_ble_eq_true rfl) dX7_init_1 ?_
  refine u_aload_n hC dX7_init_4 0 rfl rfl ?_
  refine u_new (ci := 1) hC (by decide) ⟨(tb_1 40 rfl rfl), (tb_1 41 rfl rfl), (tb_1 3 rfl rfl)⟩ (hB.at (Nat.le_of_ble_eq_true rfl) (Nat.le_of_ble_eq_true rfl)) dX7_init_5 hf (fun ρ1 Y1 Sn1 n1 hag hup hTn1 hf => ?_)
  replace hag : ∀ a k, Ty Y a k → ρ1 a = ρ a := hag
  replace hup : ∀ a k, Ty Y a k → Ty Y1 a k := hup
  show UW C (ρ1, Y1, 0 + 1, 0 + 7) Sn1 _ _ _
  show UW C (ρ1, Y1, 1, 7) Sn1 _ _ _
  rw [← hag a0 _ hTa0]
  have hTa0 := hup _ _ hTa0
  have hAG := AG.new hAG hag hup
  refine u_dup hC dX7_init_8 rfl ?_
  obtain ⟨q2, hq2, hf⟩ := kc_some hf
  refine u_callIN (X := (ρ1, Y1, 1, 7)) (rest := [.ref (ρ1 n1), .ref (ρ1 a0)]) hC (ctX1_init (cL C) hC.tr (cG C) ρ1 Y1 n Sn1 n1 hTn1 hq2) (hB.at (Nat.le_of_ble_eq_true rfl) (Nat.le_of_ble_eq_true rfl)) lk_X7_11 (tb_1 43 rfl rfl) rfl rfl (by decide) (by decide) rfl rfl (Nat.le_of_ble_eq_true rfl) dX7_init_9 (fun ρ2 hag => ?_)
  replace hag : ∀ a k, Ty Y1 a k → ρ2 a = ρ1 a ∧ Ty q2.1 a k := hag
  show UW C (ρ2, q2.1, 1 + 3, 7 + 372) q2.2 _ _ _
  show UW C (ρ2, q2.1, 4, 379) q2.2 _ _ _
  rw [← (hag a0 _ hTa0).1]
  have hTa0 := (hag _ _ hTa0).2
  rw [← (hag n1 _ hTn1).1]
  have hTn1 := (hag _ _ hTn1).2
  have hAG := AG.trans hAG hag
  refine u_prF hC hI lf_X7_12 rfl rfl rfl rfl hTa0 hTn1 dX7_init_12 hf (fun S7 hf => ?_)
  refine u_aload_n hC dX7_init_15 0 rfl rfl ?_
  refine u_iconst (v := (-1 : Int32)) hC dX7_init_16 (by decide) ?_
  refine u_pi hC lf_X7_18 rfl rfl rfl hTa0 dX7_init_17 hf (fun S10 hf => ?_)
  refine u_aload_n hC dX7_init_20 0 rfl rfl ?_
  refine u_sipush (v := (500 : Int32)) hC dX7_init_21 (by decide) ?_
  refine u_newb (N := 500) hC (by decide) (by decide) (hB.at (Nat.le_of_ble_eq_true rfl) (Nat.le_of_ble_eq_true rfl)) dX7_init_24 hf (fun ρ3 Y3 Sn3 n3 hag hup hTn3 hf => ?_)
  replace hag : ∀ a k, Ty q2.1 a k → ρ3 a = ρ2 a := hag
  replace hup : ∀ a k, Ty q2.1 a k → Ty Y3 a k := hup
  show UW C (ρ3, Y3, 4 + 1, 379 + 500) Sn3 _ _ _
  show UW C (ρ3, Y3, 5, 879) Sn3 _ _ _
  rw [← hag a0 _ hTa0]
  have hTa0 := hup _ _ hTa0
  have hAG := AG.new hAG hag hup
  refine u_prF hC hI lf_X7_22 rfl rfl rfl rfl hTa0 hTn3 dX7_init_26 hf (fun S14 hf => ?_)
  refine u_aload_n hC dX7_init_29 0 rfl rfl ?_
  refine u_iconst (v := (0 : Int32)) hC dX7_init_30 (by decide) ?_
  refine u_pi hC lf_X7_26 rfl rfl rfl hTa0 dX7_init_31 hf (fun S17 hf => ?_)
  refine u_aload_n hC dX7_init_34 0 rfl rfl ?_
  refine u_iconst (v := (0 : Int32)) hC dX7_init_35 (by decide) ?_
  refine u_pi hC lf_X7_29 rfl rfl rfl hTa0 dX7_init_36 hf (fun S20 hf => ?_)
  refine u_aload_n hC dX7_init_39 0 rfl rfl ?_
  refine u_iconst (v := (0 : Int32)) hC dX7_init_40 (by decide) ?_
  refine u_pi hC lf_X7_32 rfl rfl rfl hTa0 dX7_init_41 hf (fun S23 hf => ?_)
  refine u_aload_n hC dX7_init_44 0 rfl rfl ?_
  refine u_iconst (v := (0 : Int32)) hC dX7_init_45 (by decide) ?_
  refine u_pi hC lf_X7_35 rfl rfl rfl hTa0 dX7_init_46 hf (fun S26 hf => ?_)
  refine u_aload_n hC dX7_init_49 0 rfl rfl ?_
  refine u_iconst (v := (0 : Int32)) hC dX7_init_50 (by decide) ?_
  refine u_pi hC lf_X7_38 rfl rfl rfl hTa0 dX7_init_51 hf (fun S29 hf => ?_)
  refine u_aload_n hC dX7_init_54 0 rfl rfl ?_
  refine u_iconst (v := (0 : Int32)) hC dX7_init_55 (by decide) ?_
  refine u_pi hC lf_X7_41 rfl rfl rfl hTa0 dX7_init_56 hf (fun S32 hf => ?_)
  refine u_aload_n hC dX7_init_59 0 rfl rfl ?_
  refine u_iconst (v := (0 : Int32)) hC dX7_init_60 (by decide) ?_
  refine u_pi hC lf_X7_44 rfl rfl rfl hTa0 dX7_init_61 hf (fun S35 hf => ?_)
  refine u_aload_n hC dX7_init_64 0 rfl rfl ?_
  refine u_sipush (v := (500 : Int32)) hC dX7_init_65 (by decide) ?_
  refine u_newi (N := 500) hC (by decide) (by decide) (hB.at (Nat.le_of_ble_eq_true rfl) (Nat.le_of_ble_eq_true rfl)) dX7_init_68 hf (fun ρ4 Y4 Sn4 n4 hag hup hTn4 hf => ?_)
  replace hag : ∀ a k, Ty Y3 a k → ρ4 a = ρ3 a := hag
  replace hup : ∀ a k, Ty Y3 a k → Ty Y4 a k := hup
  show UW C (ρ4, Y4, 5 + 1, 879 + 500) Sn4 _ _ _
  show UW C (ρ4, Y4, 6, 1379) Sn4 _ _ _
  rw [← hag a0 _ hTa0]
  have hTa0 := hup _ _ hTa0
  have hAG := AG.new hAG hag hup
  refine u_prF hC hI lf_X7_47 rfl rfl rfl rfl hTa0 hTn4 dX7_init_70 hf (fun S39 hf => ?_)
  refine u_aload_n hC dX7_init_73 0 rfl rfl ?_
  refine u_iconst (v := (0 : Int32)) hC dX7_init_74 (by decide) ?_
  refine u_pi hC lf_X7_51 rfl rfl rfl hTa0 dX7_init_75 hf (fun S42 hf => ?_)
  refine u_aload_n hC dX7_init_78 0 rfl rfl ?_
  refine u_sipush (v := (500 : Int32)) hC dX7_init_79 (by decide) ?_
  refine u_newi (N := 500) hC (by decide) (by decide) (hB.at (Nat.le_of_ble_eq_true rfl) (Nat.le_of_ble_eq_true rfl)) dX7_init_82 hf (fun ρ5 Y5 Sn5 n5 hag hup hTn5 hf => ?_)
  replace hag : ∀ a k, Ty Y4 a k → ρ5 a = ρ4 a := hag
  replace hup : ∀ a k, Ty Y4 a k → Ty Y5 a k := hup
  show UW C (ρ5, Y5, 6 + 1, 1379 + 500) Sn5 _ _ _
  show UW C (ρ5, Y5, 7, 1879) Sn5 _ _ _
  rw [← hag a0 _ hTa0]
  have hTa0 := hup _ _ hTa0
  have hAG := AG.new hAG hag hup
  refine u_prF hC hI lf_X7_54 rfl rfl rfl rfl hTa0 hTn5 dX7_init_84 hf (fun S46 hf => ?_)
  refine u_aload_n hC dX7_init_87 0 rfl rfl ?_
  refine u_iconst (v := (0 : Int32)) hC dX7_init_88 (by decide) ?_
  refine u_pi hC lf_X7_57 rfl rfl rfl hTa0 dX7_init_89 hf (fun S49 hf => ?_)
  refine u_aload_n hC dX7_init_92 0 rfl rfl ?_
  refine u_iconst (v := (0 : Int32)) hC dX7_init_93 (by decide) ?_
  refine u_pi hC lf_X7_60 rfl rfl rfl hTa0 dX7_init_94 hf (fun S52 hf => ?_)
  cases hf
  exact hR _ hAG _ _ (Nat.le_of_ble_eq_true rfl) (Nat.le_of_ble_eq_true rfl) _ _ dX7_init_97 trivial
theorem ctX7_init (l : Launch) (hl : l.stackTraces = false) (G : GT) (ρ : Nat → Nat) (Y : XS) (n : Nat) (S : PS) (a0 : Nat) (hTa0 : Ty Y a0 7) {o : XS × PS} (hf : fX7_init Y n S a0 = some o) : Ma l G yX7_init cX7_init 1 none 2 7 1879 ρ Y [.ref (ρ a0)] S (fun _ => none) o.2 o.1 :=
  Ma_of hl (by decide) (Nat.le_of_ble_eq_true rfl) (fun C _ _ hC hI hB hR => wX7_init hC (hI rfl) n S a0 hTa0 hf hB hR)
-- X5_init
theorem dX5_init_0 : decode cX5_init 0 = .ok (.aload_n 0, 1) := by decide +kernel
theorem dX5_init_1 : decode cX5_init 1 = .ok (.invokespecial 3, 3) := by decide +kernel
theorem dX5_init_4 : decode cX5_init 4 = .ok (.aload_n 0, 1) := by decide +kernel
theorem dX5_init_5 : decode cX5_init 5 = .ok (.bipush 12, 2) := by decide +kernel
theorem dX5_init_7 : decode cX5_init 7 = .ok (.newarray .int, 2) := by decide +kernel
theorem dX5_init_9 : decode cX5_init 9 = .ok (.putfield 9, 3) := by decide +kernel
theorem dX5_init_12 : decode cX5_init 12 = .ok (.aload_n 0, 1) := by decide +kernel
theorem dX5_init_13 : decode cX5_init 13 = .ok (.iconst 0, 1) := by decide +kernel
theorem dX5_init_14 : decode cX5_init 14 = .ok (.putfield 15, 3) := by decide +kernel
theorem dX5_init_17 : decode cX5_init 17 = .ok (.aload_n 0, 1) := by decide +kernel
theorem dX5_init_18 : decode cX5_init 18 = .ok (.iconst 0, 1) := by decide +kernel
theorem dX5_init_19 : decode cX5_init 19 = .ok (.putfield 19, 3) := by decide +kernel
theorem dX5_init_22 : decode cX5_init 22 = .ok (.aload_n 0, 1) := by decide +kernel
theorem dX5_init_23 : decode cX5_init 23 = .ok (.iconst 0, 1) := by decide +kernel
theorem dX5_init_24 : decode cX5_init 24 = .ok (.putfield 22, 3) := by decide +kernel
theorem dX5_init_27 : decode cX5_init 27 = .ok (.aload_n 0, 1) := by decide +kernel
theorem dX5_init_28 : decode cX5_init 28 = .ok (.iconst 0, 1) := by decide +kernel
theorem dX5_init_29 : decode cX5_init 29 = .ok (.putfield 25, 3) := by decide +kernel
theorem dX5_init_32 : decode cX5_init 32 = .ok (.aload_n 0, 1) := by decide +kernel
theorem dX5_init_33 : decode cX5_init 33 = .ok (.iconst 0, 1) := by decide +kernel
theorem dX5_init_34 : decode cX5_init 34 = .ok (.putfield 28, 3) := by decide +kernel
theorem dX5_init_37 : decode cX5_init 37 = .ok (.aload_n 0, 1) := by decide +kernel
theorem dX5_init_38 : decode cX5_init 38 = .ok (.sipush 288, 3) := by decide +kernel
theorem dX5_init_41 : decode cX5_init 41 = .ok (.newarray .int, 2) := by decide +kernel
theorem dX5_init_43 : decode cX5_init 43 = .ok (.putfield 31, 3) := by decide +kernel
theorem dX5_init_46 : decode cX5_init 46 = .ok (.aload_n 0, 1) := by decide +kernel
theorem dX5_init_47 : decode cX5_init 47 = .ok (.bipush 24, 2) := by decide +kernel
theorem dX5_init_49 : decode cX5_init 49 = .ok (.newarray .int, 2) := by decide +kernel
theorem dX5_init_51 : decode cX5_init 51 = .ok (.putfield 34, 3) := by decide +kernel
theorem dX5_init_54 : decode cX5_init 54 = .ok (.aload_n 0, 1) := by decide +kernel
theorem dX5_init_55 : decode cX5_init 55 = .ok (.bipush 12, 2) := by decide +kernel
theorem dX5_init_57 : decode cX5_init 57 = .ok (.newarray .int, 2) := by decide +kernel
theorem dX5_init_59 : decode cX5_init 59 = .ok (.putfield 37, 3) := by decide +kernel
theorem dX5_init_62 : decode cX5_init 62 = .ok (.aload_n 0, 1) := by decide +kernel
theorem dX5_init_63 : decode cX5_init 63 = .ok (.bipush 12, 2) := by decide +kernel
theorem dX5_init_65 : decode cX5_init 65 = .ok (.newarray .int, 2) := by decide +kernel
theorem dX5_init_67 : decode cX5_init 67 = .ok (.putfield 40, 3) := by decide +kernel
theorem dX5_init_70 : decode cX5_init 70 = .ok (.aload_n 0, 1) := by decide +kernel
theorem dX5_init_71 : decode cX5_init 71 = .ok (.bipush 12, 2) := by decide +kernel
theorem dX5_init_73 : decode cX5_init 73 = .ok (.newarray .int, 2) := by decide +kernel
theorem dX5_init_75 : decode cX5_init 75 = .ok (.putfield 43, 3) := by decide +kernel
theorem dX5_init_78 : decode cX5_init 78 = .ok (.aload_n 0, 1) := by decide +kernel
theorem dX5_init_79 : decode cX5_init 79 = .ok (.iconst 0, 1) := by decide +kernel
theorem dX5_init_80 : decode cX5_init 80 = .ok (.putfield 46, 3) := by decide +kernel
theorem dX5_init_83 : decode cX5_init 83 = .ok (.aload_n 0, 1) := by decide +kernel
theorem dX5_init_84 : decode cX5_init 84 = .ok (.iconst 5, 1) := by decide +kernel
theorem dX5_init_85 : decode cX5_init 85 = .ok (.newarray .int, 2) := by decide +kernel
theorem dX5_init_87 : decode cX5_init 87 = .ok (.putfield 52, 3) := by decide +kernel
theorem dX5_init_90 : decode cX5_init 90 = .ok (.return_, 1) := by decide +kernel
def fX5_init (Y : XS) (n : Nat) (S : PS) (a0 : Nat) : Option (XS × PS) :=
  kna Y S 12 (12 : Int32) (fun Y1 Sn1 n1 => kpr Sn1 a0 0 (some n1) (fun S6 => kpi S6 a0 1 (0 : Int32) (fun S9 => kpi S9 a0 2 (0 : Int32) (fun S12 => kpi S12 a0 3 (0 : Int32) (fun S15 => kpi S15 a0 4 (0 : Int32) (fun S18 => kpi S18 a0 5 (0 : Int32) (fun S21 => kna Y1 S21 12 (288 : Int32) (fun Y2 Sn2 n2 => kpr Sn2 a0 6 (some n2) (fun S25 => kna Y2 S25 12 (24 : Int32) (fun Y3 Sn3 n3 => kpr Sn3 a0 7 (some n3) (fun S29 => kna Y3 S29 12 (12 : Int32) (fun Y4 Sn4 n4 => kpr Sn4 a0 8 (some n4) (fun S33 => kna Y4 S33 12 (12 : Int32) (fun Y5 Sn5 n5 => kpr Sn5 a0 9 (some n5) (fun S37 => kna Y5 S37 12 (12 : Int32) (fun Y6 Sn6 n6 => kpr Sn6 a0 10 (some n6) (fun S41 => kpz S41 a0 11 (0 : Int32) (fun S44 => kna Y6 S44 12 (5 : Int32) (fun Y7 Sn7 n7 => kpr Sn7 a0 12 (some n7) (fun S48 => some (Y7, S48)))))))))))))))))))))
theorem wX5_init {C : CT} {ρ : Nat → Nat} {Y : XS} (hC : CK C RX5 cX5_init 1 none 1) (hI : CI C) (n : Nat) (S : PS) (a0 : Nat) (hTa0 : Ty Y a0 5) {o : XS × PS} (hf : fX5_init Y n S a0 = some o) (hB : XB C (ρ, Y, 0, 0) 7 365) (hR : RtA C ρ Y cX5_init none 7 365 (fun _ => none) o.2 o.1) : UW C (ρ, Y, 0, 0) S 0 [(0, .ref (ρ a0))] [] := by
  unfold fX5_init at hf
  have hAG := AG.refl ρ Y
  refine u_aload_n hC dX5_init_0 0 rfl rfl ?_
  refine u_oinit (a := a0) hC (tb_1 213 rfl rfl) (by decide) (Nat.le_of_ble_eq_true rfl) dX5_init_1 ?_
  refine u_aload_n hC dX5_init_4 0 rfl rfl ?_
  refine u_bipush (v := (12 : Int32)) hC dX5_init_5 (by decide) ?_
  refine u_newi (N := 12) hC (by decide) (by decide) (hB.at (Nat.le_of_ble_eq_true rfl) (Nat.le_of_ble_eq_true rfl)) dX5_init_7 hf (fun ρ1 Y1 Sn1 n1 hag hup hTn1 hf => ?_)
  replace hag : ∀ a k, Ty Y a k → ρ1 a = ρ a := hag
  replace hup : ∀ a k, Ty Y a k → Ty Y1 a k := hup
  show UW C (ρ1, Y1, 0 + 1, 0 + 12) Sn1 _ _ _
  show UW C (ρ1, Y1, 1, 12) Sn1 _ _ _
  rw [← hag a0 _ hTa0]
  have hTa0 := hup _ _ hTa0
  have hAG := AG.new hAG hag hup
  refine u_prF hC hI lf_X5_9 rfl rfl rfl rfl hTa0 hTn1 dX5_init_9 hf (fun S6 hf => ?_)
  refine u_aload_n hC dX5_init_12 0 rfl rfl ?_
  refine u_iconst (v := (0 : Int32)) hC dX5_init_13 (by decide) ?_
  refine u_pi hC lf_X5_15 rfl rfl rfl hTa0 dX5_init_14 hf (fun S9 hf => ?_)
  refine u_aload_n hC dX5_init_17 0 rfl rfl ?_
  refine u_iconst (v := (0 : Int32)) hC dX5_init_18 (by decide) ?_
  refine u_pi hC lf_X5_19 rfl rfl rfl hTa0 dX5_init_19 hf (fun S12 hf => ?_)
  refine u_aload_n hC dX5_init_22 0 rfl rfl ?_
  refine u_iconst (v := (0 : Int32)) hC dX5_init_23 (by decide) ?_
  refine u_pi hC lf_X5_22 rfl rfl rfl hTa0 dX5_init_24 hf (fun S15 hf => ?_)
  refine u_aload_n hC dX5_init_27 0 rfl rfl ?_
  refine u_iconst (v := (0 : Int32)) hC dX5_init_28 (by decide) ?_
  refine u_pi hC lf_X5_25 rfl rfl rfl hTa0 dX5_init_29 hf (fun S18 hf => ?_)
  refine u_aload_n hC dX5_init_32 0 rfl rfl ?_
  refine u_iconst (v := (0 : Int32)) hC dX5_init_33 (by decide) ?_
  refine u_pi hC lf_X5_28 rfl rfl rfl hTa0 dX5_init_34 hf (fun S21 hf => ?_)
  refine u_aload_n hC dX5_init_37 0 rfl rfl ?_
  refine u_sipush (v := (288 : Int32)) hC dX5_init_38 (by decide) ?_
  refine u_newi (N := 288) hC (by decide) (by decide) (hB.at (Nat.le_of_ble_eq_true rfl) (Nat.le_of_ble_eq_true rfl)) dX5_init_41 hf (fun ρ2 Y2 Sn2 n2 hag hup hTn2 hf => ?_)
  replace hag : ∀ a k, Ty Y1 a k → ρ2 a = ρ1 a := hag
  replace hup : ∀ a k, Ty Y1 a k → Ty Y2 a k := hup
  show UW C (ρ2, Y2, 1 + 1, 12 + 288) Sn2 _ _ _
  show UW C (ρ2, Y2, 2, 300) Sn2 _ _ _
  rw [← hag a0 _ hTa0]
  have hTa0 := hup _ _ hTa0
  have hAG := AG.new hAG hag hup
  refine u_prF hC hI lf_X5_31 rfl rfl rfl rfl hTa0 hTn2 dX5_init_43 hf (fun S25 hf => ?_)
  refine u_aload_n hC dX5_init_46 0 rfl rfl ?_
  refine u_bipush (v := (24 : Int32)) hC dX5_init_47 (by decide) ?_
  refine u_newi (N := 24) hC (by decide) (by decide) (hB.at (Nat.le_of_ble_eq_true rfl) (Nat.le_of_ble_eq_true rfl)) dX5_init_49 hf (fun ρ3 Y3 Sn3 n3 hag hup hTn3 hf => ?_)
  replace hag : ∀ a k, Ty Y2 a k → ρ3 a = ρ2 a := hag
  replace hup : ∀ a k, Ty Y2 a k → Ty Y3 a k := hup
  show UW C (ρ3, Y3, 2 + 1, 300 + 24) Sn3 _ _ _
  show UW C (ρ3, Y3, 3, 324) Sn3 _ _ _
  rw [← hag a0 _ hTa0]
  have hTa0 := hup _ _ hTa0
  have hAG := AG.new hAG hag hup
  refine u_prF hC hI lf_X5_34 rfl rfl rfl rfl hTa0 hTn3 dX5_init_51 hf (fun S29 hf => ?_)
  refine u_aload_n hC dX5_init_54 0 rfl rfl ?_
  refine u_bipush (v := (12 : Int32)) hC dX5_init_55 (by decide) ?_
  refine u_newi (N := 12) hC (by decide) (by decide) (hB.at (Nat.le_of_ble_eq_true rfl) (Nat.le_of_ble_eq_true rfl)) dX5_init_57 hf (fun ρ4 Y4 Sn4 n4 hag hup hTn4 hf => ?_)
  replace hag : ∀ a k, Ty Y3 a k → ρ4 a = ρ3 a := hag
  replace hup : ∀ a k, Ty Y3 a k → Ty Y4 a k := hup
  show UW C (ρ4, Y4, 3 + 1, 324 + 12) Sn4 _ _ _
  show UW C (ρ4, Y4, 4, 336) Sn4 _ _ _
  rw [← hag a0 _ hTa0]
  have hTa0 := hup _ _ hTa0
  have hAG := AG.new hAG hag hup
  refine u_prF hC hI lf_X5_37 rfl rfl rfl rfl hTa0 hTn4 dX5_init_59 hf (fun S33 hf => ?_)
  refine u_aload_n hC dX5_init_62 0 rfl rfl ?_
  refine u_bipush (v := (12 : Int32)) hC dX5_init_63 (by decide) ?_
  refine u_newi (N := 12) hC (by decide) (by decide) (hB.at (Nat.le_of_ble_eq_true rfl) (Nat.le_of_ble_eq_true rfl)) dX5_init_65 hf (fun ρ5 Y5 Sn5 n5 hag hup hTn5 hf => ?_)
  replace hag : ∀ a k, Ty Y4 a k → ρ5 a = ρ4 a := hag
  replace hup : ∀ a k, Ty Y4 a k → Ty Y5 a k := hup
  show UW C (ρ5, Y5, 4 + 1, 336 + 12) Sn5 _ _ _
  show UW C (ρ5, Y5, 5, 348) Sn5 _ _ _
  rw [← hag a0 _ hTa0]
  have hTa0 := hup _ _ hTa0
  have hAG := AG.new hAG hag hup
  refine u_prF hC hI lf_X5_40 rfl rfl rfl rfl hTa0 hTn5 dX5_init_67 hf (fun S37 hf => ?_)
  refine u_aload_n hC dX5_init_70 0 rfl rfl ?_
  refine u_bipush (v := (12 : Int32)) hC dX5_init_71 (by decide) ?_
  refine u_newi (N := 12) hC (by decide) (by decide) (hB.at (Nat.le_of_ble_eq_true rfl) (Nat.le_of_ble_eq_true rfl)) dX5_init_73 hf (fun ρ6 Y6 Sn6 n6 hag hup hTn6 hf => ?_)
  replace hag : ∀ a k, Ty Y5 a k → ρ6 a = ρ5 a := hag
  replace hup : ∀ a k, Ty Y5 a k → Ty Y6 a k := hup
  show UW C (ρ6, Y6, 5 + 1, 348 + 12) Sn6 _ _ _
  show UW C (ρ6, Y6, 6, 360) Sn6 _ _ _
  rw [← hag a0 _ hTa0]
  have hTa0 := hup _ _ hTa0
  have hAG := AG.new hAG hag hup
  refine u_prF hC hI lf_X5_43 rfl rfl rfl rfl hTa0 hTn6 dX5_init_75 hf (fun S41 hf => ?_)
  refine u_aload_n hC dX5_init_78 0 rfl rfl ?_
  refine u_iconst (v := (0 : Int32)) hC dX5_init_79 (by decide) ?_
  refine u_pz hC lf_X5_46 rfl rfl rfl hTa0 dX5_init_80 hf (fun S44 hf => ?_)
  refine u_aload_n hC dX5_init_83 0 rfl rfl ?_
  refine u_iconst (v := (5 : Int32)) hC dX5_init_84 (by decide) ?_
  refine u_newi (N := 5) hC (by decide) (by decide) (hB.at (Nat.le_of_ble_eq_true rfl) (Nat.le_of_ble_eq_true rfl)) dX5_init_85 hf (fun ρ7 Y7 Sn7 n7 hag hup hTn7 hf => ?_)
  replace hag : ∀ a k, Ty Y6 a k → ρ7 a = ρ6 a := hag
  replace hup : ∀ a k, Ty Y6 a k → Ty Y7 a k := hup
  show UW C (ρ7, Y7, 6 + 1, 360 + 5) Sn7 _ _ _
  show UW C (ρ7, Y7, 7, 365) Sn7 _ _ _
  rw [← hag a0 _ hTa0]
  have hTa0 := hup _ _ hTa0
  have hAG := AG.new hAG hag hup
  refine u_prF hC hI lf_X5_52 rfl rfl rfl rfl hTa0 hTn7 dX5_init_87 hf (fun S48 hf => ?_)
  cases hf
  exact hR _ hAG _ _ (Nat.le_of_ble_eq_true rfl) (Nat.le_of_ble_eq_true rfl) _ _ dX5_init_90 trivial
theorem ctX5_init (l : Launch) (hl : l.stackTraces = false) (G : GT) (ρ : Nat → Nat) (Y : XS) (n : Nat) (S : PS) (a0 : Nat) (hTa0 : Ty Y a0 5) {o : XS × PS} (hf : fX5_init Y n S a0 = some o) : Ma l G yX5_init cX5_init 1 none 1 7 365 ρ Y [.ref (ρ a0)] S (fun _ => none) o.2 o.1 :=
  Ma_of hl (by decide) (Nat.le_of_ble_eq_true rfl) (fun C _ _ hC hI hB hR => wX5_init hC (hI rfl) n S a0 hTa0 hf hB hR)
-- X9_init
theorem dX9_init_0 : decode cX9_init 0 = .ok (.aload_n 0, 1) := by decide +kernel
theorem dX9_init_1 : decode cX9_init 1 = .ok (.invokespecial 3, 3) := by decide +kernel
theorem dX9_init_4 : decode cX9_init 4 = .ok (.aload_n 0, 1) := by decide +kernel
theorem dX9_init_5 : decode cX9_init 5 = .ok (.bipush 12, 2) := by decide +kernel
theorem dX9_init_7 : decode cX9_init 7 = .ok (.newarray .int, 2) := by decide +kernel
theorem dX9_init_9 : decode cX9_init 9 = .ok (.putfield 9, 3) := by decide +kernel
theorem dX9_init_12 : decode cX9_init 12 = .ok (.aload_n 0, 1) := by decide +kernel
theorem dX9_init_13 : decode cX9_init 13 = .ok (.bipush 24, 2) := by decide +kernel
theorem dX9_init_15 : decode cX9_init 15 = .ok (.newarray .int, 2) := by decide +kernel
theorem dX9_init_17 : decode cX9_init 17 = .ok (.putfield 15, 3) := by decide +kernel
theorem dX9_init_20 : decode cX9_init 20 = .ok (.return_, 1) := by decide +kernel
def fX9_init (Y : XS) (n : Nat) (S : PS) (a0 : Nat) : Option (XS × PS) :=
  kna Y S 12 (12 : Int32) (fun Y1 Sn1 n1 => kpr Sn1 a0 0 (some n1) (fun S6 => kna Y1 S6 12 (24 : Int32) (fun Y2 Sn2 n2 => kpr Sn2 a0 1 (some n2) (fun S10 => some (Y2, S10)))))
theorem wX9_init {C : CT} {ρ : Nat → Nat} {Y : XS} (hC : CK C RX9 cX9_init 1 none 1) (hI : CI C) (n : Nat) (S : PS) (a0 : Nat) (hTa0 : Ty Y a0 9) {o : XS × PS} (hf : fX9_init Y n S a0 = some o) (hB : XB C (ρ, Y, 0, 0) 2 36) (hR : RtA C ρ Y cX9_init none 2 36 (fun _ => none) o.2 o.1) : UW C (ρ, Y, 0, 0) S 0 [(0, .ref (ρ a0))] [] := by
  unfold fX9_init at hf
  have hAG := AG.refl ρ Y
  refine u_aload_n hC dX9_init_0 0 rfl rfl ?_
  refine u_oinit (a := a0) hC (tb_2 46 rfl rfl) (by decide) (Nat.le_of_ble_eq_true rfl) dX9_init_1 ?_
  refine u_aload_n hC dX9_init_4 0 rfl rfl ?_
  refine u_bipush (v := (12 : Int32)) hC dX9_init_5 (by decide) ?_
  refine u_newi (N := 12) hC (by decide) (by decide) (hB.at (Nat.le_of_ble_eq_true rfl) (Nat.le_of_ble_eq_true rfl)) dX9_init_7 hf (fun ρ1 Y1 Sn1 n1 hag hup hTn1 hf => ?_)
  replace hag : ∀ a k, Ty Y a k → ρ1 a = ρ a := hag
  replace hup : ∀ a k, Ty Y a k → Ty Y1 a k := hup
  show UW C (ρ1, Y1, 0 + 1, 0 + 12) Sn1 _ _ _
  show UW C (ρ1, Y1, 1, 12) Sn1 _ _ _
  rw [← hag a0 _ hTa0]
  have hTa0 := hup _ _ hTa0
  have hAG := AG.new hAG hag hup
  refine u_prF hC hI lf_X9_9 rfl rfl rfl rfl hTa0 hTn1 dX9_init_9 hf (fun S6 hf => ?_)
  refine u_aload_n hC dX9_init_12 0 rfl rfl ?_
  refine u_bipush (v := (24 : Int32)) hC dX9_init_13 (by decide) ?_
  refine u_newi (N := 24) hC (by decide) (by decide) (hB.at (Nat.le_of_ble_eq_true rfl) (Nat.le_of_ble_eq_true rfl)) dX9_init_15 hf (fun ρ2 Y2 Sn2 n2 hag hup hTn2 hf => ?_)
  replace hag : ∀ a k, Ty Y1 a k → ρ2 a = ρ1 a := hag
  replace hup : ∀ a k, Ty Y1 a k → Ty Y2 a k := hup
  show UW C (ρ2, Y2, 1 + 1, 12 + 24) Sn2 _ _ _
  show UW C (ρ2, Y2, 2, 36) Sn2 _ _ _
  rw [← hag a0 _ hTa0]
  have hTa0 := hup _ _ hTa0
  have hAG := AG.new hAG hag hup
  refine u_prF hC hI lf_X9_15 rfl rfl rfl rfl hTa0 hTn2 dX9_init_17 hf (fun S10 hf => ?_)
  cases hf
  exact hR _ hAG _ _ (Nat.le_of_ble_eq_true rfl) (Nat.le_of_ble_eq_true rfl) _ _ dX9_init_20 trivial
theorem ctX9_init (l : Launch) (hl : l.stackTraces = false) (G : GT) (ρ : Nat → Nat) (Y : XS) (n : Nat) (S : PS) (a0 : Nat) (hTa0 : Ty Y a0 9) {o : XS × PS} (hf : fX9_init Y n S a0 = some o) : Ma l G yX9_init cX9_init 1 none 1 2 36 ρ Y [.ref (ρ a0)] S (fun _ => none) o.2 o.1 :=
  Ma_of hl (by decide) (Nat.le_of_ble_eq_true rfl) (fun C _ _ hC hI hB hR => wX9_init hC (hI rfl) n S a0 hTa0 hf hB hR)
-- X8_init
theorem dX8_init_0 : decode cX8_init 0 = .ok (.aload_n 0, 1) := by decide +kernel
theorem dX8_init_1 : decode cX8_init 1 = .ok (.invokespecial 3, 3) := by decide +kernel
theorem dX8_init_4 : decode cX8_init 4 = .ok (.aload_n 0, 1) := by decide +kernel
theorem dX8_init_5 : decode cX8_init 5 = .ok (.bipush 13, 2) := by decide +kernel
theorem dX8_init_7 : decode cX8_init 7 = .ok (.newarray .int, 2) := by decide +kernel
theorem dX8_init_9 : decode cX8_init 9 = .ok (.putfield 9, 3) := by decide +kernel
theorem dX8_init_12 : decode cX8_init 12 = .ok (.aload_n 0, 1) := by decide +kernel
theorem dX8_init_13 : decode cX8_init 13 = .ok (.bipush 13, 2) := by decide +kernel
theorem dX8_init_15 : decode cX8_init 15 = .ok (.newarray .int, 2) := by decide +kernel
theorem dX8_init_17 : decode cX8_init 17 = .ok (.putfield 15, 3) := by decide +kernel
theorem dX8_init_20 : decode cX8_init 20 = .ok (.aload_n 0, 1) := by decide +kernel
theorem dX8_init_21 : decode cX8_init 21 = .ok (.sipush 312, 3) := by decide +kernel
theorem dX8_init_24 : decode cX8_init 24 = .ok (.newarray .int, 2) := by decide +kernel
theorem dX8_init_26 : decode cX8_init 26 = .ok (.putfield 18, 3) := by decide +kernel
theorem dX8_init_29 : decode cX8_init 29 = .ok (.aload_n 0, 1) := by decide +kernel
theorem dX8_init_30 : decode cX8_init 30 = .ok (.bipush 12, 2) := by decide +kernel
theorem dX8_init_32 : decode cX8_init 32 = .ok (.newarray .int, 2) := by decide +kernel
theorem dX8_init_34 : decode cX8_init 34 = .ok (.putfield 21, 3) := by decide +kernel
theorem dX8_init_37 : decode cX8_init 37 = .ok (.aload_n 0, 1) := by decide +kernel
theorem dX8_init_38 : decode cX8_init 38 = .ok (.sipush 288, 3) := by decide +kernel
theorem dX8_init_41 : decode cX8_init 41 = .ok (.newarray .int, 2) := by decide +kernel
theorem dX8_init_43 : decode cX8_init 43 = .ok (.putfield 24, 3) := by decide +kernel
theorem dX8_init_46 : decode cX8_init 46 = .ok (.return_, 1) := by decide +kernel
def fX8_init (Y : XS) (n : Nat) (S : PS) (a0 : Nat) : Option (XS × PS) :=
  kna Y S 12 (13 : Int32) (fun Y1 Sn1 n1 => kpr Sn1 a0 0 (some n1) (fun S6 => kna Y1 S6 12 (13 : Int32) (fun Y2 Sn2 n2 => kpr Sn2 a0 1 (some n2) (fun S10 => kna Y2 S10 12 (312 : Int32) (fun Y3 Sn3 n3 => kpr Sn3 a0 2 (some n3) (fun S14 => kna Y3 S14 12 (12 : Int32) (fun Y4 Sn4 n4 => kpr Sn4 a0 3 (some n4) (fun S18 => kna Y4 S18 12 (288 : Int32) (fun Y5 Sn5 n5 => kpr Sn5 a0 4 (some n5) (fun S22 => some (Y5, S22)))))))))))
theorem wX8_init {C : CT} {ρ : Nat → Nat} {Y : XS} (hC : CK C RX8 cX8_init 1 none 1) (hI : CI C) (n : Nat) (S : PS) (a0 : Nat) (hTa0 : Ty Y a0 8) {o : XS × PS} (hf : fX8_init Y n S a0 = some o) (hB : XB C (ρ, Y, 0, 0) 5 638) (hR : RtA C ρ Y cX8_init none 5 638 (fun _ => none) o.2 o.1) : UW C (ρ, Y, 0, 0) S 0 [(0, .ref (ρ a0))] [] := by
  unfold fX8_init at hf
  have hAG := AG.refl ρ Y
  refine u_aload_n hC dX8_init_0 0 rfl rfl ?_
  refine u_oinit (a := a0) hC (tb_2 59 rfl rfl) (by decide) (Nat.le_of_ble_eq_true rfl) dX8_init_1 ?_
  refine u_aload_n hC dX8_init_4 0 rfl rfl ?_
  refine u_bipush (v := (13 : Int32)) hC dX8_init_5 (by decide) ?_
  refine u_newi (N := 13) hC (by decide) (by decide) (hB.at (Nat.le_of_ble_eq_true rfl) (Nat.le_of_ble_eq_true rfl)) dX8_init_7 hf (fun ρ1 Y1 Sn1 n1 hag hup hTn1 hf => ?_)
  replace hag : ∀ a k, Ty Y a k → ρ1 a = ρ a := hag
  replace hup : ∀ a k, Ty Y a k → Ty Y1 a k := hup
  show UW C (ρ1, Y1, 0 + 1, 0 + 13) Sn1 _ _ _
  show UW C (ρ1, Y1, 1, 13) Sn1 _ _ _
  rw [← hag a0 _ hTa0]
  have hTa0 := hup _ _ hTa0
  have hAG := AG.new hAG hag hup
  refine u_prF hC hI lf_X8_9 rfl rfl rfl rfl hTa0 hTn1 dX8_init_9 hf (fun S6 hf => ?_)
  refine u_aload_n hC dX8_init_12 0 rfl rfl ?_
  refine u_bipush (v := (13 : Int32)) hC dX8_init_13 (by decide) ?_
  refine u_newi (N := 13) hC (by decide) (by decide) (hB.at (Nat.le_of_ble_eq_true rfl) (Nat.le_of_ble_eq_true rfl)) dX8_init_15 hf (fun ρ2 Y2 Sn2 n2 hag hup hTn2 hf => ?_)
  replace hag : ∀ a k, Ty Y1 a k → ρ2 a = ρ1 a := hag
  replace hup : ∀ a k, Ty Y1 a k → Ty Y2 a k := hup
  show UW C (ρ2, Y2, 1 + 1, 13 + 13) Sn2 _ _ _
  show UW C (ρ2, Y2, 2, 26) Sn2 _ _ _
  rw [← hag a0 _ hTa0]
  have hTa0 := hup _ _ hTa0
  have hAG := AG.new hAG hag hup
  refine u_prF hC hI lf_X8_15 rfl rfl rfl rfl hTa0 hTn2 dX8_init_17 hf (fun S10 hf => ?_)
  refine u_aload_n hC dX8_init_20 0 rfl rfl ?_
  refine u_sipush (v := (312 : Int32)) hC dX8_init_21 (by decide) ?_
  refine u_newi (N := 312) hC (by decide) (by decide) (hB.at (Nat.le_of_ble_eq_true rfl) (Nat.le_of_ble_eq_true rfl)) dX8_init_24 hf (fun ρ3 Y3 Sn3 n3 hag hup hTn3 hf => ?_)
  replace hag : ∀ a k, Ty Y2 a k → ρ3 a = ρ2 a := hag
  replace hup : ∀ a k, Ty Y2 a k → Ty Y3 a k := hup
  show UW C (ρ3, Y3, 2 + 1, 26 + 312) Sn3 _ _ _
  show UW C (ρ3, Y3, 3, 338) Sn3 _ _ _
  rw [← hag a0 _ hTa0]
  have hTa0 := hup _ _ hTa0
  have hAG := AG.new hAG hag hup
  refine u_prF hC hI lf_X8_18 rfl rfl rfl rfl hTa0 hTn3 dX8_init_26 hf (fun S14 hf => ?_)
  refine u_aload_n hC dX8_init_29 0 rfl rfl ?_
  refine u_bipush (v := (12 : Int32)) hC dX8_init_30 (by decide) ?_
  refine u_newi (N := 12) hC (by decide) (by decide) (hB.at (Nat.le_of_ble_eq_true rfl) (Nat.le_of_ble_eq_true rfl)) dX8_init_32 hf (fun ρ4 Y4 Sn4 n4 hag hup hTn4 hf => ?_)
  replace hag : ∀ a k, Ty Y3 a k → ρ4 a = ρ3 a := hag
  replace hup : ∀ a k, Ty Y3 a k → Ty Y4 a k := hup
  show UW C (ρ4, Y4, 3 + 1, 338 + 12) Sn4 _ _ _
  show UW C (ρ4, Y4, 4, 350) Sn4 _ _ _
  rw [← hag a0 _ hTa0]
  have hTa0 := hup _ _ hTa0
  have hAG := AG.new hAG hag hup
  refine u_prF hC hI lf_X8_21 rfl rfl rfl rfl hTa0 hTn4 dX8_init_34 hf (fun S18 hf => ?_)
  refine u_aload_n hC dX8_init_37 0 rfl rfl ?_
  refine u_sipush (v := (288 : Int32)) hC dX8_init_38 (by decide) ?_
  refine u_newi (N := 288) hC (by decide) (by decide) (hB.at (Nat.le_of_ble_eq_true rfl) (Nat.le_of_ble_eq_true rfl)) dX8_init_41 hf (fun ρ5 Y5 Sn5 n5 hag hup hTn5 hf => ?_)
  replace hag : ∀ a k, Ty Y4 a k → ρ5 a = ρ4 a := hag
  replace hup : ∀ a k, Ty Y4 a k → Ty Y5 a k := hup
  show UW C (ρ5, Y5, 4 + 1, 350 + 288) Sn5 _ _ _
  show UW C (ρ5, Y5, 5, 638) Sn5 _ _ _
  rw [← hag a0 _ hTa0]
  have hTa0 := hup _ _ hTa0
  have hAG := AG.new hAG hag hup
  refine u_prF hC hI lf_X8_24 rfl rfl rfl rfl hTa0 hTn5 dX8_init_43 hf (fun S22 hf => ?_)
  cases hf
  exact hR _ hAG _ _ (Nat.le_of_ble_eq_true rfl) (Nat.le_of_ble_eq_true rfl) _ _ dX8_init_46 trivial
theorem ctX8_init (l : Launch) (hl : l.stackTraces = false) (G : GT) (ρ : Nat → Nat) (Y : XS) (n : Nat) (S : PS) (a0 : Nat) (hTa0 : Ty Y a0 8) {o : XS × PS} (hf : fX8_init Y n S a0 = some o) : Ma l G yX8_init cX8_init 1 none 1 5 638 ρ Y [.ref (ρ a0)] S (fun _ => none) o.2 o.1 :=
  Ma_of hl (by decide) (Nat.le_of_ble_eq_true rfl) (fun C _ _ hC hI hB hR => wX8_init hC (hI rfl) n S a0 hTa0 hf hB hR)
-- X0_init
theorem dX0_init_0 : decode cX0_init 0 = .ok (.aload_n 0, 1) := by decide +kernel
theorem dX0_init_1 : decode cX0_init 1 = .ok (.invokespecial 3, 3) := by decide +kernel
theorem dX0_init_4 : decode cX0_init 4 = .ok (.aload_n 0, 1) := by decide +kernel
theorem dX0_init_5 : decode cX0_init 5 = .ok (.new 9, 3) := by decide +kernel
theorem dX0_init_8 : decode cX0_init 8 = .ok (.dup, 1) := by decide +kernel
theorem dX0_init_9 : decode cX0_init 9 = .ok (.invokespecial 11, 3) := by decide +kernel
theorem dX0_init_12 : decode cX0_init 12 = .ok (.putfield 12, 3) := by decide +kernel
theorem dX0_init_15 : decode cX0_init 15 = .ok (.aload_n 0, 1) := by decide +kernel
theorem dX0_init_16 : decode cX0_init 16 = .ok (.new 18, 3) := by decide +kernel
theorem dX0_init_19 : decode cX0_init 19 = .ok (.dup, 1) := by decide +kernel
theorem dX0_init_20 : decode cX0_init 20 = .ok (.invokespecial 20, 3) := by decide +kernel
theorem dX0_init_23 : decode cX0_init 23 = .ok (.putfield 21, 3) := by decide +kernel
theorem dX0_init_26 : decode cX0_init 26 = .ok (.aload_n 0, 1) := by decide +kernel
theorem dX0_init_27 : decode cX0_init 27 = .ok (.bipush 24, 2) := by decide +kernel
theorem dX0_init_29 : decode cX0_init 29 = .ok (.newarray .long, 2) := by decide +kernel
theorem dX0_init_31 : decode cX0_init 31 = .ok (.putfield 25, 3) := by decide +kernel
theorem dX0_init_34 : decode cX0_init 34 = .ok (.return_, 1) := by decide +kernel
def fX0_init (Y : XS) (n : Nat) (S : PS) (a0 : Nat) : Option (XS × PS) :=
  knw Y S 9 0 (fun Y1 Sn1 n1 => kc (fX9_init Y1 n Sn1 n1) (fun q2 => kpr q2.2 a0 0 (some n1) (fun S7 => knw q2.1 S7 8 0 (fun Y3 Sn3 n3 => kc (fX8_init Y3 n Sn3 n3) (fun q4 => kpr q4.2 a0 1 (some n3) (fun S12 => kna q4.1 S12 15 (24 : Int32) (fun Y5 Sn5 n5 => kpr Sn5 a0 2 (some n5) (fun S16 => some (Y5, S16)))))))))
theorem wX0_init {C : CT} {ρ : Nat → Nat} {Y : XS} (hC : CK C RX0 cX0_init 1 none 2) (hI : CI C) (n : Nat) (S : PS) (a0 : Nat) (hTa0 : Ty Y a0 0) {o : XS × PS} (hf : fX0_init Y n S a0 = some o) (hB : XB C (ρ, Y, 0, 0) 10 705) (hR : RtA C ρ Y cX0_init none 10 705 (fun _ => none) o.2 o.1) : UW C (ρ, Y, 0, 0) S 0 [(0, .ref (ρ a0))] [] := by
  unfold fX0_init at hf
  have hAG := AG.refl ρ Y
  refine u_aload_n hC dX0_init_0 0 rfl rfl ?_
  refine u_oinit (a := a0) hC (tb_2 40 rfl rfl) (by decide) (Nat.le_of_ble_eq_true rfl) dX0_init_1 ?_
  refine u_aload_n hC dX0_init_4 0 rfl rfl ?_
  refine u_new (ci := 9) hC (by decide) ⟨(tb_2 41 rfl rfl), (tb_2 42 rfl rfl), (tb_1 7 rfl rfl)⟩ (hB.at (Nat.le_of_ble_eq_true rfl) (Nat.le_of_ble_eq_true rfl)) dX0_init_5 hf (fun ρ1 Y1 Sn1 n1 hag hup hTn1 hf => ?_)
  replace hag : ∀ a k, Ty Y a k → ρ1 a = ρ a := hag
  replace hup : ∀ a k, Ty Y a k → Ty Y1 a k := hup
  show UW C (ρ1, Y1, 0 + 1, 0 + 2) Sn1 _ _ _
  show UW C (ρ1, Y1, 1, 2) Sn1 _ _ _
  rw [← hag a0 _ hTa0]
  have hTa0 := hup _ _ hTa0
  have hAG := AG.new hAG hag hup
  refine u_dup hC dX0_init_8 rfl ?_
  obtain ⟨q2, hq2, hf⟩ := kc_some hf
  refine u_callIN (X := (ρ1, Y1, 1, 2)) (rest := [.ref (ρ1 n1), .ref (ρ1 a0)]) hC (ctX9_init (cL C) hC.tr (cG C) ρ1 Y1 n Sn1 n1 hTn1 hq2) (hB.at (Nat.le_of_ble_eq_true rfl) (Nat.le_of_ble_eq_true rfl)) lk_X0_11 (tb_2 44 rfl rfl) rfl rfl (by decide) (by decide) rfl rfl (Nat.le_of_ble_eq_true rfl) dX0_init_9 (fun ρ2 hag => ?_)
  replace hag : ∀ a k, Ty Y1 a k → ρ2 a = ρ1 a ∧ Ty q2.1 a k := hag
  show UW C (ρ2, q2.1, 1 + 2, 2 + 36) q2.2 _ _ _
  show UW C (ρ2, q2.1, 3, 38) q2.2 _ _ _
  rw [← (hag a0 _ hTa0).1]
  have hTa0 := (hag _ _ hTa0).2
  rw [← (hag n1 _ hTn1).1]
  have hTn1 := (hag _ _ hTn1).2
  have hAG := AG.trans hAG hag
  refine u_prF hC hI lf_X0_12 rfl rfl rfl rfl hTa0 hTn1 dX0_init_12 hf (fun S7 hf => ?_)
  refine u_aload_n hC dX0_init_15 0 rfl rfl ?_
  refine u_new (ci := 8) hC (by decide) ⟨(tb_2 54 rfl rfl), (tb_2 55 rfl rfl), (tb_1 8 rfl rfl)⟩ (hB.at (Nat.le_of_ble_eq_true rfl) (Nat.le_of_ble_eq_true rfl)) dX0_init_16 hf (fun ρ3 Y3 Sn3 n3 hag hup hTn3 hf => ?_)
  replace hag : ∀ a k, Ty q2.1 a k → ρ3 a = ρ2 a := hag
  replace hup : ∀ a k, Ty q2.1 a k → Ty Y3 a k := hup
  show UW C (ρ3, Y3, 3 + 1, 38 + 5) Sn3 _ _ _
  show UW C (ρ3, Y3, 4, 43) Sn3 _ _ _
  rw [← hag a0 _ hTa0]
  have hTa0 := hup _ _ hTa0
  have hAG := AG.new hAG hag hup
  refine u_dup hC dX0_init_19 rfl ?_
  obtain ⟨q4, hq4, hf⟩ := kc_some hf
  refine u_callIN (X := (ρ3, Y3, 4, 43)) (rest := [.ref (ρ3 n3), .ref (ρ3 a0)]) hC (ctX8_init (cL C) hC.tr (cG C) ρ3 Y3 n Sn3 n3 hTn3 hq4) (hB.at (Nat.le_of_ble_eq_true rfl) (Nat.le_of_ble_eq_true rfl)) lk_X0_20 (tb_2 57 rfl rfl) rfl rfl (by decide) (by decide) rfl rfl (Nat.le_of_ble_eq_true rfl) dX0_init_20 (fun ρ4 hag => ?_)
  replace hag : ∀ a k, Ty Y3 a k → ρ4 a = ρ3 a ∧ Ty q4.1 a k := hag
  show UW C (ρ4, q4.1, 4 + 5, 43 + 638) q4.2 _ _ _
  show UW C (ρ4, q4.1, 9, 681) q4.2 _ _ _
  rw [← (hag a0 _ hTa0).1]
  have hTa0 := (hag _ _ hTa0).2
  rw [← (hag n3 _ hTn3).1]
  have hTn3 := (hag _ _ hTn3).2
  have hAG := AG.trans hAG hag
  refine u_prF hC hI lf_X0_21 rfl rfl rfl rfl hTa0 hTn3 dX0_init_23 hf (fun S12 hf => ?_)
  refine u_aload_n hC dX0_init_26 0 rfl rfl ?_
  refine u_bipush (v := (24 : Int32)) hC dX0_init_27 (by decide) ?_
  refine u_newl (N := 24) hC (by decide) (by decide) (hB.at (Nat.le_of_ble_eq_true rfl) (Nat.le_of_ble_eq_true rfl)) dX0_init_29 hf (fun ρ5 Y5 Sn5 n5 hag hup hTn5 hf => ?_)
  replace hag : ∀ a k, Ty q4.1 a k → ρ5 a = ρ4 a := hag
  replace hup : ∀ a k, Ty q4.1 a k → Ty Y5 a k := hup
  show UW C (ρ5, Y5, 9 + 1, 681 + 24) Sn5 _ _ _
  show UW C (ρ5, Y5, 10, 705) Sn5 _ _ _
  rw [← hag a0 _ hTa0]
  have hTa0 := hup _ _ hTa0
  have hAG := AG.new hAG hag hup
  refine u_prF hC hI lf_X0_25 rfl rfl rfl rfl hTa0 hTn5 dX0_init_31 hf (fun S16 hf => ?_)
  cases hf
  exact hR _ hAG _ _ (Nat.le_of_ble_eq_true rfl) (Nat.le_of_ble_eq_true rfl) _ _ dX0_init_34 trivial
theorem ctX0_init (l : Launch) (hl : l.stackTraces = false) (G : GT) (ρ : Nat → Nat) (Y : XS) (n : Nat) (S : PS) (a0 : Nat) (hTa0 : Ty Y a0 0) {o : XS × PS} (hf : fX0_init Y n S a0 = some o) : Ma l G yX0_init cX0_init 1 none 2 10 705 ρ Y [.ref (ρ a0)] S (fun _ => none) o.2 o.1 :=
  Ma_of hl (by decide) (Nat.le_of_ble_eq_true rfl) (fun C _ _ hC hI hB hR => wX0_init hC (hI rfl) n S a0 hTa0 hf hB hR)
-- X2_init
theorem dX2_init_0 : decode cX2_init 0 = .ok (.aload_n 0, 1) := by decide +kernel
theorem dX2_init_1 : decode cX2_init 1 = .ok (.invokespecial 3, 3) := by decide +kernel
theorem dX2_init_4 : decode cX2_init 4 = .ok (.aload_n 0, 1) := by decide +kernel
theorem dX2_init_5 : decode cX2_init 5 = .ok (.bipush 13, 2) := by decide +kernel
theorem dX2_init_7 : decode cX2_init 7 = .ok (.newarray .int, 2) := by decide +kernel
theorem dX2_init_9 : decode cX2_init 9 = .ok (.putfield 9, 3) := by decide +kernel
theorem dX2_init_12 : decode cX2_init 12 = .ok (.aload_n 0, 1) := by decide +kernel
theorem dX2_init_13 : decode cX2_init 13 = .ok (.bipush 13, 2) := by decide +kernel
theorem dX2_init_15 : decode cX2_init 15 = .ok (.newarray .int, 2) := by decide +kernel
theorem dX2_init_17 : decode cX2_init 17 = .ok (.putfield 15, 3) := by decide +kernel
theorem dX2_init_20 : decode cX2_init 20 = .ok (.aload_n 0, 1) := by decide +kernel
theorem dX2_init_21 : decode cX2_init 21 = .ok (.sipush 312, 3) := by decide +kernel
theorem dX2_init_24 : decode cX2_init 24 = .ok (.newarray .int, 2) := by decide +kernel
theorem dX2_init_26 : decode cX2_init 26 = .ok (.putfield 18, 3) := by decide +kernel
theorem dX2_init_29 : decode cX2_init 29 = .ok (.aload_n 0, 1) := by decide +kernel
theorem dX2_init_30 : decode cX2_init 30 = .ok (.sipush 312, 3) := by decide +kernel
theorem dX2_init_33 : decode cX2_init 33 = .ok (.newarray .int, 2) := by decide +kernel
theorem dX2_init_35 : decode cX2_init 35 = .ok (.putfield 21, 3) := by decide +kernel
theorem dX2_init_38 : decode cX2_init 38 = .ok (.aload_n 0, 1) := by decide +kernel
theorem dX2_init_39 : decode cX2_init 39 = .ok (.bipush 24, 2) := by decide +kernel
theorem dX2_init_41 : decode cX2_init 41 = .ok (.newarray .int, 2) := by decide +kernel
theorem dX2_init_43 : decode cX2_init 43 = .ok (.putfield 24, 3) := by decide +kernel
theorem dX2_init_46 : decode cX2_init 46 = .ok (.aload_n 0, 1) := by decide +kernel
theorem dX2_init_47 : decode cX2_init 47 = .ok (.iconst 0, 1) := by decide +kernel
theorem dX2_init_48 : decode cX2_init 48 = .ok (.putfield 27, 3) := by decide +kernel
theorem dX2_init_51 : decode cX2_init 51 = .ok (.aload_n 0, 1) := by decide +kernel
theorem dX2_init_52 : decode cX2_init 52 = .ok (.iconst 0, 1) := by decide +kernel
theorem dX2_init_53 : decode cX2_init 53 = .ok (.putfield 31, 3) := by decide +kernel
theorem dX2_init_56 : decode cX2_init 56 = .ok (.return_, 1) := by decide +kernel
def fX2_init (Y : XS) (n : Nat) (S : PS) (a0 : Nat) : Option (XS × PS) :=
  kna Y S 12 (13 : Int32) (fun Y1 Sn1 n1 => kpr Sn1 a0 0 (some n1) (fun S6 => kna Y1 S6 12 (13 : Int32) (fun Y2 Sn2 n2 => kpr Sn2 a0 1 (some n2) (fun S10 => kna Y2 S10 12 (312 : Int32) (fun Y3 Sn3 n3 => kpr Sn3 a0 2 (some n3) (fun S14 => kna Y3 S14 12 (312 : Int32) (fun Y4 Sn4 n4 => kpr Sn4 a0 3 (some n4) (fun S18 => kna Y4 S18 12 (24 : Int32) (fun Y5 Sn5 n5 => kpr Sn5 a0 4 (some n5) (fun S22 => kpz S22 a0 5 (0 : Int32) (fun S25 => kpz S25 a0 6 (0 : Int32) (fun S28 => some (Y5, S28)))))))))))))
theorem wX2_init {C : CT} {ρ : Nat → Nat} {Y : XS} (hC : CK C RX2 cX2_init 1 none 1) (hI : CI C) (n : Nat) (S : PS) (a0 : Nat) (hTa0 : Ty Y a0 2) {o : XS × PS} (hf : fX2_init Y n S a0 = some o) (hB : XB C (ρ, Y, 0, 0) 5 674) (hR : RtA C ρ Y cX2_init none 5 674 (fun _ => none) o.2 o.1) : UW C (ρ, Y, 0, 0) S 0 [(0, .ref (ρ a0))] [] := by
  unfold fX2_init at hf
  have hAG := AG.refl ρ Y
  refine u_aload_n hC dX2_init_0 0 rfl rfl ?_
  refine u_oinit (a := a0) hC (tb_2 93 rfl rfl) (by decide) (Nat.le_of_ble_eq_true rfl) dX2_init_1 ?_
  refine u_aload_n hC dX2_init_4 0 rfl rfl ?_
  refine u_bipush (v := (13 : Int32)) hC dX2_init_5 (by decide) ?_
  refine u_newi (N := 13) hC (by decide) (by decide) (hB.at (Nat.le_of_ble_eq_true rfl) (Nat.le_of_ble_eq_true rfl)) dX2_init_7 hf (fun ρ1 Y1 Sn1 n1 hag hup hTn1 hf => ?_)
  replace hag : ∀ a k, Ty Y a k → ρ1 a = ρ a := hag
  replace hup : ∀ a k, Ty Y a k → Ty Y1 a k := hup
  show UW C (ρ1, Y1, 0 + 1, 0 + 13) Sn1 _ _ _
  show UW C (ρ1, Y1, 1, 13) Sn1 _ _ _
  rw [← hag a0 _ hTa0]
  have hTa0 := hup _ _ hTa0
  have hAG := AG.new hAG hag hup
  refine u_prF hC hI lf_X2_9 rfl rfl rfl rfl hTa0 hTn1 dX2_init_9 hf (fun S6 hf => ?_)
  refine u_aload_n hC dX2_init_12 0 rfl rfl ?_
  refine u_bipush (v := (13 : Int32)) hC dX2_init_13 (by decide) ?_
  refine u_newi (N := 13) hC (by decide) (by decide) (hB.at (Nat.le_of_ble_eq_true rfl) (Nat.le_of_ble_eq_true rfl)) dX2_init_15 hf (fun ρ2 Y2 Sn2 n2 hag hup hTn2 hf => ?_)
  replace hag : ∀ a k, Ty Y1 a k → ρ2 a = ρ1 a := hag
  replace hup : ∀ a k, Ty Y1 a k → Ty Y2 a k := hup
  show UW C (ρ2, Y2, 1 + 1, 13 + 13) Sn2 _ _ _
  show UW C (ρ2, Y2, 2, 26) Sn2 _ _ _
  rw [← hag a0 _ hTa0]
  have hTa0 := hup _ _ hTa0
  have hAG := AG.new hAG hag hup
  refine u_prF hC hI lf_X2_15 rfl rfl rfl rfl hTa0 hTn2 dX2_init_17 hf (fun S10 hf => ?_)
  refine u_aload_n hC dX2_init_20 0 rfl rfl ?_
  refine u_sipush (v := (312 : Int32)) hC dX2_init_21 (by decide) ?_
  refine u_newi (N := 312) hC (by decide) (by decide) (hB.at (Nat.le_of_ble_eq_true rfl) (Nat.le_of_ble_eq_true rfl)) dX2_init_24 hf (fun ρ3 Y3 Sn3 n3 hag hup hTn3 hf => ?_)
  replace hag : ∀ a k, Ty Y2 a k → ρ3 a = ρ2 a := hag
  replace hup : ∀ a k, Ty Y2 a k → Ty Y3 a k := hup
  show UW C (ρ3, Y3, 2 + 1, 26 + 312) Sn3 _ _ _
  show UW C (ρ3, Y3, 3, 338) Sn3 _ _ _
  rw [← hag a0 _ hTa0]
  have hTa0 := hup _ _ hTa0
  have hAG := AG.new hAG hag hup
  refine u_prF hC hI lf_X2_18 rfl rfl rfl rfl hTa0 hTn3 dX2_init_26 hf (fun S14 hf => ?_)
  refine u_aload_n hC dX2_init_29 0 rfl rfl ?_
  refine u_sipush (v := (312 : Int32)) hC dX2_init_30 (by decide) ?_
  refine u_newi (N := 312) hC (by decide) (by decide) (hB.at (Nat.le_of_ble_eq_true rfl) (Nat.le_of_ble_eq_true rfl)) dX2_init_33 hf (fun ρ4 Y4 Sn4 n4 hag hup hTn4 hf => ?_)
  replace hag : ∀ a k, Ty Y3 a k → ρ4 a = ρ3 a := hag
  replace hup : ∀ a k, Ty Y3 a k → Ty Y4 a k := hup
  show UW C (ρ4, Y4, 3 + 1, 338 + 312) Sn4 _ _ _
  show UW C (ρ4, Y4, 4, 650) Sn4 _ _ _
  rw [← hag a0 _ hTa0]
  have hTa0 := hup _ _ hTa0
  have hAG := AG.new hAG hag hup
  refine u_prF hC hI lf_X2_21 rfl rfl rfl rfl hTa0 hTn4 dX2_init_35 hf (fun S18 hf => ?_)
  refine u_aload_n hC dX2_init_38 0 rfl rfl ?_
  refine u_bipush (v := (24 : Int32)) hC dX2_init_39 (by decide) ?_
  refine u_newi (N := 24) hC (by decide) (by decide) (hB.at (Nat.le_of_ble_eq_true rfl) (Nat.le_of_ble_eq_true rfl)) dX2_init_41 hf (fun ρ5 Y5 Sn5 n5 hag hup hTn5 hf => ?_)
  replace hag : ∀ a k, Ty Y4 a k → ρ5 a = ρ4 a := hag
  replace hup : ∀ a k, Ty Y4 a k → Ty Y5 a k := hup
  show UW C (ρ5, Y5, 4 + 1, 650 + 24) Sn5 _ _ _
  show UW C (ρ5, Y5, 5, 674) Sn5 _ _ _
  rw [← hag a0 _ hTa0]
  have hTa0 := hup _ _ hTa0
  have hAG := AG.new hAG hag hup
  refine u_prF hC hI lf_X2_24 rfl rfl rfl rfl hTa0 hTn5 dX2_init_43 hf (fun S22 hf => ?_)
  refine u_aload_n hC dX2_init_46 0 rfl rfl ?_
  refine u_iconst (v := (0 : Int32)) hC dX2_init_47 (by decide) ?_
  refine u_pz hC lf_X2_27 rfl rfl rfl hTa0 dX2_init_48 hf (fun S25 hf => ?_)
  refine u_aload_n hC dX2_init_51 0 rfl rfl ?_
  refine u_iconst (v := (0 : Int32)) hC dX2_init_52 (by decide) ?_
  refine u_pz hC lf_X2_31 rfl rfl rfl hTa0 dX2_init_53 hf (fun S28 hf => ?_)
  cases hf
  exact hR _ hAG _ _ (Nat.le_of_ble_eq_true rfl) (Nat.le_of_ble_eq_true rfl) _ _ dX2_init_56 trivial
theorem ctX2_init (l : Launch) (hl : l.stackTraces = false) (G : GT) (ρ : Nat → Nat) (Y : XS) (n : Nat) (S : PS) (a0 : Nat) (hTa0 : Ty Y a0 2) {o : XS × PS} (hf : fX2_init Y n S a0 = some o) : Ma l G yX2_init cX2_init 1 none 1 5 674 ρ Y [.ref (ρ a0)] S (fun _ => none) o.2 o.1 :=
  Ma_of hl (by decide) (Nat.le_of_ble_eq_true rfl) (fun C _ _ hC hI hB hR => wX2_init hC (hI rfl) n S a0 hTa0 hf hB hR)
-- X3_init
theorem dX3_init_0 : decode cX3_init 0 = .ok (.aload_n 0, 1) := by decide +kernel
theorem dX3_init_1 : decode cX3_init 1 = .ok (.invokespecial 3, 3) := by decide +kernel
theorem dX3_init_4 : decode cX3_init 4 = .ok (.aload_n 0, 1) := by decide +kernel
theorem dX3_init_5 : decode cX3_init 5 = .ok (.bipush 20, 2) := by decide +kernel
theorem dX3_init_7 : decode cX3_init 7 = .ok (.anewarray 9, 3) := by decide +kernel
theorem dX3_init_10 : decode cX3_init 10 = .ok (.putfield 11, 3) := by decide +kernel
theorem dX3_init_13 : decode cX3_init 13 = .ok (.aload_n 0, 1) := by decide +kernel
theorem dX3_init_14 : decode cX3_init 14 = .ok (.iconst 0, 1) := by decide +kernel
theorem dX3_init_15 : decode cX3_init 15 = .ok (.putfield 17, 3) := by decide +kernel
theorem dX3_init_18 : decode cX3_init 18 = .ok (.aload_n 0, 1) := by decide +kernel
theorem dX3_init_19 : decode cX3_init 19 = .ok (.iconst 0, 1) := by decide +kernel
theorem dX3_init_20 : decode cX3_init 20 = .ok (.putfield 21, 3) := by decide +kernel
theorem dX3_init_23 : decode cX3_init 23 = .ok (.iconst 0, 1) := by decide +kernel
theorem dX3_init_24 : decode cX3_init 24 = .ok (.istore_n 1, 1) := by decide +kernel
theorem dX3_init_25 : decode cX3_init 25 = .ok (.iload_n 1, 1) := by decide +kernel
theorem dX3_init_26 : decode cX3_init 26 = .ok (.bipush 20, 2) := by decide +kernel
theorem dX3_init_28 : decode cX3_init 28 = .ok (.if_icmp .ge 22, 3) := by decide +kernel
theorem dX3_init_31 : decode cX3_init 31 = .ok (.aload_n 0, 1) := by decide +kernel
theorem dX3_init_32 : decode cX3_init 32 = .ok (.getfield 11, 3) := by decide +kernel
theorem dX3_init_35 : decode cX3_init 35 = .ok (.iload_n 1, 1) := by decide +kernel
theorem dX3_init_36 : decode cX3_init 36 = .ok (.new 9, 3) := by decide +kernel
theorem dX3_init_39 : decode cX3_init 39 = .ok (.dup, 1) := by decide +kernel
theorem dX3_init_40 : decode cX3_init 40 = .ok (.invokespecial 24, 3) := by decide +kernel
theorem dX3_init_43 : decode cX3_init 43 = .ok (.aastore, 1) := by decide +kernel
theorem dX3_init_44 : decode cX3_init 44 = .ok (.iinc 1 1, 3) := by decide +kernel
theorem dX3_init_47 : decode cX3_init 47 = .ok (.goto (-22), 3) := by decide +kernel
theorem dX3_init_50 : decode cX3_init 50 = .ok (.return_, 1) := by decide +kernel
def fX3_init (Y : XS) (n : Nat) (S : PS) (a0 : Nat) : Option (XS × PS) :=
  kna Y S 16 (20 : Int32) (fun Y1 Sn1 n1 => kpr Sn1 a0 0 (some n1) (fun S6 => kpi S6 a0 1 (0 : Int32) (fun S9 => kpi S9 a0 2 (0 : Int32) (fun S12 => kgr S12 a0 0 (fun b19 => knw Y1 S12 1 0 (fun Y2 Sn2 n2 => kc (fX1_init Y2 n Sn2 n2) (fun q3 => kwr q3.1 q3.2 b19 (0 : Int32) n2 (fun S24 => kgr S24 a0 0 (fun b31 => knw q3.1 S24 1 0 (fun Y4 Sn4 n4 => kc (fX1_init Y4 n Sn4 n4) (fun q5 => kwr q5.1 q5.2 b31 (1 : Int32) n4 (fun S36 => kgr S36 a0 0 (fun b43 => knw q5.1 S36 1 0 (fun Y6 Sn6 n6 => kc (fX1_init Y6 n Sn6 n6) (fun q7 => kwr q7.1 q7.2 b43 (2 : Int32) n6 (fun S48 => kgr S48 a0 0 (fun b55 => knw q7.1 S48 1 0 (fun Y8 Sn8 n8 => kc (fX1_init Y8 n Sn8 n8) (fun q9 => kwr q9.1 q9.2 b55 (3 : Int32) n8 (fun S60 => kgr S60 a0 0 (fun b67 => knw q9.1 S60 1 0 (fun Y10 Sn10 n10 => kc (fX1_init Y10 n Sn10 n10) (fun q11 => kwr q11.1 q11.2 b67 (4 : Int32) n10 (fun S72 => kgr S72 a0 0 (fun b79 => knw q11.1 S72 1 0 (fun Y12 Sn12 n12 => kc (fX1_init Y12 n Sn12 n12) (fun q13 => kwr q13.1 q13.2 b79 (5 : Int32) n12 (fun S84 => kgr S84 a0 0 (fun b91 => knw q13.1 S84 1 0 (fun Y14 Sn14 n14 => kc (fX1_init Y14 n Sn14 n14) (fun q15 => kwr q15.1 q15.2 b91 (6 : Int32) n14 (fun S96 => kgr S96 a0 0 (fun b103 => knw q15.1 S96 1 0 (fun Y16 Sn16 n16 => kc (fX1_init Y16 n Sn16 n16) (fun q17 => kwr q17.1 q17.2 b103 (7 : Int32) n16 (fun S108 => kgr S108 a0 0 (fun b115 => knw q17.1 S108 1 0 (fun Y18 Sn18 n18 => kc (fX1_init Y18 n Sn18 n18) (fun q19 => kwr q19.1 q19.2 b115 (8 : Int32) n18 (fun S120 => kgr S120 a0 0 (fun b127 => knw q19.1 S120 1 0 (fun Y20 Sn20 n20 => kc (fX1_init Y20 n Sn20 n20) (fun q21 => kwr q21.1 q21.2 b127 (9 : Int32) n20 (fun S132 => kgr S132 a0 0 (fun b139 => knw q21.1 S132 1 0 (fun Y22 Sn22 n22 => kc (fX1_init Y22 n Sn22 n22) (fun q23 => kwr q23.1 q23.2 b139 (10 : Int32) n22 (fun S144 => kgr S144 a0 0 (fun b151 => knw q23.1 S144 1 0 (fun Y24 Sn24 n24 => kc (fX1_init Y24 n Sn24 n24) (fun q25 => kwr q25.1 q25.2 b151 (11 : Int32) n24 (fun S156 => kgr S156 a0 0 (fun b163 => knw q25.1 S156 1 0 (fun Y26 Sn26 n26 => kc (fX1_init Y26 n Sn26 n26) (fun q27 => kwr q27.1 q27.2 b163 (12 : Int32) n26 (fun S168 => kgr S168 a0 0 (fun b175 => knw q27.1 S168 1 0 (fun Y28 Sn28 n28 => kc (fX1_init Y28 n Sn28 n28) (fun q29 => kwr q29.1 q29.2 b175 (13 : Int32) n28 (fun S180 => kgr S180 a0 0 (fun b187 => knw q29.1 S180 1 0 (fun Y30 Sn30 n30 => kc (fX1_init Y30 n Sn30 n30) (fun q31 => kwr q31.1 q31.2 b187 (14 : Int32) n30 (fun S192 => kgr S192 a0 0 (fun b199 => knw q31.1 S192 1 0 (fun Y32 Sn32 n32 => kc (fX1_init Y32 n Sn32 n32) (fun q33 => kwr q33.1 q33.2 b199 (15 : Int32) n32 (fun S204 => kgr S204 a0 0 (fun b211 => knw q33.1 S204 1 0 (fun Y34 Sn34 n34 => kc (fX1_init Y34 n Sn34 n34) (fun q35 => kwr q35.1 q35.2 b211 (16 : Int32) n34 (fun S216 => kgr S216 a0 0 (fun b223 => knw q35.1 S216 1 0 (fun Y36 Sn36 n36 => kc (fX1_init Y36 n Sn36 n36) (fun q37 => kwr q37.1 q37.2 b223 (17 : Int32) n36 (fun S228 => kgr S228 a0 0 (fun b235 => knw q37.1 S228 1 0 (fun Y38 Sn38 n38 => kc (fX1_init Y38 n Sn38 n38) (fun q39 => kwr q39.1 q39.2 b235 (18 : Int32) n38 (fun S240 => kgr S240 a0 0 (fun b247 => knw q39.1 S240 1 0 (fun Y40 Sn40 n40 => kc (fX1_init Y40 n Sn40 n40) (fun q41 => kwr q41.1 q41.2 b247 (19 : Int32) n40 (fun S252 => some (q41.1, S252)))))))))))))))))))))))))))))))))))))))))))))))))))))))))))))))))))))))))))))))))))))
theorem wX3_init {C : CT} {ρ : Nat → Nat} {Y : XS} (hC : CK C RX3 cX3_init 2 none 2) (hI : CI C) (n : Nat) (S : PS) (a0 : Nat) (hTa0 : Ty Y a0 3) {o : XS × PS} (hf : fX3_init Y n S a0 = some o) (hB : XB C (ρ, Y, 0, 0) 81 7600) (hR : RtA C ρ Y cX3_init none 81 7600 (fun _ => none) o.2 o.1) : UW C (ρ, Y, 0, 0) S 0 [(0, .ref (ρ a0))] [] := by
  unfold fX3_init at hf
  have hAG := AG.refl ρ Y
  refine u_aload_n hC dX3_init_0 0 rfl rfl ?_
  refine u_oinit (a := a0) hC (tb_2 121 rfl rfl) (by decide) (Nat.le_of_ble_eq_true rfl) dX3_init_1 ?_
  refine u_aload_n hC dX3_init_4 0 rfl rfl ?_
  refine u_bipush (v := (20 : Int32)) hC dX3_init_5 (by decide) ?_
  refine u_newqE (N := 20) hC (tb_2 122 rfl rfl) (by decide) (by decide) (hB.at (Nat.le_of_ble_eq_true rfl) (Nat.le_of_ble_eq_true rfl)) dX3_init_7 hf (fun ρ1 Y1 Sn1 n1 hag hup hTn1 hf => ?_)
  replace hag : ∀ a k, Ty Y a k → ρ1 a = ρ a := hag
  replace hup : ∀ a k, Ty Y a k → Ty Y1 a k := hup
  show UW C (ρ1, Y1, 0 + 1, 0 + 20) Sn1 _ _ _
  show UW C (ρ1, Y1, 1, 20) Sn1 _ _ _
  rw [← hag a0 _ hTa0]
  have hTa0 := hup _ _ hTa0
  have hAG := AG.new hAG hag hup
  refine u_prF hC hI lf_X3_11 rfl rfl rfl rfl hTa0 hTn1 dX3_init_10 hf (fun S6 hf => ?_)
  refine u_aload_n hC dX3_init_13 0 rfl rfl ?_
  refine u_iconst (v := (0 : Int32)) hC dX3_init_14 (by decide) ?_
  refine u_pi hC lf_X3_17 rfl rfl rfl hTa0 dX3_init_15 hf (fun S9 hf => ?_)
  refine u_aload_n hC dX3_init_18 0 rfl rfl ?_
  refine u_iconst (v := (0 : Int32)) hC dX3_init_19 (by decide) ?_
  refine u_pi hC lf_X3_21 rfl rfl rfl hTa0 dX3_init_20 hf (fun S12 hf => ?_)
  refine u_iconst (v := (0 : Int32)) hC dX3_init_23 (by decide) ?_
  refine u_istore_n (lv' := [(1, .int (0 : Int32)), (0, .ref (ρ1 a0))]) hC dX3_init_24 rfl (by decide) rfl ?_
  refine u_iload_n hC dX3_init_25 0 rfl rfl ?_
  refine u_bipush (v := (20 : Int32)) hC dX3_init_26 (by decide) ?_
  refine u_icmp_ge (tgt := 50) (α := Unit) (a := none) (b := some ()) (o := ()) hC dX3_init_28 (by decide) (if_neg (by decide)) (fun _ hx => nomatch hx) (fun _ _ => ?_)
  refine u_aload_n hC dX3_init_31 1 rfl rfl ?_
  refine u_gr hC lf_X3_11 rfl hTa0 dX3_init_32 hf (fun b19 hTb19 hf => ?_)
  show UW C (ρ1, Y1, 1, 20) S12 _ _ [.ref (ρ1 b19)]
  refine u_iload_n hC dX3_init_35 0 rfl rfl ?_
  refine u_new (ci := 1) hC (by decide) ⟨(tb_2 122 rfl rfl), (tb_1 41 rfl rfl), (tb_1 3 rfl rfl)⟩ (hB.at (Nat.le_of_ble_eq_true rfl) (Nat.le_of_ble_eq_true rfl)) dX3_init_36 hf (fun ρ2 Y2 Sn2 n2 hag hup hTn2 hf => ?_)
  replace hag : ∀ a k, Ty Y1 a k → ρ2 a = ρ1 a := hag
  replace hup : ∀ a k, Ty Y1 a k → Ty Y2 a k := hup
  show UW C (ρ2, Y2, 1 + 1, 20 + 7) Sn2 _ _ _
  show UW C (ρ2, Y2, 2, 27) Sn2 _ _ _
  rw [← hag a0 _ hTa0]
  have hTa0 := hup _ _ hTa0
  rw [← hag b19 _ hTb19]
  have hTb19 := hup _ _ hTb19
  have hAG := AG.new hAG hag hup
  refine u_dup hC dX3_init_39 rfl ?_
  obtain ⟨q3, hq3, hf⟩ := kc_some hf
  refine u_callIN (X := (ρ2, Y2, 2, 27)) (rest := [.ref (ρ2 n2), .int (0 : Int32), .ref (ρ2 b19)]) hC (ctX1_init (cL C) hC.tr (cG C) ρ2 Y2 n Sn2 n2 hTn2 hq3) (hB.at (Nat.le_of_ble_eq_true rfl) (Nat.le_of_ble_eq_true rfl)) lk_X3_24 (tb_1 43 rfl rfl) rfl rfl (by decide) (by decide) rfl rfl (Nat.le_of_ble_eq_true rfl) dX3_init_40 (fun ρ3 hag => ?_)
  replace hag : ∀ a k, Ty Y2 a k → ρ3 a = ρ2 a ∧ Ty q3.1 a k := hag
  show UW C (ρ3, q3.1, 2 + 3, 27 + 372) q3.2 _ _ _
  show UW C (ρ3, q3.1, 5, 399) q3.2 _ _ _
  rw [← (hag a0 _ hTa0).1]
  have hTa0 := (hag _ _ hTa0).2
  rw [← (hag n2 _ hTn2).1]
  have hTn2 := (hag _ _ hTn2).2
  rw [← (hag b19 _ hTb19).1]
  have hTb19 := (hag _ _ hTb19).2
  have hAG := AG.trans hAG hag
  refine u_wr hC (Or.inl ⟨rfl, rfl, rfl⟩) hTb19 hTn2 dX3_init_43 hf (fun S24 hf => ?_)
  refine u_iinc (v := (1 : Int32)) (lv' := [(1, .int (1 : Int32)), (0, .ref (ρ3 a0))]) hC dX3_init_44 0 rfl (by decide) (by decide) rfl ?_
  refine u_goto (tgt := 25) hC dX3_init_47 (by decide) ?_
  refine u_iload_n hC dX3_init_25 0 rfl rfl ?_
  refine u_bipush (v := (20 : Int32)) hC dX3_init_26 (by decide) ?_
  refine u_icmp_ge (tgt := 50) (α := Unit) (a := none) (b := some ()) (o := ()) hC dX3_init_28 (by decide) (if_neg (by decide)) (fun _ hx => nomatch hx) (fun _ _ => ?_)
  refine u_aload_n hC dX3_init_31 1 rfl rfl ?_
  refine u_gr hC lf_X3_11 rfl hTa0 dX3_init_32 hf (fun b31 hTb31 hf => ?_)
  show UW C (ρ3, q3.1, 5, 399) S24 _ _ [.ref (ρ3 b31)]
  refine u_iload_n hC dX3_init_35 0 rfl rfl ?_
  refine u_new (ci := 1) hC (by decide) ⟨(tb_2 122 rfl rfl), (tb_1 41 rfl rfl), (tb_1 3 rfl rfl)⟩ (hB.at (Nat.le_of_ble_eq_true rfl) (Nat.le_of_ble_eq_true rfl)) dX3_init_36 hf (fun ρ4 Y4 Sn4 n4 hag hup hTn4 hf => ?_)
  replace hag : ∀ a k, Ty q3.1 a k → ρ4 a = ρ3 a := hag
  replace hup : ∀ a k, Ty q3.1 a k → Ty Y4 a k := hup
  show UW C (ρ4, Y4, 5 + 1, 399 + 7) Sn4 _ _ _
  show UW C (ρ4, Y4, 6, 406) Sn4 _ _ _
  rw [← hag a0 _ hTa0]
  have hTa0 := hup _ _ hTa0
  rw [← hag b31 _ hTb31]
  have hTb31 := hup _ _ hTb31
  have hAG := AG.new hAG hag hup
  refine u_dup hC dX3_init_39 rfl ?_
  obtain ⟨q5, hq5, hf⟩ := kc_some hf
  refine u_callIN (X := (ρ4, Y4, 6, 406)) (rest := [.ref (ρ4 n4), .int (1 : Int32), .ref (ρ4 b31)]) hC (ctX1_init (cL C) hC.tr (cG C) ρ4 Y4 n Sn4 n4 hTn4 hq5) (hB.at (Nat.le_of_ble_eq_true rfl) (Nat.le_of_ble_eq_true rfl)) lk_X3_24 (tb_1 43 rfl rfl) rfl rfl (by decide) (by decide) rfl rfl (Nat.le_of_ble_eq_true rfl) dX3_init_40 (fun ρ5 hag => ?_)
  replace hag : ∀ a k, Ty Y4 a k → ρ5 a = ρ4 a ∧ Ty q5.1 a k := hag
  show UW C (ρ5, q5.1, 6 + 3, 406 + 372) q5.2 _ _ _
  show UW C (ρ5, q5.1, 9, 778) q5.2 _ _ _
  rw [← (hag a0 _ hTa0).1]
  have hTa0 := (hag _ _ hTa0).2
  rw [← (hag n4 _ hTn4).1]
  have hTn4 := (hag _ _ hTn4).2
  rw [← (hag b31 _ hTb31).1]
  have hTb31 := (hag _ _ hTb31).2
  have hAG := AG.trans hAG hag
  refine u_wr hC (Or.inl ⟨rfl, rfl, rfl⟩) hTb31 hTn4 dX3_init_43 hf (fun S36 hf => ?_)
  refine u_iinc (v := (2 : Int32)) (lv' := [(1, .int (2 : Int32)), (0, .ref (ρ5 a0))]) hC dX3_init_44 0 rfl (by decide) (by decide) rfl ?_
  refine u_goto (tgt := 25) hC dX3_init_47 (by decide) ?_
  refine u_iload_n hC dX3_init_25 0 rfl rfl ?_
  refine u_bipush (v := (20 : Int32)) hC dX3_init_26 (by decide) ?_
  refine u_icmp_ge (tgt := 50) (α := Unit) (a := none) (b := some ()) (o := ()) hC dX3_init_28 (by decide) (if_neg (by decide)) (fun _ hx => nomatch hx) (fun _ _ => ?_)
  refine u_aload_n hC dX3_init_31 1 rfl rfl ?_
  refine u_gr hC lf_X3_11 rfl hTa0 dX3_init_32 hf (fun b43 hTb43 hf => ?_)
  show UW C (ρ5, q5.1, 9, 778) S36 _ _ [.ref (ρ5 b43)]
  refine u_iload_n hC dX3_init_35 0 rfl rfl ?_
  refine u_new (ci := 1) hC (by decide) ⟨(tb_2 122 rfl rfl), (tb_1 41 rfl rfl), (tb_1 3 rfl rfl)⟩ (hB.at (Nat.le_of_ble_eq_true rfl) (Nat.le_of_ble_eq_true rfl)) dX3_init_36 hf (fun ρ6 Y6 Sn6 n6 hag hup hTn6 hf => ?_)
  replace hag : ∀ a k, Ty q5.1 a k → ρ6 a = ρ5 a := hag
  replace hup : ∀ a k, Ty q5.1 a k → Ty Y6 a k := hup
  show UW C (ρ6, Y6, 9 + 1, 778 + 7) Sn6 _ _ _
  show UW C (ρ6, Y6, 10, 785) Sn6 _ _ _
  rw [← hag a0 _ hTa0]
  have hTa0 := hup _ _ hTa0
  rw [← hag b43 _ hTb43]
  have hTb43 := hup _ _ hTb43
  have hAG := AG.new hAG hag hup
  refine u_dup hC dX3_init_39 rfl ?_
  obtain ⟨q7, hq7, hf⟩ := kc_some hf
  refine u_callIN (X := (ρ6, Y6, 10, 785)) (rest := [.ref (ρ6 n6), .int (2 : Int32), .ref (ρ6 b43)]) hC (ctX1_init (cL C) hC.tr (cG C) ρ6 Y6 n Sn6 n6 hTn6 hq7) (hB.at (Nat.le_of_ble_eq_true rfl) (Nat.le_of_ble_eq_true rfl)) lk_X3_24 (tb_1 43 rfl rfl) rfl rfl (by decide) (by decide) rfl rfl (Nat.le_of_ble_eq_true rfl) dX3_init_40 (fun ρ7 hag => ?_)
  replace hag : ∀ a k, Ty Y6 a k → ρ7 a = ρ6 a ∧ Ty q7.1 a k := hag
  show UW C (ρ7, q7.1, 10 + 3, 785 + 372) q7.2 _ _ _
  show UW C (ρ7, q7.1, 13, 1157) q7.2 _ _ _
  rw [← (hag a0 _ hTa0).1]
  have hTa0 := (hag _ _ hTa0).2
  rw [← (hag n6 _ hTn6).1]
  have hTn6 := (hag _ _ hTn6).2
  rw [← (hag b43 _ hTb43).1]
  have hTb43 := (hag _ _ hTb43).2
  have hAG := AG.trans hAG hag
  refine u_wr hC (Or.inl ⟨rfl, rfl, rfl⟩) hTb43 hTn6 dX3_init_43 hf (fun S48 hf => ?_)
  refine u_iinc (v := (3 : Int32)) (lv' := [(1, .int (3 : Int32)), (0, .ref (ρ7 a0))]) hC dX3_init_44 0 rfl (by decide) (by decide) rfl ?_
  refine u_goto (tgt := 25) hC dX3_init_47 (by decide) ?_
  refine u_iload_n hC dX3_init_25 0 rfl rfl ?_
  refine u_bipush (v := (20 : Int32)) hC dX3_init_26 (by decide) ?_
  refine u_icmp_ge (tgt := 50) (α := Unit) (a := none) (b := some ()) (o := ()) hC dX3_init_28 (by decide) (if_neg (by decide)) (fun _ hx => nomatch hx) (fun _ _ => ?_)
  refine u_aload_n hC dX3_init_31 1 rfl rfl ?_
  refine u_gr hC lf_X3_11 rfl hTa0 dX3_init_32 hf (fun b55 hTb55 hf => ?_)
  show UW C (ρ7, q7.1, 13, 1157) S48 _ _ [.ref (ρ7 b55)]
  refine u_iload_n hC dX3_init_35 0 rfl rfl ?_
  refine u_new (ci := 1) hC (by decide) ⟨(tb_2 122 rfl rfl), (tb_1 41 rfl rfl), (tb_1 3 rfl rfl)⟩ (hB.at (Nat.le_of_ble_eq_true rfl) (Nat.le_of_ble_eq_true rfl)) dX3_init_36 hf (fun ρ8 Y8 Sn8 n8 hag hup hTn8 hf => ?_)
  replace hag : ∀ a k, Ty q7.1 a k → ρ8 a = ρ7 a := hag
  replace hup : ∀ a k, Ty q7.1 a k → Ty Y8 a k := hup
  show UW C (ρ8, Y8, 13 + 1, 1157 + 7) Sn8 _ _ _
  show UW C (ρ8, Y8, 14, 1164) Sn8 _ _ _
  rw [← hag a0 _ hTa0]
  have hTa0 := hup _ _ hTa0
  rw [← hag b55 _ hTb55]
  have hTb55 := hup _ _ hTb55
  have hAG := AG.new hAG hag hup
  refine u_dup hC dX3_init_39 rfl ?_
  obtain ⟨q9, hq9, hf⟩ := kc_some hf
  refine u_callIN (X := (ρ8, Y8, 14, 1164)) (rest := [.ref (ρ8 n8), .int (3 : Int32), .ref (ρ8 b55)]) hC (ctX1_init (cL C) hC.tr (cG C) ρ8 Y8 n Sn8 n8 hTn8 hq9) (hB.at (Nat.le_of_ble_eq_true rfl) (Nat.le_of_ble_eq_true rfl)) lk_X3_24 (tb_1 43 rfl rfl) rfl rfl (by decide) (by decide) rfl rfl (Nat.le_of_ble_eq_true rfl) dX3_init_40 (fun ρ9 hag => ?_)
  replace hag : ∀ a k, Ty Y8 a k → ρ9 a = ρ8 a ∧ Ty q9.1 a k := hag
  show UW C (ρ9, q9.1, 14 + 3, 1164 + 372) q9.2 _ _ _
  show UW C (ρ9, q9.1, 17, 1536) q9.2 _ _ _
  rw [← (hag a0 _ hTa0).1]
  have hTa0 := (hag _ _ hTa0).2
  rw [← (hag n8 _ hTn8).1]
  have hTn8 := (hag _ _ hTn8).2
  rw [← (hag b55 _ hTb55).1]
  have hTb55 := (hag _ _ hTb55).2
  have hAG := AG.trans hAG hag
  refine u_wr hC (Or.inl ⟨rfl, rfl, rfl⟩) hTb55 hTn8 dX3_init_43 hf (fun S60 hf => ?_)
  refine u_iinc (v := (4 : Int32)) (lv' := [(1, .int (4 : Int32)), (0, .ref (ρ9 a0))]) hC dX3_init_44 0 rfl (by decide) (by decide) rfl ?_
  refine u_goto (tgt := 25) hC dX3_init_47 (by decide) ?_
  refine u_iload_n hC dX3_init_25 0 rfl rfl ?_
  refine u_bipush (v := (20 : Int32)) hC dX3_init_26 (by decide) ?_
  refine u_icmp_ge (tgt := 50) (α := Unit) (a := none) (b := some ()) (o := ()) hC dX3_init_28 (by decide) (if_neg (by decide)) (fun _ hx => nomatch hx) (fun _ _ => ?_)
  refine u_aload_n hC dX3_init_31 1 rfl rfl ?_
  refine u_gr hC lf_X3_11 rfl hTa0 dX3_init_32 hf (fun b67 hTb67 hf => ?_)
  show UW C (ρ9, q9.1, 17, 1536) S60 _ _ [.ref (ρ9 b67)]
  refine u_iload_n hC dX3_init_35 0 rfl rfl ?_
  refine u_new (ci := 1) hC (by decide) ⟨(tb_2 122 rfl rfl), (tb_1 41 rfl rfl), (tb_1 3 rfl rfl)⟩ (hB.at (Nat.le_of_ble_eq_true rfl) (Nat.le_of_ble_eq_true rfl)) dX3_init_36 hf (fun ρ10 Y10 Sn10 n10 hag hup hTn10 hf => ?_)
  replace hag : ∀ a k, Ty q9.1 a k → ρ10 a = ρ9 a := hag
  replace hup : ∀ a k, Ty q9.1 a k → Ty Y10 a k := hup
  show UW C (ρ10, Y10, 17 + 1, 1536 + 7) Sn10 _ _ _
  show UW C (ρ10, Y10, 18, 1543) Sn10 _ _ _
  rw [← hag a0 _ hTa0]
  have hTa0 := hup _ _ hTa0
  rw [← hag b67 _ hTb67]
  have hTb67 := hup _ _ hTb67
  have hAG := AG.new hAG hag hup
  refine u_dup hC dX3_init_39 rfl ?_
  obtain ⟨q11, hq11, hf⟩ := kc_some hf
  refine u_callIN (X := (ρ10, Y10, 18, 1543)) (rest := [.ref (ρ10 n10), .int (4 : Int32), .ref (ρ10 b67)]) hC (ctX1_init (cL C) hC.tr (cG C) ρ10 Y10 n Sn10 n10 hTn10 hq11) (hB.at (Nat.le_of_ble_eq_true rfl) (Nat.le_of_ble_eq_true rfl)) lk_X3_24 (tb_1 43 rfl rfl) rfl rfl (by decide) (by decide) rfl rfl (Nat.le_of_ble_eq_true rfl) dX3_init_40 (fun ρ11 hag => ?_)
  replace hag : ∀ a k, Ty Y10 a k → ρ11 a = ρ10 a ∧ Ty q11.1 a k := hag
  show UW C (ρ11, q11.1, 18 + 3, 1543 + 372) q11.2 _ _ _
  show UW C (ρ11, q11.1, 21, 1915) q11.2 _ _ _
  rw [← (hag a0 _ hTa0).1]
  have hTa0 := (hag _ _ hTa0).2
  rw [← (hag n10 _ hTn10).1]
  have hTn10 := (hag _ _ hTn10).2
  rw [← (hag b67 _ hTb67).1]
  have hTb67 := (hag _ _ hTb67).2
  have hAG := AG.trans hAG hag
  refine u_wr hC (Or.inl ⟨rfl, rfl, rfl⟩) hTb67 hTn10 dX3_init_43 hf (fun S72 hf => ?_)
  refine u_iinc (v := (5 : Int32)) (lv' := [(1, .int (5 : Int32)), (0, .ref (ρ11 a0))]) hC dX3_init_44 0 rfl (by decide) (by decide) rfl ?_
  refine u_goto (tgt := 25) hC dX3_init_47 (by decide) ?_
  refine u_iload_n hC dX3_init_25 0 rfl rfl ?_
  refine u_bipush (v := (20 : Int32)) hC dX3_init_26 (by decide) ?_
  refine u_icmp_ge (tgt := 50) (α := Unit) (a := none) (b := some ()) (o := ()) hC dX3_init_28 (by decide) (if_neg (by decide)) (fun _ hx => nomatch hx) (fun _ _ => ?_)
  refine u_aload_n hC dX3_init_31 1 rfl rfl ?_
  refine u_gr hC lf_X3_11 rfl hTa0 dX3_init_32 hf (fun b79 hTb79 hf => ?_)
  show UW C (ρ11, q11.1, 21, 1915) S72 _ _ [.ref (ρ11 b79)]
  refine u_iload_n hC dX3_init_35 0 rfl rfl ?_
  refine u_new (ci := 1) hC (by decide) ⟨(tb_2 122 rfl rfl), (tb_1 41 rfl rfl), (tb_1 3 rfl rfl)⟩ (hB.at (Nat.le_of_ble_eq_true rfl) (Nat.le_of_ble_eq_true rfl)) dX3_init_36 hf (fun ρ12 Y12 Sn12 n12 hag hup hTn12 hf => ?_)
  replace hag : ∀ a k, Ty q11.1 a k → ρ12 a = ρ11 a := hag
  replace hup : ∀ a k, Ty q11.1 a k → Ty Y12 a k := hup
  show UW C (ρ12, Y12, 21 + 1, 1915 + 7) Sn12 _ _ _
  show UW C (ρ12, Y12, 22, 1922) Sn12 _ _ _
  rw [← hag a0 _ hTa0]
  have hTa0 := hup _ _ hTa0
  rw [← hag b79 _ hTb79]
  have hTb79 := hup _ _ hTb79
  have hAG := AG.new hAG hag hup
  refine u_dup hC dX3_init_39 rfl ?_
  obtain ⟨q13, hq13, hf⟩ := kc_some hf
  refine u_callIN (X := (ρ12, Y12, 22, 1922)) (rest := [.ref (ρ12 n12), .int (5 : Int32), .ref (ρ12 b79)]) hC (ctX1_init (cL C) hC.tr (cG C) ρ12 Y12 n Sn12 n12 hTn12 hq13) (hB.at (Nat.le_of_ble_eq_true rfl) (Nat.le_of_ble_eq_true rfl)) lk_X3_24 (tb_1 43 rfl rfl) rfl rfl (by decide) (by decide) rfl rfl (Nat.le_of_ble_eq_true rfl) dX3_init_40 (fun ρ13 hag => ?_)
  replace hag : ∀ a k, Ty Y12 a k → ρ13 a = ρ12 a ∧ Ty q13.1 a k := hag
  show UW C (ρ13, q13.1, 22 + 3, 1922 + 372) q13.2 _ _ _
  show UW C (ρ13, q13.1, 25, 2294) q13.2 _ _ _
  rw [← (hag a0 _ hTa0).1]
  have hTa0 := (hag _ _ hTa0).2
  rw [← (hag n12 _ hTn12).1]
  have hTn12 := (hag _ _ hTn12).2
  rw [← (hag b79 _ hTb79).1]
  have hTb79 := (hag _ _ hTb79).2
  have hAG := AG.trans hAG hag
  refine u_wr hC (Or.inl ⟨rfl, rfl, rfl⟩) hTb79 hTn12 dX3_init_43 hf (fun S84 hf => ?_)
  refine u_iinc (v := (6 : Int32)) (lv' := [(1, .int (6 : Int32)), (0, .ref (ρ13 a0))]) hC dX3_init_44 0 rfl (by decide) (by decide) rfl ?_
  refine u_goto (tgt := 25) hC dX3_init_47 (by decide) ?_
  refine u_iload_n hC dX3_init_25 0 rfl rfl ?_
  refine u_bipush (v := (20 : Int32)) hC dX3_init_26 (by decide) ?_
  refine u_icmp_ge (tgt := 50) (α := Unit) (a := none) (b := some ()) (o := ()) hC dX3_init_28 (by decide) (if_neg (by decide)) (fun _ hx => nomatch hx) (fun _ _ => ?_)
  refine u_aload_n hC dX3_init_31 1 rfl rfl ?_
  refine u_gr hC lf_X3_11 rfl hTa0 dX3_init_32 hf (fun b91 hTb91 hf => ?_)
  show UW C (ρ13, q13.1, 25, 2294) S84 _ _ [.ref (ρ13 b91)]
  refine u_iload_n hC dX3_init_35 0 rfl rfl ?_
  refine u_new (ci := 1) hC (by decide) ⟨(tb_2 122 rfl rfl), (tb_1 41 rfl rfl), (tb_1 3 rfl rfl)⟩ (hB.at (Nat.le_of_ble_eq_true rfl) (Nat.le_of_ble_eq_true rfl)) dX3_init_36 hf (fun ρ14 Y14 Sn14 n14 hag hup hTn14 hf => ?_)
  replace hag : ∀ a k, Ty q13.1 a k → ρ14 a = ρ13 a := hag
  replace hup : ∀ a k, Ty q13.1 a k → Ty Y14 a k := hup
  show UW C (ρ14, Y14, 25 + 1, 2294 + 7) Sn14 _ _ _
  show UW C (ρ14, Y14, 26, 2301) Sn14 _ _ _
  rw [← hag a0 _ hTa0]
  have hTa0 := hup _ _ hTa0
  rw [← hag b91 _ hTb91]
  have hTb91 := hup _ _ hTb91
  have hAG := AG.new hAG hag hup
  refine u_dup hC dX3_init_39 rfl ?_
  obtain ⟨q15, hq15, hf⟩ := kc_some hf
  refine u_callIN (X := (ρ14, Y14, 26, 2301)) (rest := [.ref (ρ14 n14), .int (6 : Int32), .ref (ρ14 b91)]) hC (ctX1_init (cL C) hC.tr (cG C) ρ14 Y14 n Sn14 n14 hTn14 hq15) (hB.at (Nat.le_of_ble_eq_true rfl) (Nat.le_of_ble_eq_true rfl)) lk_X3_24 (tb_1 43 rfl rfl) rfl rfl (by decide) (by decide) rfl rfl (Nat.le_of_ble_eq_true rfl) dX3_init_40 (fun ρ15 hag => ?_)
  replace hag : ∀ a k, Ty Y14 a k → ρ15 a = ρ14 a ∧ Ty q15.1 a k := hag
  show UW C (ρ15, q15.1, 26 + 3, 2301 + 372) q15.2 _ _ _
  show UW C (ρ15, q15.1, 29, 2673) q15.2 _ _ _
  rw [← (hag a0 _ hTa0).1]
  have hTa0 := (hag _ _ hTa0).2
  rw [← (hag n14 _ hTn14).1]
  have hTn14 := (hag _ _ hTn14).2
  rw [← (hag b91 _ hTb91).1]
  have hTb91 := (hag _ _ hTb91).2
  have hAG := AG.trans hAG hag
  refine u_wr hC (Or.inl ⟨rfl, rfl, rfl⟩) hTb91 hTn14 dX3_init_43 hf (fun S96 hf => ?_)
  refine u_iinc (v := (7 : Int32)) (lv' := [(1, .int (7 : Int32)), (0, .ref (ρ15 a0))]) hC dX3_init_44 0 rfl (by decide) (by decide) rfl ?_
  refine u_goto (tgt := 25) hC dX3_init_47 (by decide) ?_
  refine u_iload_n hC dX3_init_25 0 rfl rfl ?_
  refine u_bipush (v := (20 : Int32)) hC dX3_init_26 (by decide) ?_
  refine u_icmp_ge (tgt := 50) (α := Unit) (a := none) (b := some ()) (o := ()) hC dX3_init_28 (by decide) (if_neg (by decide)) (fun _ hx => nomatch hx) (fun _ _ => ?_)
  refine u_aload_n hC dX3_init_31 1 rfl rfl ?_
  refine u_gr hC lf_X3_11 rfl hTa0 dX3_init_32 hf (fun b103 hTb103 hf => ?_)
  show UW C (ρ15, q15.1, 29, 2673) S96 _ _ [.ref (ρ15 b103)]
  refine u_iload_n hC dX3_init_35 0 rfl rfl ?_
  refine u_new (ci := 1) hC (by decide) ⟨(tb_2 122 rfl rfl), (tb_1 41 rfl rfl), (tb_1 3 rfl rfl)⟩ (hB.at (Nat.le_of_ble_eq_true rfl) (Nat.le_of_ble_eq_true rfl)) dX3_init_36 hf (fun ρ16 Y16 Sn16 n16 hag hup hTn16 hf => ?_)
  replace hag : ∀ a k, Ty q15.1 a k → ρ16 a = ρ15 a := hag
  replace hup : ∀ a k, Ty q15.1 a k → Ty Y16 a k := hup
  show UW C (ρ16, Y16, 29 + 1, 2673 + 7) Sn16 _ _ _
  show UW C (ρ16, Y16, 30, 2680) Sn16 _ _ _
  rw [← hag a0 _ hTa0]
  have hTa0 := hup _ _ hTa0
  rw [← hag b103 _ hTb103]
  have hTb103 := hup _ _ hTb103
  have hAG := AG.new hAG hag hup
  refine u_dup hC dX3_init_39 rfl ?_
  obtain ⟨q17, hq17, hf⟩ := kc_some hf
  refine u_callIN (X := (ρ16, Y16, 30, 2680)) (rest := [.ref (ρ16 n16), .int (7 : Int32), .ref (ρ16 b103)]) hC (ctX1_init (cL C) hC.tr (cG C) ρ16 Y16 n Sn16 n16 hTn16 hq17) (hB.at (Nat.le_of_ble_eq_true rfl) (Nat.le_of_ble_eq_true rfl)) lk_X3_24 (tb_1 43 rfl rfl) rfl rfl (by decide) (by decide) rfl rfl (Nat.le_of_ble_eq_true rfl) dX3_init_40 (fun ρ17 hag => ?_)
  replace hag : ∀ a k, Ty Y16 a k → ρ17 a = ρ16 a ∧ Ty q17.1 a k := hag
  show UW C (ρ17, q17.1, 30 + 3, 2680 + 372) q17.2 _ _ _
  show UW C (ρ17, q17.1, 33, 3052) q17.2 _ _ _
  rw [← (hag a0 _ hTa0).1]
  have hTa0 := (hag _ _ hTa0).2
  rw [← (hag n16 _ hTn16).1]
  have hTn16 := (hag _ _ hTn16).2
  rw [← (hag b103 _ hTb103).1]
  have hTb103 := (hag _ _ hTb103).2
  have hAG := AG.trans hAG hag
  refine u_wr hC (Or.inl ⟨rfl, rfl, rfl⟩) hTb103 hTn16 dX3_init_43 hf (fun S108 hf => ?_)
  refine u_iinc (v := (8 : Int32)) (lv' := [(1, .int (8 : Int32)), (0, .ref (ρ17 a0))]) hC dX3_init_44 0 rfl (by decide) (by decide) rfl ?_
  refine u_goto (tgt := 25) hC dX3_init_47 (by decide) ?_
  refine u_iload_n hC dX3_init_25 0 rfl rfl ?_
  refine u_bipush (v := (20 : Int32)) hC dX3_init_26 (by decide) ?_
  refine u_icmp_ge (tgt := 50) (α := Unit) (a := none) (b := some ()) (o := ()) hC dX3_init_28 (by decide) (if_neg (by decide)) (fun _ hx => nomatch hx) (fun _ _ => ?_)
  refine u_aload_n hC dX3_init_31 1 rfl rfl ?_
  refine u_gr hC lf_X3_11 rfl hTa0 dX3_init_32 hf (fun b115 hTb115 hf => ?_)
  show UW C (ρ17, q17.1, 33, 3052) S108 _ _ [.ref (ρ17 b115)]
  refine u_iload_n hC dX3_init_35 0 rfl rfl ?_
  refine u_new (ci := 1) hC (by decide) ⟨(tb_2 122 rfl rfl), (tb_1 41 rfl rfl), (tb_1 3 rfl rfl)⟩ (hB.at (Nat.le_of_ble_eq_true rfl) (Nat.le_of_ble_eq_true rfl)) dX3_init_36 hf (fun ρ18 Y18 Sn18 n18 hag hup hTn18 hf => ?_)
  replace hag : ∀ a k, Ty q17.1 a k → ρ18 a = ρ17 a := hag
  replace hup : ∀ a k, Ty q17.1 a k → Ty Y18 a k := hup
  show UW C (ρ18, Y18, 33 + 1, 3052 + 7) Sn18 _ _ _
  show UW C (ρ18, Y18, 34, 3059) Sn18 _ _ _
  rw [← hag a0 _ hTa0]
  have hTa0 := hup _ _ hTa0
  rw [← hag b115 _ hTb115]
  have hTb115 := hup _ _ hTb115
  have hAG := AG.new hAG hag hup
  refine u_dup hC dX3_init_39 rfl ?_
  obtain ⟨q19, hq19, hf⟩ := kc_some hf
  refine u_callIN (X := (ρ18, Y18, 34, 3059)) (rest := [.ref (ρ18 n18), .int (8 : Int32), .ref (ρ18 b115)]) hC (ctX1_init (cL C) hC.tr (cG C) ρ18 Y18 n Sn18 n18 hTn18 hq19) (hB.at (Nat.le_of_ble_eq_true rfl) (Nat.le_of_ble_eq_true rfl)) lk_X3_24 (tb_1 43 rfl rfl) rfl rfl (by decide) (by decide) rfl rfl (Nat.le_of_ble_eq_true rfl) dX3_init_40 (fun ρ19 hag => ?_)
  replace hag : ∀ a k, Ty Y18 a k → ρ19 a = ρ18 a ∧ Ty q19.1 a k := hag
  show UW C (ρ19, q19.1, 34 + 3, 3059 + 372) q19.2 _ _ _
  show UW C (ρ19, q19.1, 37, 3431) q19.2 _ _ _
  rw [← (hag a0 _ hTa0).1]
  have hTa0 := (hag _ _ hTa0).2
  rw [← (hag n18 _ hTn18).1]
  have hTn18 := (hag _ _ hTn18).2
  rw [← (hag b115 _ hTb115).1]
  have hTb115 := (hag _ _ hTb115).2
  have hAG := AG.trans hAG hag
  refine u_wr hC (Or.inl ⟨rfl, rfl, rfl⟩) hTb115 hTn18 dX3_init_43 hf (fun S120 hf => ?_)
  refine u_iinc (v := (9 : Int32)) (lv' := [(1, .int (9 : Int32)), (0, .ref (ρ19 a0))]) hC dX3_init_44 0 rfl (by decide) (by decide) rfl ?_
  refine u_goto (tgt := 25) hC dX3_init_47 (by decide) ?_
  refine u_iload_n hC dX3_init_25 0 rfl rfl ?_
  refine u_bipush (v := (20 : Int32)) hC dX3_init_26 (by decide) ?_
  refine u_icmp_ge (tgt := 50) (α := Unit) (a := none) (b := some ()) (o := ()) hC dX3_init_28 (by decide) (if_neg (by decide)) (fun _ hx => nomatch hx) (fun _ _ => ?_)
  refine u_aload_n hC dX3_init_31 1 rfl rfl ?_
  refine u_gr hC lf_X3_11 rfl hTa0 dX3_init_32 hf (fun b127 hTb127 hf => ?_)
  show UW C (ρ19, q19.1, 37, 3431) S120 _ _ [.ref (ρ19 b127)]
  refine u_iload_n hC dX3_init_35 0 rfl rfl ?_
  refine u_new (ci := 1) hC (by decide) ⟨(tb_2 122 rfl rfl), (tb_1 41 rfl rfl), (tb_1 3 rfl rfl)⟩ (hB.at (Nat.le_of_ble_eq_true rfl) (Nat.le_of_ble_eq_true rfl)) dX3_init_36 hf (fun ρ20 Y20 Sn20 n20 hag hup hTn20 hf => ?_)
  replace hag : ∀ a k, Ty q19.1 a k → ρ20 a = ρ19 a := hag
  replace hup : ∀ a k, Ty q19.1 a k → Ty Y20 a k := hup
  show UW C (ρ20, Y20, 37 + 1, 3431 + 7) Sn20 _ _ _
  show UW C (ρ20, Y20, 38, 3438) Sn20 _ _ _
  rw [← hag a0 _ hTa0]
  have hTa0 := hup _ _ hTa0
  rw [← hag b127 _ hTb127]
  have hTb127 := hup _ _ hTb127
  have hAG := AG.new hAG hag hup
  refine u_dup hC dX3_init_39 rfl ?_
  obtain ⟨q21, hq21, hf⟩ := kc_some hf
  refine u_callIN (X := (ρ20, Y20, 38, 3438)) (rest := [.ref (ρ20 n20), .int (9 : Int32), .ref (ρ20 b127)]) hC (ctX1_init (cL C) hC.tr (cG C) ρ20 Y20 n Sn20 n20 hTn20 hq21) (hB.at (Nat.le_of_ble_eq_true rfl) (Nat.le_of_ble_eq_true rfl)) lk_X3_24 (tb_1 43 rfl rfl) rfl rfl (by decide) (by decide) rfl rfl (Nat.le_of_ble_eq_true rfl) dX3_init_40 (fun ρ21 hag => ?_)
  replace hag : ∀ a k, Ty Y20 a k → ρ21 a = ρ20 a ∧ Ty q21.1 a k := hag
  show UW C (ρ21, q21.1, 38 + 3, 3438 + 372) q21.2 _ _ _
  show UW C (ρ21, q21.1, 41, 3810) q21.2 _ _ _
  rw [← (hag a0 _ hTa0).1]
  have hTa0 := (hag _ _ hTa0).2
  rw [← (hag n20 _ hTn20).1]
  have hTn20 := (hag _ _ hTn20).2
  rw [← (hag b127 _ hTb127).1]
  have hTb127 := (hag _ _ hTb127).2
  have hAG := AG.trans hAG hag
  refine u_wr hC (Or.inl ⟨rfl, rfl, rfl⟩) hTb127 hTn20 dX3_init_43 hf (fun S132 hf => ?_)
  refine u_iinc (v := (10 : Int32)) (lv' := [(1, .int (10 : Int32)), (0, .ref (ρ21 a0))]) hC dX3_init_44 0 rfl (by decide) (by decide) rfl ?_
  refine u_goto (tgt := 25) hC dX3_init_47 (by decide) ?_
  refine u_iload_n hC dX3_init_25 0 rfl rfl ?_
  refine u_bipush (v := (20 : Int32)) hC dX3_init_26 (by decide) ?_
  refine u_icmp_ge (tgt := 50) (α := Unit) (a := none) (b := some ()) (o := ()) hC dX3_init_28 (by decide) (if_neg (by decide)) (fun _ hx => nomatch hx) (fun _ _ => ?_)
  refine u_aload_n hC dX3_init_31 1 rfl rfl ?_
  refine u_gr hC lf_X3_11 rfl hTa0 dX3_init_32 hf (fun b139 hTb139 hf => ?_)
  show UW C (ρ21, q21.1, 41, 3810) S132 _ _ [.ref (ρ21 b139)]
  refine u_iload_n hC dX3_init_35 0 rfl rfl ?_
  refine u_new (ci := 1) hC (by decide) ⟨(tb_2 122 rfl rfl), (tb_1 41 rfl rfl), (tb_1 3 rfl rfl)⟩ (hB.at (Nat.le_of_ble_eq_true rfl) (Nat.le_of_ble_eq_true rfl)) dX3_init_36 hf (fun ρ22 Y22 Sn22 n22 hag hup hTn22 hf => ?_)
  replace hag : ∀ a k, Ty q21.1 a k → ρ22 a = ρ21 a := hag
  replace hup : ∀ a k, Ty q21.1 a k → Ty Y22 a k := hup
  show UW C (ρ22, Y22, 41 + 1, 3810 + 7) Sn22 _ _ _
  show UW C (ρ22, Y22, 42, 3817) Sn22 _ _ _
  rw [← hag a0 _ hTa0]
  have hTa0 := hup _ _ hTa0
  rw [← hag b139 _ hTb139]
  have hTb139 := hup _ _ hTb139
  have hAG := AG.new hAG hag hup
  refine u_dup hC dX3_init_39 rfl ?_
  obtain ⟨q23, hq23, hf⟩ := kc_some hf
  refine u_callIN (X := (ρ22, Y22, 42, 3817)) (rest := [.ref (ρ22 n22), .int (10 : Int32), .ref (ρ22 b139)]) hC (ctX1_init (cL C) hC.tr (cG C) ρ22 Y22 n Sn22 n22 hTn22 hq23) (hB.at (Nat.le_of_ble_eq_true rfl) (Nat.le_of_ble_eq_true rfl)) lk_X3_24 (tb_1 43 rfl rfl) rfl rfl (by decide) (by decide) rfl rfl (Nat.le_of_ble_eq_true rfl) dX3_init_40 (fun ρ23 hag => ?_)
  replace hag : ∀ a k, Ty Y22 a k → ρ23 a = ρ22 a ∧ Ty q23.1 a k := hag
  show UW C (ρ23, q23.1, 42 + 3, 3817 + 372) q23.2 _ _ _
  show UW C (ρ23, q23.1, 45, 4189) q23.2 _ _ _
  rw [← (hag a0 _ hTa0).1]
  have hTa0 := (hag _ _ hTa0).2
  rw [← (hag n22 _ hTn22).1]
  have hTn22 := (hag _ _ hTn22).2
  rw [← (hag b139 _ hTb139).1]
  have hTb139 := (hag _ _ hTb139).2
  have hAG := AG.trans hAG hag
  refine u_wr hC (Or.inl ⟨rfl, rfl, rfl⟩) hTb139 hTn22 dX3_init_43 hf (fun S144 hf => ?_)
  refine u_iinc (v := (11 : Int32)) (lv' := [(1, .int (11 : Int32)), (0, .ref (ρ23 a0))]) hC dX3_init_44 0 rfl (by decide) (by decide) rfl ?_
  refine u_goto (tgt := 25) hC dX3_init_47 (by decide) ?_
  refine u_iload_n hC dX3_init_25 0 rfl rfl ?_
  refine u_bipush (v := (20 : Int32)) hC dX3_init_26 (by decide) ?_
  refine u_icmp_ge (tgt := 50) (α := Unit) (a := none) (b := some ()) (o := ()) hC dX3_init_28 (by decide) (if_neg (by decide)) (fun _ hx => nomatch hx) (fun _ _ => ?_)
  refine u_aload_n hC dX3_init_31 1 rfl rfl ?_
  refine u_gr hC lf_X3_11 rfl hTa0 dX3_init_32 hf (fun b151 hTb151 hf => ?_)
  show UW C (ρ23, q23.1, 45, 4189) S144 _ _ [.ref (ρ23 b151)]
  refine u_iload_n hC dX3_init_35 0 rfl rfl ?_
  refine u_new (ci := 1) hC (by decide) ⟨(tb_2 122 rfl rfl), (tb_1 41 rfl rfl), (tb_1 3 rfl rfl)⟩ (hB.at (Nat.le_of_ble_eq_true rfl) (Nat.le_of_ble_eq_true rfl)) dX3_init_36 hf (fun ρ24 Y24 Sn24 n24 hag hup hTn24 hf => ?_)
  replace hag : ∀ a k, Ty q23.1 a k → ρ24 a = ρ23 a := hag
  replace hup : ∀ a k, Ty q23.1 a k → Ty Y24 a k := hup
  show UW C (ρ24, Y24, 45 + 1, 4189 + 7) Sn24 _ _ _
  show UW C (ρ24, Y24, 46, 4196) Sn24 _ _ _
  rw [← hag a0 _ hTa0]
  have hTa0 := hup _ _ hTa0
  rw [← hag b151 _ hTb151]
  have hTb151 := hup _ _ hTb151
  have hAG := AG.new hAG hag hup
  refine u_dup hC dX3_init_39 rfl ?_
  obtain ⟨q25, hq25, hf⟩ := kc_some hf
  refine u_callIN (X := (ρ24, Y24, 46, 4196)) (rest := [.ref (ρ24 n24), .int (11 : Int32), .ref (ρ24 b151)]) hC (ctX1_init (cL C) hC.tr (cG C) ρ24 Y24 n Sn24 n24 hTn24 hq25) (hB.at (Nat.le_of_ble_eq_true rfl) (Nat.le_of_ble_eq_true rfl)) lk_X3_24 (tb_1 43 rfl rfl) rfl rfl (by decide) (by decide) rfl rfl (Nat.le_of_ble_eq_true rfl) dX3_init_40 (fun ρ25 hag => ?_)
  replace hag : ∀ a k, Ty Y24 a k → ρ25 a = ρ24 a ∧ Ty q25.1 a k := hag
  show UW C (ρ25, q25.1, 46 + 3, 4196 + 372) q25.2 _ _ _
  show UW C (ρ25, q25.1, 49, 4568) q25.2 _ _ _
  rw [← (hag a0 _ hTa0).1]
  have hTa0 := (hag _ _ hTa0).2
  rw [← (hag n24 _ hTn24).1]
  have hTn24 := (hag _ _ hTn24).2
  rw [← (hag b151 _ hTb151).1]
  have hTb151 := (hag _ _ hTb151).2
  have hAG := AG.trans hAG hag
  refine u_wr hC (Or.inl ⟨rfl, rfl, rfl⟩) hTb151 hTn24 dX3_init_43 hf (fun S156 hf => ?_)
  refine u_iinc (v := (12 : Int32)) (lv' := [(1, .int (12 : Int32)), (0, .ref (ρ25 a0))]) hC dX3_init_44 0 rfl (by decide) (by decide) rfl ?_
  refine u_goto (tgt := 25) hC dX3_init_47 (by decide) ?_
  refine u_iload_n hC dX3_init_25 0 rfl rfl ?_
  refine u_bipush (v := (20 : Int32)) hC dX3_init_26 (by decide) ?_
  refine u_icmp_ge (tgt := 50) (α := Unit) (a := none) (b := some ()) (o := ()) hC dX3_init_28 (by decide) (if_neg (by decide)) (fun _ hx => nomatch hx) (fun _ _ => ?_)
  refine u_aload_n hC dX3_init_31 1 rfl rfl ?_
  refine u_gr hC lf_X3_11 rfl hTa0 dX3_init_32 hf (fun b163 hTb163 hf => ?_)
  show UW C (ρ25, q25.1, 49, 4568) S156 _ _ [.ref (ρ25 b163)]
  refine u_iload_n hC dX3_init_35 0 rfl rfl ?_
  refine u_new (ci := 1) hC (by decide) ⟨(tb_2 122 rfl rfl), (tb_1 41 rfl rfl), (tb_1 3 rfl rfl)⟩ (hB.at (Nat.le_of_ble_eq_true rfl) (Nat.le_of_ble_eq_true rfl)) dX3_init_36 hf (fun ρ26 Y26 Sn26 n26 hag hup hTn26 hf => ?_)
  replace hag : ∀ a k, Ty q25.1 a k → ρ26 a = ρ25 a := hag
  replace hup : ∀ a k, Ty q25.1 a k → Ty Y26 a k := hup
  show UW C (ρ26, Y26, 49 + 1, 4568 + 7) Sn26 _ _ _
  show UW C (ρ26, Y26, 50, 4575) Sn26 _ _ _
  rw [← hag a0 _ hTa0]
  have hTa0 := hup _ _ hTa0
  rw [← hag b163 _ hTb163]
  have hTb163 := hup _ _ hTb163
  have hAG := AG.new hAG hag hup
  refine u_dup hC dX3_init_39 rfl ?_
  obtain ⟨q27, hq27, hf⟩ := kc_some hf
  refine u_callIN (X := (ρ26, Y26, 50, 4575)) (rest := [.ref (ρ26 n26), .int (12 : Int32), .ref (ρ26 b163)]) hC (ctX1_init (cL C) hC.tr (cG C) ρ26 Y26 n Sn26 n26 hTn26 hq27) (hB.at (Nat.le_of_ble_eq_true rfl) (Nat.le_of_ble_eq_true rfl)) lk_X3_24 (tb_1 43 rfl rfl) rfl rfl (by decide) (by decide) rfl rfl (Nat.le_of_ble_eq_true rfl) dX3_init_40 (fun ρ27 hag => ?_)
  replace hag : ∀ a k, Ty Y26 a k → ρ27 a = ρ26 a ∧ Ty q27.1 a k := hag
  show UW C (ρ27, q27.1, 50 + 3, 4575 + 372) q27.2 _ _ _
  show UW C (ρ27, q27.1, 53, 4947) q27.2 _ _ _
  rw [← (hag a0 _ hTa0).1]
  have hTa0 := (hag _ _ hTa0).2
  rw [← (hag n26 _ hTn26).1]
  have hTn26 := (hag _ _ hTn26).2
  rw [← (hag b163 _ hTb163).1]
  have hTb163 := (hag _ _ hTb163).2
  have hAG := AG.trans hAG hag
  refine u_wr hC (Or.inl ⟨rfl, rfl, rfl⟩) hTb163 hTn26 dX3_init_43 hf (fun S168 hf => ?_)
  refine u_iinc (v := (13 : Int32)) (lv' := [(1, .int (13 : Int32)), (0, .ref (ρ27 a0))]) hC dX3_init_44 0 rfl (by decide) (by decide) rfl ?_
  refine u_goto (tgt := 25) hC dX3_init_47 (by decide) ?_
  refine u_iload_n hC dX3_init_25 0 rfl rfl ?_
  refine u_bipush (v := (20 : Int32)) hC dX3_init_26 (by decide) ?_
  refine u_icmp_ge (tgt := 50) (α := Unit) (a := none) (b := some ()) (o := ()) hC dX3_init_28 (by decide) (if_neg (by decide)) (fun _ hx => nomatch hx) (fun _ _ => ?_)
  refine u_aload_n hC dX3_init_31 1 rfl rfl ?_
  refine u_gr hC lf_X3_11 rfl hTa0 dX3_init_32 hf (fun b175 hTb175 hf => ?_)
  show UW C (ρ27, q27.1, 53, 4947) S168 _ _ [.ref (ρ27 b175)]
  refine u_iload_n hC dX3_init_35 0 rfl rfl ?_
  refine u_new (ci := 1) hC (by decide) ⟨(tb_2 122 rfl rfl), (tb_1 41 rfl rfl), (tb_1 3 rfl rfl)⟩ (hB.at (Nat.le_of_ble_eq_true rfl) (Nat.le_of_ble_eq_true rfl)) dX3_init_36 hf (fun ρ28 Y28 Sn28 n28 hag hup hTn28 hf => ?_)
  replace hag : ∀ a k, Ty q27.1 a k → ρ28 a = ρ27 a := hag
  replace hup : ∀ a k, Ty q27.1 a k → Ty Y28 a k := hup
  show UW C (ρ28, Y28, 53 + 1, 4947 + 7) Sn28 _ _ _
  show UW C (ρ28, Y28, 54, 4954) Sn28 _ _ _
  rw [← hag a0 _ hTa0]
  have hTa0 := hup _ _ hTa0
  rw [← hag b175 _ hTb175]
  have hTb175 := hup _ _ hTb175
  have hAG := AG.new hAG hag hup
  refine u_dup hC dX3_init_39 rfl ?_
  obtain ⟨q29, hq29, hf⟩ := kc_some hf
  refine u_callIN (X := (ρ28, Y28, 54, 4954)) (rest := [.ref (ρ28 n28), .int (13 : Int32), .ref (ρ28 b175)]) hC (ctX1_init (cL C) hC.tr (cG C) ρ28 Y28 n Sn28 n28 hTn28 hq29) (hB.at (Nat.le_of_ble_eq_true rfl) (Nat.le_of_ble_eq_true rfl)) lk_X3_24 (tb_1 43 rfl rfl) rfl rfl (by decide) (by decide) rfl rfl (Nat.le_of_ble_eq_true rfl) dX3_init_40 (fun ρ29 hag => ?_)
  replace hag : ∀ a k, Ty Y28 a k → ρ29 a = ρ28 a ∧ Ty q29.1 a k := hag
  show UW C (ρ29, q29.1, 54 + 3, 4954 + 372) q29.2 _ _ _
  show UW C (ρ29, q29.1, 57, 5326) q29.2 _ _ _
  rw [← (hag a0 _ hTa0).1]
  have hTa0 := (hag _ _ hTa0).2
  rw [← (hag n28 _ hTn28).1]
  have hTn28 := (hag _ _ hTn28).2
  rw [← (hag b175 _ hTb175).1]
  have hTb175 := (hag _ _ hTb175).2
  have hAG := AG.trans hAG hag
  refine u_wr hC (Or.inl ⟨rfl, rfl, rfl⟩) hTb175 hTn28 dX3_init_43 hf (fun S180 hf => ?_)
  refine u_iinc (v := (14 : Int32)) (lv' := [(1, .int (14 : Int32)), (0, .ref (ρ29 a0))]) hC dX3_init_44 0 rfl (by decide) (by decide) rfl ?_
  refine u_goto (tgt := 25) hC dX3_init_47 (by decide) ?_
  refine u_iload_n hC dX3_init_25 0 rfl rfl ?_
  refine u_bipush (v := (20 : Int32)) hC dX3_init_26 (by decide) ?_
  refine u_icmp_ge (tgt := 50) (α := Unit) (a := none) (b := some ()) (o := ()) hC dX3_init_28 (by decide) (if_neg (by decide)) (fun _ hx => nomatch hx) (fun _ _ => ?_)
  refine u_aload_n hC dX3_init_31 1 rfl rfl ?_
  refine u_gr hC lf_X3_11 rfl hTa0 dX3_init_32 hf (fun b187 hTb187 hf => ?_)
  show UW C (ρ29, q29.1, 57, 5326) S180 _ _ [.ref (ρ29 b187)]
  refine u_iload_n hC dX3_init_35 0 rfl rfl ?_
  refine u_new (ci := 1) hC (by decide) ⟨(tb_2 122 rfl rfl), (tb_1 41 rfl rfl), (tb_1 3 rfl rfl)⟩ (hB.at (Nat.le_of_ble_eq_true rfl) (Nat.le_of_ble_eq_true rfl)) dX3_init_36 hf (fun ρ30 Y30 Sn30 n30 hag hup hTn30 hf => ?_)
  replace hag : ∀ a k, Ty q29.1 a k → ρ30 a = ρ29 a := hag
  replace hup : ∀ a k, Ty q29.1 a k → Ty Y30 a k := hup
  show UW C (ρ30, Y30, 57 + 1, 5326 + 7) Sn30 _ _ _
  show UW C (ρ30, Y30, 58, 5333) Sn30 _ _ _
  rw [← hag a0 _ hTa0]
  have hTa0 := hup _ _ hTa0
  rw [← hag b187 _ hTb187]
  have hTb187 := hup _ _ hTb187
  have hAG := AG.new hAG hag hup
  refine u_dup hC dX3_init_39 rfl ?_
  obtain ⟨q31, hq31, hf⟩ := kc_some hf
  refine u_callIN (X := (ρ30, Y30, 58, 5333)) (rest := [.ref (ρ30 n30), .int (14 : Int32), .ref (ρ30 b187)]) hC (ctX1_init (cL C) hC.tr (cG C) ρ30 Y30 n Sn30 n30 hTn30 hq31) (hB.at (Nat.le_of_ble_eq_true rfl) (Nat.le_of_ble_eq_true rfl)) lk_X3_24 (tb_1 43 rfl rfl) rfl rfl (by decide) (by decide) rfl rfl (Nat.le_of_ble_eq_true rfl) dX3_init_40 (fun ρ31 hag => ?_)
  replace hag : ∀ a k, Ty Y30 a k → ρ31 a = ρ30 a ∧ Ty q31.1 a k := hag
  show UW C (ρ31, q31.1, 58 + 3, 5333 + 372) q31.2 _ _ _
  show UW C (ρ31, q31.1, 61, 5705) q31.2 _ _ _
  rw [← (hag a0 _ hTa0).1]
  have hTa0 := (hag _ _ hTa0).2
  rw [← (hag n30 _ hTn30).1]
  have hTn30 := (hag _ _ hTn30).2
  rw [← (hag b187 _ hTb187).1]
  have hTb187 := (hag _ _ hTb187).2
  have hAG := AG.trans hAG hag
  refine u_wr hC (Or.inl ⟨rfl, rfl, rfl⟩) hTb187 hTn30 dX3_init_43 hf (fun S192 hf => ?_)
  refine u_iinc (v := (15 : Int32)) (lv' := [(1, .int (15 : Int32)), (0, .ref (ρ31 a0))]) hC dX3_init_44 0 rfl (by decide) (by decide) rfl ?_
  refine u_goto (tgt := 25) hC dX3_init_47 (by decide) ?_
  refine u_iload_n hC dX3_init_25 0 rfl rfl ?_
  refine u_bipush (v := (20 : Int32)) hC dX3_init_26 (by decide) ?_
  refine u_icmp_ge (tgt := 50) (α := Unit) (a := none) (b := some ()) (o := ()) hC dX3_init_28 (by decide) (if_neg (by decide)) (fun _ hx => nomatch hx) (fun _ _ => ?_)
  refine u_aload_n hC dX3_init_31 1 rfl rfl ?_
  refine u_gr hC lf_X3_11 rfl hTa0 dX3_init_32 hf (fun b199 hTb199 hf => ?_)
  show UW C (ρ31, q31.1, 61, 5705) S192 _ _ [.ref (ρ31 b199)]
  refine u_iload_n hC dX3_init_35 0 rfl rfl ?_
  refine u_new (ci := 1) hC (by decide) ⟨(tb_2 122 rfl rfl), (tb_1 41 rfl rfl), (tb_1 3 rfl rfl)⟩ (hB.at (Nat.le_of_ble_eq_true rfl) (Nat.le_of_ble_eq_true rfl)) dX3_init_36 hf (fun ρ32 Y32 Sn32 n32 hag hup hTn32 hf => ?_)
  replace hag : ∀ a k, Ty q31.1 a k → ρ32 a = ρ31 a := hag
  replace hup : ∀ a k, Ty q31.1 a k → Ty Y32 a k := hup
  show UW C (ρ32, Y32, 61 + 1, 5705 + 7) Sn32 _ _ _
  show UW C (ρ32, Y32, 62, 5712) Sn32 _ _ _
  rw [← hag a0 _ hTa0]
  have hTa0 := hup _ _ hTa0
  rw [← hag b199 _ hTb199]
  have hTb199 := hup _ _ hTb199
  have hAG := AG.new hAG hag hup
  refine u_dup hC dX3_init_39 rfl ?_
  obtain ⟨q33, hq33, hf⟩ := kc_some hf
  refine u_callIN (X := (ρ32, Y32, 62, 5712)) (rest := [.ref (ρ32 n32), .int (15 : Int32), .ref (ρ32 b199)]) hC (ctX1_init (cL C) hC.tr (cG C) ρ32 Y32 n Sn32 n32 hTn32 hq33) (hB.at (Nat.le_of_ble_eq_true rfl) (Nat.le_of_ble_eq_true rfl)) lk_X3_24 (tb_1 43 rfl rfl) rfl rfl (by decide) (by decide) rfl rfl (Nat.le_of_ble_eq_true rfl) dX3_init_40 (fun ρ33 hag => ?_)
  replace hag : ∀ a k, Ty Y32 a k → ρ33 a = ρ32 a ∧ Ty q33.1 a k := hag
  show UW C (ρ33, q33.1, 62 + 3, 5712 + 372) q33.2 _ _ _
  show UW C (ρ33, q33.1, 65, 6084) q33.2 _ _ _
  rw [← (hag a0 _ hTa0).1]
  have hTa0 := (hag _ _ hTa0).2
  rw [← (hag n32 _ hTn32).1]
  have hTn32 := (hag _ _ hTn32).2
  rw [← (hag b199 _ hTb199).1]
  have hTb199 := (hag _ _ hTb199).2
  have hAG := AG.trans hAG hag
  refine u_wr hC (Or.inl ⟨rfl, rfl, rfl⟩) hTb199 hTn32 dX3_init_43 hf (fun S204 hf => ?_)
  refine u_iinc (v := (16 : Int32)) (lv' := [(1, .int (16 : Int32)), (0, .ref (ρ33 a0))]) hC dX3_init_44 0 rfl (by decide) (by decide) rfl ?_
  refine u_goto (tgt := 25) hC dX3_init_47 (by decide) ?_
  refine u_iload_n hC dX3_init_25 0 rfl rfl ?_
  refine u_bipush (v := (20 : Int32)) hC dX3_init_26 (by decide) ?_
  refine u_icmp_ge (tgt := 50) (α := Unit) (a := none) (b := some ()) (o := ()) hC dX3_init_28 (by decide) (if_neg (by decide)) (fun _ hx => nomatch hx) (fun _ _ => ?_)
  refine u_aload_n hC dX3_init_31 1 rfl rfl ?_
  refine u_gr hC lf_X3_11 rfl hTa0 dX3_init_32 hf (fun b211 hTb211 hf => ?_)
  show UW C (ρ33, q33.1, 65, 6084) S204 _ _ [.ref (ρ33 b211)]
  refine u_iload_n hC dX3_init_35 0 rfl rfl ?_
  refine u_new (ci := 1) hC (by decide) ⟨(tb_2 122 rfl rfl), (tb_1 41 rfl rfl), (tb_1 3 rfl rfl)⟩ (hB.at (Nat.le_of_ble_eq_true rfl) (Nat.le_of_ble_eq_true rfl)) dX3_init_36 hf (fun ρ34 Y34 Sn34 n34 hag hup hTn34 hf => ?_)
  replace hag : ∀ a k, Ty q33.1 a k → ρ34 a = ρ33 a := hag
  replace hup : ∀ a k, Ty q33.1 a k → Ty Y34 a k := hup
  show UW C (ρ34, Y34, 65 + 1, 6084 + 7) Sn34 _ _ _
  show UW C (ρ34, Y34, 66, 6091) Sn34 _ _ _
  rw [← hag a0 _ hTa0]
  have hTa0 := hup _ _ hTa0
  rw [← hag b211 _ hTb211]
  have hTb211 := hup _ _ hTb211
  have hAG := AG.new hAG hag hup
  refine u_dup hC dX3_init_39 rfl ?_
  obtain ⟨q35, hq35, hf⟩ := kc_some hf
  refine u_callIN (X := (ρ34, Y34, 66, 6091)) (rest := [.ref (ρ34 n34), .int (16 : Int32), .ref (ρ34 b211)]) hC (ctX1_init (cL C) hC.tr (cG C) ρ34 Y34 n Sn34 n34 hTn34 hq35) (hB.at (Nat.le_of_ble_eq_true rfl) (Nat.le_of_ble_eq_true rfl)) lk_X3_24 (tb_1 43 rfl rfl) rfl rfl (by decide) (by decide) rfl rfl (Nat.le_of_ble_eq_true rfl) dX3_init_40 (fun ρ35 hag => ?_)
  replace hag : ∀ a k, Ty Y34 a k → ρ35 a = ρ34 a ∧ Ty q35.1 a k := hag
  show UW C (ρ35, q35.1, 66 + 3, 6091 + 372) q35.2 _ _ _
  show UW C (ρ35, q35.1, 69, 6463) q35.2 _ _ _
  rw [← (hag a0 _ hTa0).1]
  have hTa0 := (hag _ _ hTa0).2
  rw [← (hag n34 _ hTn34).1]
  have hTn34 := (hag _ _ hTn34).2
  rw [← (hag b211 _ hTb211).1]
  have hTb211 := (hag _ _ hTb211).2
  have hAG := AG.trans hAG hag
  refine u_wr hC (Or.inl ⟨rfl, rfl, rfl⟩) hTb211 hTn34 dX3_init_43 hf (fun S216 hf => ?_)
  refine u_iinc (v := (17 : Int32)) (lv' := [(1, .int (17 : Int32)), (0, .ref (ρ35 a0))]) hC dX3_init_44 0 rfl (by decide) (by decide) rfl ?_
  refine u_goto (tgt := 25) hC dX3_init_47 (by decide) ?_
  refine u_iload_n hC dX3_init_25 0 rfl rfl ?_
  refine u_bipush (v := (20 : Int32)) hC dX3_init_26 (by decide) ?_
  refine u_icmp_ge (tgt := 50) (α := Unit) (a := none) (b := some ()) (o := ()) hC dX3_init_28 (by decide) (if_neg (by decide)) (fun _ hx => nomatch hx) (fun _ _ => ?_)
  refine u_aload_n hC dX3_init_31 1 rfl rfl ?_
  refine u_gr hC lf_X3_11 rfl hTa0 dX3_init_32 hf (fun b223 hTb223 hf => ?_)
  show UW C (ρ35, q35.1, 69, 6463) S216 _ _ [.ref (ρ35 b223)]
  refine u_iload_n hC dX3_init_35 0 rfl rfl ?_
  refine u_new (ci := 1) hC (by decide) ⟨(tb_2 122 rfl rfl), (tb_1 41 rfl rfl), (tb_1 3 rfl rfl)⟩ (hB.at (Nat.le_of_ble_eq_true rfl) (Nat.le_of_ble_eq_true rfl)) dX3_init_36 hf (fun ρ36 Y36 Sn36 n36 hag hup hTn36 hf => ?_)
  replace hag : ∀ a k, Ty q35.1 a k → ρ36 a = ρ35 a := hag
  replace hup : ∀ a k, Ty q35.1 a k → Ty Y36 a k := hup
  show UW C (ρ36, Y36, 69 + 1, 6463 + 7) Sn36 _ _ _
  show UW C (ρ36, Y36, 70, 6470) Sn36 _ _ _
  rw [← hag a0 _ hTa0]
  have hTa0 := hup _ _ hTa0
  rw [← hag b223 _ hTb223]
  have hTb223 := hup _ _ hTb223
  have hAG := AG.new hAG hag hup
  refine u_dup hC dX3_init_39 rfl ?_
  obtain ⟨q37, hq37, hf⟩ := kc_some hf
  refine u_callIN (X := (ρ36, Y36, 70, 6470)) (rest := [.ref (ρ36 n36), .int (17 : Int32), .ref (ρ36 b223)]) hC (ctX1_init (cL C) hC.tr (cG C) ρ36 Y36 n Sn36 n36 hTn36 hq37) (hB.at (Nat.le_of_ble_eq_true rfl) (Nat.le_of_ble_eq_true rfl)) lk_X3_24 (tb_1 43 rfl rfl) rfl rfl (by decide) (by decide) rfl rfl (Nat.le_of_ble_eq_true rfl) dX3_init_40 (fun ρ37 hag => ?_)
  replace hag : ∀ a k, Ty Y36 a k → ρ37 a = ρ36 a ∧ Ty q37.1 a k := hag
  show UW C (ρ37, q37.1, 70 + 3, 6470 + 372) q37.2 _ _ _
  show UW C (ρ37, q37.1, 73, 6842) q37.2 _ _ _
  rw [← (hag a0 _ hTa0).1]
  have hTa0 := (hag _ _ hTa0).2
  rw [← (hag n36 _ hTn36).1]
  have hTn36 := (hag _ _ hTn36).2
  rw [← (hag b223 _ hTb223).1]
  have hTb223 := (hag _ _ hTb223).2
  have hAG := AG.trans hAG hag
  refine u_wr hC (Or.inl ⟨rfl, rfl, rfl⟩) hTb223 hTn36 dX3_init_43 hf (fun S228 hf => ?_)
  refine u_iinc (v := (18 : Int32)) (lv' := [(1, .int (18 : Int32)), (0, .ref (ρ37 a0))]) hC dX3_init_44 0 rfl (by decide) (by decide) rfl ?_
  refine u_goto (tgt := 25) hC dX3_init_47 (by decide) ?_
  refine u_iload_n hC dX3_init_25 0 rfl rfl ?_
  refine u_bipush (v := (20 : Int32)) hC dX3_init_26 (by decide) ?_
  refine u_icmp_ge (tgt := 50) (α := Unit) (a := none) (b := some ()) (o := ()) hC dX3_init_28 (by decide) (if_neg (by decide)) (fun _ hx => nomatch hx) (fun _ _ => ?_)
  refine u_aload_n hC dX3_init_31 1 rfl rfl ?_
  refine u_gr hC lf_X3_11 rfl hTa0 dX3_init_32 hf (fun b235 hTb235 hf => ?_)
  show UW C (ρ37, q37.1, 73, 6842) S228 _ _ [.ref (ρ37 b235)]
  refine u_iload_n hC dX3_init_35 0 rfl rfl ?_
  refine u_new (ci := 1) hC (by decide) ⟨(tb_2 122 rfl rfl), (tb_1 41 rfl rfl), (tb_1 3 rfl rfl)⟩ (hB.at (Nat.le_of_ble_eq_true rfl) (Nat.le_of_ble_eq_true rfl)) dX3_init_36 hf (fun ρ38 Y38 Sn38 n38 hag hup hTn38 hf => ?_)
  replace hag : ∀ a k, Ty q37.1 a k → ρ38 a = ρ37 a := hag
  replace hup : ∀ a k, Ty q37.1 a k → Ty Y38 a k := hup
  show UW C (ρ38, Y38, 73 + 1, 6842 + 7) Sn38 _ _ _
  show UW C (ρ38, Y38, 74, 6849) Sn38 _ _ _
  rw [← hag a0 _ hTa0]
  have hTa0 := hup _ _ hTa0
  rw [← hag b235 _ hTb235]
  have hTb235 := hup _ _ hTb235
  have hAG := AG.new hAG hag hup
  refine u_dup hC dX3_init_39 rfl ?_
  obtain ⟨q39, hq39, hf⟩ := kc_some hf
  refine u_callIN (X := (ρ38, Y38, 74, 6849)) (rest := [.ref (ρ38 n38), .int (18 : Int32), .ref (ρ38 b235)]) hC (ctX1_init (cL C) hC.tr (cG C) ρ38 Y38 n Sn38 n38 hTn38 hq39) (hB.at (Nat.le_of_ble_eq_true rfl) (Nat.le_of_ble_eq_true rfl)) lk_X3_24 (tb_1 43 rfl rfl) rfl rfl (by decide) (by decide) rfl rfl (Nat.le_of_ble_eq_true rfl) dX3_init_40 (fun ρ39 hag => ?_)
  replace hag : ∀ a k, Ty Y38 a k → ρ39 a = ρ38 a ∧ Ty q39.1 a k := hag
  show UW C (ρ39, q39.1, 74 + 3, 6849 + 372) q39.2 _ _ _
  show UW C (ρ39, q39.1, 77, 7221) q39.2 _ _ _
  rw [← (hag a0 _ hTa0).1]
  have hTa0 := (hag _ _ hTa0).2
  rw [← (hag n38 _ hTn38).1]
  have hTn38 := (hag _ _ hTn38).2
  rw [← (hag b235 _ hTb235).1]
  have hTb235 := (hag _ _ hTb235).2
  have hAG := AG.trans hAG hag
  refine u_wr hC (Or.inl ⟨rfl, rfl, rfl⟩) hTb235 hTn38 dX3_init_43 hf (fun S240 hf => ?_)
  refine u_iinc (v := (19 : Int32)) (lv' := [(1, .int (19 : Int32)), (0, .ref (ρ39 a0))]) hC dX3_init_44 0 rfl (by decide) (by decide) rfl ?_
  refine u_goto (tgt := 25) hC dX3_init_47 (by decide) ?_
  refine u_iload_n hC dX3_init_25 0 rfl rfl ?_
  refine u_bipush (v := (20 : Int32)) hC dX3_init_26 (by decide) ?_
  refine u_icmp_ge (tgt := 50) (α := Unit) (a := none) (b := some ()) (o := ()) hC dX3_init_28 (by decide) (if_neg (by decide)) (fun _ hx => nomatch hx) (fun _ _ => ?_)
  refine u_aload_n hC dX3_init_31 1 rfl rfl ?_
  refine u_gr hC lf_X3_11 rfl hTa0 dX3_init_32 hf (fun b247 hTb247 hf => ?_)
  show UW C (ρ39, q39.1, 77, 7221) S240 _ _ [.ref (ρ39 b247)]
  refine u_iload_n hC dX3_init_35 0 rfl rfl ?_
  refine u_new (ci := 1) hC (by decide) ⟨(tb_2 122 rfl rfl), (tb_1 41 rfl rfl), (tb_1 3 rfl rfl)⟩ (hB.at (Nat.le_of_ble_eq_true rfl) (Nat.le_of_ble_eq_true rfl)) dX3_init_36 hf (fun ρ40 Y40 Sn40 n40 hag hup hTn40 hf => ?_)
  replace hag : ∀ a k, Ty q39.1 a k → ρ40 a = ρ39 a := hag
  replace hup : ∀ a k, Ty q39.1 a k → Ty Y40 a k := hup
  show UW C (ρ40, Y40, 77 + 1, 7221 + 7) Sn40 _ _ _
  show UW C (ρ40, Y40, 78, 7228) Sn40 _ _ _
  rw [← hag a0 _ hTa0]
  have hTa0 := hup _ _ hTa0
  rw [← hag b247 _ hTb247]
  have hTb247 := hup _ _ hTb247
  have hAG := AG.new hAG hag hup
  refine u_dup hC dX3_init_39 rfl ?_
  obtain ⟨q41, hq41, hf⟩ := kc_some hf
  refine u_callIN (X := (ρ40, Y40, 78, 7228)) (rest := [.ref (ρ40 n40), .int (19 : Int32), .ref (ρ40 b247)]) hC (ctX1_init (cL C) hC.tr (cG C) ρ40 Y40 n Sn40 n40 hTn40 hq41) (hB.at (Nat.le_of_ble_eq_true rfl) (Nat.le_of_ble_eq_true rfl)) lk_X3_24 (tb_1 43 rfl rfl) rfl rfl (by decide) (by decide) rfl rfl (Nat.le_of_ble_eq_true rfl) dX3_init_40 (fun ρ41 hag => ?_)
  replace hag : ∀ a k, Ty Y40 a k → ρ41 a = ρ40 a ∧ Ty q41.1 a k := hag
  show UW C (ρ41, q41.1, 78 + 3, 7228 + 372) q41.2 _ _ _
  show UW C (ρ41, q41.1, 81, 7600) q41.2 _ _ _
  rw [← (hag a0 _ hTa0).1]
  have hTa0 := (hag _ _ hTa0).2
  rw [← (hag n40 _ hTn40).1]
  have hTn40 := (hag _ _ hTn40).2
  rw [← (hag b247 _ hTb247).1]
  have hTb247 := (hag _ _ hTb247).2
  have hAG := AG.trans hAG hag
  refine u_wr hC (Or.inl ⟨rfl, rfl, rfl⟩) hTb247 hTn40 dX3_init_43 hf (fun S252 hf => ?_)
  refine u_iinc (v := (20 : Int32)) (lv' := [(1, .int (20 : Int32)), (0, .ref (ρ41 a0))]) hC dX3_init_44 0 rfl (by decide) (by decide) rfl ?_
  refine u_goto (tgt := 25) hC dX3_init_47 (by decide) ?_
  refine u_iload_n hC dX3_init_25 0 rfl rfl ?_
  refine u_bipush (v := (20 : Int32)) hC dX3_init_26 (by decide) ?_
  refine u_icmp_ge (tgt := 50) (α := Unit) (a := some ()) (b := none) (o := ()) hC dX3_init_28 (by decide) (if_pos (by decide)) (fun _ _ => ?_) (fun _ hx => nomatch hx)
  cases hf
  exact hR _ hAG _ _ (Nat.le_of_ble_eq_true rfl) (Nat.le_of_ble_eq_true rfl) _ _ dX3_init_50 trivial
theorem ctX3_init (l : Launch) (hl : l.stackTraces = false) (G : GT) (ρ : Nat → Nat) (Y : XS) (n : Nat) (S : PS) (a0 : Nat) (hTa0 : Ty Y a0 3) {o : XS × PS} (hf : fX3_init Y n S a0 = some o) : Ma l G yX3_init cX3_init 2 none 2 81 7600 ρ Y [.ref (ρ a0)] S (fun _ => none) o.2 o.1 :=
  Ma_of hl (by decide) (Nat.le_of_ble_eq_true rfl) (fun C _ _ hC hI hB hR => wX3_init hC (hI rfl) n S a0 hTa0 hf hB hR)
-- X4_init
theorem dX4_init_0 : decode cX4_init 0 = .ok (.aload_n 0, 1) := by decide +kernel
theorem dX4_init_1 : decode cX4_init 1 = .ok (.invokespecial 3, 3) := by decide +kernel
theorem dX4_init_4 : decode cX4_init 4 = .ok (.aload_n 0, 1) := by decide +kernel
theorem dX4_init_5 : decode cX4_init 5 = .ok (.aload_n 1, 1) := by decide +kernel
theorem dX4_init_6 : decode cX4_init 6 = .ok (.putfield 9, 3) := by decide +kernel
theorem dX4_init_9 : decode cX4_init 9 = .ok (.return_, 1) := by decide +kernel
def fX4_init (Y : XS) (n : Nat) (S : PS) (a0 : Nat) (a1 : Nat) : Option (XS × PS) :=
  kpr S a0 0 (some a1) (fun S5 => some (Y, S5))
theorem wX4_init {C : CT} {ρ : Nat → Nat} {Y : XS} (hC : CK C RX4 cX4_init 2 none 1) (hI : CI C) (n : Nat) (S : PS) (a0 : Nat) (a1 : Nat) (hTa0 : Ty Y a0 4) (hTa1 : Ty Y a1 12) {o : XS × PS} (hf : fX4_init Y n S a0 a1 = some o) (hB : XB C (ρ, Y, 0, 0) 0 0) (hR : RtA C ρ Y cX4_init none 0 0 (fun _ => none) o.2 o.1) : UW C (ρ, Y, 0, 0) S 0 [(0, .ref (ρ a0)), (1, .ref (ρ a1))] [] := by
  unfold fX4_init at hf
  have hAG := AG.refl ρ Y
  refine u_aload_n hC dX4_init_0 0 rfl rfl ?_
  refine u_oinit (a := a0) hC (tb_4 32 rfl rfl) (by decide) (Nat.le_of_ble_eq_true rfl) dX4_init_1 ?_
  refine u_aload_n hC dX4_init_4 0 rfl rfl ?_
  refine u_aload_n hC dX4_init_5 1 rfl rfl ?_
  refine u_prF hC hI lf_X4_9 rfl rfl rfl rfl hTa0 hTa1 dX4_init_6 hf (fun S5 hf => ?_)
  cases hf
  exact hR _ hAG _ _ (Nat.le_of_ble_eq_true rfl) (Nat.le_of_ble_eq_true rfl) _ _ dX4_init_9 trivial
theorem ctX4_init (l : Launch) (hl : l.stackTraces = false) (G : GT) (ρ : Nat → Nat) (Y : XS) (n : Nat) (S : PS) (a0 : Nat) (a1 : Nat) (hTa0 : Ty Y a0 4) (hTa1 : Ty Y a1 12) {o : XS × PS} (hf : fX4_init Y n S a0 a1 = some o) : Ma l G yX4_init cX4_init 2 none 1 0 0 ρ Y [.ref (ρ a0), .ref (ρ a1)] S (fun _ => none) o.2 o.1 :=
  Ma_of hl (by decide) (Nat.le_of_ble_eq_true rfl) (fun C _ _ hC hI hB hR => wX4_init hC (hI rfl) n S a0 a1 hTa0 hTa1 hf hB hR)
-- X10_init
theorem dX10_init_0 : decode cX10_init 0 = .ok (.aload_n 0, 1) := by decide +kernel
theorem dX10_init_1 : decode cX10_init 1 = .ok (.invokespecial 1, 3) := by decide +kernel
theorem dX10_init_4 : decode cX10_init 4 = .ok (.aload_n 0, 1) := by decide +kernel
theorem dX10_init_5 : decode cX10_init 5 = .ok (.new 7, 3) := by decide +kernel
theorem dX10_init_8 : decode cX10_init 8 = .ok (.dup, 1) := by decide +kernel
theorem dX10_init_9 : decode cX10_init 9 = .ok (.invokespecial 9, 3) := by decide +kernel
theorem dX10_init_12 : decode cX10_init 12 = .ok (.putfield 10, 3) := by decide +kernel
theorem dX10_init_15 : decode cX10_init 15 = .ok (.aload_n 0, 1) := by decide +kernel
theorem dX10_init_16 : decode cX10_init 16 = .ok (.iconst (-1), 1) := by decide +kernel
theorem dX10_init_17 : decode cX10_init 17 = .ok (.putfield 16, 3) := by decide +kernel
theorem dX10_init_20 : decode cX10_init 20 = .ok (.aload_n 0, 1) := by decide +kernel
theorem dX10_init_21 : decode cX10_init 21 = .ok (.new 20, 3) := by decide +kernel
theorem dX10_init_24 : decode cX10_init 24 = .ok (.dup, 1) := by decide +kernel
theorem dX10_init_25 : decode cX10_init 25 = .ok (.invokespecial 22, 3) := by decide +kernel
theorem dX10_init_28 : decode cX10_init 28 = .ok (.putfield 23, 3) := by decide +kernel
theorem dX10_init_31 : decode cX10_init 31 = .ok (.aload_n 0, 1) := by decide +kernel
theorem dX10_init_32 : decode cX10_init 32 = .ok (.bipush 9, 2) := by decide +kernel
theorem dX10_init_34 : decode cX10_init 34 = .ok (.anewarray 27, 3) := by decide +kernel
theorem dX10_init_37 : decode cX10_init 37 = .ok (.putfield 29, 3) := by decide +kernel
theorem dX10_init_40 : decode cX10_init 40 = .ok (.aload_n 0, 1) := by decide +kernel
theorem dX10_init_41 : decode cX10_init 41 = .ok (.iconst 0, 1) := by decide +kernel
theorem dX10_init_42 : decode cX10_init 42 = .ok (.putfield 33, 3) := by decide +kernel
theorem dX10_init_45 : decode cX10_init 45 = .ok (.aload_n 0, 1) := by decide +kernel
theorem dX10_init_46 : decode cX10_init 46 = .ok (.new 20, 3) := by decide +kernel
theorem dX10_init_49 : decode cX10_init 49 = .ok (.dup, 1) := by decide +kernel
theorem dX10_init_50 : decode cX10_init 50 = .ok (.invokespecial 22, 3) := by decide +kernel
theorem dX10_init_53 : decode cX10_init 53 = .ok (.putfield 36, 3) := by decide +kernel
theorem dX10_init_56 : decode cX10_init 56 = .ok (.aload_n 0, 1) := by decide +kernel
theorem dX10_init_57 : decode cX10_init 57 = .ok (.new 27, 3) := by decide +kernel
theorem dX10_init_60 : decode cX10_init 60 = .ok (.dup, 1) := by decide +kernel
theorem dX10_init_61 : decode cX10_init 61 = .ok (.invokespecial 39, 3) := by decide +kernel
theorem dX10_init_64 : decode cX10_init 64 = .ok (.putfield 40, 3) := by decide +kernel
theorem dX10_init_67 : decode cX10_init 67 = .ok (.aload_n 0, 1) := by decide +kernel
theorem dX10_init_68 : decode cX10_init 68 = .ok (.new 44, 3) := by decide +kernel
theorem dX10_init_71 : decode cX10_init 71 = .ok (.dup, 1) := by decide +kernel
theorem dX10_init_72 : decode cX10_init 72 = .ok (.invokespecial 46, 3) := by decide +kernel
theorem dX10_init_75 : decode cX10_init 75 = .ok (.putfield 47, 3) := by decide +kernel
theorem dX10_init_78 : decode cX10_init 78 = .ok (.aload_n 0, 1) := by decide +kernel
theorem dX10_init_79 : decode cX10_init 79 = .ok (.new 51, 3) := by decide +kernel
theorem dX10_init_82 : decode cX10_init 82 = .ok (.dup, 1) := by decide +kernel
theorem dX10_init_83 : decode cX10_init 83 = .ok (.invokespecial 53, 3) := by decide +kernel
theorem dX10_init_86 : decode cX10_init 86 = .ok (.putfield 54, 3) := by decide +kernel
theorem dX10_init_89 : decode cX10_init 89 = .ok (.aload_n 0, 1) := by decide +kernel
theorem dX10_init_90 : decode cX10_init 90 = .ok (.new 58, 3) := by decide +kernel
theorem dX10_init_93 : decode cX10_init 93 = .ok (.dup, 1) := by decide +kernel
theorem dX10_init_94 : decode cX10_init 94 = .ok (.invokespecial 60, 3) := by decide +kernel
theorem dX10_init_97 : decode cX10_init 97 = .ok (.putfield 61, 3) := by decide +kernel
theorem dX10_init_100 : decode cX10_init 100 = .ok (.aload_n 0, 1) := by decide +kernel
theorem dX10_init_101 : decode cX10_init 101 = .ok (.new 65, 3) := by decide +kernel
theorem dX10_init_104 : decode cX10_init 104 = .ok (.dup, 1) := by decide +kernel
theorem dX10_init_105 : decode cX10_init 105 = .ok (.invokespecial 67, 3) := by decide +kernel
theorem dX10_init_108 : decode cX10_init 108 = .ok (.putfield 68, 3) := by decide +kernel
theorem dX10_init_111 : decode cX10_init 111 = .ok (.aload_n 0, 1) := by decide +kernel
theorem dX10_init_112 : decode cX10_init 112 = .ok (.iconst 0, 1) := by decide +kernel
theorem dX10_init_113 : decode cX10_init 113 = .ok (.putfield 72, 3) := by decide +kernel
theorem dX10_init_116 : decode cX10_init 116 = .ok (.iconst 0, 1) := by decide +kernel
theorem dX10_init_117 : decode cX10_init 117 = .ok (.istore_n 1, 1) := by decide +kernel
theorem dX10_init_118 : decode cX10_init 118 = .ok (.iload_n 1, 1) := by decide +kernel
theorem dX10_init_119 : decode cX10_init 119 = .ok (.bipush 9, 2) := by decide +kernel
theorem dX10_init_121 : decode cX10_init 121 = .ok (.if_icmp .ge 22, 3) := by decide +kernel
theorem dX10_init_124 : decode cX10_init 124 = .ok (.aload_n 0, 1) := by decide +kernel
theorem dX10_init_125 : decode cX10_init 125 = .ok (.getfield 29, 3) := by decide +kernel
theorem dX10_init_128 : decode cX10_init 128 = .ok (.iload_n 1, 1) := by decide +kernel
theorem dX10_init_129 : decode cX10_init 129 = .ok (.new 27, 3) := by decide +kernel
theorem dX10_init_132 : decode cX10_init 132 = .ok (.dup, 1) := by decide +kernel
theorem dX10_init_133 : decode cX10_init 133 = .ok (.invokespecial 39, 3) := by decide +kernel
theorem dX10_init_136 : decode cX10_init 136 = .ok (.aastore, 1) := by decide +kernel
theorem dX10_init_137 : decode cX10_init 137 = .ok (.iinc 1 1, 3) := by decide +kernel
theorem dX10_init_140 : decode cX10_init 140 = .ok (.goto (-22), 3) := by decide +kernel
theorem dX10_init_143 : decode cX10_init 143 = .ok (.return_, 1) := by decide +kernel
def fX10_init (Y : XS) (n : Nat) (S : PS) (a0 : Nat) : Option (XS × PS) :=
  knw Y S 7 0 (fun Y1 Sn1 n1 => kc (fX7_init Y1 n Sn1 n1) (fun q2 => kpr q2.2 a0 0 (some n1) (fun S7 => kpi S7 a0 1 (-1 : Int32) (fun S10 => knw q2.1 S10 6 0 (fun Y3 Sn3 n3 => kc (fX6_init Y3 n Sn3 n3) (fun q4 => kpr q4.2 a0 2 (some n3) (fun S15 => kna q4.1 S15 17 (9 : Int32) (fun Y5 Sn5 n5 => kpr Sn5 a0 3 (some n5) (fun S19 => kpi S19 a0 4 (0 : Int32) (fun S22 => knw Y5 S22 6 0 (fun Y6 Sn6 n6 => kc (fX6_init Y6 n Sn6 n6) (fun q7 => kpr q7.2 a0 5 (some n6) (fun S27 => knw q7.1 S27 5 0 (fun Y8 Sn8 n8 => kc (fX5_init Y8 n Sn8 n8) (fun q9 => kpr q9.2 a0 6 (some n8) (fun S32 => knw q9.1 S32 0 0 (fun Y10 Sn10 n10 => kc (fX0_init Y10 n Sn10 n10) (fun q11 => kpr q11.2 a0 7 (some n10) (fun S37 => knw q11.1 S37 2 0 (fun Y12 Sn12 n12 => kc (fX2_init Y12 n Sn12 n12) (fun q13 => kpr q13.2 a0 8 (some n12) (fun S42 => knw q13.1 S42 3 0 (fun Y14 Sn14 n14 => kc (fX3_init Y14 n Sn14 n14) (fun q15 => kpr q15.2 a0 9 (some n14) (fun S47 => knw q15.1 S47 1 0 (fun Y16 Sn16 n16 => kc (fX1_init Y16 n Sn16 n16) (fun q17 => kpr q17.2 a0 10 (some n16) (fun S52 => kpz S52 a0 11 (0 : Int32) (fun S55 => kgr S55 a0 3 (fun b62 => knw q17.1 S55 5 0 (fun Y18 Sn18 n18 => kc (fX5_init Y18 n Sn18 n18) (fun q19 => kwr q19.1 q19.2 b62 (0 : Int32) n18 (fun S67 => kgr S67 a0 3 (fun b74 => knw q19.1 S67 5 0 (fun Y20 Sn20 n20 => kc (fX5_init Y20 n Sn20 n20) (fun q21 => kwr q21.1 q21.2 b74 (1 : Int32) n20 (fun S79 => kgr S79 a0 3 (fun b86 => knw q21.1 S79 5 0 (fun Y22 Sn22 n22 => kc (fX5_init Y22 n Sn22 n22) (fun q23 => kwr q23.1 q23.2 b86 (2 : Int32) n22 (fun S91 => kgr S91 a0 3 (fun b98 => knw q23.1 S91 5 0 (fun Y24 Sn24 n24 => kc (fX5_init Y24 n Sn24 n24) (fun q25 => kwr q25.1 q25.2 b98 (3 : Int32) n24 (fun S103 => kgr S103 a0 3 (fun b110 => knw q25.1 S103 5 0 (fun Y26 Sn26 n26 => kc (fX5_init Y26 n Sn26 n26) (fun q27 => kwr q27.1 q27.2 b110 (4 : Int32) n26 (fun S115 => kgr S115 a0 3 (fun b122 => knw q27.1 S115 5 0 (fun Y28 Sn28 n28 => kc (fX5_init Y28 n Sn28 n28) (fun q29 => kwr q29.1 q29.2 b122 (5 : Int32) n28 (fun S127 => kgr S127 a0 3 (fun b134 => knw q29.1 S127 5 0 (fun Y30 Sn30 n30 => kc (fX5_init Y30 n Sn30 n30) (fun q31 => kwr q31.1 q31.2 b134 (6 : Int32) n30 (fun S139 => kgr S139 a0 3 (fun b146 => knw q31.1 S139 5 0 (fun Y32 Sn32 n32 => kc (fX5_init Y32 n Sn32 n32) (fun q33 => kwr q33.1 q33.2 b146 (7 : Int32) n32 (fun S151 => kgr S151 a0 3 (fun b158 => knw q33.1 S151 5 0 (fun Y34 Sn34 n34 => kc (fX5_init Y34 n Sn34 n34) (fun q35 => kwr q35.1 q35.2 b158 (8 : Int32) n34 (fun S163 => some (q35.1, S163))))))))))))))))))))))))))))))))))))))))))))))))))))))))))))))))))
theorem wX10_init {C : CT} {ρ : Nat → Nat} {Y : XS} (hC : CK C RX10 cX10_init 2 none 3) (hI : CI C) (n : Nat) (S : PS) (a0 : Nat) (hTa0 : Ty Y a0 10) {o : XS × PS} (hf : fX10_init Y n S a0 = some o) (hB : XB C (ρ, Y, 0, 0) 214 16524) (hR : RtA C ρ Y cX10_init none 214 16524 (fun _ => none) o.2 o.1) : UW C (ρ, Y, 0, 0) S 0 [(0, .ref (ρ a0))] [] := by
  unfold fX10_init at hf
  have hAG := AG.refl ρ Y
  refine u_aload_n hC dX10_init_0 0 rfl rfl ?_
  refine u_oinit (a := a0) hC (tb_1 31 rfl rfl) (by decide) (Nat.le_of_ble_eq_true rfl) dX10_init_1 ?_
  refine u_aload_n hC dX10_init_4 0 rfl rfl ?_
  refine u_new (ci := 7) hC (by decide) ⟨(tb_1 34 rfl rfl), (tb_1 35 rfl rfl), (tb_1 2 rfl rfl)⟩ (hB.at (Nat.le_of_ble_eq_true rfl) (Nat.le_of_ble_eq_true rfl)) dX10_init_5 hf (fun ρ1 Y1 Sn1 n1 hag hup hTn1 hf => ?_)
  replace hag : ∀ a k, Ty Y a k → ρ1 a = ρ a := hag
  replace hup : ∀ a k, Ty Y a k → Ty Y1 a k := hup
  show UW C (ρ1, Y1, 0 + 1, 0 + 15) Sn1 _ _ _
  show UW C (ρ1, Y1, 1, 15) Sn1 _ _ _
  rw [← hag a0 _ hTa0]
  have hTa0 := hup _ _ hTa0
  have hAG := AG.new hAG hag hup
  refine u_dup hC dX10_init_8 rfl ?_
  obtain ⟨q2, hq2, hf⟩ := kc_some hf
  refine u_callIN (X := (ρ1, Y1, 1, 15)) (rest := [.ref (ρ1 n1), .ref (ρ1 a0)]) hC (ctX7_init (cL C) hC.tr (cG C) ρ1 Y1 n Sn1 n1 hTn1 hq2) (hB.at (Nat.le_of_ble_eq_true rfl) (Nat.le_of_ble_eq_true rfl)) lk_X10_9 (tb_1 37 rfl rfl) rfl rfl (by decide) (by decide) rfl rfl (Nat.le_of_ble_eq_true rfl) dX10_init_9 (fun ρ2 hag => ?_)
  replace hag : ∀ a k, Ty Y1 a k → ρ2 a = ρ1 a ∧ Ty q2.1 a k := hag
  show UW C (ρ2, q2.1, 1 + 7, 15 + 1879) q2.2 _ _ _
  show UW C (ρ2, q2.1, 8, 1894) q2.2 _ _ _
  rw [← (hag a0 _ hTa0).1]
  have hTa0 := (hag _ _ hTa0).2
  rw [← (hag n1 _ hTn1).1]
  have hTn1 := (hag _ _ hTn1).2
  have hAG := AG.trans hAG hag
  refine u_prF hC hI lf_X10_10 rfl rfl rfl rfl hTa0 hTn1 dX10_init_12 hf (fun S7 hf => ?_)
  refine u_aload_n hC dX10_init_15 0 rfl rfl ?_
  refine u_iconst (v := (-1 : Int32)) hC dX10_init_16 (by decide) ?_
  refine u_pi hC lf_X10_16 rfl rfl rfl hTa0 dX10_init_17 hf (fun S10 hf => ?_)
  refine u_aload_n hC dX10_init_20 0 rfl rfl ?_
  refine u_new (ci := 6) hC (by decide) ⟨(tb_1 157 rfl rfl), (tb_1 158 rfl rfl), (tb_1 4 rfl rfl)⟩ (hB.at (Nat.le_of_ble_eq_true rfl) (Nat.le_of_ble_eq_true rfl)) dX10_init_21 hf (fun ρ3 Y3 Sn3 n3 hag hup hTn3 hf => ?_)
  replace hag : ∀ a k, Ty q2.1 a k → ρ3 a = ρ2 a := hag
  replace hup : ∀ a k, Ty q2.1 a k → Ty Y3 a k := hup
  show UW C (ρ3, Y3, 8 + 1, 1894 + 7) Sn3 _ _ _
  show UW C (ρ3, Y3, 9, 1901) Sn3 _ _ _
  rw [← hag a0 _ hTa0]
  have hTa0 := hup _ _ hTa0
  have hAG := AG.new hAG hag hup
  refine u_dup hC dX10_init_24 rfl ?_
  obtain ⟨q4, hq4, hf⟩ := kc_some hf
  refine u_callIN (X := (ρ3, Y3, 9, 1901)) (rest := [.ref (ρ3 n3), .ref (ρ3 a0)]) hC (ctX6_init (cL C) hC.tr (cG C) ρ3 Y3 n Sn3 n3 hTn3 hq4) (hB.at (Nat.le_of_ble_eq_true rfl) (Nat.le_of_ble_eq_true rfl)) lk_X10_22 (tb_1 160 rfl rfl) rfl rfl (by decide) (by decide) rfl rfl (Nat.le_of_ble_eq_true rfl) dX10_init_25 (fun ρ4 hag => ?_)
  replace hag : ∀ a k, Ty Y3 a k → ρ4 a = ρ3 a ∧ Ty q4.1 a k := hag
  show UW C (ρ4, q4.1, 9 + 10, 1901 + 728) q4.2 _ _ _
  show UW C (ρ4, q4.1, 19, 2629) q4.2 _ _ _
  rw [← (hag a0 _ hTa0).1]
  have hTa0 := (hag _ _ hTa0).2
  rw [← (hag n3 _ hTn3).1]
  have hTn3 := (hag _ _ hTn3).2
  have hAG := AG.trans hAG hag
  refine u_prF hC hI lf_X10_23 rfl rfl rfl rfl hTa0 hTn3 dX10_init_28 hf (fun S15 hf => ?_)
  refine u_aload_n hC dX10_init_31 0 rfl rfl ?_
  refine u_bipush (v := (9 : Int32)) hC dX10_init_32 (by decide) ?_
  refine u_newqO (N := 9) hC (tb_1 207 rfl rfl) (by decide) (by decide) (hB.at (Nat.le_of_ble_eq_true rfl) (Nat.le_of_ble_eq_true rfl)) dX10_init_34 hf (fun ρ5 Y5 Sn5 n5 hag hup hTn5 hf => ?_)
  replace hag : ∀ a k, Ty q4.1 a k → ρ5 a = ρ4 a := hag
  replace hup : ∀ a k, Ty q4.1 a k → Ty Y5 a k := hup
  show UW C (ρ5, Y5, 19 + 1, 2629 + 9) Sn5 _ _ _
  show UW C (ρ5, Y5, 20, 2638) Sn5 _ _ _
  rw [← hag a0 _ hTa0]
  have hTa0 := hup _ _ hTa0
  have hAG := AG.new hAG hag hup
  refine u_prF hC hI lf_X10_29 rfl rfl rfl rfl hTa0 hTn5 dX10_init_37 hf (fun S19 hf => ?_)
  refine u_aload_n hC dX10_init_40 0 rfl rfl ?_
  refine u_iconst (v := (0 : Int32)) hC dX10_init_41 (by decide) ?_
  refine u_pi hC lf_X10_33 rfl rfl rfl hTa0 dX10_init_42 hf (fun S22 hf => ?_)
  refine u_aload_n hC dX10_init_45 0 rfl rfl ?_
  refine u_new (ci := 6) hC (by decide) ⟨(tb_1 157 rfl rfl), (tb_1 158 rfl rfl), (tb_1 4 rfl rfl)⟩ (hB.at (Nat.le_of_ble_eq_true rfl) (Nat.le_of_ble_eq_true rfl)) dX10_init_46 hf (fun ρ6 Y6 Sn6 n6 hag hup hTn6 hf => ?_)
  replace hag : ∀ a k, Ty Y5 a k → ρ6 a = ρ5 a := hag
  replace hup : ∀ a k, Ty Y5 a k → Ty Y6 a k := hup
  show UW C (ρ6, Y6, 20 + 1, 2638 + 7) Sn6 _ _ _
  show UW C (ρ6, Y6, 21, 2645) Sn6 _ _ _
  rw [← hag a0 _ hTa0]
  have hTa0 := hup _ _ hTa0
  have hAG := AG.new hAG hag hup
  refine u_dup hC dX10_init_49 rfl ?_
  obtain ⟨q7, hq7, hf⟩ := kc_some hf
  refine u_callIN (X := (ρ6, Y6, 21, 2645)) (rest := [.ref (ρ6 n6), .ref (ρ6 a0)]) hC (ctX6_init (cL C) hC.tr (cG C) ρ6 Y6 n Sn6 n6 hTn6 hq7) (hB.at (Nat.le_of_ble_eq_true rfl) (Nat.le_of_ble_eq_true rfl)) lk_X10_22 (tb_1 160 rfl rfl) rfl rfl (by decide) (by decide) rfl rfl (Nat.le_of_ble_eq_true rfl) dX10_init_50 (fun ρ7 hag => ?_)
  replace hag : ∀ a k, Ty Y6 a k → ρ7 a = ρ6 a ∧ Ty q7.1 a k := hag
  show UW C (ρ7, q7.1, 21 + 10, 2645 + 728) q7.2 _ _ _
  show UW C (ρ7, q7.1, 31, 3373) q7.2 _ _ _
  rw [← (hag a0 _ hTa0).1]
  have hTa0 := (hag _ _ hTa0).2
  rw [← (hag n6 _ hTn6).1]
  have hTn6 := (hag _ _ hTn6).2
  have hAG := AG.trans hAG hag
  refine u_prF hC hI lf_X10_36 rfl rfl rfl rfl hTa0 hTn6 dX10_init_53 hf (fun S27 hf => ?_)
  refine u_aload_n hC dX10_init_56 0 rfl rfl ?_
  refine u_new (ci := 5) hC (by decide) ⟨(tb_1 207 rfl rfl), (tb_1 209 rfl rfl), (tb_1 5 rfl rfl)⟩ (hB.at (Nat.le_of_ble_eq_true rfl) (Nat.le_of_ble_eq_true rfl)) dX10_init_57 hf (fun ρ8 Y8 Sn8 n8 hag hup hTn8 hf => ?_)
  replace hag : ∀ a k, Ty q7.1 a k → ρ8 a = ρ7 a := hag
  replace hup : ∀ a k, Ty q7.1 a k → Ty Y8 a k := hup
  show UW C (ρ8, Y8, 31 + 1, 3373 + 13) Sn8 _ _ _
  show UW C (ρ8, Y8, 32, 3386) Sn8 _ _ _
  rw [← hag a0 _ hTa0]
  have hTa0 := hup _ _ hTa0
  have hAG := AG.new hAG hag hup
  refine u_dup hC dX10_init_60 rfl ?_
  obtain ⟨q9, hq9, hf⟩ := kc_some hf
  refine u_callIN (X := (ρ8, Y8, 32, 3386)) (rest := [.ref (ρ8 n8), .ref (ρ8 a0)]) hC (ctX5_init (cL C) hC.tr (cG C) ρ8 Y8 n Sn8 n8 hTn8 hq9) (hB.at (Nat.le_of_ble_eq_true rfl) (Nat.le_of_ble_eq_true rfl)) lk_X10_39 (tb_1 211 rfl rfl) rfl rfl (by decide) (by decide) rfl rfl (Nat.le_of_ble_eq_true rfl) dX10_init_61 (fun ρ9 hag => ?_)
  replace hag : ∀ a k, Ty Y8 a k → ρ9 a = ρ8 a ∧ Ty q9.1 a k := hag
  show UW C (ρ9, q9.1, 32 + 7, 3386 + 365) q9.2 _ _ _
  show UW C (ρ9, q9.1, 39, 3751) q9.2 _ _ _
  rw [← (hag a0 _ hTa0).1]
  have hTa0 := (hag _ _ hTa0).2
  rw [← (hag n8 _ hTn8).1]
  have hTn8 := (hag _ _ hTn8).2
  have hAG := AG.trans hAG hag
  refine u_prF hC hI lf_X10_40 rfl rfl rfl rfl hTa0 hTn8 dX10_init_64 hf (fun S32 hf => ?_)
  refine u_aload_n hC dX10_init_67 0 rfl rfl ?_
  refine u_new (ci := 0) hC (by decide) ⟨(tb_2 35 rfl rfl), (tb_2 36 rfl rfl), (tb_1 6 rfl rfl)⟩ (hB.at (Nat.le_of_ble_eq_true rfl) (Nat.le_of_ble_eq_true rfl)) dX10_init_68 hf (fun ρ10 Y10 Sn10 n10 hag hup hTn10 hf => ?_)
  replace hag : ∀ a k, Ty q9.1 a k → ρ10 a = ρ9 a := hag
  replace hup : ∀ a k, Ty q9.1 a k → Ty Y10 a k := hup
  show UW C (ρ10, Y10, 39 + 1, 3751 + 3) Sn10 _ _ _
  show UW C (ρ10, Y10, 40, 3754) Sn10 _ _ _
  rw [← hag a0 _ hTa0]
  have hTa0 := hup _ _ hTa0
  have hAG := AG.new hAG hag hup
  refine u_dup hC dX10_init_71 rfl ?_
  obtain ⟨q11, hq11, hf⟩ := kc_some hf
  refine u_callIN (X := (ρ10, Y10, 40, 3754)) (rest := [.ref (ρ10 n10), .ref (ρ10 a0)]) hC (ctX0_init (cL C) hC.tr (cG C) ρ10 Y10 n Sn10 n10 hTn10 hq11) (hB.at (Nat.le_of_ble_eq_true rfl) (Nat.le_of_ble_eq_true rfl)) lk_X10_46 (tb_2 38 rfl rfl) rfl rfl (by decide) (by decide) rfl rfl (Nat.le_of_ble_eq_true rfl) dX10_init_72 (fun ρ11 hag => ?_)
  replace hag : ∀ a k, Ty Y10 a k → ρ11 a = ρ10 a ∧ Ty q11.1 a k := hag
  show UW C (ρ11, q11.1, 40 + 10, 3754 + 705) q11.2 _ _ _
  show UW C (ρ11, q11.1, 50, 4459) q11.2 _ _ _
  rw [← (hag a0 _ hTa0).1]
  have hTa0 := (hag _ _ hTa0).2
  rw [← (hag n10 _ hTn10).1]
  have hTn10 := (hag _ _ hTn10).2
  have hAG := AG.trans hAG hag
  refine u_prF hC hI lf_X10_47 rfl rfl rfl rfl hTa0 hTn10 dX10_init_75 hf (fun S37 hf => ?_)
  refine u_aload_n hC dX10_init_78 0 rfl rfl ?_
  refine u_new (ci := 2) hC (by decide) ⟨(tb_2 88 rfl rfl), (tb_2 89 rfl rfl), (tb_1 9 rfl rfl)⟩ (hB.at (Nat.le_of_ble_eq_true rfl) (Nat.le_of_ble_eq_true rfl)) dX10_init_79 hf (fun ρ12 Y12 Sn12 n12 hag hup hTn12 hf => ?_)
  replace hag : ∀ a k, Ty q11.1 a k → ρ12 a = ρ11 a := hag
  replace hup : ∀ a k, Ty q11.1 a k → Ty Y12 a k := hup
  show UW C (ρ12, Y12, 50 + 1, 4459 + 7) Sn12 _ _ _
  show UW C (ρ12, Y12, 51, 4466) Sn12 _ _ _
  rw [← hag a0 _ hTa0]
  have hTa0 := hup _ _ hTa0
  have hAG := AG.new hAG hag hup
  refine u_dup hC dX10_init_82 rfl ?_
  obtain ⟨q13, hq13, hf⟩ := kc_some hf
  refine u_callIN (X := (ρ12, Y12, 51, 4466)) (rest := [.ref (ρ12 n12), .ref (ρ12 a0)]) hC (ctX2_init (cL C) hC.tr (cG C) ρ12 Y12 n Sn12 n12 hTn12 hq13) (hB.at (Nat.le_of_ble_eq_true rfl) (Nat.le_of_ble_eq_true rfl)) lk_X10_53 (tb_2 91 rfl rfl) rfl rfl (by decide) (by decide) rfl rfl (Nat.le_of_ble_eq_true rfl) dX10_init_83 (fun ρ13 hag => ?_)
  replace hag : ∀ a k, Ty Y12 a k → ρ13 a = ρ12 a ∧ Ty q13.1 a k := hag
  show UW C (ρ13, q13.1, 51 + 5, 4466 + 674) q13.2 _ _ _
  show UW C (ρ13, q13.1, 56, 5140) q13.2 _ _ _
  rw [← (hag a0 _ hTa0).1]
  have hTa0 := (hag _ _ hTa0).2
  rw [← (hag n12 _ hTn12).1]
  have hTn12 := (hag _ _ hTn12).2
  have hAG := AG.trans hAG hag
  refine u_prF hC hI lf_X10_54 rfl rfl rfl rfl hTa0 hTn12 dX10_init_86 hf (fun S42 hf => ?_)
  refine u_aload_n hC dX10_init_89 0 rfl rfl ?_
  refine u_new (ci := 3) hC (by decide) ⟨(tb_2 116 rfl rfl), (tb_2 117 rfl rfl), (tb_1 10 rfl rfl)⟩ (hB.at (Nat.le_of_ble_eq_true rfl) (Nat.le_of_ble_eq_true rfl)) dX10_init_90 hf (fun ρ14 Y14 Sn14 n14 hag hup hTn14 hf => ?_)
  replace hag : ∀ a k, Ty q13.1 a k → ρ14 a = ρ13 a := hag
  replace hup : ∀ a k, Ty q13.1 a k → Ty Y14 a k := hup
  show UW C (ρ14, Y14, 56 + 1, 5140 + 3) Sn14 _ _ _
  show UW C (ρ14, Y14, 57, 5143) Sn14 _ _ _
  rw [← hag a0 _ hTa0]
  have hTa0 := hup _ _ hTa0
  have hAG := AG.new hAG hag hup
  refine u_dup hC dX10_init_93 rfl ?_
  obtain ⟨q15, hq15, hf⟩ := kc_some hf
  refine u_callI (X := (ρ14, Y14, 57, 5143)) (rest := [.ref (ρ14 n14), .ref (ρ14 a0)]) hC (ctX3_init (cL C) hC.tr (cG C) ρ14 Y14 n Sn14 n14 hTn14 hq15) (hB.at (Nat.le_of_ble_eq_true rfl) (Nat.le_of_ble_eq_true rfl)) lk_X10_60 (tb_2 119 rfl rfl) rfl rfl (by decide) (by decide) rfl rfl (Nat.le_of_ble_eq_true rfl) dX10_init_94 (fun ρ15 hag => ?_)
  replace hag : ∀ a k, Ty Y14 a k → ρ15 a = ρ14 a ∧ Ty q15.1 a k := hag
  show UW C (ρ15, q15.1, 57 + 81, 5143 + 7600) q15.2 _ _ _
  show UW C (ρ15, q15.1, 138, 12743) q15.2 _ _ _
  rw [← (hag a0 _ hTa0).1]
  have hTa0 := (hag _ _ hTa0).2
  rw [← (hag n14 _ hTn14).1]
  have hTn14 := (hag _ _ hTn14).2
  have hAG := AG.trans hAG hag
  refine u_prF hC hI lf_X10_61 rfl rfl rfl rfl hTa0 hTn14 dX10_init_97 hf (fun S47 hf => ?_)
  refine u_aload_n hC dX10_init_100 0 rfl rfl ?_
  refine u_new (ci := 1) hC (by decide) ⟨(tb_2 136 rfl rfl), (tb_1 41 rfl rfl), (tb_1 3 rfl rfl)⟩ (hB.at (Nat.le_of_ble_eq_true rfl) (Nat.le_of_ble_eq_true rfl)) dX10_init_101 hf (fun ρ16 Y16 Sn16 n16 hag hup hTn16 hf => ?_)
  replace hag : ∀ a k, Ty q15.1 a k → ρ16 a = ρ15 a := hag
  replace hup : ∀ a k, Ty q15.1 a k → Ty Y16 a k := hup
  show UW C (ρ16, Y16, 138 + 1, 12743 + 7) Sn16 _ _ _
  show UW C (ρ16, Y16, 139, 12750) Sn16 _ _ _
  rw [← hag a0 _ hTa0]
  have hTa0 := hup _ _ hTa0
  have hAG := AG.new hAG hag hup
  refine u_dup hC dX10_init_104 rfl ?_
  obtain ⟨q17, hq17, hf⟩ := kc_some hf
  refine u_callIN (X := (ρ16, Y16, 139, 12750)) (rest := [.ref (ρ16 n16), .ref (ρ16 a0)]) hC (ctX1_init (cL C) hC.tr (cG C) ρ16 Y16 n Sn16 n16 hTn16 hq17) (hB.at (Nat.le_of_ble_eq_true rfl) (Nat.le_of_ble_eq_true rfl)) lk_X10_67 (tb_1 43 rfl rfl) rfl rfl (by decide) (by decide) rfl rfl (Nat.le_of_ble_eq_true rfl) dX10_init_105 (fun ρ17 hag => ?_)
  replace hag : ∀ a k, Ty Y16 a k → ρ17 a = ρ16 a ∧ Ty q17.1 a k := hag
  show UW C (ρ17, q17.1, 139 + 3, 12750 + 372) q17.2 _ _ _
  show UW C (ρ17, q17.1, 142, 13122) q17.2 _ _ _
  rw [← (hag a0 _ hTa0).1]
  have hTa0 := (hag _ _ hTa0).2
  rw [← (hag n16 _ hTn16).1]
  have hTn16 := (hag _ _ hTn16).2
  have hAG := AG.trans hAG hag
  refine u_prF hC hI lf_X10_68 rfl rfl rfl rfl hTa0 hTn16 dX10_init_108 hf (fun S52 hf => ?_)
  refine u_aload_n hC dX10_init_111 0 rfl rfl ?_
  refine u_iconst (v := (0 : Int32)) hC dX10_init_112 (by decide) ?_
  refine u_pz hC lf_X10_72 rfl rfl rfl hTa0 dX10_init_113 hf (fun S55 hf => ?_)
  refine u_iconst (v := (0 : Int32)) hC dX10_init_116 (by decide) ?_
  refine u_istore_n (lv' := [(1, .int (0 : Int32)), (0, .ref (ρ17 a0))]) hC dX10_init_117 rfl (by decide) rfl ?_
  refine u_iload_n hC dX10_init_118 0 rfl rfl ?_
  refine u_bipush (v := (9 : Int32)) hC dX10_init_119 (by decide) ?_
  refine u_icmp_ge (tgt := 143) (α := Unit) (a := none) (b := some ()) (o := ()) hC dX10_init_121 (by decide) (if_neg (by decide)) (fun _ hx => nomatch hx) (fun _ _ => ?_)
  refine u_aload_n hC dX10_init_124 1 rfl rfl ?_
  refine u_gr hC lf_X10_29 rfl hTa0 dX10_init_125 hf (fun b62 hTb62 hf => ?_)
  show UW C (ρ17, q17.1, 142, 13122) S55 _ _ [.ref (ρ17 b62)]
  refine u_iload_n hC dX10_init_128 0 rfl rfl ?_
  refine u_new (ci := 5) hC (by decide) ⟨(tb_1 207 rfl rfl), (tb_1 209 rfl rfl), (tb_1 5 rfl rfl)⟩ (hB.at (Nat.le_of_ble_eq_true rfl) (Nat.le_of_ble_eq_true rfl)) dX10_init_129 hf (fun ρ18 Y18 Sn18 n18 hag hup hTn18 hf => ?_)
  replace hag : ∀ a k, Ty q17.1 a k → ρ18 a = ρ17 a := hag
  replace hup : ∀ a k, Ty q17.1 a k → Ty Y18 a k := hup
  show UW C (ρ18, Y18, 142 + 1, 13122 + 13) Sn18 _ _ _
  show UW C (ρ18, Y18, 143, 13135) Sn18 _ _ _
  rw [← hag a0 _ hTa0]
  have hTa0 := hup _ _ hTa0
  rw [← hag b62 _ hTb62]
  have hTb62 := hup _ _ hTb62
  have hAG := AG.new hAG hag hup
  refine u_dup hC dX10_init_132 rfl ?_
  obtain ⟨q19, hq19, hf⟩ := kc_some hf
  refine u_callIN (X := (ρ18, Y18, 143, 13135)) (rest := [.ref (ρ18 n18), .int (0 : Int32), .ref (ρ18 b62)]) hC (ctX5_init (cL C) hC.tr (cG C) ρ18 Y18 n Sn18 n18 hTn18 hq19) (hB.at (Nat.le_of_ble_eq_true rfl) (Nat.le_of_ble_eq_true rfl)) lk_X10_39 (tb_1 211 rfl rfl) rfl rfl (by decide) (by decide) rfl rfl (Nat.le_of_ble_eq_true rfl) dX10_init_133 (fun ρ19 hag => ?_)
  replace hag : ∀ a k, Ty Y18 a k → ρ19 a = ρ18 a ∧ Ty q19.1 a k := hag
  show UW C (ρ19, q19.1, 143 + 7, 13135 + 365) q19.2 _ _ _
  show UW C (ρ19, q19.1, 150, 13500) q19.2 _ _ _
  rw [← (hag a0 _ hTa0).1]
  have hTa0 := (hag _ _ hTa0).2
  rw [← (hag n18 _ hTn18).1]
  have hTn18 := (hag _ _ hTn18).2
  rw [← (hag b62 _ hTb62).1]
  have hTb62 := (hag _ _ hTb62).2
  have hAG := AG.trans hAG hag
  refine u_wr hC (Or.inr ⟨rfl, rfl, rfl⟩) hTb62 hTn18 dX10_init_136 hf (fun S67 hf => ?_)
  refine u_iinc (v := (1 : Int32)) (lv' := [(1, .int (1 : Int32)), (0, .ref (ρ19 a0))]) hC dX10_init_137 0 rfl (by decide) (by decide) rfl ?_
  refine u_goto (tgt := 118) hC dX10_init_140 (by decide) ?_
  refine u_iload_n hC dX10_init_118 0 rfl rfl ?_
  refine u_bipush (v := (9 : Int32)) hC dX10_init_119 (by decide) ?_
  refine u_icmp_ge (tgt := 143) (α := Unit) (a := none) (b := some ()) (o := ()) hC dX10_init_121 (by decide) (if_neg (by decide)) (fun _ hx => nomatch hx) (fun _ _ => ?_)
  refine u_aload_n hC dX10_init_124 1 rfl rfl ?_
  refine u_gr hC lf_X10_29 rfl hTa0 dX10_init_125 hf (fun b74 hTb74 hf => ?_)
  show UW C (ρ19, q19.1, 150, 13500) S67 _ _ [.ref (ρ19 b74)]
  refine u_iload_n hC dX10_init_128 0 rfl rfl ?_
  refine u_new (ci := 5) hC (by decide) ⟨(tb_1 207 rfl rfl), (tb_1 209 rfl rfl), (tb_1 5 rfl rfl)⟩ (hB.at (Nat.le_of_ble_eq_true rfl) (Nat.le_of_ble_eq_true rfl)) dX10_init_129 hf (fun ρ20 Y20 Sn20 n20 hag hup hTn20 hf => ?_)
  replace hag : ∀ a k, Ty q19.1 a k → ρ20 a = ρ19 a := hag
  replace hup : ∀ a k, Ty q19.1 a k → Ty Y20 a k := hup
  show UW C (ρ20, Y20, 150 + 1, 13500 + 13) Sn20 _ _ _
  show UW C (ρ20, Y20, 151, 13513) Sn20 _ _ _
  rw [← hag a0 _ hTa0]
  have hTa0 := hup _ _ hTa0
  rw [← hag b74 _ hTb74]
  have hTb74 := hup _ _ hTb74
  have hAG := AG.new hAG hag hup
  refine u_dup hC dX10_init_132 rfl ?_
  obtain ⟨q21, hq21, hf⟩ := kc_some hf
  refine u_callIN (X := (ρ20, Y20, 151, 13513)) (rest := [.ref (ρ20 n20), .int (1 : Int32), .ref (ρ20 b74)]) hC (ctX5_init (cL C) hC.tr (cG C) ρ20 Y20 n Sn20 n20 hTn20 hq21) (hB.at (Nat.le_of_ble_eq_true rfl) (Nat.le_of_ble_eq_true rfl)) lk_X10_39 (tb_1 211 rfl rfl) rfl rfl (by decide) (by decide) rfl rfl (Nat.le_of_ble_eq_true rfl) dX10_init_133 (fun ρ21 hag => ?_)
  replace hag : ∀ a k, Ty Y20 a k → ρ21 a = ρ20 a ∧ Ty q21.1 a k := hag
  show UW C (ρ21, q21.1, 151 + 7, 13513 + 365) q21.2 _ _ _
  show UW C (ρ21, q21.1, 158, 13878) q21.2 _ _ _
  rw [← (hag a0 _ hTa0).1]
  have hTa0 := (hag _ _ hTa0).2
  rw [← (hag n20 _ hTn20).1]
  have hTn20 := (hag _ _ hTn20).2
  rw [← (hag b74 _ hTb74).1]
  have hTb74 := (hag _ _ hTb74).2
  have hAG := AG.trans hAG hag
  refine u_wr hC (Or.inr ⟨rfl, rfl, rfl⟩) hTb74 hTn20 dX10_init_136 hf (fun S79 hf => ?_)
  refine u_iinc (v := (2 : Int32)) (lv' := [(1, .int (2 : Int32)), (0, .ref (ρ21 a0))]) hC dX10_init_137 0 rfl (by decide) (by decide) rfl ?_
  refine u_goto (tgt := 118) hC dX10_init_140 (by decide) ?_
  refine u_iload_n hC dX10_init_118 0 rfl rfl ?_
  refine u_bipush (v := (9 : Int32)) hC dX10_init_119 (by decide) ?_
  refine u_icmp_ge (tgt := 143) (α := Unit) (a := none) (b := some ()) (o := ()) hC dX10_init_121 (by decide) (if_neg (by decide)) (fun _ hx => nomatch hx) (fun _ _ => ?_)
  refine u_aload_n hC dX10_init_124 1 rfl rfl ?_
  refine u_gr hC lf_X10_29 rfl hTa0 dX10_init_125 hf (fun b86 hTb86 hf => ?_)
  show UW C (ρ21, q21.1, 158, 13878) S79 _ _ [.ref (ρ21 b86)]
  refine u_iload_n hC dX10_init_128 0 rfl rfl ?_
  refine u_new (ci := 5) hC (by decide) ⟨(tb_1 207 rfl rfl), (tb_1 209 rfl rfl), (tb_1 5 rfl rfl)⟩ (hB.at (Nat.le_of_ble_eq_true rfl) (Nat.le_of_ble_eq_true rfl)) dX10_init_129 hf (fun ρ22 Y22 Sn22 n22 hag hup hTn22 hf => ?_)
  replace hag : ∀ a k, Ty q21.1 a k → ρ22 a = ρ21 a := hag
  replace hup : ∀ a k, Ty q21.1 a k → Ty Y22 a k := hup
  show UW C (ρ22, Y22, 158 + 1, 13878 + 13) Sn22 _ _ _
  show UW C (ρ22, Y22, 159, 13891) Sn22 _ _ _
  rw [← hag a0 _ hTa0]
  have hTa0 := hup _ _ hTa0
  rw [← hag b86 _ hTb86]
  have hTb86 := hup _ _ hTb86
  have hAG := AG.new hAG hag hup
  refine u_dup hC dX10_init_132 rfl ?_
  obtain ⟨q23, hq23, hf⟩ := kc_some hf
  refine u_callIN (X := (ρ22, Y22, 159, 13891)) (rest := [.ref (ρ22 n22), .int (2 : Int32), .ref (ρ22 b86)]) hC (ctX5_init (cL C) hC.tr (cG C) ρ22 Y22 n Sn22 n22 hTn22 hq23) (hB.at (Nat.le_of_ble_eq_true rfl) (Nat.le_of_ble_eq_true rfl)) lk_X10_39 (tb_1 211 rfl rfl) rfl rfl (by decide) (by decide) rfl rfl (Nat.le_of_ble_eq_true rfl) dX10_init_133 (fun ρ23 hag => ?_)
  replace hag : ∀ a k, Ty Y22 a k → ρ23 a = ρ22 a ∧ Ty q23.1 a k := hag
  show UW C (ρ23, q23.1, 159 + 7, 13891 + 365) q23.2 _ _ _
  show UW C (ρ23, q23.1, 166, 14256) q23.2 _ _ _
  rw [← (hag a0 _ hTa0).1]
  have hTa0 := (hag _ _ hTa0).2
  rw [← (hag n22 _ hTn22).1]
  have hTn22 := (hag _ _ hTn22).2
  rw [← (hag b86 _ hTb86).1]
  have hTb86 := (hag _ _ hTb86).2
  have hAG := AG.trans hAG hag
  refine u_wr hC (Or.inr ⟨rfl, rfl, rfl⟩) hTb86 hTn22 dX10_init_136 hf (fun S91 hf => ?_)
  refine u_iinc (v := (3 : Int32)) (lv' := [(1, .int (3 : Int32)), (0, .ref (ρ23 a0))]) hC dX10_init_137 0 rfl (by decide) (by decide) rfl ?_
  refine u_goto (tgt := 118) hC dX10_init_140 (by decide) ?_
  refine u_iload_n hC dX10_init_118 0 rfl rfl ?_
  refine u_bipush (v := (9 : Int32)) hC dX10_init_119 (by decide) ?_
  refine u_icmp_ge (tgt := 143) (α := Unit) (a := none) (b := some ()) (o := ()) hC dX10_init_121 (by decide) (if_neg (by decide)) (fun _ hx => nomatch hx) (fun _ _ => ?_)
  refine u_aload_n hC dX10_init_124 1 rfl rfl ?_
  refine u_gr hC lf_X10_29 rfl hTa0 dX10_init_125 hf (fun b98 hTb98 hf => ?_)
  show UW C (ρ23, q23.1, 166, 14256) S91 _ _ [.ref (ρ23 b98)]
  refine u_iload_n hC dX10_init_128 0 rfl rfl ?_
  refine u_new (ci := 5) hC (by decide) ⟨(tb_1 207 rfl rfl), (tb_1 209 rfl rfl), (tb_1 5 rfl rfl)⟩ (hB.at (Nat.le_of_ble_eq_true rfl) (Nat.le_of_ble_eq_true rfl)) dX10_init_129 hf (fun ρ24 Y24 Sn24 n24 hag hup hTn24 hf => ?_)
  replace hag : ∀ a k, Ty q23.1 a k → ρ24 a = ρ23 a := hag
  replace hup : ∀ a k, Ty q23.1 a k → Ty Y24 a k := hup
  show UW C (ρ24, Y24, 166 + 1, 14256 + 13) Sn24 _ _ _
  show UW C (ρ24, Y24, 167, 14269) Sn24 _ _ _
  rw [← hag a0 _ hTa0]
  have hTa0 := hup _ _ hTa0
  rw [← hag b98 _ hTb98]
  have hTb98 := hup _ _ hTb98
  have hAG := AG.new hAG hag hup
  refine u_dup hC dX10_init_132 rfl ?_
  obtain ⟨q25, hq25, hf⟩ := kc_some hf
  refine u_callIN (X := (ρ24, Y24, 167, 14269)) (rest := [.ref (ρ24 n24), .int (3 : Int32), .ref (ρ24 b98)]) hC (ctX5_init (cL C) hC.tr (cG C) ρ24 Y24 n Sn24 n24 hTn24 hq25) (hB.at (Nat.le_of_ble_eq_true rfl) (Nat.le_of_ble_eq_true rfl)) lk_X10_39 (tb_1 211 rfl rfl) rfl rfl (by decide) (by decide) rfl rfl (Nat.le_of_ble_eq_true rfl) dX10_init_133 (fun ρ25 hag => ?_)
  replace hag : ∀ a k, Ty Y24 a k → ρ25 a = ρ24 a ∧ Ty q25.1 a k := hag
  show UW C (ρ25, q25.1, 167 + 7, 14269 + 365) q25.2 _ _ _
  show UW C (ρ25, q25.1, 174, 14634) q25.2 _ _ _
  rw [← (hag a0 _ hTa0).1]
  have hTa0 := (hag _ _ hTa0).2
  rw [← (hag n24 _ hTn24).1]
  have hTn24 := (hag _ _ hTn24).2
  rw [← (hag b98 _ hTb98).1]
  have hTb98 := (hag _ _ hTb98).2
  have hAG := AG.trans hAG hag
  refine u_wr hC (Or.inr ⟨rfl, rfl, rfl⟩) hTb98 hTn24 dX10_init_136 hf (fun S103 hf => ?_)
  refine u_iinc (v := (4 : Int32)) (lv' := [(1, .int (4 : Int32)), (0, .ref (ρ25 a0))]) hC dX10_init_137 0 rfl (by decide) (by decide) rfl ?_
  refine u_goto (tgt := 118) hC dX10_init_140 (by decide) ?_
  refine u_iload_n hC dX10_init_118 0 rfl rfl ?_
  refine u_bipush (v := (9 : Int32)) hC dX10_init_119 (by decide) ?_
  refine u_icmp_ge (tgt := 143) (α := Unit) (a := none) (b := some ()) (o := ()) hC dX10_init_121 (by decide) (if_neg (by decide)) (fun _ hx => nomatch hx) (fun _ _ => ?_)
  refine u_aload_n hC dX10_init_124 1 rfl rfl ?_
  refine u_gr hC lf_X10_29 rfl hTa0 dX10_init_125 hf (fun b110 hTb110 hf => ?_)
  show UW C (ρ25, q25.1, 174, 14634) S103 _ _ [.ref (ρ25 b110)]
  refine u_iload_n hC dX10_init_128 0 rfl rfl ?_
  refine u_new (ci := 5) hC (by decide) ⟨(tb_1 207 rfl rfl), (tb_1 209 rfl rfl), (tb_1 5 rfl rfl)⟩ (hB.at (Nat.le_of_ble_eq_true rfl) (Nat.le_of_ble_eq_true rfl)) dX10_init_129 hf (fun ρ26 Y26 Sn26 n26 hag hup hTn26 hf => ?_)
  replace hag : ∀ a k, Ty q25.1 a k → ρ26 a = ρ25 a := hag
  replace hup : ∀ a k, Ty q25.1 a k → Ty Y26 a k := hup
  show UW C (ρ26, Y26, 174 + 1, 14634 + 13) Sn26 _ _ _
  show UW C (ρ26, Y26, 175, 14647) Sn26 _ _ _
  rw [← hag a0 _ hTa0]
  have hTa0 := hup _ _ hTa0
  rw [← hag b110 _ hTb110]
  have hTb110 := hup _ _ hTb110
  have hAG := AG.new hAG hag hup
  refine u_dup hC dX10_init_132 rfl ?_
  obtain ⟨q27, hq27, hf⟩ := kc_some hf
  refine u_callIN (X := (ρ26, Y26, 175, 14647)) (rest := [.ref (ρ26 n26), .int (4 : Int32), .ref (ρ26 b110)]) hC (ctX5_init (cL C) hC.tr (cG C) ρ26 Y26 n Sn26 n26 hTn26 hq27) (hB.at (Nat.le_of_ble_eq_true rfl) (Nat.le_of_ble_eq_true rfl)) lk_X10_39 (tb_1 211 rfl rfl) rfl rfl (by decide) (by decide) rfl rfl (Nat.le_of_ble_eq_true rfl) dX10_init_133 (fun ρ27 hag => ?_)
  replace hag : ∀ a k, Ty Y26 a k → ρ27 a = ρ26 a ∧ Ty q27.1 a k := hag
  show UW C (ρ27, q27.1, 175 + 7, 14647 + 365) q27.2 _ _ _
  show UW C (ρ27, q27.1, 182, 15012) q27.2 _ _ _
  rw [← (hag a0 _ hTa0).1]
  have hTa0 := (hag _ _ hTa0).2
  rw [← (hag n26 _ hTn26).1]
  have hTn26 := (hag _ _ hTn26).2
  rw [← (hag b110 _ hTb110).1]
  have hTb110 := (hag _ _ hTb110).2
  have hAG := AG.trans hAG hag
  refine u_wr hC (Or.inr ⟨rfl, rfl, rfl⟩) hTb110 hTn26 dX10_init_136 hf (fun S115 hf => ?_)
  refine u_iinc (v := (5 : Int32)) (lv' := [(1, .int (5 : Int32)), (0, .ref (ρ27 a0))]) hC dX10_init_137 0 rfl (by decide) (by decide) rfl ?_
  refine u_goto (tgt := 118) hC dX10_init_140 (by decide) ?_
  refine u_iload_n hC dX10_init_118 0 rfl rfl ?_
  refine u_bipush (v := (9 : Int32)) hC dX10_init_119 (by decide) ?_
  refine u_icmp_ge (tgt := 143) (α := Unit) (a := none) (b := some ()) (o := ()) hC dX10_init_121 (by decide) (if_neg (by decide)) (fun _ hx => nomatch hx) (fun _ _ => ?_)
  refine u_aload_n hC dX10_init_124 1 rfl rfl ?_
  refine u_gr hC lf_X10_29 rfl hTa0 dX10_init_125 hf (fun b122 hTb122 hf => ?_)
  show UW C (ρ27, q27.1, 182, 15012) S115 _ _ [.ref (ρ27 b122)]
  refine u_iload_n hC dX10_init_128 0 rfl rfl ?_
  refine u_new (ci := 5) hC (by decide) ⟨(tb_1 207 rfl rfl), (tb_1 209 rfl rfl), (tb_1 5 rfl rfl)⟩ (hB.at (Nat.le_of_ble_eq_true rfl) (Nat.le_of_ble_eq_true rfl)) dX10_init_129 hf (fun ρ28 Y28 Sn28 n28 hag hup hTn28 hf => ?_)
  replace hag : ∀ a k, Ty q27.1 a k → ρ28 a = ρ27 a := hag
  replace hup : ∀ a k, Ty q27.1 a k → Ty Y28 a k := hup
  show UW C (ρ28, Y28, 182 + 1, 15012 + 13) Sn28 _ _ _
  show UW C (ρ28, Y28, 183, 15025) Sn28 _ _ _
  rw [← hag a0 _ hTa0]
  have hTa0 := hup _ _ hTa0
  rw [← hag b122 _ hTb122]
  have hTb122 := hup _ _ hTb122
  have hAG := AG.new hAG hag hup
  refine u_dup hC dX10_init_132 rfl ?_
  obtain ⟨q29, hq29, hf⟩ := kc_some hf
  refine u_callIN (X := (ρ28, Y28, 183, 15025)) (rest := [.ref (ρ28 n28), .int (5 : Int32), .ref (ρ28 b122)]) hC (ctX5_init (cL C) hC.tr (cG C) ρ28 Y28 n Sn28 n28 hTn28 hq29) (hB.at (Nat.le_of_ble_eq_true rfl) (Nat.le_of_ble_eq_true rfl)) lk_X10_39 (tb_1 211 rfl rfl) rfl rfl (by decide) (by decide) rfl rfl (Nat.le_of_ble_eq_true rfl) dX10_init_133 (fun ρ29 hag => ?_)
  replace hag : ∀ a k, Ty Y28 a k → ρ29 a = ρ28 a ∧ Ty q29.1 a k := hag
  show UW C (ρ29, q29.1, 183 + 7, 15025 + 365) q29.2 _ _ _
  show UW C (ρ29, q29.1, 190, 15390) q29.2 _ _ _
  rw [← (hag a0 _ hTa0).1]
  have hTa0 := (hag _ _ hTa0).2
  rw [← (hag n28 _ hTn28).1]
  have hTn28 := (hag _ _ hTn28).2
  rw [← (hag b122 _ hTb122).1]
  have hTb122 := (hag _ _ hTb122).2
  have hAG := AG.trans hAG hag
  refine u_wr hC (Or.inr ⟨rfl, rfl, rfl⟩) hTb122 hTn28 dX10_init_136 hf (fun S127 hf => ?_)
  refine u_iinc (v := (6 : Int32)) (lv' := [(1, .int (6 : Int32)), (0, .ref (ρ29 a0))]) hC dX10_init_137 0 rfl (by decide) (by decide) rfl ?_
  refine u_goto (tgt := 118) hC dX10_init_140 (by decide) ?_
  refine u_iload_n hC dX10_init_118 0 rfl rfl ?_
  refine u_bipush (v := (9 : Int32)) hC dX10_init_119 (by decide) ?_
  refine u_icmp_ge (tgt := 143) (α := Unit) (a := none) (b := some ()) (o := ()) hC dX10_init_121 (by decide) (if_neg (by decide)) (fun _ hx => nomatch hx) (fun _ _ => ?_)
  refine u_aload_n hC dX10_init_124 1 rfl rfl ?_
  refine u_gr hC lf_X10_29 rfl hTa0 dX10_init_125 hf (fun b134 hTb134 hf => ?_)
  show UW C (ρ29, q29.1, 190, 15390) S127 _ _ [.ref (ρ29 b134)]
  refine u_iload_n hC dX10_init_128 0 rfl rfl ?_
  refine u_new (ci := 5) hC (by decide) ⟨(tb_1 207 rfl rfl), (tb_1 209 rfl rfl), (tb_1 5 rfl rfl)⟩ (hB.at (Nat.le_of_ble_eq_true rfl) (Nat.le_of_ble_eq_true rfl)) dX10_init_129 hf (fun ρ30 Y30 Sn30 n30 hag hup hTn30 hf => ?_)
  replace hag : ∀ a k, Ty q29.1 a k → ρ30 a = ρ29 a := hag
  replace hup : ∀ a k, Ty q29.1 a k → Ty Y30 a k := hup
  show UW C (ρ30, Y30, 190 + 1, 15390 + 13) Sn30 _ _ _
  show UW C (ρ30, Y30, 191, 15403) Sn30 _ _ _
  rw [← hag a0 _ hTa0]
  have hTa0 := hup _ _ hTa0
  rw [← hag b134 _ hTb134]
  have hTb134 := hup _ _ hTb134
  have hAG := AG.new hAG hag hup
  refine u_dup hC dX10_init_132 rfl ?_
  obtain ⟨q31, hq31, hf⟩ := kc_some hf
  refine u_callIN (X := (ρ30, Y30, 191, 15403)) (rest := [.ref (ρ30 n30), .int (6 : Int32), .ref (ρ30 b134)]) hC (ctX5_init (cL C) hC.tr (cG C) ρ30 Y30 n Sn30 n30 hTn30 hq31) (hB.at (Nat.le_of_ble_eq_true rfl) (Nat.le_of_ble_eq_true rfl)) lk_X10_39 (tb_1 211 rfl rfl) rfl rfl (by decide) (by decide) rfl rfl (Nat.le_of_ble_eq_true rfl) dX10_init_133 (fun ρ31 hag => ?_)
  replace hag : ∀ a k, Ty Y30 a k → ρ31 a = ρ30 a ∧ Ty q31.1 a k := hag
  show UW C (ρ31, q31.1, 191 + 7, 15403 + 365) q31.2 _ _ _
  show UW C (ρ31, q31.1, 198, 15768) q31.2 _ _ _
  rw [← (hag a0 _ hTa0).1]
  have hTa0 := (hag _ _ hTa0).2
  rw [← (hag n30 _ hTn30).1]
  have hTn30 := (hag _ _ hTn30).2
  rw [← (hag b134 _ hTb134).1]
  have hTb134 := (hag _ _ hTb134).2
  have hAG := AG.trans hAG hag
  refine u_wr hC (Or.inr ⟨rfl, rfl, rfl⟩) hTb134 hTn30 dX10_init_136 hf (fun S139 hf => ?_)
  refine u_iinc (v := (7 : Int32)) (lv' := [(1, .int (7 : Int32)), (0, .ref (ρ31 a0))]) hC dX10_init_137 0 rfl (by decide) (by decide) rfl ?_
  refine u_goto (tgt := 118) hC dX10_init_140 (by decide) ?_
  refine u_iload_n hC dX10_init_118 0 rfl rfl ?_
  refine u_bipush (v := (9 : Int32)) hC dX10_init_119 (by decide) ?_
  refine u_icmp_ge (tgt := 143) (α := Unit) (a := none) (b := some ()) (o := ()) hC dX10_init_121 (by decide) (if_neg (by decide)) (fun _ hx => nomatch hx) (fun _ _ => ?_)
  refine u_aload_n hC dX10_init_124 1 rfl rfl ?_
  refine u_gr hC lf_X10_29 rfl hTa0 dX10_init_125 hf (fun b146 hTb146 hf => ?_)
  show UW C (ρ31, q31.1, 198, 15768) S139 _ _ [.ref (ρ31 b146)]
  refine u_iload_n hC dX10_init_128 0 rfl rfl ?_
  refine u_new (ci := 5) hC (by decide) ⟨(tb_1 207 rfl rfl), (tb_1 209 rfl rfl), (tb_1 5 rfl rfl)⟩ (hB.at (Nat.le_of_ble_eq_true rfl) (Nat.le_of_ble_eq_true rfl)) dX10_init_129 hf (fun ρ32 Y32 Sn32 n32 hag hup hTn32 hf => ?_)
  replace hag : ∀ a k, Ty q31.1 a k → ρ32 a = ρ31 a := hag
  replace hup : ∀ a k, Ty q31.1 a k → Ty Y32 a k := hup
  show UW C (ρ32, Y32, 198 + 1, 15768 + 13) Sn32 _ _ _
  show UW C (ρ32, Y32, 199, 15781) Sn32 _ _ _
  rw [← hag a0 _ hTa0]
  have hTa0 := hup _ _ hTa0
  rw [← hag b146 _ hTb146]
  have hTb146 := hup _ _ hTb146
  have hAG := AG.new hAG hag hup
  refine u_dup hC dX10_init_132 rfl ?_
  obtain ⟨q33, hq33, hf⟩ := kc_some hf
  refine u_callIN (X := (ρ32, Y32, 199, 15781)) (rest := [.ref (ρ32 n32), .int (7 : Int32), .ref (ρ32 b146)]) hC (ctX5_init (cL C) hC.tr (cG C) ρ32 Y32 n Sn32 n32 hTn32 hq33) (hB.at (Nat.le_of_ble_eq_true rfl) (Nat.le_of_ble_eq_true rfl)) lk_X10_39 (tb_1 211 rfl rfl) rfl rfl (by decide) (by decide) rfl rfl (Nat.le_of_ble_eq_true rfl) dX10_init_133 (fun ρ33 hag => ?_)
  replace hag : ∀ a k, Ty Y32 a k → ρ33 a = ρ32 a ∧ Ty q33.1 a k := hag
  show UW C (ρ33, q33.1, 199 + 7, 15781 + 365) q33.2 _ _ _
  show UW C (ρ33, q33.1, 206, 16146) q33.2 _ _ _
  rw [← (hag a0 _ hTa0).1]
  have hTa0 := (hag _ _ hTa0).2
  rw [← (hag n32 _ hTn32).1]
  have hTn32 := (hag _ _ hTn32).2
  rw [← (hag b146 _ hTb146).1]
  have hTb146 := (hag _ _ hTb146).2
  have hAG := AG.trans hAG hag
  refine u_wr hC (Or.inr ⟨rfl, rfl, rfl⟩) hTb146 hTn32 dX10_init_136 hf (fun S151 hf => ?_)
  refine u_iinc (v := (8 : Int32)) (lv' := [(1, .int (8 : Int32)), (0, .ref (ρ33 a0))]) hC dX10_init_137 0 rfl (by decide) (by decide) rfl ?_
  refine u_goto (tgt := 118) hC dX10_init_140 (by decide) ?_
  refine u_iload_n hC dX10_init_118 0 rfl rfl ?_
  refine u_bipush (v := (9 : Int32)) hC dX10_init_119 (by decide) ?_
  refine u_icmp_ge (tgt := 143) (α := Unit) (a := none) (b := some ()) (o := ()) hC dX10_init_121 (by decide) (if_neg (by decide)) (fun _ hx => nomatch hx) (fun _ _ => ?_)
  refine u_aload_n hC dX10_init_124 1 rfl rfl ?_
  refine u_gr hC lf_X10_29 rfl hTa0 dX10_init_125 hf (fun b158 hTb158 hf => ?_)
  show UW C (ρ33, q33.1, 206, 16146) S151 _ _ [.ref (ρ33 b158)]
  refine u_iload_n hC dX10_init_128 0 rfl rfl ?_
  refine u_new (ci := 5) hC (by decide) ⟨(tb_1 207 rfl rfl), (tb_1 209 rfl rfl), (tb_1 5 rfl rfl)⟩ (hB.at (Nat.le_of_ble_eq_true rfl) (Nat.le_of_ble_eq_true rfl)) dX10_init_129 hf (fun ρ34 Y34 Sn34 n34 hag hup hTn34 hf => ?_)
  replace hag : ∀ a k, Ty q33.1 a k → ρ34 a = ρ33 a := hag
  replace hup : ∀ a k, Ty q33.1 a k → Ty Y34 a k := hup
  show UW C (ρ34, Y34, 206 + 1, 16146 + 13) Sn34 _ _ _
  show UW C (ρ34, Y34, 207, 16159) Sn34 _ _ _
  rw [← hag a0 _ hTa0]
  have hTa0 := hup _ _ hTa0
  rw [← hag b158 _ hTb158]
  have hTb158 := hup _ _ hTb158
  have hAG := AG.new hAG hag hup
  refine u_dup hC dX10_init_132 rfl ?_
  obtain ⟨q35, hq35, hf⟩ := kc_some hf
  refine u_callIN (X := (ρ34, Y34, 207, 16159)) (rest := [.ref (ρ34 n34), .int (8 : Int32), .ref (ρ34 b158)]) hC (ctX5_init (cL C) hC.tr (cG C) ρ34 Y34 n Sn34 n34 hTn34 hq35) (hB.at (Nat.le_of_ble_eq_true rfl) (Nat.le_of_ble_eq_true rfl)) lk_X10_39 (tb_1 211 rfl rfl) rfl rfl (by decide) (by decide) rfl rfl (Nat.le_of_ble_eq_true rfl) dX10_init_133 (fun ρ35 hag => ?_)
  replace hag : ∀ a k, Ty Y34 a k → ρ35 a = ρ34 a ∧ Ty q35.1 a k := hag
  show UW C (ρ35, q35.1, 207 + 7, 16159 + 365) q35.2 _ _ _
  show UW C (ρ35, q35.1, 214, 16524) q35.2 _ _ _
  rw [← (hag a0 _ hTa0).1]
  have hTa0 := (hag _ _ hTa0).2
  rw [← (hag n34 _ hTn34).1]
  have hTn34 := (hag _ _ hTn34).2
  rw [← (hag b158 _ hTb158).1]
  have hTb158 := (hag _ _ hTb158).2
  have hAG := AG.trans hAG hag
  refine u_wr hC (Or.inr ⟨rfl, rfl, rfl⟩) hTb158 hTn34 dX10_init_136 hf (fun S163 hf => ?_)
  refine u_iinc (v := (9 : Int32)) (lv' := [(1, .int (9 : Int32)), (0, .ref (ρ35 a0))]) hC dX10_init_137 0 rfl (by decide) (by decide) rfl ?_
  refine u_goto (tgt := 118) hC dX10_init_140 (by decide) ?_
  refine u_iload_n hC dX10_init_118 0 rfl rfl ?_
  refine u_bipush (v := (9 : Int32)) hC dX10_init_119 (by decide) ?_
  refine u_icmp_ge (tgt := 143) (α := Unit) (a := some ()) (b := none) (o := ()) hC dX10_init_121 (by decide) (if_pos (by decide)) (fun _ _ => ?_) (fun _ hx => nomatch hx)
  cases hf
  exact hR _ hAG _ _ (Nat.le_of_ble_eq_true rfl) (Nat.le_of_ble_eq_true rfl) _ _ dX10_init_143 trivial
theorem ctX10_init (l : Launch) (hl : l.stackTraces = false) (G : GT) (ρ : Nat → Nat) (Y : XS) (n : Nat) (S : PS) (a0 : Nat) (hTa0 : Ty Y a0 10) {o : XS × PS} (hf : fX10_init Y n S a0 = some o) : Ma l G yX10_init cX10_init 2 none 3 214 16524 ρ Y [.ref (ρ a0)] S (fun _ => none) o.2 o.1 :=
  Ma_of hl (by decide) (Nat.le_of_ble_eq_true rfl) (fun C _ _ hC hI hB hR => wX10_init hC (hI rfl) n S a0 hTa0 hf hB hR)
-- X11_init
theorem dX11_init_0 : decode cX11_init 0 = .ok (.aload_n 0, 1) := by decide +kernel
theorem dX11_init_1 : decode cX11_init 1 = .ok (.invokespecial 1, 3) := by decide +kernel
theorem dX11_init_4 : decode cX11_init 4 = .ok (.aload_n 0, 1) := by decide +kernel
theorem dX11_init_5 : decode cX11_init 5 = .ok (.sipush 877, 3) := by decide +kernel
theorem dX11_init_8 : decode cX11_init 8 = .ok (.newarray .int, 2) := by decide +kernel
theorem dX11_init_10 : decode cX11_init 10 = .ok (.putfield 9, 3) := by decide +kernel
theorem dX11_init_13 : decode cX11_init 13 = .ok (.aload_n 0, 1) := by decide +kernel
theorem dX11_init_14 : decode cX11_init 14 = .ok (.sipush 877, 3) := by decide +kernel
theorem dX11_init_17 : decode cX11_init 17 = .ok (.newarray .int, 2) := by decide +kernel
theorem dX11_init_19 : decode cX11_init 19 = .ok (.putfield 13, 3) := by decide +kernel
theorem dX11_init_22 : decode cX11_init 22 = .ok (.aload_n 0, 1) := by decide +kernel
theorem dX11_init_23 : decode cX11_init 23 = .ok (.sipush 877, 3) := by decide +kernel
theorem dX11_init_26 : decode cX11_init 26 = .ok (.newarray .int, 2) := by decide +kernel
theorem dX11_init_28 : decode cX11_init 28 = .ok (.putfield 16, 3) := by decide +kernel
theorem dX11_init_31 : decode cX11_init 31 = .ok (.aload_n 0, 1) := by decide +kernel
theorem dX11_init_32 : decode cX11_init 32 = .ok (.sipush 877, 3) := by decide +kernel
theorem dX11_init_35 : decode cX11_init 35 = .ok (.newarray .int, 2) := by decide +kernel
theorem dX11_init_37 : decode cX11_init 37 = .ok (.putfield 19, 3) := by decide +kernel
theorem dX11_init_40 : decode cX11_init 40 = .ok (.aload_n 0, 1) := by decide +kernel
theorem dX11_init_41 : decode cX11_init 41 = .ok (.sipush 17540, 3) := by decide +kernel
theorem dX11_init_44 : decode cX11_init 44 = .ok (.newarray .int, 2) := by decide +kernel
theorem dX11_init_46 : decode cX11_init 46 = .ok (.putfield 22, 3) := by decide +kernel
theorem dX11_init_49 : decode cX11_init 49 = .ok (.aload_n 0, 1) := by decide +kernel
theorem dX11_init_50 : decode cX11_init 50 = .ok (.sipush 288, 3) := by decide +kernel
theorem dX11_init_53 : decode cX11_init 53 = .ok (.newarray .int, 2) := by decide +kernel
theorem dX11_init_55 : decode cX11_init 55 = .ok (.putfield 25, 3) := by decide +kernel
theorem dX11_init_58 : decode cX11_init 58 = .ok (.aload_n 0, 1) := by decide +kernel
theorem dX11_init_59 : decode cX11_init 59 = .ok (.bipush 12, 2) := by decide +kernel
theorem dX11_init_61 : decode cX11_init 61 = .ok (.newarray .int, 2) := by decide +kernel
theorem dX11_init_63 : decode cX11_init 63 = .ok (.putfield 28, 3) := by decide +kernel
theorem dX11_init_66 : decode cX11_init 66 = .ok (.aload_n 0, 1) := by decide +kernel
theorem dX11_init_67 : decode cX11_init 67 = .ok (.bipush 12, 2) := by decide +kernel
theorem dX11_init_69 : decode cX11_init 69 = .ok (.newarray .int, 2) := by decide +kernel
theorem dX11_init_71 : decode cX11_init 71 = .ok (.putfield 31, 3) := by decide +kernel
theorem dX11_init_74 : decode cX11_init 74 = .ok (.aload_n 0, 1) := by decide +kernel
theorem dX11_init_75 : decode cX11_init 75 = .ok (.bipush 12, 2) := by decide +kernel
theorem dX11_init_77 : decode cX11_init 77 = .ok (.newarray .int, 2) := by decide +kernel
theorem dX11_init_79 : decode cX11_init 79 = .ok (.putfield 34, 3) := by decide +kernel
theorem dX11_init_82 : decode cX11_init 82 = .ok (.aload_n 0, 1) := by decide +kernel
theorem dX11_init_83 : decode cX11_init 83 = .ok (.bipush 24, 2) := by decide +kernel
theorem dX11_init_85 : decode cX11_init 85 = .ok (.newarray .int, 2) := by decide +kernel
theorem dX11_init_87 : decode cX11_init 87 = .ok (.putfield 37, 3) := by decide +kernel
theorem dX11_init_90 : decode cX11_init 90 = .ok (.aload_n 0, 1) := by decide +kernel
theorem dX11_init_91 : decode cX11_init 91 = .ok (.sipush 288, 3) := by decide +kernel
theorem dX11_init_94 : decode cX11_init 94 = .ok (.newarray .int, 2) := by decide +kernel
theorem dX11_init_96 : decode cX11_init 96 = .ok (.putfield 40, 3) := by decide +kernel
theorem dX11_init_99 : decode cX11_init 99 = .ok (.aload_n 0, 1) := by decide +kernel
theorem dX11_init_100 : decode cX11_init 100 = .ok (.bipush 12, 2) := by decide +kernel
theorem dX11_init_102 : decode cX11_init 102 = .ok (.newarray .int, 2) := by decide +kernel
theorem dX11_init_104 : decode cX11_init 104 = .ok (.putfield 43, 3) := by decide +kernel
theorem dX11_init_107 : decode cX11_init 107 = .ok (.aload_n 0, 1) := by decide +kernel
theorem dX11_init_108 : decode cX11_init 108 = .ok (.bipush 12, 2) := by decide +kernel
theorem dX11_init_110 : decode cX11_init 110 = .ok (.newarray .int, 2) := by decide +kernel
theorem dX11_init_112 : decode cX11_init 112 = .ok (.putfield 46, 3) := by decide +kernel
theorem dX11_init_115 : decode cX11_init 115 = .ok (.aload_n 0, 1) := by decide +kernel
theorem dX11_init_116 : decode cX11_init 116 = .ok (.bipush 12, 2) := by decide +kernel
theorem dX11_init_118 : decode cX11_init 118 = .ok (.newarray .int, 2) := by decide +kernel
theorem dX11_init_120 : decode cX11_init 120 = .ok (.putfield 49, 3) := by decide +kernel
theorem dX11_init_123 : decode cX11_init 123 = .ok (.aload_n 0, 1) := by decide +kernel
theorem dX11_init_124 : decode cX11_init 124 = .ok (.bipush 24, 2) := by decide +kernel
theorem dX11_init_126 : decode cX11_init 126 = .ok (.newarray .boolean, 2) := by decide +kernel
theorem dX11_init_128 : decode cX11_init 128 = .ok (.putfield 52, 3) := by decide +kernel
theorem dX11_init_131 : decode cX11_init 131 = .ok (.aload_n 0, 1) := by decide +kernel
theorem dX11_init_132 : decode cX11_init 132 = .ok (.bipush 24, 2) := by decide +kernel
theorem dX11_init_134 : decode cX11_init 134 = .ok (.newarray .long, 2) := by decide +kernel
theorem dX11_init_136 : decode cX11_init 136 = .ok (.putfield 56, 3) := by decide +kernel
theorem dX11_init_139 : decode cX11_init 139 = .ok (.aload_n 0, 1) := by decide +kernel
theorem dX11_init_140 : decode cX11_init 140 = .ok (.bipush 12, 2) := by decide +kernel
theorem dX11_init_142 : decode cX11_init 142 = .ok (.newarray .int, 2) := by decide +kernel
theorem dX11_init_144 : decode cX11_init 144 = .ok (.putfield 60, 3) := by decide +kernel
theorem dX11_init_147 : decode cX11_init 147 = .ok (.aload_n 0, 1) := by decide +kernel
theorem dX11_init_148 : decode cX11_init 148 = .ok (.sipush 500, 3) := by decide +kernel
theorem dX11_init_151 : decode cX11_init 151 = .ok (.newarray .int, 2) := by decide +kernel
theorem dX11_init_153 : decode cX11_init 153 = .ok (.putfield 63, 3) := by decide +kernel
theorem dX11_init_156 : decode cX11_init 156 = .ok (.aload_n 0, 1) := by decide +kernel
theorem dX11_init_157 : decode cX11_init 157 = .ok (.iconst (-1), 1) := by decide +kernel
theorem dX11_init_158 : decode cX11_init 158 = .ok (.putfield 66, 3) := by decide +kernel
theorem dX11_init_161 : decode cX11_init 161 = .ok (.return_, 1) := by decide +kernel
def fX11_init (Y : XS) (n : Nat) (S : PS) (a0 : Nat) : Option (XS × PS) :=
  kna Y S 12 (877 : Int32) (fun Y1 Sn1 n1 => kpr Sn1 a0 0 (some n1) (fun S6 => kna Y1 S6 12 (877 : Int32) (fun Y2 Sn2 n2 => kpr Sn2 a0 1 (some n2) (fun S10 => kna Y2 S10 12 (877 : Int32) (fun Y3 Sn3 n3 => kpr Sn3 a0 2 (some n3) (fun S14 => kna Y3 S14 12 (877 : Int32) (fun Y4 Sn4 n4 => kpr Sn4 a0 3 (some n4) (fun S18 => kna Y4 S18 12 (17540 : Int32) (fun Y5 Sn5 n5 => kpr Sn5 a0 4 (some n5) (fun S22 => kna Y5 S22 12 (288 : Int32) (fun Y6 Sn6 n6 => kpr Sn6 a0 12 (some n6) (fun S26 => kna Y6 S26 12 (12 : Int32) (fun Y7 Sn7 n7 => kpr Sn7 a0 13 (some n7) (fun S30 => kna Y7 S30 12 (12 : Int32) (fun Y8 Sn8 n8 => kpr Sn8 a0 14 (some n8) (fun S34 => kna Y8 S34 12 (12 : Int32) (fun Y9 Sn9 n9 => kpr Sn9 a0 15 (some n9) (fun S38 => kna Y9 S38 12 (24 : Int32) (fun Y10 Sn10 n10 => kpr Sn10 a0 16 (some n10) (fun S42 => kna Y10 S42 12 (288 : Int32) (fun Y11 Sn11 n11 => kpr Sn11 a0 17 (some n11) (fun S46 => kna Y11 S46 12 (12 : Int32) (fun Y12 Sn12 n12 => kpr Sn12 a0 18 (some n12) (fun S50 => kna Y12 S50 12 (12 : Int32) (fun Y13 Sn13 n13 => kpr Sn13 a0 19 (some n13) (fun S54 => kna Y13 S54 12 (12 : Int32) (fun Y14 Sn14 n14 => kpr Sn14 a0 20 (some n14) (fun S58 => kna Y14 S58 14 (24 : Int32) (fun Y15 Sn15 n15 => kpr Sn15 a0 24 (some n15) (fun S62 => kna Y15 S62 15 (24 : Int32) (fun Y16 Sn16 n16 => kpr Sn16 a0 25 (some n16) (fun S66 => kna Y16 S66 12 (12 : Int32) (fun Y17 Sn17 n17 => kpr Sn17 a0 26 (some n17) (fun S70 => kna Y17 S70 12 (500 : Int32) (fun Y18 Sn18 n18 => kpr Sn18 a0 27 (some n18) (fun S74 => kpi S74 a0 36 (-1 : Int32) (fun S77 => some (Y18, S77))))))))))))))))))))))))))))))))))))))
theorem wX11_init {C : CT} {ρ : Nat → Nat} {Y : XS} (hC : CK C RX11 cX11_init 1 none 1) (hI : CI C) (n : Nat) (S : PS) (a0 : Nat) (hTa0 : Ty Y a0 11) {o : XS × PS} (hf : fX11_init Y n S a0 = some o) (hB : XB C (ρ, Y, 0, 0) 18 22280) (hR : RtA C ρ Y cX11_init none 18 22280 (fun _ => none) o.2 o.1) : UW C (ρ, Y, 0, 0) S 0 [(0, .ref (ρ a0))] [] := by
  unfold fX11_init at hf
  have hAG := AG.refl ρ Y
  refine u_aload_n hC dX11_init_0 0 rfl rfl ?_
  refine u_oinit (a := a0) hC (tb_6 25 rfl rfl) (by decide) (Nat.le_of_ble_eq_true rfl) dX11_init_1 ?_
  refine u_aload_n hC dX11_init_4 0 rfl rfl ?_
  refine u_sipush (v := (877 : Int32)) hC dX11_init_5 (by decide) ?_
  refine u_newi (N := 877) hC (by decide) (by decide) (hB.at (Nat.le_of_ble_eq_true rfl) (Nat.le_of_ble_eq_true rfl)) dX11_init_8 hf (fun ρ1 Y1 Sn1 n1 hag hup hTn1 hf => ?_)
  replace hag : ∀ a k, Ty Y a k → ρ1 a = ρ a := hag
  replace hup : ∀ a k, Ty Y a k → Ty Y1 a k := hup
  show UW C (ρ1, Y1, 0 + 1, 0 + 877) Sn1 _ _ _
  show UW C (ρ1, Y1, 1, 877) Sn1 _ _ _
  rw [← hag a0 _ hTa0]
  have hTa0 := hup _ _ hTa0
  have hAG := AG.new hAG hag hup
  refine u_prF hC hI lf_X11_9 rfl rfl rfl rfl hTa0 hTn1 dX11_init_10 hf (fun S6 hf => ?_)
  refine u_aload_n hC dX11_init_13 0 rfl rfl ?_
  refine u_sipush (v := (877 : Int32)) hC dX11_init_14 (by decide) ?_
  refine u_newi (N := 877) hC (by decide) (by decide) (hB.at (Nat.le_of_ble_eq_true rfl) (Nat.le_of_ble_eq_true rfl)) dX11_init_17 hf (fun ρ2 Y2 Sn2 n2 hag hup hTn2 hf => ?_)
  replace hag : ∀ a k, Ty Y1 a k → ρ2 a = ρ1 a := hag
  replace hup : ∀ a k, Ty Y1 a k → Ty Y2 a k := hup
  show UW C (ρ2, Y2, 1 + 1, 877 + 877) Sn2 _ _ _
  show UW C (ρ2, Y2, 2, 1754) Sn2 _ _ _
  rw [← hag a0 _ hTa0]
  have hTa0 := hup _ _ hTa0
  have hAG := AG.new hAG hag hup
  refine u_prF hC hI lf_X11_13 rfl rfl rfl rfl hTa0 hTn2 dX11_init_19 hf (fun S10 hf => ?_)
  refine u_aload_n hC dX11_init_22 0 rfl rfl ?_
  refine u_sipush (v := (877 : Int32)) hC dX11_init_23 (by decide) ?_
  refine u_newi (N := 877) hC (by decide) (by decide) (hB.at (Nat.le_of_ble_eq_true rfl) (Nat.le_of_ble_eq_true rfl)) dX11_init_26 hf (fun ρ3 Y3 Sn3 n3 hag hup hTn3 hf => ?_)
  replace hag : ∀ a k, Ty Y2 a k → ρ3 a = ρ2 a := hag
  replace hup : ∀ a k, Ty Y2 a k → Ty Y3 a k := hup
  show UW C (ρ3, Y3, 2 + 1, 1754 + 877) Sn3 _ _ _
  show UW C (ρ3, Y3, 3, 2631) Sn3 _ _ _
  rw [← hag a0 _ hTa0]
  have hTa0 := hup _ _ hTa0
  have hAG := AG.new hAG hag hup
  refine u_prF hC hI lf_X11_16 rfl rfl rfl rfl hTa0 hTn3 dX11_init_28 hf (fun S14 hf => ?_)
  refine u_aload_n hC dX11_init_31 0 rfl rfl ?_
  refine u_sipush (v := (877 : Int32)) hC dX11_init_32 (by decide) ?_
  refine u_newi (N := 877) hC (by decide) (by decide) (hB.at (Nat.le_of_ble_eq_true rfl) (Nat.le_of_ble_eq_true rfl)) dX11_init_35 hf (fun ρ4 Y4 Sn4 n4 hag hup hTn4 hf => ?_)
  replace hag : ∀ a k, Ty Y3 a k → ρ4 a = ρ3 a := hag
  replace hup : ∀ a k, Ty Y3 a k → Ty Y4 a k := hup
  show UW C (ρ4, Y4, 3 + 1, 2631 + 877) Sn4 _ _ _
  show UW C (ρ4, Y4, 4, 3508) Sn4 _ _ _
  rw [← hag a0 _ hTa0]
  have hTa0 := hup _ _ hTa0
  have hAG := AG.new hAG hag hup
  refine u_prF hC hI lf_X11_19 rfl rfl rfl rfl hTa0 hTn4 dX11_init_37 hf (fun S18 hf => ?_)
  refine u_aload_n hC dX11_init_40 0 rfl rfl ?_
  refine u_sipush (v := (17540 : Int32)) hC dX11_init_41 (by decide) ?_
  refine u_newi (N := 17540) hC (by decide) (by decide) (hB.at (Nat.le_of_ble_eq_true rfl) (Nat.le_of_ble_eq_true rfl)) dX11_init_44 hf (fun ρ5 Y5 Sn5 n5 hag hup hTn5 hf => ?_)
  replace hag : ∀ a k, Ty Y4 a k → ρ5 a = ρ4 a := hag
  replace hup : ∀ a k, Ty Y4 a k → Ty Y5 a k := hup
  show UW C (ρ5, Y5, 4 + 1, 3508 + 17540) Sn5 _ _ _
  show UW C (ρ5, Y5, 5, 21048) Sn5 _ _ _
  rw [← hag a0 _ hTa0]
  have hTa0 := hup _ _ hTa0
  have hAG := AG.new hAG hag hup
  refine u_prF hC hI lf_X11_22 rfl rfl rfl rfl hTa0 hTn5 dX11_init_46 hf (fun S22 hf => ?_)
  refine u_aload_n hC dX11_init_49 0 rfl rfl ?_
  refine u_sipush (v := (288 : Int32)) hC dX11_init_50 (by decide) ?_
  refine u_newi (N := 288) hC (by decide) (by decide) (hB.at (Nat.le_of_ble_eq_true rfl) (Nat.le_of_ble_eq_true rfl)) dX11_init_53 hf (fun ρ6 Y6 Sn6 n6 hag hup hTn6 hf => ?_)
  replace hag : ∀ a k, Ty Y5 a k → ρ6 a = ρ5 a := hag
  replace hup : ∀ a k, Ty Y5 a k → Ty Y6 a k := hup
  show UW C (ρ6, Y6, 5 + 1, 21048 + 288) Sn6 _ _ _
  show UW C (ρ6, Y6, 6, 21336) Sn6 _ _ _
  rw [← hag a0 _ hTa0]
  have hTa0 := hup _ _ hTa0
  have hAG := AG.new hAG hag hup
  refine u_prF hC hI lf_X11_25 rfl rfl rfl rfl hTa0 hTn6 dX11_init_55 hf (fun S26 hf => ?_)
  refine u_aload_n hC dX11_init_58 0 rfl rfl ?_
  refine u_bipush (v := (12 : Int32)) hC dX11_init_59 (by decide) ?_
  refine u_newi (N := 12) hC (by decide) (by decide) (hB.at (Nat.le_of_ble_eq_true rfl) (Nat.le_of_ble_eq_true rfl)) dX11_init_61 hf (fun ρ7 Y7 Sn7 n7 hag hup hTn7 hf => ?_)
  replace hag : ∀ a k, Ty Y6 a k → ρ7 a = ρ6 a := hag
  replace hup : ∀ a k, Ty Y6 a k → Ty Y7 a k := hup
  show UW C (ρ7, Y7, 6 + 1, 21336 + 12) Sn7 _ _ _
  show UW C (ρ7, Y7, 7, 21348) Sn7 _ _ _
  rw [← hag a0 _ hTa0]
  have hTa0 := hup _ _ hTa0
  have hAG := AG.new hAG hag hup
  refine u_prF hC hI lf_X11_28 rfl rfl rfl rfl hTa0 hTn7 dX11_init_63 hf (fun S30 hf => ?_)
  refine u_aload_n hC dX11_init_66 0 rfl rfl ?_
  refine u_bipush (v := (12 : Int32)) hC dX11_init_67 (by decide) ?_
  refine u_newi (N := 12) hC (by decide) (by decide) (hB.at (Nat.le_of_ble_eq_true rfl) (Nat.le_of_ble_eq_true rfl)) dX11_init_69 hf (fun ρ8 Y8 Sn8 n8 hag hup hTn8 hf => ?_)
  replace hag : ∀ a k, Ty Y7 a k → ρ8 a = ρ7 a := hag
  replace hup : ∀ a k, Ty Y7 a k → Ty Y8 a k := hup
  show UW C (ρ8, Y8, 7 + 1, 21348 + 12) Sn8 _ _ _
  show UW C (ρ8, Y8, 8, 21360) Sn8 _ _ _
  rw [← hag a0 _ hTa0]
  have hTa0 := hup _ _ hTa0
  have hAG := AG.new hAG hag hup
  refine u_prF hC hI lf_X11_31 rfl rfl rfl rfl hTa0 hTn8 dX11_init_71 hf (fun S34 hf => ?_)
  refine u_aload_n hC dX11_init_74 0 rfl rfl ?_
  refine u_bipush (v := (12 : Int32)) hC dX11_init_75 (by decide) ?_
  refine u_newi (N := 12) hC (by decide) (by decide) (hB.at (Nat.le_of_ble_eq_true rfl) (Nat.le_of_ble_eq_true rfl)) dX11_init_77 hf (fun ρ9 Y9 Sn9 n9 hag hup hTn9 hf => ?_)
  replace hag : ∀ a k, Ty Y8 a k → ρ9 a = ρ8 a := hag
  replace hup : ∀ a k, Ty Y8 a k → Ty Y9 a k := hup
  show UW C (ρ9, Y9, 8 + 1, 21360 + 12) Sn9 _ _ _
  show UW C (ρ9, Y9, 9, 21372) Sn9 _ _ _
  rw [← hag a0 _ hTa0]
  have hTa0 := hup _ _ hTa0
  have hAG := AG.new hAG hag hup
  refine u_prF hC hI lf_X11_34 rfl rfl rfl rfl hTa0 hTn9 dX11_init_79 hf (fun S38 hf => ?_)
  refine u_aload_n hC dX11_init_82 0 rfl rfl ?_
  refine u_bipush (v := (24 : Int32)) hC dX11_init_83 (by decide) ?_
  refine u_newi (N := 24) hC (by decide) (by decide) (hB.at (Nat.le_of_ble_eq_true rfl) (Nat.le_of_ble_eq_true rfl)) dX11_init_85 hf (fun ρ10 Y10 Sn10 n10 hag hup hTn10 hf => ?_)
  replace hag : ∀ a k, Ty Y9 a k → ρ10 a = ρ9 a := hag
  replace hup : ∀ a k, Ty Y9 a k → Ty Y10 a k := hup
  show UW C (ρ10, Y10, 9 + 1, 21372 + 24) Sn10 _ _ _
  show UW C (ρ10, Y10, 10, 21396) Sn10 _ _ _
  rw [← hag a0 _ hTa0]
  have hTa0 := hup _ _ hTa0
  have hAG := AG.new hAG hag hup
  refine u_prF hC hI lf_X11_37 rfl rfl rfl rfl hTa0 hTn10 dX11_init_87 hf (fun S42 hf => ?_)
  refine u_aload_n hC dX11_init_90 0 rfl rfl ?_
  refine u_sipush (v := (288 : Int32)) hC dX11_init_91 (by decide) ?_
  refine u_newi (N := 288) hC (by decide) (by decide) (hB.at (Nat.le_of_ble_eq_true rfl) (Nat.le_of_ble_eq_true rfl)) dX11_init_94 hf (fun ρ11 Y11 Sn11 n11 hag hup hTn11 hf => ?_)
  replace hag : ∀ a k, Ty Y10 a k → ρ11 a = ρ10 a := hag
  replace hup : ∀ a k, Ty Y10 a k → Ty Y11 a k := hup
  show UW C (ρ11, Y11, 10 + 1, 21396 + 288) Sn11 _ _ _
  show UW C (ρ11, Y11, 11, 21684) Sn11 _ _ _
  rw [← hag a0 _ hTa0]
  have hTa0 := hup _ _ hTa0
  have hAG := AG.new hAG hag hup
  refine u_prF hC hI lf_X11_40 rfl rfl rfl rfl hTa0 hTn11 dX11_init_96 hf (fun S46 hf => ?_)
  refine u_aload_n hC dX11_init_99 0 rfl rfl ?_
  refine u_bipush (v := (12 : Int32)) hC dX11_init_100 (by decide) ?_
  refine u_newi (N := 12) hC (by decide) (by decide) (hB.at (Nat.le_of_ble_eq_true rfl) (Nat.le_of_ble_eq_true rfl)) dX11_init_102 hf (fun ρ12 Y12 Sn12 n12 hag hup hTn12 hf => ?_)
  replace hag : ∀ a k, Ty Y11 a k → ρ12 a = ρ11 a := hag
  replace hup : ∀ a k, Ty Y11 a k → Ty Y12 a k := hup
  show UW C (ρ12, Y12, 11 + 1, 21684 + 12) Sn12 _ _ _
  show UW C (ρ12, Y12, 12, 21696) Sn12 _ _ _
  rw [← hag a0 _ hTa0]
  have hTa0 := hup _ _ hTa0
  have hAG := AG.new hAG hag hup
  refine u_prF hC hI lf_X11_43 rfl rfl rfl rfl hTa0 hTn12 dX11_init_104 hf (fun S50 hf => ?_)
  refine u_aload_n hC dX11_init_107 0 rfl rfl ?_
  refine u_bipush (v := (12 : Int32)) hC dX11_init_108 (by decide) ?_
  refine u_newi (N := 12) hC (by decide) (by decide) (hB.at (Nat.le_of_ble_eq_true rfl) (Nat.le_of_ble_eq_true rfl)) dX11_init_110 hf (fun ρ13 Y13 Sn13 n13 hag hup hTn13 hf => ?_)
  replace hag : ∀ a k, Ty Y12 a k → ρ13 a = ρ12 a := hag
  replace hup : ∀ a k, Ty Y12 a k → Ty Y13 a k := hup
  show UW C (ρ13, Y13, 12 + 1, 21696 + 12) Sn13 _ _ _
  show UW C (ρ13, Y13, 13, 21708) Sn13 _ _ _
  rw [← hag a0 _ hTa0]
  have hTa0 := hup _ _ hTa0
  have hAG := AG.new hAG hag hup
  refine u_prF hC hI lf_X11_46 rfl rfl rfl rfl hTa0 hTn13 dX11_init_112 hf (fun S54 hf => ?_)
  refine u_aload_n hC dX11_init_115 0 rfl rfl ?_
  refine u_bipush (v := (12 : Int32)) hC dX11_init_116 (by decide) ?_
  refine u_newi (N := 12) hC (by decide) (by decide) (hB.at (Nat.le_of_ble_eq_true rfl) (Nat.le_of_ble_eq_true rfl)) dX11_init_118 hf (fun ρ14 Y14 Sn14 n14 hag hup hTn14 hf => ?_)
  replace hag : ∀ a k, Ty Y13 a k → ρ14 a = ρ13 a := hag
  replace hup : ∀ a k, Ty Y13 a k → Ty Y14 a k := hup
  show UW C (ρ14, Y14, 13 + 1, 21708 + 12) Sn14 _ _ _
  show UW C (ρ14, Y14, 14, 21720) Sn14 _ _ _
  rw [← hag a0 _ hTa0]
  have hTa0 := hup _ _ hTa0
  have hAG := AG.new hAG hag hup
  refine u_prF hC hI lf_X11_49 rfl rfl rfl rfl hTa0 hTn14 dX11_init_120 hf (fun S58 hf => ?_)
  refine u_aload_n hC dX11_init_123 0 rfl rfl ?_
  refine u_bipush (v := (24 : Int32)) hC dX11_init_124 (by decide) ?_
  refine u_newz (N := 24) hC (by decide) (by decide) (hB.at (Nat.le_of_ble_eq_true rfl) (Nat.le_of_ble_eq_true rfl)) dX11_init_126 hf (fun ρ15 Y15 Sn15 n15 hag hup hTn15 hf => ?_)
  replace hag : ∀ a k, Ty Y14 a k → ρ15 a = ρ14 a := hag
  replace hup : ∀ a k, Ty Y14 a k → Ty Y15 a k := hup
  show UW C (ρ15, Y15, 14 + 1, 21720 + 24) Sn15 _ _ _
  show UW C (ρ15, Y15, 15, 21744) Sn15 _ _ _
  rw [← hag a0 _ hTa0]
  have hTa0 := hup _ _ hTa0
  have hAG := AG.new hAG hag hup
  refine u_prF hC hI lf_X11_52 rfl rfl rfl rfl hTa0 hTn15 dX11_init_128 hf (fun S62 hf => ?_)
  refine u_aload_n hC dX11_init_131 0 rfl rfl ?_
  refine u_bipush (v := (24 : Int32)) hC dX11_init_132 (by decide) ?_
  refine u_newl (N := 24) hC (by decide) (by decide) (hB.at (Nat.le_of_ble_eq_true rfl) (Nat.le_of_ble_eq_true rfl)) dX11_init_134 hf (fun ρ16 Y16 Sn16 n16 hag hup hTn16 hf => ?_)
  replace hag : ∀ a k, Ty Y15 a k → ρ16 a = ρ15 a := hag
  replace hup : ∀ a k, Ty Y15 a k → Ty Y16 a k := hup
  show UW C (ρ16, Y16, 15 + 1, 21744 + 24) Sn16 _ _ _
  show UW C (ρ16, Y16, 16, 21768) Sn16 _ _ _
  rw [← hag a0 _ hTa0]
  have hTa0 := hup _ _ hTa0
  have hAG := AG.new hAG hag hup
  refine u_prF hC hI lf_X11_56 rfl rfl rfl rfl hTa0 hTn16 dX11_init_136 hf (fun S66 hf => ?_)
  refine u_aload_n hC dX11_init_139 0 rfl rfl ?_
  refine u_bipush (v := (12 : Int32)) hC dX11_init_140 (by decide) ?_
  refine u_newi (N := 12) hC (by decide) (by decide) (hB.at (Nat.le_of_ble_eq_true rfl) (Nat.le_of_ble_eq_true rfl)) dX11_init_142 hf (fun ρ17 Y17 Sn17 n17 hag hup hTn17 hf => ?_)
  replace hag : ∀ a k, Ty Y16 a k → ρ17 a = ρ16 a := hag
  replace hup : ∀ a k, Ty Y16 a k → Ty Y17 a k := hup
  show UW C (ρ17, Y17, 16 + 1, 21768 + 12) Sn17 _ _ _
  show UW C (ρ17, Y17, 17, 21780) Sn17 _ _ _
  rw [← hag a0 _ hTa0]
  have hTa0 := hup _ _ hTa0
  have hAG := AG.new hAG hag hup
  refine u_prF hC hI lf_X11_60 rfl rfl rfl rfl hTa0 hTn17 dX11_init_144 hf (fun S70 hf => ?_)
  refine u_aload_n hC dX11_init_147 0 rfl rfl ?_
  refine u_sipush (v := (500 : Int32)) hC dX11_init_148 (by decide) ?_
  refine u_newi (N := 500) hC (by decide) (by decide) (hB.at (Nat.le_of_ble_eq_true rfl) (Nat.le_of_ble_eq_true rfl)) dX11_init_151 hf (fun ρ18 Y18 Sn18 n18 hag hup hTn18 hf => ?_)
  replace hag : ∀ a k, Ty Y17 a k → ρ18 a = ρ17 a := hag
  replace hup : ∀ a k, Ty Y17 a k → Ty Y18 a k := hup
  show UW C (ρ18, Y18, 17 + 1, 21780 + 500) Sn18 _ _ _
  show UW C (ρ18, Y18, 18, 22280) Sn18 _ _ _
  rw [← hag a0 _ hTa0]
  have hTa0 := hup _ _ hTa0
  have hAG := AG.new hAG hag hup
  refine u_prF hC hI lf_X11_63 rfl rfl rfl rfl hTa0 hTn18 dX11_init_153 hf (fun S74 hf => ?_)
  refine u_aload_n hC dX11_init_156 0 rfl rfl ?_
  refine u_iconst (v := (-1 : Int32)) hC dX11_init_157 (by decide) ?_
  refine u_pi hC lf_X11_66 rfl rfl rfl hTa0 dX11_init_158 hf (fun S77 hf => ?_)
  cases hf
  exact hR _ hAG _ _ (Nat.le_of_ble_eq_true rfl) (Nat.le_of_ble_eq_true rfl) _ _ dX11_init_161 trivial
theorem ctX11_init (l : Launch) (hl : l.stackTraces = false) (G : GT) (ρ : Nat → Nat) (Y : XS) (n : Nat) (S : PS) (a0 : Nat) (hTa0 : Ty Y a0 11) {o : XS × PS} (hf : fX11_init Y n S a0 = some o) : Ma l G yX11_init cX11_init 1 none 1 18 22280 ρ Y [.ref (ρ a0)] S (fun _ => none) o.2 o.1 :=
  Ma_of hl (by decide) (Nat.le_of_ble_eq_true rfl) (fun C _ _ hC hI hB hR => wX11_init hC (hI rfl) n S a0 hTa0 hf hB hR)
