-- X3_keep
theorem dX3_keep_0 : decode cX3_keep 0 = .ok (.aload_n 0, 1) := by decide +kernel
theorem dX3_keep_1 : decode cX3_keep 1 = .ok (.getfield 11, 3) := by decide +kernel
theorem dX3_keep_4 : decode cX3_keep 4 = .ok (.aload_n 0, 1) := by decide +kernel
theorem dX3_keep_5 : decode cX3_keep 5 = .ok (.getfield 17, 3) := by decide +kernel
theorem dX3_keep_8 : decode cX3_keep 8 = .ok (.aaload, 1) := by decide +kernel
theorem dX3_keep_9 : decode cX3_keep 9 = .ok (.aload_n 1, 1) := by decide +kernel
theorem dX3_keep_10 : decode cX3_keep 10 = .ok (.invokevirtual 25, 3) := by decide +kernel
theorem dX3_keep_13 : decode cX3_keep 13 = .ok (.aload_n 0, 1) := by decide +kernel
theorem dX3_keep_14 : decode cX3_keep 14 = .ok (.aload_n 0, 1) := by decide +kernel
theorem dX3_keep_15 : decode cX3_keep 15 = .ok (.getfield 17, 3) := by decide +kernel
theorem dX3_keep_18 : decode cX3_keep 18 = .ok (.iconst 1, 1) := by decide +kernel
theorem dX3_keep_19 : decode cX3_keep 19 = .ok (.iadd, 1) := by decide +kernel
theorem dX3_keep_20 : decode cX3_keep 20 = .ok (.bipush 20, 2) := by decide +kernel
theorem dX3_keep_22 : decode cX3_keep 22 = .ok (.irem, 1) := by decide +kernel
theorem dX3_keep_23 : decode cX3_keep 23 = .ok (.putfield 17, 3) := by decide +kernel
theorem dX3_keep_26 : decode cX3_keep 26 = .ok (.aload_n 0, 1) := by decide +kernel
theorem dX3_keep_27 : decode cX3_keep 27 = .ok (.bipush 20, 2) := by decide +kernel
theorem dX3_keep_29 : decode cX3_keep 29 = .ok (.aload_n 0, 1) := by decide +kernel
theorem dX3_keep_30 : decode cX3_keep 30 = .ok (.getfield 21, 3) := by decide +kernel
theorem dX3_keep_33 : decode cX3_keep 33 = .ok (.iconst 1, 1) := by decide +kernel
theorem dX3_keep_34 : decode cX3_keep 34 = .ok (.iadd, 1) := by decide +kernel
theorem dX3_keep_35 : decode cX3_keep 35 = .ok (.invokestatic 29, 3) := by decide +kernel
theorem dX3_keep_38 : decode cX3_keep 38 = .ok (.putfield 21, 3) := by decide +kernel
theorem dX3_keep_41 : decode cX3_keep 41 = .ok (.return_, 1) := by decide +kernel
def fX3_keep (Y : XS) (n : Nat) (S : PS) (a0 : Nat) (a1 : Nat) : Option (PS) :=
  kgr S a0 0 (fun b1 => kgi S a0 1 (fun x5 => kar Y S b1 x5 (fun b8 => kc (fX1_copyFrom Y n S b8 a1) (fun q10 => kgi q10 a0 1 (fun x15 => kirem (x15 + (1 : Int32)) (20 : Int32) (fun z22 => kpi q10 a0 1 z22 (fun S23 => kgi S23 a0 2 (fun x30 => kpi S23 a0 2 (imin (20 : Int32) (x30 + (1 : Int32))) (fun S38 => some S38)))))))))
theorem wX3_keep {C : CT} {X : XT} (hC : CK C RX3 cX3_keep 2 none 2) (n : Nat) (S : PS) (a0 : Nat) (a1 : Nat) (hTa0 : Ty X.2.1 a0 3) (hTa1 : Ty X.2.1 a1 1) {o : PS} (hf : fX3_keep X.2.1 n S a0 a1 = some o) (hR : Rt C X cX3_keep none none o) : UW C X S 0 [(0, .ref (X.1 a0)), (1, .ref (X.1 a1))] [] := by
  unfold fX3_keep at hf
  refine u_aload_n hC dX3_keep_0 0 rfl rfl ?_
  refine u_gr hC lf_X3_11 rfl hTa0 dX3_keep_1 hf (fun b1 hTb1 hf => ?_)
  refine u_aload_n hC dX3_keep_4 0 rfl rfl ?_
  refine u_gi hC lf_X3_17 rfl hTa0 dX3_keep_5 hf (fun x5 hf => ?_)
  refine u_ar hC (Or.inl ⟨rfl, rfl⟩) hTb1 dX3_keep_8 hf (fun b8 hTb8 hf => ?_)
  refine u_aload_n hC dX3_keep_9 1 rfl rfl ?_
  obtain ⟨q10, hq10, hf⟩ := kc_some hf
  refine u_callV hC (ctX1_copyFrom (cL C) hC.tr (cG C) X.1 X.2.1 n S b8 a1 hTb8 hTa1 hq10) lk_X3_25 rfl hTb8 (by decide) rfl (by decide) (by decide) rfl rfl (Nat.le_of_ble_eq_true rfl) dX3_keep_10 ?_
  refine u_aload_n hC dX3_keep_13 0 rfl rfl ?_
  refine u_aload_n hC dX3_keep_14 0 rfl rfl ?_
  refine u_gi hC lf_X3_17 rfl hTa0 dX3_keep_15 hf (fun x15 hf => ?_)
  refine u_iconst (v := (1 : Int32)) hC dX3_keep_18 (by decide) ?_
  refine u_iadd hC dX3_keep_19 ?_
  refine u_bipush (v := (20 : Int32)) hC dX3_keep_20 (by decide) ?_
  refine u_irem hC dX3_keep_22 hf (fun z22 hf => ?_)
  refine u_pi hC lf_X3_17 rfl rfl rfl hTa0 dX3_keep_23 hf (fun S23 hf => ?_)
  refine u_aload_n hC dX3_keep_26 0 rfl rfl ?_
  refine u_bipush (v := (20 : Int32)) hC dX3_keep_27 (by decide) ?_
  refine u_aload_n hC dX3_keep_29 0 rfl rfl ?_
  refine u_gi hC lf_X3_21 rfl hTa0 dX3_keep_30 hf (fun x30 hf => ?_)
  refine u_iconst (v := (1 : Int32)) hC dX3_keep_33 (by decide) ?_
  refine u_iadd hC dX3_keep_34 ?_
  refine u_mmin hC (tb_5 234 rfl rfl) (by decide) (Nat.le_of_ble_eq_true rfl) dX3_keep_35 ?_
  refine u_pi hC lf_X3_21 rfl rfl rfl hTa0 dX3_keep_38 hf (fun S38 hf => ?_)
  cases hf
  exact hR _ _ dX3_keep_41 trivial
theorem ctX3_keep (l : Launch) (hl : l.stackTraces = false) (G : GT) (ρ : Nat → Nat) (Y : XS) (n : Nat) (S : PS) (a0 : Nat) (a1 : Nat) (hTa0 : Ty Y a0 3) (hTa1 : Ty Y a1 1) {o : PS} (hf : fX3_keep Y n S a0 a1 = some o) : Mt l G yX3_keep cX3_keep 2 none 2 ρ Y [.ref (ρ a0), .ref (ρ a1)] S none o :=
  Mt_of hl (by decide) (Nat.le_of_ble_eq_true rfl) (fun C _ _ hC hR => wX3_keep (X := (ρ, Y, 0, 0)) hC n S a0 a1 hTa0 hTa1 hf hR)
-- X3_giveBack
theorem dX3_giveBack_0 : decode cX3_giveBack 0 = .ok (.aload_n 0, 1) := by decide +kernel
theorem dX3_giveBack_1 : decode cX3_giveBack 1 = .ok (.aload_n 0, 1) := by decide +kernel
theorem dX3_giveBack_2 : decode cX3_giveBack 2 = .ok (.getfield 17, 3) := by decide +kernel
theorem dX3_giveBack_5 : decode cX3_giveBack 5 = .ok (.bipush 20, 2) := by decide +kernel
theorem dX3_giveBack_7 : decode cX3_giveBack 7 = .ok (.iadd, 1) := by decide +kernel
theorem dX3_giveBack_8 : decode cX3_giveBack 8 = .ok (.iconst 1, 1) := by decide +kernel
theorem dX3_giveBack_9 : decode cX3_giveBack 9 = .ok (.isub, 1) := by decide +kernel
theorem dX3_giveBack_10 : decode cX3_giveBack 10 = .ok (.bipush 20, 2) := by decide +kernel
theorem dX3_giveBack_12 : decode cX3_giveBack 12 = .ok (.irem, 1) := by decide +kernel
theorem dX3_giveBack_13 : decode cX3_giveBack 13 = .ok (.putfield 17, 3) := by decide +kernel
theorem dX3_giveBack_16 : decode cX3_giveBack 16 = .ok (.aload_n 1, 1) := by decide +kernel
theorem dX3_giveBack_17 : decode cX3_giveBack 17 = .ok (.aload_n 0, 1) := by decide +kernel
theorem dX3_giveBack_18 : decode cX3_giveBack 18 = .ok (.getfield 11, 3) := by decide +kernel
theorem dX3_giveBack_21 : decode cX3_giveBack 21 = .ok (.aload_n 0, 1) := by decide +kernel
theorem dX3_giveBack_22 : decode cX3_giveBack 22 = .ok (.getfield 17, 3) := by decide +kernel
theorem dX3_giveBack_25 : decode cX3_giveBack 25 = .ok (.aaload, 1) := by decide +kernel
theorem dX3_giveBack_26 : decode cX3_giveBack 26 = .ok (.invokevirtual 25, 3) := by decide +kernel
theorem dX3_giveBack_29 : decode cX3_giveBack 29 = .ok (.aload_n 0, 1) := by decide +kernel
theorem dX3_giveBack_30 : decode cX3_giveBack 30 = .ok (.dup, 1) := by decide +kernel
theorem dX3_giveBack_31 : decode cX3_giveBack 31 = .ok (.getfield 21, 3) := by decide +kernel
theorem dX3_giveBack_34 : decode cX3_giveBack 34 = .ok (.iconst 1, 1) := by decide +kernel
theorem dX3_giveBack_35 : decode cX3_giveBack 35 = .ok (.isub, 1) := by decide +kernel
theorem dX3_giveBack_36 : decode cX3_giveBack 36 = .ok (.putfield 21, 3) := by decide +kernel
theorem dX3_giveBack_39 : decode cX3_giveBack 39 = .ok (.return_, 1) := by decide +kernel
def fX3_giveBack (Y : XS) (n : Nat) (S : PS) (a0 : Nat) (a1 : Nat) : Option (PS) :=
  kgi S a0 1 (fun x2 => kirem ((x2 + (20 : Int32)) - (1 : Int32)) (20 : Int32) (fun z12 => kpi S a0 1 z12 (fun S13 => kgr S13 a0 0 (fun b18 => kgi S13 a0 1 (fun x22 => kar Y S13 b18 x22 (fun b25 => kc (fX1_copyFrom Y n S13 a1 b25) (fun q26 => kgi q26 a0 2 (fun x31 => kpi q26 a0 2 (x31 - (1 : Int32)) (fun S36 => some S36)))))))))
theorem wX3_giveBack {C : CT} {X : XT} (hC : CK C RX3 cX3_giveBack 2 none 2) (n : Nat) (S : PS) (a0 : Nat) (a1 : Nat) (hTa0 : Ty X.2.1 a0 3) (hTa1 : Ty X.2.1 a1 1) {o : PS} (hf : fX3_giveBack X.2.1 n S a0 a1 = some o) (hR : Rt C X cX3_giveBack none none o) : UW C X S 0 [(0, .ref (X.1 a0)), (1, .ref (X.1 a1))] [] := by
  unfold fX3_giveBack at hf
  refine u_aload_n hC dX3_giveBack_0 0 rfl rfl ?_
  refine u_aload_n hC dX3_giveBack_1 0 rfl rfl ?_
  refine u_gi hC lf_X3_17 rfl hTa0 dX3_giveBack_2 hf (fun x2 hf => ?_)
  refine u_bipush (v := (20 : Int32)) hC dX3_giveBack_5 (by decide) ?_
  refine u_iadd hC dX3_giveBack_7 ?_
  refine u_iconst (v := (1 : Int32)) hC dX3_giveBack_8 (by decide) ?_
  refine u_isub hC dX3_giveBack_9 ?_
  refine u_bipush (v := (20 : Int32)) hC dX3_giveBack_10 (by decide) ?_
  refine u_irem hC dX3_giveBack_12 hf (fun z12 hf => ?_)
  refine u_pi hC lf_X3_17 rfl rfl rfl hTa0 dX3_giveBack_13 hf (fun S13 hf => ?_)
  refine u_aload_n hC dX3_giveBack_16 1 rfl rfl ?_
  refine u_aload_n hC dX3_giveBack_17 0 rfl rfl ?_
  refine u_gr hC lf_X3_11 rfl hTa0 dX3_giveBack_18 hf (fun b18 hTb18 hf => ?_)
  refine u_aload_n hC dX3_giveBack_21 0 rfl rfl ?_
  refine u_gi hC lf_X3_17 rfl hTa0 dX3_giveBack_22 hf (fun x22 hf => ?_)
  refine u_ar hC (Or.inl ⟨rfl, rfl⟩) hTb18 dX3_giveBack_25 hf (fun b25 hTb25 hf => ?_)
  obtain ⟨q26, hq26, hf⟩ := kc_some hf
  refine u_callV hC (ctX1_copyFrom (cL C) hC.tr (cG C) X.1 X.2.1 n S13 a1 b25 hTa1 hTb25 hq26) lk_X3_25 rfl hTa1 (by decide) rfl (by decide) (by decide) rfl rfl (Nat.le_of_ble_eq_true rfl) dX3_giveBack_26 ?_
  refine u_aload_n hC dX3_giveBack_29 0 rfl rfl ?_
  refine u_dup hC dX3_giveBack_30 rfl ?_
  refine u_gi hC lf_X3_21 rfl hTa0 dX3_giveBack_31 hf (fun x31 hf => ?_)
  refine u_iconst (v := (1 : Int32)) hC dX3_giveBack_34 (by decide) ?_
  refine u_isub hC dX3_giveBack_35 ?_
  refine u_pi hC lf_X3_21 rfl rfl rfl hTa0 dX3_giveBack_36 hf (fun S36 hf => ?_)
  cases hf
  exact hR _ _ dX3_giveBack_39 trivial
theorem ctX3_giveBack (l : Launch) (hl : l.stackTraces = false) (G : GT) (ρ : Nat → Nat) (Y : XS) (n : Nat) (S : PS) (a0 : Nat) (a1 : Nat) (hTa0 : Ty Y a0 3) (hTa1 : Ty Y a1 1) {o : PS} (hf : fX3_giveBack Y n S a0 a1 = some o) : Mt l G yX3_giveBack cX3_giveBack 2 none 2 ρ Y [.ref (ρ a0), .ref (ρ a1)] S none o :=
  Mt_of hl (by decide) (Nat.le_of_ble_eq_true rfl) (fun C _ _ hC hR => wX3_giveBack (X := (ρ, Y, 0, 0)) hC n S a0 a1 hTa0 hTa1 hf hR)
