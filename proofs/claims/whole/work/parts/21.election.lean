-- X10_isIn
theorem dX10_isIn_0 : decode cX10_isIn 0 = .ok (.iload_n 1, 1) := by decide +kernel
theorem dX10_isIn_1 : decode cX10_isIn 1 = .ok (.iload_n 0, 1) := by decide +kernel
theorem dX10_isIn_2 : decode cX10_isIn 2 = .ok (.ishr, 1) := by decide +kernel
theorem dX10_isIn_3 : decode cX10_isIn 3 = .ok (.iconst 1, 1) := by decide +kernel
theorem dX10_isIn_4 : decode cX10_isIn 4 = .ok (.iand, 1) := by decide +kernel
theorem dX10_isIn_5 : decode cX10_isIn 5 = .ok (.ifCond .eq 7, 3) := by decide +kernel
theorem dX10_isIn_8 : decode cX10_isIn 8 = .ok (.iconst 1, 1) := by decide +kernel
theorem dX10_isIn_9 : decode cX10_isIn 9 = .ok (.goto 4, 3) := by decide +kernel
theorem dX10_isIn_12 : decode cX10_isIn 12 = .ok (.iconst 0, 1) := by decide +kernel
theorem dX10_isIn_13 : decode cX10_isIn 13 = .ok (.ireturn, 1) := by decide +kernel
def jX10_isIn_13 (Y : XS) (n : Nat) (S : PS) (t0 : Int32) : Option (Int32) :=
  kzr t0 (some t0)
def fX10_isIn (Y : XS) (n : Nat) (S : PS) (x0_ : Int32) (x1_ : Int32) : Option (Int32) :=
  (if ((x1_ >>> (x0_ &&& 31)) &&& (1 : Int32)) = 0 then jX10_isIn_13 Y n S (0 : Int32) else jX10_isIn_13 Y n S (1 : Int32))
theorem wjX10_isIn_13 {C : CT} {X : XT} (hC : CK C RX10 cX10_isIn 2 (some .boolean) 1) (n : Nat) (S : PS) (t0 : Int32)   {o : Int32} (hf : jX10_isIn_13 X.2.1 n S t0 = some o) (hR : Rt C X cX10_isIn (some .boolean) (some (.int o)) S) : UW C X S 13 [] [.int t0] := by
  unfold jX10_isIn_13 at hf
  obtain ⟨hz, hf⟩ := kzr_some hf
  cases hf
  exact hR _ _ dX10_isIn_13 hz
theorem wX10_isIn {C : CT} {X : XT} (hC : CK C RX10 cX10_isIn 2 (some .boolean) 1) (n : Nat) (S : PS) (x0_ : Int32) (x1_ : Int32)  {o : Int32} (hf : fX10_isIn X.2.1 n S x0_ x1_ = some o) (hR : Rt C X cX10_isIn (some .boolean) (some (.int o)) S) : UW C X S 0 [(0, .int x0_), (1, .int x1_)] [] := by
  unfold fX10_isIn at hf
  refine u_iload_n hC dX10_isIn_0 1 rfl rfl ?_
  refine u_iload_n hC dX10_isIn_1 0 rfl rfl ?_
  refine u_ishr hC dX10_isIn_2 ?_
  refine u_iconst (v := (1 : Int32)) hC dX10_isIn_3 (by decide) ?_
  refine u_iand hC dX10_isIn_4 ?_
  refine u_if_eq (tgt := 12) hC dX10_isIn_5 (by decide) hf (fun h5 hf => ?_) (fun h5 hf => ?_)
  · refine u_iconst (v := (0 : Int32)) hC dX10_isIn_12 (by decide) ?_
    refine u_sub (lv' := []) [] rfl ?_
    exact wjX10_isIn_13 hC n S (0 : Int32)   hf hR
  · refine u_iconst (v := (1 : Int32)) hC dX10_isIn_8 (by decide) ?_
    refine u_goto (tgt := 13) hC dX10_isIn_9 (by decide) ?_
    refine u_sub (lv' := []) [] rfl ?_
    exact wjX10_isIn_13 hC n S (1 : Int32)   hf hR
theorem ctX10_isIn (l : Launch) (hl : l.stackTraces = false) (G : GT) (ρ : Nat → Nat) (Y : XS) (n : Nat) (S : PS) (x0_ : Int32) (x1_ : Int32)  {o : Int32} (hf : fX10_isIn Y n S x0_ x1_ = some o) : Mt l G yX10_isIn cX10_isIn 2 (some .boolean) 1 ρ Y [.int x0_, .int x1_] S (some (.int o)) S :=
  Mt_of hl (by decide) (Nat.le_of_ble_eq_true rfl) (fun C _ _ hC hR => wX10_isIn (X := (ρ, Y, 0, 0)) hC n S x0_ x1_  hf hR)
-- X1_clear
theorem dX1_clear_0 : decode cX1_clear 0 = .ok (.aload_n 0, 1) := by decide +kernel
theorem dX1_clear_1 : decode cX1_clear 1 = .ok (.iconst 0, 1) := by decide +kernel
theorem dX1_clear_2 : decode cX1_clear 2 = .ok (.putfield 9, 3) := by decide +kernel
theorem dX1_clear_5 : decode cX1_clear 5 = .ok (.aload_n 0, 1) := by decide +kernel
theorem dX1_clear_6 : decode cX1_clear 6 = .ok (.iconst 0, 1) := by decide +kernel
theorem dX1_clear_7 : decode cX1_clear 7 = .ok (.putfield 15, 3) := by decide +kernel
theorem dX1_clear_10 : decode cX1_clear 10 = .ok (.aload_n 0, 1) := by decide +kernel
theorem dX1_clear_11 : decode cX1_clear 11 = .ok (.iconst 0, 1) := by decide +kernel
theorem dX1_clear_12 : decode cX1_clear 12 = .ok (.putfield 18, 3) := by decide +kernel
theorem dX1_clear_15 : decode cX1_clear 15 = .ok (.aload_n 0, 1) := by decide +kernel
theorem dX1_clear_16 : decode cX1_clear 16 = .ok (.aconst_null, 1) := by decide +kernel
theorem dX1_clear_17 : decode cX1_clear 17 = .ok (.putfield 21, 3) := by decide +kernel
theorem dX1_clear_20 : decode cX1_clear 20 = .ok (.aload_n 0, 1) := by decide +kernel
theorem dX1_clear_21 : decode cX1_clear 21 = .ok (.getfield 25, 3) := by decide +kernel
theorem dX1_clear_24 : decode cX1_clear 24 = .ok (.iconst 0, 1) := by decide +kernel
theorem dX1_clear_25 : decode cX1_clear 25 = .ok (.invokestatic 35, 3) := by decide +kernel
theorem dX1_clear_28 : decode cX1_clear 28 = .ok (.aload_n 0, 1) := by decide +kernel
theorem dX1_clear_29 : decode cX1_clear 29 = .ok (.getfield 29, 3) := by decide +kernel
theorem dX1_clear_32 : decode cX1_clear 32 = .ok (.iconst 0, 1) := by decide +kernel
theorem dX1_clear_33 : decode cX1_clear 33 = .ok (.invokestatic 35, 3) := by decide +kernel
theorem dX1_clear_36 : decode cX1_clear 36 = .ok (.aload_n 0, 1) := by decide +kernel
theorem dX1_clear_37 : decode cX1_clear 37 = .ok (.getfield 32, 3) := by decide +kernel
theorem dX1_clear_40 : decode cX1_clear 40 = .ok (.iconst 0, 1) := by decide +kernel
theorem dX1_clear_41 : decode cX1_clear 41 = .ok (.invokestatic 35, 3) := by decide +kernel
theorem dX1_clear_44 : decode cX1_clear 44 = .ok (.return_, 1) := by decide +kernel
def fX1_clear (Y : XS) (n : Nat) (S : PS) (a0 : Nat) : Option (PS) :=
  kpi S a0 0 (0 : Int32) (fun S2 => kpi S2 a0 1 (0 : Int32) (fun S7 => kpi S7 a0 2 (0 : Int32) (fun S12 => kpr S12 a0 3 none (fun S17 => kgr S17 a0 4 (fun b21 => kc (fJ7_fill_53178 Y n S17 b21 (0 : Int32)) (fun q25 => kgr q25 a0 5 (fun b29 => kc (fJ7_fill_53178 Y n q25 b29 (0 : Int32)) (fun q33 => kgr q33 a0 6 (fun b37 => kc (fJ7_fill_53178 Y n q33 b37 (0 : Int32)) (fun q41 => some q41))))))))))
theorem wX1_clear {C : CT} {X : XT} (hC : CK C RX1 cX1_clear 1 none 2) (n : Nat) (S : PS) (a0 : Nat) (hTa0 : Ty X.2.1 a0 1) {o : PS} (hf : fX1_clear X.2.1 n S a0 = some o) (hR : Rt C X cX1_clear none none o) : UW C X S 0 [(0, .ref (X.1 a0))] [] := by
  unfold fX1_clear at hf
  refine u_aload_n hC dX1_clear_0 0 rfl rfl ?_
  refine u_iconst (v := (0 : Int32)) hC dX1_clear_1 (by decide) ?_
  refine u_pi hC lf_X1_9 rfl rfl rfl hTa0 dX1_clear_2 hf (fun S2 hf => ?_)
  refine u_aload_n hC dX1_clear_5 0 rfl rfl ?_
  refine u_iconst (v := (0 : Int32)) hC dX1_clear_6 (by decide) ?_
  refine u_pi hC lf_X1_15 rfl rfl rfl hTa0 dX1_clear_7 hf (fun S7 hf => ?_)
  refine u_aload_n hC dX1_clear_10 0 rfl rfl ?_
  refine u_iconst (v := (0 : Int32)) hC dX1_clear_11 (by decide) ?_
  refine u_pi hC lf_X1_18 rfl rfl rfl hTa0 dX1_clear_12 hf (fun S12 hf => ?_)
  refine u_aload_n hC dX1_clear_15 0 rfl rfl ?_
  refine u_null hC dX1_clear_16 ?_
  refine u_pr (r := none) hC lf_X1_21 rfl rfl rfl hTa0 dX1_clear_17 (fun b h => nomatch h) hf (fun S17 hf => ?_)
  refine u_aload_n hC dX1_clear_20 0 rfl rfl ?_
  refine u_gr hC lf_X1_25 rfl hTa0 dX1_clear_21 hf (fun b21 hTb21 hf => ?_)
  refine u_iconst (v := (0 : Int32)) hC dX1_clear_24 (by decide) ?_
  obtain ⟨q25, hq25, hf⟩ := kc_some hf
  refine u_callS hC (ctJ7_fill_53178 (cL C) hC.tr (cG C) X.1 X.2.1 n S17 b21 (0 : Int32) hTb21 hq25) lk_X1_35 (by decide) (by decide) rfl rfl (Nat.le_of_ble_eq_true rfl) dX1_clear_25 ?_
  refine u_aload_n hC dX1_clear_28 0 rfl rfl ?_
  refine u_gr hC lf_X1_29 rfl hTa0 dX1_clear_29 hf (fun b29 hTb29 hf => ?_)
  refine u_iconst (v := (0 : Int32)) hC dX1_clear_32 (by decide) ?_
  obtain ⟨q33, hq33, hf⟩ := kc_some hf
  refine u_callS hC (ctJ7_fill_53178 (cL C) hC.tr (cG C) X.1 X.2.1 n q25 b29 (0 : Int32) hTb29 hq33) lk_X1_35 (by decide) (by decide) rfl rfl (Nat.le_of_ble_eq_true rfl) dX1_clear_33 ?_
  refine u_aload_n hC dX1_clear_36 0 rfl rfl ?_
  refine u_gr hC lf_X1_32 rfl hTa0 dX1_clear_37 hf (fun b37 hTb37 hf => ?_)
  refine u_iconst (v := (0 : Int32)) hC dX1_clear_40 (by decide) ?_
  obtain ⟨q41, hq41, hf⟩ := kc_some hf
  refine u_callS hC (ctJ7_fill_53178 (cL C) hC.tr (cG C) X.1 X.2.1 n q33 b37 (0 : Int32) hTb37 hq41) lk_X1_35 (by decide) (by decide) rfl rfl (Nat.le_of_ble_eq_true rfl) dX1_clear_41 ?_
  cases hf
  exact hR _ _ dX1_clear_44 trivial
theorem ctX1_clear (l : Launch) (hl : l.stackTraces = false) (G : GT) (ρ : Nat → Nat) (Y : XS) (n : Nat) (S : PS) (a0 : Nat) (hTa0 : Ty Y a0 1) {o : PS} (hf : fX1_clear Y n S a0 = some o) : Mt l G yX1_clear cX1_clear 1 none 2 ρ Y [.ref (ρ a0)] S none o :=
  Mt_of hl (by decide) (Nat.le_of_ble_eq_true rfl) (fun C _ _ hC hR => wX1_clear (X := (ρ, Y, 0, 0)) hC n S a0 hTa0 hf hR)
-- X1_copyFrom
theorem dX1_copyFrom_0 : decode cX1_copyFrom 0 = .ok (.aload_n 0, 1) := by decide +kernel
theorem dX1_copyFrom_1 : decode cX1_copyFrom 1 = .ok (.aload_n 1, 1) := by decide +kernel
theorem dX1_copyFrom_2 : decode cX1_copyFrom 2 = .ok (.getfield 9, 3) := by decide +kernel
theorem dX1_copyFrom_5 : decode cX1_copyFrom 5 = .ok (.putfield 9, 3) := by decide +kernel
theorem dX1_copyFrom_8 : decode cX1_copyFrom 8 = .ok (.aload_n 0, 1) := by decide +kernel
theorem dX1_copyFrom_9 : decode cX1_copyFrom 9 = .ok (.aload_n 1, 1) := by decide +kernel
theorem dX1_copyFrom_10 : decode cX1_copyFrom 10 = .ok (.getfield 15, 3) := by decide +kernel
theorem dX1_copyFrom_13 : decode cX1_copyFrom 13 = .ok (.putfield 15, 3) := by decide +kernel
theorem dX1_copyFrom_16 : decode cX1_copyFrom 16 = .ok (.aload_n 0, 1) := by decide +kernel
theorem dX1_copyFrom_17 : decode cX1_copyFrom 17 = .ok (.aload_n 1, 1) := by decide +kernel
theorem dX1_copyFrom_18 : decode cX1_copyFrom 18 = .ok (.getfield 18, 3) := by decide +kernel
theorem dX1_copyFrom_21 : decode cX1_copyFrom 21 = .ok (.putfield 18, 3) := by decide +kernel
theorem dX1_copyFrom_24 : decode cX1_copyFrom 24 = .ok (.aload_n 0, 1) := by decide +kernel
theorem dX1_copyFrom_25 : decode cX1_copyFrom 25 = .ok (.aload_n 1, 1) := by decide +kernel
theorem dX1_copyFrom_26 : decode cX1_copyFrom 26 = .ok (.getfield 21, 3) := by decide +kernel
theorem dX1_copyFrom_29 : decode cX1_copyFrom 29 = .ok (.putfield 21, 3) := by decide +kernel
theorem dX1_copyFrom_32 : decode cX1_copyFrom 32 = .ok (.aload_n 1, 1) := by decide +kernel
theorem dX1_copyFrom_33 : decode cX1_copyFrom 33 = .ok (.getfield 25, 3) := by decide +kernel
theorem dX1_copyFrom_36 : decode cX1_copyFrom 36 = .ok (.iconst 0, 1) := by decide +kernel
theorem dX1_copyFrom_37 : decode cX1_copyFrom 37 = .ok (.aload_n 0, 1) := by decide +kernel
theorem dX1_copyFrom_38 : decode cX1_copyFrom 38 = .ok (.getfield 25, 3) := by decide +kernel
theorem dX1_copyFrom_41 : decode cX1_copyFrom 41 = .ok (.iconst 0, 1) := by decide +kernel
theorem dX1_copyFrom_42 : decode cX1_copyFrom 42 = .ok (.bipush 12, 2) := by decide +kernel
theorem dX1_copyFrom_44 : decode cX1_copyFrom 44 = .ok (.invokestatic 41, 3) := by decide +kernel
theorem dX1_copyFrom_47 : decode cX1_copyFrom 47 = .ok (.aload_n 1, 1) := by decide +kernel
theorem dX1_copyFrom_48 : decode cX1_copyFrom 48 = .ok (.getfield 29, 3) := by decide +kernel
theorem dX1_copyFrom_51 : decode cX1_copyFrom 51 = .ok (.iconst 0, 1) := by decide +kernel
theorem dX1_copyFrom_52 : decode cX1_copyFrom 52 = .ok (.aload_n 0, 1) := by decide +kernel
theorem dX1_copyFrom_53 : decode cX1_copyFrom 53 = .ok (.getfield 29, 3) := by decide +kernel
theorem dX1_copyFrom_56 : decode cX1_copyFrom 56 = .ok (.iconst 0, 1) := by decide +kernel
theorem dX1_copyFrom_57 : decode cX1_copyFrom 57 = .ok (.bipush 72, 2) := by decide +kernel
theorem dX1_copyFrom_59 : decode cX1_copyFrom 59 = .ok (.invokestatic 41, 3) := by decide +kernel
theorem dX1_copyFrom_62 : decode cX1_copyFrom 62 = .ok (.aload_n 1, 1) := by decide +kernel
theorem dX1_copyFrom_63 : decode cX1_copyFrom 63 = .ok (.getfield 32, 3) := by decide +kernel
theorem dX1_copyFrom_66 : decode cX1_copyFrom 66 = .ok (.iconst 0, 1) := by decide +kernel
theorem dX1_copyFrom_67 : decode cX1_copyFrom 67 = .ok (.aload_n 0, 1) := by decide +kernel
theorem dX1_copyFrom_68 : decode cX1_copyFrom 68 = .ok (.getfield 32, 3) := by decide +kernel
theorem dX1_copyFrom_71 : decode cX1_copyFrom 71 = .ok (.iconst 0, 1) := by decide +kernel
theorem dX1_copyFrom_72 : decode cX1_copyFrom 72 = .ok (.sipush 288, 3) := by decide +kernel
theorem dX1_copyFrom_75 : decode cX1_copyFrom 75 = .ok (.invokestatic 41, 3) := by decide +kernel
theorem dX1_copyFrom_78 : decode cX1_copyFrom 78 = .ok (.return_, 1) := by decide +kernel
def fX1_copyFrom (Y : XS) (n : Nat) (S : PS) (a0 : Nat) (a1 : Nat) : Option (PS) :=
  kgi S a1 0 (fun x2 => kpi S a0 0 x2 (fun S5 => kgi S5 a1 1 (fun x10 => kpi S5 a0 1 x10 (fun S13 => kgi S13 a1 2 (fun x18 => kpi S13 a0 2 x18 (fun S21 => kgq S21 a1 3 (fun r26 => kpr S21 a0 3 r26 (fun S29 => kgr S29 a1 4 (fun b33 => kgr S29 a0 4 (fun b38 => kcp Y S29 b33 (0 : Int32) b38 (0 : Int32) (12 : Int32) (fun S44 => kgr S44 a1 5 (fun b48 => kgr S44 a0 5 (fun b53 => kcp Y S44 b48 (0 : Int32) b53 (0 : Int32) (72 : Int32) (fun S59 => kgr S59 a1 6 (fun b63 => kgr S59 a0 6 (fun b68 => kcp Y S59 b63 (0 : Int32) b68 (0 : Int32) (288 : Int32) (fun S75 => some S75)))))))))))))))))
theorem wX1_copyFrom {C : CT} {X : XT} (hC : CK C RX1 cX1_copyFrom 2 none 1) (n : Nat) (S : PS) (a0 : Nat) (a1 : Nat) (hTa0 : Ty X.2.1 a0 1) (hTa1 : Ty X.2.1 a1 1) {o : PS} (hf : fX1_copyFrom X.2.1 n S a0 a1 = some o) (hR : Rt C X cX1_copyFrom none none o) : UW C X S 0 [(0, .ref (X.1 a0)), (1, .ref (X.1 a1))] [] := by
  unfold fX1_copyFrom at hf
  refine u_aload_n hC dX1_copyFrom_0 0 rfl rfl ?_
  refine u_aload_n hC dX1_copyFrom_1 1 rfl rfl ?_
  refine u_gi hC lf_X1_9 rfl hTa1 dX1_copyFrom_2 hf (fun x2 hf => ?_)
  refine u_pi hC lf_X1_9 rfl rfl rfl hTa0 dX1_copyFrom_5 hf (fun S5 hf => ?_)
  refine u_aload_n hC dX1_copyFrom_8 0 rfl rfl ?_
  refine u_aload_n hC dX1_copyFrom_9 1 rfl rfl ?_
  refine u_gi hC lf_X1_15 rfl hTa1 dX1_copyFrom_10 hf (fun x10 hf => ?_)
  refine u_pi hC lf_X1_15 rfl rfl rfl hTa0 dX1_copyFrom_13 hf (fun S13 hf => ?_)
  refine u_aload_n hC dX1_copyFrom_16 0 rfl rfl ?_
  refine u_aload_n hC dX1_copyFrom_17 1 rfl rfl ?_
  refine u_gi hC lf_X1_18 rfl hTa1 dX1_copyFrom_18 hf (fun x18 hf => ?_)
  refine u_pi hC lf_X1_18 rfl rfl rfl hTa0 dX1_copyFrom_21 hf (fun S21 hf => ?_)
  refine u_aload_n hC dX1_copyFrom_24 0 rfl rfl ?_
  refine u_aload_n hC dX1_copyFrom_25 1 rfl rfl ?_
  refine u_gq hC lf_X1_21 rfl hTa1 dX1_copyFrom_26 hf (fun r26 hTr26 hf => ?_)
  refine u_pr (r := r26) hC lf_X1_21 rfl rfl rfl hTa0 dX1_copyFrom_29 hTr26 hf (fun S29 hf => ?_)
  refine u_aload_n hC dX1_copyFrom_32 1 rfl rfl ?_
  refine u_gr hC lf_X1_25 rfl hTa1 dX1_copyFrom_33 hf (fun b33 hTb33 hf => ?_)
  refine u_iconst (v := (0 : Int32)) hC dX1_copyFrom_36 (by decide) ?_
  refine u_aload_n hC dX1_copyFrom_37 0 rfl rfl ?_
  refine u_gr hC lf_X1_25 rfl hTa0 dX1_copyFrom_38 hf (fun b38 hTb38 hf => ?_)
  refine u_iconst (v := (0 : Int32)) hC dX1_copyFrom_41 (by decide) ?_
  refine u_bipush (v := (12 : Int32)) hC dX1_copyFrom_42 (by decide) ?_
  refine u_cp hC (tb_2 199 rfl rfl) (by decide) hTb33 hTb38 (Nat.le_of_ble_eq_true rfl) dX1_copyFrom_44 hf (fun S44 hf => ?_)
  refine u_aload_n hC dX1_copyFrom_47 1 rfl rfl ?_
  refine u_gr hC lf_X1_29 rfl hTa1 dX1_copyFrom_48 hf (fun b48 hTb48 hf => ?_)
  refine u_iconst (v := (0 : Int32)) hC dX1_copyFrom_51 (by decide) ?_
  refine u_aload_n hC dX1_copyFrom_52 0 rfl rfl ?_
  refine u_gr hC lf_X1_29 rfl hTa0 dX1_copyFrom_53 hf (fun b53 hTb53 hf => ?_)
  refine u_iconst (v := (0 : Int32)) hC dX1_copyFrom_56 (by decide) ?_
  refine u_bipush (v := (72 : Int32)) hC dX1_copyFrom_57 (by decide) ?_
  refine u_cp hC (tb_2 199 rfl rfl) (by decide) hTb48 hTb53 (Nat.le_of_ble_eq_true rfl) dX1_copyFrom_59 hf (fun S59 hf => ?_)
  refine u_aload_n hC dX1_copyFrom_62 1 rfl rfl ?_
  refine u_gr hC lf_X1_32 rfl hTa1 dX1_copyFrom_63 hf (fun b63 hTb63 hf => ?_)
  refine u_iconst (v := (0 : Int32)) hC dX1_copyFrom_66 (by decide) ?_
  refine u_aload_n hC dX1_copyFrom_67 0 rfl rfl ?_
  refine u_gr hC lf_X1_32 rfl hTa0 dX1_copyFrom_68 hf (fun b68 hTb68 hf => ?_)
  refine u_iconst (v := (0 : Int32)) hC dX1_copyFrom_71 (by decide) ?_
  refine u_sipush (v := (288 : Int32)) hC dX1_copyFrom_72 (by decide) ?_
  refine u_cp hC (tb_2 199 rfl rfl) (by decide) hTb63 hTb68 (Nat.le_of_ble_eq_true rfl) dX1_copyFrom_75 hf (fun S75 hf => ?_)
  cases hf
  exact hR _ _ dX1_copyFrom_78 trivial
theorem ctX1_copyFrom (l : Launch) (hl : l.stackTraces = false) (G : GT) (ρ : Nat → Nat) (Y : XS) (n : Nat) (S : PS) (a0 : Nat) (a1 : Nat) (hTa0 : Ty Y a0 1) (hTa1 : Ty Y a1 1) {o : PS} (hf : fX1_copyFrom Y n S a0 a1 = some o) : Mt l G yX1_copyFrom cX1_copyFrom 2 none 1 ρ Y [.ref (ρ a0), .ref (ρ a1)] S none o :=
  Mt_of hl (by decide) (Nat.le_of_ble_eq_true rfl) (fun C _ _ hC hR => wX1_copyFrom (X := (ρ, Y, 0, 0)) hC n S a0 a1 hTa0 hTa1 hf hR)
-- X1_costOf
theorem dX1_costOf_0 : decode cX1_costOf 0 = .ok (.iconst 0, 1) := by decide +kernel
theorem dX1_costOf_1 : decode cX1_costOf 1 = .ok (.istore_n 2, 1) := by decide +kernel
theorem dX1_costOf_2 : decode cX1_costOf 2 = .ok (.iconst 0, 1) := by decide +kernel
theorem dX1_costOf_3 : decode cX1_costOf 3 = .ok (.istore_n 3, 1) := by decide +kernel
theorem dX1_costOf_4 : decode cX1_costOf 4 = .ok (.iload_n 3, 1) := by decide +kernel
theorem dX1_costOf_5 : decode cX1_costOf 5 = .ok (.aload_n 0, 1) := by decide +kernel
theorem dX1_costOf_6 : decode cX1_costOf 6 = .ok (.getfield 15, 3) := by decide +kernel
theorem dX1_costOf_9 : decode cX1_costOf 9 = .ok (.if_icmp .ge 26, 3) := by decide +kernel
theorem dX1_costOf_12 : decode cX1_costOf 12 = .ok (.iload_n 3, 1) := by decide +kernel
theorem dX1_costOf_13 : decode cX1_costOf 13 = .ok (.iload_n 1, 1) := by decide +kernel
theorem dX1_costOf_14 : decode cX1_costOf 14 = .ok (.invokestatic 47, 3) := by decide +kernel
theorem dX1_costOf_17 : decode cX1_costOf 17 = .ok (.ifCond .eq 12, 3) := by decide +kernel
theorem dX1_costOf_20 : decode cX1_costOf 20 = .ok (.iload_n 2, 1) := by decide +kernel
theorem dX1_costOf_21 : decode cX1_costOf 21 = .ok (.aload_n 0, 1) := by decide +kernel
theorem dX1_costOf_22 : decode cX1_costOf 22 = .ok (.getfield 25, 3) := by decide +kernel
theorem dX1_costOf_25 : decode cX1_costOf 25 = .ok (.iload_n 3, 1) := by decide +kernel
theorem dX1_costOf_26 : decode cX1_costOf 26 = .ok (.iaload, 1) := by decide +kernel
theorem dX1_costOf_27 : decode cX1_costOf 27 = .ok (.iadd, 1) := by decide +kernel
theorem dX1_costOf_28 : decode cX1_costOf 28 = .ok (.istore_n 2, 1) := by decide +kernel
theorem dX1_costOf_29 : decode cX1_costOf 29 = .ok (.iinc 3 1, 3) := by decide +kernel
theorem dX1_costOf_32 : decode cX1_costOf 32 = .ok (.goto (-28), 3) := by decide +kernel
theorem dX1_costOf_35 : decode cX1_costOf 35 = .ok (.iload_n 2, 1) := by decide +kernel
theorem dX1_costOf_36 : decode cX1_costOf 36 = .ok (.ireturn, 1) := by decide +kernel
def jX1_costOf_29_4 (Y : XS) (n : Nat) (S : PS) (v0 : Nat) (v1 : Int32) (v2 : Int32) (v3 : Int32) : Option ((Int32 × Int32) ⊕ Int32) :=
  some (.inl (v2, v3 + (1 : Int32)))
def bX1_costOf_4 (Y : XS) (n : Nat) (S : PS) (v0 : Nat) (v1 : Int32) (s4 : (Int32 × Int32)) : Option ((Int32 × Int32) ⊕ Int32) :=
  kgi S v0 1 (fun x6 => (if x6 ≤ s4.2 then some (.inr s4.1) else kc (fX10_isIn Y n S s4.2 v1) (fun q14 => (if q14 = 0 then jX1_costOf_29_4 Y n S v0 v1 s4.1 s4.2 else kgr S v0 4 (fun b22 => kai Y S b22 s4.2 (fun x26 => jX1_costOf_29_4 Y n S v0 v1 (s4.1 + x26) s4.2))))))
def fX1_costOf (Y : XS) (n : Nat) (S : PS) (a0 : Nat) (x1_ : Int32) : Option (Int32) :=
  kc (iter (bX1_costOf_4 Y n S a0 x1_) n ((0 : Int32), (0 : Int32))) (fun r4 => some r4)
theorem wjX1_costOf_29_4 {C : CT} {X : XT} (hC : CK C RX1 cX1_costOf 4 (some .int) 2) (n : Nat) (S : PS) (v0 : Nat) (v1 : Int32) (v2 : Int32) (v3 : Int32)  (hTv0 : Ty X.2.1 v0 1) {o : (Int32 × Int32) ⊕ Int32} (hf : jX1_costOf_29_4 X.2.1 n S v0 v1 v2 v3 = some o) (hN : ∀ s', o = .inl s' → UW C X S 4 [(0, .ref (X.1 v0)), (1, .int v1), (2, .int s'.1), (3, .int s'.2)] []) (hO0 : ∀ p', o = .inr p' → UW C X S 35 [(2, .int p')] []) : UW C X S 29 [(0, .ref (X.1 v0)), (1, .int v1), (2, .int v2), (3, .int v3)] [] := by
  unfold jX1_costOf_29_4 at hf
  refine u_iinc (v := v3 + (1 : Int32)) (lv' := [(3, .int (v3 + (1 : Int32))), (0, .ref (X.1 v0)), (1, .int v1), (2, .int v2)]) hC dX1_costOf_29 3 rfl rfl (by decide) rfl ?_
  refine u_goto (tgt := 4) hC dX1_costOf_32 (by decide) ?_
  refine u_sub (lv' := [(0, .ref (X.1 v0)), (1, .int v1), (2, .int v2), (3, .int (v3 + (1 : Int32)))]) [1, 2, 3, 0] rfl ?_
  exact hN _ (Option.some.inj hf).symm
theorem wbX1_costOf_4 {C : CT} {X : XT} (hC : CK C RX1 cX1_costOf 4 (some .int) 2) (n : Nat) (S : PS) (v0 : Nat) (v1 : Int32) (hTv0 : Ty X.2.1 v0 1) (s4 : (Int32 × Int32)) {o : (Int32 × Int32) ⊕ Int32} (hf : bX1_costOf_4 X.2.1 n S v0 v1 s4 = some o) (hN : ∀ s', o = .inl s' → UW C X S 4 [(0, .ref (X.1 v0)), (1, .int v1), (2, .int s'.1), (3, .int s'.2)] []) (hO0 : ∀ p', o = .inr p' → UW C X S 35 [(2, .int p')] []) : UW C X S 4 [(0, .ref (X.1 v0)), (1, .int v1), (2, .int s4.1), (3, .int s4.2)] [] := by
  unfold bX1_costOf_4 at hf
  refine u_iload_n hC dX1_costOf_4 3 rfl rfl ?_
  refine u_aload_n hC dX1_costOf_5 0 rfl rfl ?_
  refine u_gi hC lf_X1_15 rfl hTv0 dX1_costOf_6 hf (fun x6 hf => ?_)
  refine u_icmp_ge (tgt := 35) hC dX1_costOf_9 (by decide) hf (fun h9 hf => ?_) (fun h9 hf => ?_)
  · refine u_sub (lv' := [(2, .int s4.1)]) [2] rfl ?_
    exact hO0 _ (Option.some.inj hf).symm
  · refine u_iload_n hC dX1_costOf_12 3 rfl rfl ?_
    refine u_iload_n hC dX1_costOf_13 1 rfl rfl ?_
    obtain ⟨q14, hq14, hf⟩ := kc_some hf
    refine u_callSN hC (ctX10_isIn (cL C) hC.tr (cG C) X.1 X.2.1 n S s4.2 v1  hq14) lk_X1_47 ls_X1_47 (by decide) (by decide) rfl rfl (Nat.le_of_ble_eq_true rfl) dX1_costOf_14 ?_
    refine u_if_eq (tgt := 29) hC dX1_costOf_17 (by decide) hf (fun h17 hf => ?_) (fun h17 hf => ?_)
    · exact wjX1_costOf_29_4 hC n S v0 v1 s4.1 s4.2  hTv0 hf hN hO0
    · refine u_iload_n hC dX1_costOf_20 2 rfl rfl ?_
      refine u_aload_n hC dX1_costOf_21 0 rfl rfl ?_
      refine u_gr hC lf_X1_25 rfl hTv0 dX1_costOf_22 hf (fun b22 hTb22 hf => ?_)
      refine u_iload_n hC dX1_costOf_25 3 rfl rfl ?_
      refine u_ai hC hTb22 dX1_costOf_26 hf (fun x26 hf => ?_)
      refine u_iadd hC dX1_costOf_27 ?_
      refine u_istore_n (lv' := [(2, .int (s4.1 + x26)), (0, .ref (X.1 v0)), (1, .int v1), (3, .int s4.2)]) hC dX1_costOf_28 rfl (by decide) rfl ?_
      refine u_sub (lv' := [(0, .ref (X.1 v0)), (1, .int v1), (2, .int (s4.1 + x26)), (3, .int s4.2)]) [1, 2, 0, 3] rfl ?_
      exact wjX1_costOf_29_4 hC n S v0 v1 (s4.1 + x26) s4.2  hTv0 hf hN hO0
theorem wX1_costOf {C : CT} {X : XT} (hC : CK C RX1 cX1_costOf 4 (some .int) 2) (n : Nat) (S : PS) (a0 : Nat) (x1_ : Int32) (hTa0 : Ty X.2.1 a0 1) {o : Int32} (hf : fX1_costOf X.2.1 n S a0 x1_ = some o) (hR : Rt C X cX1_costOf (some .int) (some (.int o)) S) : UW C X S 0 [(0, .ref (X.1 a0)), (1, .int x1_)] [] := by
  unfold fX1_costOf at hf
  refine u_iconst (v := (0 : Int32)) hC dX1_costOf_0 (by decide) ?_
  refine u_istore_n (lv' := [(2, .int (0 : Int32)), (0, .ref (X.1 a0)), (1, .int x1_)]) hC dX1_costOf_1 rfl (by decide) rfl ?_
  refine u_iconst (v := (0 : Int32)) hC dX1_costOf_2 (by decide) ?_
  refine u_istore_n (lv' := [(3, .int (0 : Int32)), (2, .int (0 : Int32)), (0, .ref (X.1 a0)), (1, .int x1_)]) hC dX1_costOf_3 rfl (by decide) rfl ?_
  obtain ⟨r4, hr4, hf⟩ := kc_some hf
  have hk4 : UW C X S 35 [(2, .int r4)] [] := by
    refine u_iload_n hC dX1_costOf_35 0 rfl rfl ?_
    cases hf
    exact hR _ _ dX1_costOf_36 trivial
  refine u_sub (lv' := [(0, .ref (X.1 a0)), (1, .int x1_), (2, .int (0 : Int32)), (3, .int (0 : Int32))]) [2, 3, 1, 0] rfl ?_
  refine iter_ind (P := fun s4 => UW C X S 4 [(0, .ref (X.1 a0)), (1, .int x1_), (2, .int s4.1), (3, .int s4.2)] []) (fun s4 o' hb hin hout => ?_) n ((0 : Int32), (0 : Int32)) hr4
  exact wbX1_costOf_4 hC n S a0 x1_ hTa0 s4 hb hin (fun p e => by rw [hout p e]; exact hk4)
theorem ctX1_costOf (l : Launch) (hl : l.stackTraces = false) (G : GT) (ρ : Nat → Nat) (Y : XS) (n : Nat) (S : PS) (a0 : Nat) (x1_ : Int32) (hTa0 : Ty Y a0 1) {o : Int32} (hf : fX1_costOf Y n S a0 x1_ = some o) : Mt l G yX1_costOf cX1_costOf 4 (some .int) 2 ρ Y [.ref (ρ a0), .int x1_] S (some (.int o)) S :=
  Mt_of hl (by decide) (Nat.le_of_ble_eq_true rfl) (fun C _ _ hC hR => wX1_costOf (X := (ρ, Y, 0, 0)) hC n S a0 x1_ hTa0 hf hR)
-- X1_dropProject
theorem dX1_dropProject_0 : decode cX1_dropProject 0 = .ok (.aload_n 0, 1) := by decide +kernel
theorem dX1_dropProject_1 : decode cX1_dropProject 1 = .ok (.dup, 1) := by decide +kernel
theorem dX1_dropProject_2 : decode cX1_dropProject 2 = .ok (.getfield 15, 3) := by decide +kernel
theorem dX1_dropProject_5 : decode cX1_dropProject 5 = .ok (.iconst 1, 1) := by decide +kernel
theorem dX1_dropProject_6 : decode cX1_dropProject 6 = .ok (.isub, 1) := by decide +kernel
theorem dX1_dropProject_7 : decode cX1_dropProject 7 = .ok (.putfield 15, 3) := by decide +kernel
theorem dX1_dropProject_10 : decode cX1_dropProject 10 = .ok (.iload_n 1, 1) := by decide +kernel
theorem dX1_dropProject_11 : decode cX1_dropProject 11 = .ok (.istore_n 2, 1) := by decide +kernel
theorem dX1_dropProject_12 : decode cX1_dropProject 12 = .ok (.iload_n 2, 1) := by decide +kernel
theorem dX1_dropProject_13 : decode cX1_dropProject 13 = .ok (.aload_n 0, 1) := by decide +kernel
theorem dX1_dropProject_14 : decode cX1_dropProject 14 = .ok (.getfield 15, 3) := by decide +kernel
theorem dX1_dropProject_17 : decode cX1_dropProject 17 = .ok (.if_icmp .ge 69, 3) := by decide +kernel
theorem dX1_dropProject_20 : decode cX1_dropProject 20 = .ok (.aload_n 0, 1) := by decide +kernel
theorem dX1_dropProject_21 : decode cX1_dropProject 21 = .ok (.getfield 25, 3) := by decide +kernel
theorem dX1_dropProject_24 : decode cX1_dropProject 24 = .ok (.iload_n 2, 1) := by decide +kernel
theorem dX1_dropProject_25 : decode cX1_dropProject 25 = .ok (.aload_n 0, 1) := by decide +kernel
theorem dX1_dropProject_26 : decode cX1_dropProject 26 = .ok (.getfield 25, 3) := by decide +kernel
theorem dX1_dropProject_29 : decode cX1_dropProject 29 = .ok (.iload_n 2, 1) := by decide +kernel
theorem dX1_dropProject_30 : decode cX1_dropProject 30 = .ok (.iconst 1, 1) := by decide +kernel
theorem dX1_dropProject_31 : decode cX1_dropProject 31 = .ok (.iadd, 1) := by decide +kernel
theorem dX1_dropProject_32 : decode cX1_dropProject 32 = .ok (.iaload, 1) := by decide +kernel
theorem dX1_dropProject_33 : decode cX1_dropProject 33 = .ok (.iastore, 1) := by decide +kernel
theorem dX1_dropProject_34 : decode cX1_dropProject 34 = .ok (.aload_n 0, 1) := by decide +kernel
theorem dX1_dropProject_35 : decode cX1_dropProject 35 = .ok (.getfield 29, 3) := by decide +kernel
theorem dX1_dropProject_38 : decode cX1_dropProject 38 = .ok (.iload_n 2, 1) := by decide +kernel
theorem dX1_dropProject_39 : decode cX1_dropProject 39 = .ok (.iconst 1, 1) := by decide +kernel
theorem dX1_dropProject_40 : decode cX1_dropProject 40 = .ok (.iadd, 1) := by decide +kernel
theorem dX1_dropProject_41 : decode cX1_dropProject 41 = .ok (.bipush 6, 2) := by decide +kernel
theorem dX1_dropProject_43 : decode cX1_dropProject 43 = .ok (.imul, 1) := by decide +kernel
theorem dX1_dropProject_44 : decode cX1_dropProject 44 = .ok (.aload_n 0, 1) := by decide +kernel
theorem dX1_dropProject_45 : decode cX1_dropProject 45 = .ok (.getfield 29, 3) := by decide +kernel
theorem dX1_dropProject_48 : decode cX1_dropProject 48 = .ok (.iload_n 2, 1) := by decide +kernel
theorem dX1_dropProject_49 : decode cX1_dropProject 49 = .ok (.bipush 6, 2) := by decide +kernel
theorem dX1_dropProject_51 : decode cX1_dropProject 51 = .ok (.imul, 1) := by decide +kernel
theorem dX1_dropProject_52 : decode cX1_dropProject 52 = .ok (.bipush 6, 2) := by decide +kernel
theorem dX1_dropProject_54 : decode cX1_dropProject 54 = .ok (.invokestatic 41, 3) := by decide +kernel
theorem dX1_dropProject_57 : decode cX1_dropProject 57 = .ok (.aload_n 0, 1) := by decide +kernel
theorem dX1_dropProject_58 : decode cX1_dropProject 58 = .ok (.getfield 32, 3) := by decide +kernel
theorem dX1_dropProject_61 : decode cX1_dropProject 61 = .ok (.iload_n 2, 1) := by decide +kernel
theorem dX1_dropProject_62 : decode cX1_dropProject 62 = .ok (.iconst 1, 1) := by decide +kernel
theorem dX1_dropProject_63 : decode cX1_dropProject 63 = .ok (.iadd, 1) := by decide +kernel
theorem dX1_dropProject_64 : decode cX1_dropProject 64 = .ok (.bipush 24, 2) := by decide +kernel
theorem dX1_dropProject_66 : decode cX1_dropProject 66 = .ok (.imul, 1) := by decide +kernel
theorem dX1_dropProject_67 : decode cX1_dropProject 67 = .ok (.aload_n 0, 1) := by decide +kernel
theorem dX1_dropProject_68 : decode cX1_dropProject 68 = .ok (.getfield 32, 3) := by decide +kernel
theorem dX1_dropProject_71 : decode cX1_dropProject 71 = .ok (.iload_n 2, 1) := by decide +kernel
theorem dX1_dropProject_72 : decode cX1_dropProject 72 = .ok (.bipush 24, 2) := by decide +kernel
theorem dX1_dropProject_74 : decode cX1_dropProject 74 = .ok (.imul, 1) := by decide +kernel
theorem dX1_dropProject_75 : decode cX1_dropProject 75 = .ok (.bipush 24, 2) := by decide +kernel
theorem dX1_dropProject_77 : decode cX1_dropProject 77 = .ok (.invokestatic 41, 3) := by decide +kernel
theorem dX1_dropProject_80 : decode cX1_dropProject 80 = .ok (.iinc 2 1, 3) := by decide +kernel
theorem dX1_dropProject_83 : decode cX1_dropProject 83 = .ok (.goto (-71), 3) := by decide +kernel
theorem dX1_dropProject_86 : decode cX1_dropProject 86 = .ok (.return_, 1) := by decide +kernel
def bX1_dropProject_12 (Y : XS) (n : Nat) (v0 : Nat) (s12 : (Int32 × PS)) : Option ((Int32 × PS) ⊕ PS) :=
  kgi s12.2 v0 1 (fun x14 => (if x14 ≤ s12.1 then some (.inr s12.2) else kgr s12.2 v0 4 (fun b21 => kgr s12.2 v0 4 (fun b26 => kai Y s12.2 b26 (s12.1 + (1 : Int32)) (fun x32 => kwi Y s12.2 b21 s12.1 x32 (fun S33 => kgr S33 v0 5 (fun b35 => kgr S33 v0 5 (fun b45 => kcp Y S33 b35 ((s12.1 + (1 : Int32)) * (6 : Int32)) b45 (s12.1 * (6 : Int32)) (6 : Int32) (fun S54 => kgr S54 v0 6 (fun b58 => kgr S54 v0 6 (fun b68 => kcp Y S54 b58 ((s12.1 + (1 : Int32)) * (24 : Int32)) b68 (s12.1 * (24 : Int32)) (24 : Int32) (fun S77 => some (.inl (s12.1 + (1 : Int32), S77))))))))))))))
def fX1_dropProject (Y : XS) (n : Nat) (S : PS) (a0 : Nat) (x1_ : Int32) : Option (PS) :=
  kgi S a0 1 (fun x2 => kpi S a0 1 (x2 - (1 : Int32)) (fun S7 => kc (iter (bX1_dropProject_12 Y n a0) n (x1_, S7)) (fun r12 => some r12)))
theorem wbX1_dropProject_12 {C : CT} {X : XT} (hC : CK C RX1 cX1_dropProject 3 none 1) (n : Nat) (v0 : Nat) (hTv0 : Ty X.2.1 v0 1) (s12 : (Int32 × PS)) {o : (Int32 × PS) ⊕ PS} (hf : bX1_dropProject_12 X.2.1 n v0 s12 = some o) (hN : ∀ s', o = .inl s' → UW C X s'.2 12 [(0, .ref (X.1 v0)), (2, .int s'.1)] []) (hO0 : ∀ p', o = .inr p' → UW C X p' 86 [] []) : UW C X s12.2 12 [(0, .ref (X.1 v0)), (2, .int s12.1)] [] := by
  unfold bX1_dropProject_12 at hf
  refine u_iload_n hC dX1_dropProject_12 1 rfl rfl ?_
  refine u_aload_n hC dX1_dropProject_13 0 rfl rfl ?_
  refine u_gi hC lf_X1_15 rfl hTv0 dX1_dropProject_14 hf (fun x14 hf => ?_)
  refine u_icmp_ge (tgt := 86) hC dX1_dropProject_17 (by decide) hf (fun h17 hf => ?_) (fun h17 hf => ?_)
  · refine u_sub (lv' := []) [] rfl ?_
    exact hO0 _ (Option.some.inj hf).symm
  · refine u_aload_n hC dX1_dropProject_20 0 rfl rfl ?_
    refine u_gr hC lf_X1_25 rfl hTv0 dX1_dropProject_21 hf (fun b21 hTb21 hf => ?_)
    refine u_iload_n hC dX1_dropProject_24 1 rfl rfl ?_
    refine u_aload_n hC dX1_dropProject_25 0 rfl rfl ?_
    refine u_gr hC lf_X1_25 rfl hTv0 dX1_dropProject_26 hf (fun b26 hTb26 hf => ?_)
    refine u_iload_n hC dX1_dropProject_29 1 rfl rfl ?_
    refine u_iconst (v := (1 : Int32)) hC dX1_dropProject_30 (by decide) ?_
    refine u_iadd hC dX1_dropProject_31 ?_
    refine u_ai hC hTb26 dX1_dropProject_32 hf (fun x32 hf => ?_)
    refine u_wi hC hTb21 dX1_dropProject_33 hf (fun S33 hf => ?_)
    refine u_aload_n hC dX1_dropProject_34 0 rfl rfl ?_
    refine u_gr hC lf_X1_29 rfl hTv0 dX1_dropProject_35 hf (fun b35 hTb35 hf => ?_)
    refine u_iload_n hC dX1_dropProject_38 1 rfl rfl ?_
    refine u_iconst (v := (1 : Int32)) hC dX1_dropProject_39 (by decide) ?_
    refine u_iadd hC dX1_dropProject_40 ?_
    refine u_bipush (v := (6 : Int32)) hC dX1_dropProject_41 (by decide) ?_
    refine u_imul hC dX1_dropProject_43 ?_
    refine u_aload_n hC dX1_dropProject_44 0 rfl rfl ?_
    refine u_gr hC lf_X1_29 rfl hTv0 dX1_dropProject_45 hf (fun b45 hTb45 hf => ?_)
    refine u_iload_n hC dX1_dropProject_48 1 rfl rfl ?_
    refine u_bipush (v := (6 : Int32)) hC dX1_dropProject_49 (by decide) ?_
    refine u_imul hC dX1_dropProject_51 ?_
    refine u_bipush (v := (6 : Int32)) hC dX1_dropProject_52 (by decide) ?_
    refine u_cp hC (tb_2 199 rfl rfl) (by decide) hTb35 hTb45 (Nat.le_of_ble_eq_true rfl) dX1_dropProject_54 hf (fun S54 hf => ?_)
    refine u_aload_n hC dX1_dropProject_57 0 rfl rfl ?_
    refine u_gr hC lf_X1_32 rfl hTv0 dX1_dropProject_58 hf (fun b58 hTb58 hf => ?_)
    refine u_iload_n hC dX1_dropProject_61 1 rfl rfl ?_
    refine u_iconst (v := (1 : Int32)) hC dX1_dropProject_62 (by decide) ?_
    refine u_iadd hC dX1_dropProject_63 ?_
    refine u_bipush (v := (24 : Int32)) hC dX1_dropProject_64 (by decide) ?_
    refine u_imul hC dX1_dropProject_66 ?_
    refine u_aload_n hC dX1_dropProject_67 0 rfl rfl ?_
    refine u_gr hC lf_X1_32 rfl hTv0 dX1_dropProject_68 hf (fun b68 hTb68 hf => ?_)
    refine u_iload_n hC dX1_dropProject_71 1 rfl rfl ?_
    refine u_bipush (v := (24 : Int32)) hC dX1_dropProject_72 (by decide) ?_
    refine u_imul hC dX1_dropProject_74 ?_
    refine u_bipush (v := (24 : Int32)) hC dX1_dropProject_75 (by decide) ?_
    refine u_cp hC (tb_2 199 rfl rfl) (by decide) hTb58 hTb68 (Nat.le_of_ble_eq_true rfl) dX1_dropProject_77 hf (fun S77 hf => ?_)
    refine u_iinc (v := s12.1 + (1 : Int32)) (lv' := [(2, .int (s12.1 + (1 : Int32))), (0, .ref (X.1 v0))]) hC dX1_dropProject_80 1 rfl rfl (by decide) rfl ?_
    refine u_goto (tgt := 12) hC dX1_dropProject_83 (by decide) ?_
    refine u_sub (lv' := [(0, .ref (X.1 v0)), (2, .int (s12.1 + (1 : Int32)))]) [1, 0] rfl ?_
    exact hN _ (Option.some.inj hf).symm
theorem wX1_dropProject {C : CT} {X : XT} (hC : CK C RX1 cX1_dropProject 3 none 1) (n : Nat) (S : PS) (a0 : Nat) (x1_ : Int32) (hTa0 : Ty X.2.1 a0 1) {o : PS} (hf : fX1_dropProject X.2.1 n S a0 x1_ = some o) (hR : Rt C X cX1_dropProject none none o) : UW C X S 0 [(0, .ref (X.1 a0)), (1, .int x1_)] [] := by
  unfold fX1_dropProject at hf
  refine u_aload_n hC dX1_dropProject_0 0 rfl rfl ?_
  refine u_dup hC dX1_dropProject_1 rfl ?_
  refine u_gi hC lf_X1_15 rfl hTa0 dX1_dropProject_2 hf (fun x2 hf => ?_)
  refine u_iconst (v := (1 : Int32)) hC dX1_dropProject_5 (by decide) ?_
  refine u_isub hC dX1_dropProject_6 ?_
  refine u_pi hC lf_X1_15 rfl rfl rfl hTa0 dX1_dropProject_7 hf (fun S7 hf => ?_)
  refine u_iload_n hC dX1_dropProject_10 1 rfl rfl ?_
  refine u_istore_n (lv' := [(2, .int x1_), (0, .ref (X.1 a0)), (1, .int x1_)]) hC dX1_dropProject_11 rfl (by decide) rfl ?_
  obtain ⟨r12, hr12, hf⟩ := kc_some hf
  have hk12 : UW C X r12 86 [] [] := by
    cases hf
    exact hR _ _ dX1_dropProject_86 trivial
  refine u_sub (lv' := [(0, .ref (X.1 a0)), (2, .int x1_)]) [1, 0] rfl ?_
  refine iter_ind (P := fun s12 => UW C X s12.2 12 [(0, .ref (X.1 a0)), (2, .int s12.1)] []) (fun s12 o' hb hin hout => ?_) n (x1_, S7) hr12
  exact wbX1_dropProject_12 hC n a0 hTa0 s12 hb hin (fun p e => by rw [hout p e]; exact hk12)
theorem ctX1_dropProject (l : Launch) (hl : l.stackTraces = false) (G : GT) (ρ : Nat → Nat) (Y : XS) (n : Nat) (S : PS) (a0 : Nat) (x1_ : Int32) (hTa0 : Ty Y a0 1) {o : PS} (hf : fX1_dropProject Y n S a0 x1_ = some o) : Mt l G yX1_dropProject cX1_dropProject 3 none 1 ρ Y [.ref (ρ a0), .int x1_] S none o :=
  Mt_of hl (by decide) (Nat.le_of_ble_eq_true rfl) (fun C _ _ hC hR => wX1_dropProject (X := (ρ, Y, 0, 0)) hC n S a0 x1_ hTa0 hf hR)
-- X1_dropVoter
theorem dX1_dropVoter_0 : decode cX1_dropVoter 0 = .ok (.aload_n 0, 1) := by decide +kernel
theorem dX1_dropVoter_1 : decode cX1_dropVoter 1 = .ok (.dup, 1) := by decide +kernel
theorem dX1_dropVoter_2 : decode cX1_dropVoter 2 = .ok (.getfield 18, 3) := by decide +kernel
theorem dX1_dropVoter_5 : decode cX1_dropVoter 5 = .ok (.iconst 1, 1) := by decide +kernel
theorem dX1_dropVoter_6 : decode cX1_dropVoter 6 = .ok (.isub, 1) := by decide +kernel
theorem dX1_dropVoter_7 : decode cX1_dropVoter 7 = .ok (.putfield 18, 3) := by decide +kernel
theorem dX1_dropVoter_10 : decode cX1_dropVoter 10 = .ok (.iconst 0, 1) := by decide +kernel
theorem dX1_dropVoter_11 : decode cX1_dropVoter 11 = .ok (.istore_n 2, 1) := by decide +kernel
theorem dX1_dropVoter_12 : decode cX1_dropVoter 12 = .ok (.iload_n 2, 1) := by decide +kernel
theorem dX1_dropVoter_13 : decode cX1_dropVoter 13 = .ok (.aload_n 0, 1) := by decide +kernel
theorem dX1_dropVoter_14 : decode cX1_dropVoter 14 = .ok (.getfield 15, 3) := by decide +kernel
theorem dX1_dropVoter_17 : decode cX1_dropVoter 17 = .ok (.if_icmp .ge 49, 3) := by decide +kernel
theorem dX1_dropVoter_20 : decode cX1_dropVoter 20 = .ok (.iload_n 1, 1) := by decide +kernel
theorem dX1_dropVoter_21 : decode cX1_dropVoter 21 = .ok (.istore_n 3, 1) := by decide +kernel
theorem dX1_dropVoter_22 : decode cX1_dropVoter 22 = .ok (.iload_n 3, 1) := by decide +kernel
theorem dX1_dropVoter_23 : decode cX1_dropVoter 23 = .ok (.aload_n 0, 1) := by decide +kernel
theorem dX1_dropVoter_24 : decode cX1_dropVoter 24 = .ok (.getfield 18, 3) := by decide +kernel
theorem dX1_dropVoter_27 : decode cX1_dropVoter 27 = .ok (.if_icmp .ge 33, 3) := by decide +kernel
theorem dX1_dropVoter_30 : decode cX1_dropVoter 30 = .ok (.aload_n 0, 1) := by decide +kernel
theorem dX1_dropVoter_31 : decode cX1_dropVoter 31 = .ok (.getfield 32, 3) := by decide +kernel
theorem dX1_dropVoter_34 : decode cX1_dropVoter 34 = .ok (.iload_n 2, 1) := by decide +kernel
theorem dX1_dropVoter_35 : decode cX1_dropVoter 35 = .ok (.bipush 24, 2) := by decide +kernel
theorem dX1_dropVoter_37 : decode cX1_dropVoter 37 = .ok (.imul, 1) := by decide +kernel
theorem dX1_dropVoter_38 : decode cX1_dropVoter 38 = .ok (.iload_n 3, 1) := by decide +kernel
theorem dX1_dropVoter_39 : decode cX1_dropVoter 39 = .ok (.iadd, 1) := by decide +kernel
theorem dX1_dropVoter_40 : decode cX1_dropVoter 40 = .ok (.aload_n 0, 1) := by decide +kernel
theorem dX1_dropVoter_41 : decode cX1_dropVoter 41 = .ok (.getfield 32, 3) := by decide +kernel
theorem dX1_dropVoter_44 : decode cX1_dropVoter 44 = .ok (.iload_n 2, 1) := by decide +kernel
theorem dX1_dropVoter_45 : decode cX1_dropVoter 45 = .ok (.bipush 24, 2) := by decide +kernel
theorem dX1_dropVoter_47 : decode cX1_dropVoter 47 = .ok (.imul, 1) := by decide +kernel
theorem dX1_dropVoter_48 : decode cX1_dropVoter 48 = .ok (.iload_n 3, 1) := by decide +kernel
theorem dX1_dropVoter_49 : decode cX1_dropVoter 49 = .ok (.iadd, 1) := by decide +kernel
theorem dX1_dropVoter_50 : decode cX1_dropVoter 50 = .ok (.iconst 1, 1) := by decide +kernel
theorem dX1_dropVoter_51 : decode cX1_dropVoter 51 = .ok (.iadd, 1) := by decide +kernel
theorem dX1_dropVoter_52 : decode cX1_dropVoter 52 = .ok (.iaload, 1) := by decide +kernel
theorem dX1_dropVoter_53 : decode cX1_dropVoter 53 = .ok (.iastore, 1) := by decide +kernel
theorem dX1_dropVoter_54 : decode cX1_dropVoter 54 = .ok (.iinc 3 1, 3) := by decide +kernel
theorem dX1_dropVoter_57 : decode cX1_dropVoter 57 = .ok (.goto (-35), 3) := by decide +kernel
theorem dX1_dropVoter_60 : decode cX1_dropVoter 60 = .ok (.iinc 2 1, 3) := by decide +kernel
theorem dX1_dropVoter_63 : decode cX1_dropVoter 63 = .ok (.goto (-51), 3) := by decide +kernel
theorem dX1_dropVoter_66 : decode cX1_dropVoter 66 = .ok (.return_, 1) := by decide +kernel
def bX1_dropVoter_22 (Y : XS) (n : Nat) (v0 : Nat) (v1 : Int32) (v2 : Int32) (s22 : (Int32 × PS)) : Option ((Int32 × PS) ⊕ PS) :=
  kgi s22.2 v0 2 (fun x24 => (if x24 ≤ s22.1 then some (.inr s22.2) else kgr s22.2 v0 6 (fun b31 => kgr s22.2 v0 6 (fun b41 => kai Y s22.2 b41 (((v2 * (24 : Int32)) + s22.1) + (1 : Int32)) (fun x52 => kwi Y s22.2 b31 ((v2 * (24 : Int32)) + s22.1) x52 (fun S53 => some (.inl (s22.1 + (1 : Int32), S53))))))))
def bX1_dropVoter_12 (Y : XS) (n : Nat) (v0 : Nat) (v1 : Int32) (s12 : (Int32 × PS)) : Option ((Int32 × PS) ⊕ PS) :=
  kgi s12.2 v0 1 (fun x14 => (if x14 ≤ s12.1 then some (.inr s12.2) else kc (iter (bX1_dropVoter_22 Y n v0 v1 s12.1) n (v1, s12.2)) (fun r22 => some (.inl (s12.1 + (1 : Int32), r22)))))
def fX1_dropVoter (Y : XS) (n : Nat) (S : PS) (a0 : Nat) (x1_ : Int32) : Option (PS) :=
  kgi S a0 2 (fun x2 => kpi S a0 2 (x2 - (1 : Int32)) (fun S7 => kc (iter (bX1_dropVoter_12 Y n a0 x1_) n ((0 : Int32), S7)) (fun r12 => some r12)))
theorem wbX1_dropVoter_22 {C : CT} {X : XT} (hC : CK C RX1 cX1_dropVoter 4 none 1) (n : Nat) (v0 : Nat) (v1 : Int32) (v2 : Int32) (hTv0 : Ty X.2.1 v0 1) (s22 : (Int32 × PS)) {o : (Int32 × PS) ⊕ PS} (hf : bX1_dropVoter_22 X.2.1 n v0 v1 v2 s22 = some o) (hN : ∀ s', o = .inl s' → UW C X s'.2 22 [(0, .ref (X.1 v0)), (1, .int v1), (2, .int v2), (3, .int s'.1)] []) (hO0 : ∀ p', o = .inr p' → UW C X p' 60 [(0, .ref (X.1 v0)), (1, .int v1), (2, .int v2)] []) : UW C X s22.2 22 [(0, .ref (X.1 v0)), (1, .int v1), (2, .int v2), (3, .int s22.1)] [] := by
  unfold bX1_dropVoter_22 at hf
  refine u_iload_n hC dX1_dropVoter_22 3 rfl rfl ?_
  refine u_aload_n hC dX1_dropVoter_23 0 rfl rfl ?_
  refine u_gi hC lf_X1_18 rfl hTv0 dX1_dropVoter_24 hf (fun x24 hf => ?_)
  refine u_icmp_ge (tgt := 60) hC dX1_dropVoter_27 (by decide) hf (fun h27 hf => ?_) (fun h27 hf => ?_)
  · refine u_sub (lv' := [(0, .ref (X.1 v0)), (1, .int v1), (2, .int v2)]) [0, 1, 2] rfl ?_
    exact hO0 _ (Option.some.inj hf).symm
  · refine u_aload_n hC dX1_dropVoter_30 0 rfl rfl ?_
    refine u_gr hC lf_X1_32 rfl hTv0 dX1_dropVoter_31 hf (fun b31 hTb31 hf => ?_)
    refine u_iload_n hC dX1_dropVoter_34 2 rfl rfl ?_
    refine u_bipush (v := (24 : Int32)) hC dX1_dropVoter_35 (by decide) ?_
    refine u_imul hC dX1_dropVoter_37 ?_
    refine u_iload_n hC dX1_dropVoter_38 3 rfl rfl ?_
    refine u_iadd hC dX1_dropVoter_39 ?_
    refine u_aload_n hC dX1_dropVoter_40 0 rfl rfl ?_
    refine u_gr hC lf_X1_32 rfl hTv0 dX1_dropVoter_41 hf (fun b41 hTb41 hf => ?_)
    refine u_iload_n hC dX1_dropVoter_44 2 rfl rfl ?_
    refine u_bipush (v := (24 : Int32)) hC dX1_dropVoter_45 (by decide) ?_
    refine u_imul hC dX1_dropVoter_47 ?_
    refine u_iload_n hC dX1_dropVoter_48 3 rfl rfl ?_
    refine u_iadd hC dX1_dropVoter_49 ?_
    refine u_iconst (v := (1 : Int32)) hC dX1_dropVoter_50 (by decide) ?_
    refine u_iadd hC dX1_dropVoter_51 ?_
    refine u_ai hC hTb41 dX1_dropVoter_52 hf (fun x52 hf => ?_)
    refine u_wi hC hTb31 dX1_dropVoter_53 hf (fun S53 hf => ?_)
    refine u_iinc (v := s22.1 + (1 : Int32)) (lv' := [(3, .int (s22.1 + (1 : Int32))), (0, .ref (X.1 v0)), (1, .int v1), (2, .int v2)]) hC dX1_dropVoter_54 3 rfl rfl (by decide) rfl ?_
    refine u_goto (tgt := 22) hC dX1_dropVoter_57 (by decide) ?_
    refine u_sub (lv' := [(0, .ref (X.1 v0)), (1, .int v1), (2, .int v2), (3, .int (s22.1 + (1 : Int32)))]) [1, 2, 3, 0] rfl ?_
    exact hN _ (Option.some.inj hf).symm
theorem wbX1_dropVoter_12 {C : CT} {X : XT} (hC : CK C RX1 cX1_dropVoter 4 none 1) (n : Nat) (v0 : Nat) (v1 : Int32) (hTv0 : Ty X.2.1 v0 1) (s12 : (Int32 × PS)) {o : (Int32 × PS) ⊕ PS} (hf : bX1_dropVoter_12 X.2.1 n v0 v1 s12 = some o) (hN : ∀ s', o = .inl s' → UW C X s'.2 12 [(0, .ref (X.1 v0)), (1, .int v1), (2, .int s'.1)] []) (hO0 : ∀ p', o = .inr p' → UW C X p' 66 [] []) : UW C X s12.2 12 [(0, .ref (X.1 v0)), (1, .int v1), (2, .int s12.1)] [] := by
  unfold bX1_dropVoter_12 at hf
  refine u_iload_n hC dX1_dropVoter_12 2 rfl rfl ?_
  refine u_aload_n hC dX1_dropVoter_13 0 rfl rfl ?_
  refine u_gi hC lf_X1_15 rfl hTv0 dX1_dropVoter_14 hf (fun x14 hf => ?_)
  refine u_icmp_ge (tgt := 66) hC dX1_dropVoter_17 (by decide) hf (fun h17 hf => ?_) (fun h17 hf => ?_)
  · refine u_sub (lv' := []) [] rfl ?_
    exact hO0 _ (Option.some.inj hf).symm
  · refine u_iload_n hC dX1_dropVoter_20 1 rfl rfl ?_
    refine u_istore_n (lv' := [(3, .int v1), (0, .ref (X.1 v0)), (1, .int v1), (2, .int s12.1)]) hC dX1_dropVoter_21 rfl (by decide) rfl ?_
    obtain ⟨r22, hr22, hf⟩ := kc_some hf
    have hk22 : UW C X r22 60 [(0, .ref (X.1 v0)), (1, .int v1), (2, .int s12.1)] [] := by
      refine u_iinc (v := s12.1 + (1 : Int32)) (lv' := [(2, .int (s12.1 + (1 : Int32))), (0, .ref (X.1 v0)), (1, .int v1)]) hC dX1_dropVoter_60 2 rfl rfl (by decide) rfl ?_
      refine u_goto (tgt := 12) hC dX1_dropVoter_63 (by decide) ?_
      refine u_sub (lv' := [(0, .ref (X.1 v0)), (1, .int v1), (2, .int (s12.1 + (1 : Int32)))]) [1, 2, 0] rfl ?_
      exact hN _ (Option.some.inj hf).symm
    refine u_sub (lv' := [(0, .ref (X.1 v0)), (1, .int v1), (2, .int s12.1), (3, .int v1)]) [1, 2, 3, 0] rfl ?_
    refine iter_ind (P := fun s22 => UW C X s22.2 22 [(0, .ref (X.1 v0)), (1, .int v1), (2, .int s12.1), (3, .int s22.1)] []) (fun s22 o' hb hin hout => ?_) n (v1, s12.2) hr22
    exact wbX1_dropVoter_22 hC n v0 v1 s12.1 hTv0 s22 hb hin (fun p e => by rw [hout p e]; exact hk22)
theorem wX1_dropVoter {C : CT} {X : XT} (hC : CK C RX1 cX1_dropVoter 4 none 1) (n : Nat) (S : PS) (a0 : Nat) (x1_ : Int32) (hTa0 : Ty X.2.1 a0 1) {o : PS} (hf : fX1_dropVoter X.2.1 n S a0 x1_ = some o) (hR : Rt C X cX1_dropVoter none none o) : UW C X S 0 [(0, .ref (X.1 a0)), (1, .int x1_)] [] := by
  unfold fX1_dropVoter at hf
  refine u_aload_n hC dX1_dropVoter_0 0 rfl rfl ?_
  refine u_dup hC dX1_dropVoter_1 rfl ?_
  refine u_gi hC lf_X1_18 rfl hTa0 dX1_dropVoter_2 hf (fun x2 hf => ?_)
  refine u_iconst (v := (1 : Int32)) hC dX1_dropVoter_5 (by decide) ?_
  refine u_isub hC dX1_dropVoter_6 ?_
  refine u_pi hC lf_X1_18 rfl rfl rfl hTa0 dX1_dropVoter_7 hf (fun S7 hf => ?_)
  refine u_iconst (v := (0 : Int32)) hC dX1_dropVoter_10 (by decide) ?_
  refine u_istore_n (lv' := [(2, .int (0 : Int32)), (0, .ref (X.1 a0)), (1, .int x1_)]) hC dX1_dropVoter_11 rfl (by decide) rfl ?_
  obtain ⟨r12, hr12, hf⟩ := kc_some hf
  have hk12 : UW C X r12 66 [] [] := by
    cases hf
    exact hR _ _ dX1_dropVoter_66 trivial
  refine u_sub (lv' := [(0, .ref (X.1 a0)), (1, .int x1_), (2, .int (0 : Int32))]) [1, 2, 0] rfl ?_
  refine iter_ind (P := fun s12 => UW C X s12.2 12 [(0, .ref (X.1 a0)), (1, .int x1_), (2, .int s12.1)] []) (fun s12 o' hb hin hout => ?_) n ((0 : Int32), S7) hr12
  exact wbX1_dropVoter_12 hC n a0 x1_ hTa0 s12 hb hin (fun p e => by rw [hout p e]; exact hk12)
theorem ctX1_dropVoter (l : Launch) (hl : l.stackTraces = false) (G : GT) (ρ : Nat → Nat) (Y : XS) (n : Nat) (S : PS) (a0 : Nat) (x1_ : Int32) (hTa0 : Ty Y a0 1) {o : PS} (hf : fX1_dropVoter Y n S a0 x1_ = some o) : Mt l G yX1_dropVoter cX1_dropVoter 4 none 1 ρ Y [.ref (ρ a0), .int x1_] S none o :=
  Mt_of hl (by decide) (Nat.le_of_ble_eq_true rfl) (fun C _ _ hC hR => wX1_dropVoter (X := (ρ, Y, 0, 0)) hC n S a0 x1_ hTa0 hf hR)
-- X4_valueOf
theorem dX4_valueOf_0 : decode cX4_valueOf 0 = .ok (.iload_n 0, 1) := by decide +kernel
theorem dX4_valueOf_1 : decode cX4_valueOf 1 = .ok (.tableswitch 40 (-4) (-1) #[37, 35, 33, 31], 31) := by decide +kernel
theorem dX4_valueOf_32 : decode cX4_valueOf 32 = .ok (.iload_n 1, 1) := by decide +kernel
theorem dX4_valueOf_33 : decode cX4_valueOf 33 = .ok (.ireturn, 1) := by decide +kernel
theorem dX4_valueOf_34 : decode cX4_valueOf 34 = .ok (.iload_n 2, 1) := by decide +kernel
theorem dX4_valueOf_35 : decode cX4_valueOf 35 = .ok (.ireturn, 1) := by decide +kernel
theorem dX4_valueOf_36 : decode cX4_valueOf 36 = .ok (.iload_n 3, 1) := by decide +kernel
theorem dX4_valueOf_37 : decode cX4_valueOf 37 = .ok (.ireturn, 1) := by decide +kernel
theorem dX4_valueOf_38 : decode cX4_valueOf 38 = .ok (.iload 4, 2) := by decide +kernel
theorem dX4_valueOf_40 : decode cX4_valueOf 40 = .ok (.ireturn, 1) := by decide +kernel
theorem dX4_valueOf_41 : decode cX4_valueOf 41 = .ok (.iload_n 0, 1) := by decide +kernel
theorem dX4_valueOf_42 : decode cX4_valueOf 42 = .ok (.ireturn, 1) := by decide +kernel
def fX4_valueOf (Y : XS) (n : Nat) (S : PS) (x0_ : Int32) (x1_ : Int32) (x2_ : Int32) (x3_ : Int32) (x4_ : Int32) : Option (Int32) :=
  (if x0_ = (-4 : Int32) then some x4_ else (if x0_ = (-3 : Int32) then some x3_ else (if x0_ = (-2 : Int32) then some x2_ else (if x0_ = (-1 : Int32) then some x1_ else some x0_))))
theorem wX4_valueOf {C : CT} {X : XT} (hC : CK C RX4 cX4_valueOf 5 (some .int) 1) (n : Nat) (S : PS) (x0_ : Int32) (x1_ : Int32) (x2_ : Int32) (x3_ : Int32) (x4_ : Int32)  {o : Int32} (hf : fX4_valueOf X.2.1 n S x0_ x1_ x2_ x3_ x4_ = some o) (hR : Rt C X cX4_valueOf (some .int) (some (.int o)) S) : UW C X S 0 [(0, .int x0_), (1, .int x1_), (2, .int x2_), (3, .int x3_), (4, .int x4_)] [] := by
  unfold fX4_valueOf at hf
  refine u_iload_n hC dX4_valueOf_0 0 rfl rfl ?_
  by_cases hs1_0 : x0_ = (-4 : Int32)
  · rw [if_pos hs1_0] at hf
    refine u_tin (tgt := 38) hC dX4_valueOf_1 (by rw [hs1_0]; decide) (by rw [hs1_0]; decide) (by rw [hs1_0]; rfl) (by decide) ?_
    refine u_iload hC dX4_valueOf_38 4 rfl ?_
    cases hf
    exact hR _ _ dX4_valueOf_40 trivial
  rw [if_neg hs1_0] at hf
  by_cases hs1_1 : x0_ = (-3 : Int32)
  · rw [if_pos hs1_1] at hf
    refine u_tin (tgt := 36) hC dX4_valueOf_1 (by rw [hs1_1]; decide) (by rw [hs1_1]; decide) (by rw [hs1_1]; rfl) (by decide) ?_
    refine u_iload_n hC dX4_valueOf_36 3 rfl rfl ?_
    cases hf
    exact hR _ _ dX4_valueOf_37 trivial
  rw [if_neg hs1_1] at hf
  by_cases hs1_2 : x0_ = (-2 : Int32)
  · rw [if_pos hs1_2] at hf
    refine u_tin (tgt := 34) hC dX4_valueOf_1 (by rw [hs1_2]; decide) (by rw [hs1_2]; decide) (by rw [hs1_2]; rfl) (by decide) ?_
    refine u_iload_n hC dX4_valueOf_34 2 rfl rfl ?_
    cases hf
    exact hR _ _ dX4_valueOf_35 trivial
  rw [if_neg hs1_2] at hf
  by_cases hs1_3 : x0_ = (-1 : Int32)
  · rw [if_pos hs1_3] at hf
    refine u_tin (tgt := 32) hC dX4_valueOf_1 (by rw [hs1_3]; decide) (by rw [hs1_3]; decide) (by rw [hs1_3]; rfl) (by decide) ?_
    refine u_iload_n hC dX4_valueOf_32 1 rfl rfl ?_
    cases hf
    exact hR _ _ dX4_valueOf_33 trivial
  rw [if_neg hs1_3] at hf
  have hz1_0 := lv_neT (a := -4) hs1_0 (by decide)
  have hz1_1 := lv_neT (a := -3) hs1_1 (by decide)
  have hz1_2 := lv_neT (a := -2) hs1_2 (by decide)
  have hz1_3 := lv_neT (a := -1) hs1_3 (by decide)
  refine u_tout (tgt := 41) hC dX4_valueOf_1 (by omega) (by decide) ?_
  refine u_iload_n hC dX4_valueOf_41 0 rfl rfl ?_
  cases hf
  exact hR _ _ dX4_valueOf_42 trivial
theorem ctX4_valueOf (l : Launch) (hl : l.stackTraces = false) (G : GT) (ρ : Nat → Nat) (Y : XS) (n : Nat) (S : PS) (x0_ : Int32) (x1_ : Int32) (x2_ : Int32) (x3_ : Int32) (x4_ : Int32)  {o : Int32} (hf : fX4_valueOf Y n S x0_ x1_ x2_ x3_ x4_ = some o) : Mt l G yX4_valueOf cX4_valueOf 5 (some .int) 1 ρ Y [.int x0_, .int x1_, .int x2_, .int x3_, .int x4_] S (some (.int o)) S :=
  Mt_of hl (by decide) (Nat.le_of_ble_eq_true rfl) (fun C _ _ hC hR => wX4_valueOf (X := (ρ, Y, 0, 0)) hC n S x0_ x1_ x2_ x3_ x4_  hf hR)
-- X4_join
theorem dX4_join_0 : decode cX4_join 0 = .ok (.iload_n 0, 1) := by decide +kernel
theorem dX4_join_1 : decode cX4_join 1 = .ok (.tableswitch 39 (-7) (-5) #[35, 31, 27], 27) := by decide +kernel
theorem dX4_join_28 : decode cX4_join 28 = .ok (.iload_n 1, 1) := by decide +kernel
theorem dX4_join_29 : decode cX4_join 29 = .ok (.iload_n 2, 1) := by decide +kernel
theorem dX4_join_30 : decode cX4_join 30 = .ok (.iadd, 1) := by decide +kernel
theorem dX4_join_31 : decode cX4_join 31 = .ok (.ireturn, 1) := by decide +kernel
theorem dX4_join_32 : decode cX4_join 32 = .ok (.iload_n 1, 1) := by decide +kernel
theorem dX4_join_33 : decode cX4_join 33 = .ok (.iload_n 2, 1) := by decide +kernel
theorem dX4_join_34 : decode cX4_join 34 = .ok (.isub, 1) := by decide +kernel
theorem dX4_join_35 : decode cX4_join 35 = .ok (.ireturn, 1) := by decide +kernel
theorem dX4_join_36 : decode cX4_join 36 = .ok (.iload_n 1, 1) := by decide +kernel
theorem dX4_join_37 : decode cX4_join 37 = .ok (.iload_n 2, 1) := by decide +kernel
theorem dX4_join_38 : decode cX4_join 38 = .ok (.imul, 1) := by decide +kernel
theorem dX4_join_39 : decode cX4_join 39 = .ok (.ireturn, 1) := by decide +kernel
theorem dX4_join_40 : decode cX4_join 40 = .ok (.iload_n 2, 1) := by decide +kernel
theorem dX4_join_41 : decode cX4_join 41 = .ok (.ifCond .ne 7, 3) := by decide +kernel
theorem dX4_join_44 : decode cX4_join 44 = .ok (.iconst 0, 1) := by decide +kernel
theorem dX4_join_45 : decode cX4_join 45 = .ok (.goto 6, 3) := by decide +kernel
theorem dX4_join_48 : decode cX4_join 48 = .ok (.iload_n 1, 1) := by decide +kernel
theorem dX4_join_49 : decode cX4_join 49 = .ok (.iload_n 2, 1) := by decide +kernel
theorem dX4_join_50 : decode cX4_join 50 = .ok (.idiv, 1) := by decide +kernel
theorem dX4_join_51 : decode cX4_join 51 = .ok (.ireturn, 1) := by decide +kernel
def jX4_join_51 (Y : XS) (n : Nat) (S : PS) (t0 : Int32) : Option (Int32) :=
  some t0
def fX4_join (Y : XS) (n : Nat) (S : PS) (x0_ : Int32) (x1_ : Int32) (x2_ : Int32) : Option (Int32) :=
  (if x0_ = (-7 : Int32) then some (x1_ * x2_) else (if x0_ = (-6 : Int32) then some (x1_ - x2_) else (if x0_ = (-5 : Int32) then some (x1_ + x2_) else (if x2_ = 0 then jX4_join_51 Y n S (0 : Int32) else kidiv x1_ x2_ (fun z50 => jX4_join_51 Y n S z50)))))
theorem wjX4_join_51 {C : CT} {X : XT} (hC : CK C RX4 cX4_join 3 (some .int) 1) (n : Nat) (S : PS) (t0 : Int32)   {o : Int32} (hf : jX4_join_51 X.2.1 n S t0 = some o) (hR : Rt C X cX4_join (some .int) (some (.int o)) S) : UW C X S 51 [] [.int t0] := by
  unfold jX4_join_51 at hf
  cases hf
  exact hR _ _ dX4_join_51 trivial
theorem wX4_join {C : CT} {X : XT} (hC : CK C RX4 cX4_join 3 (some .int) 1) (n : Nat) (S : PS) (x0_ : Int32) (x1_ : Int32) (x2_ : Int32)  {o : Int32} (hf : fX4_join X.2.1 n S x0_ x1_ x2_ = some o) (hR : Rt C X cX4_join (some .int) (some (.int o)) S) : UW C X S 0 [(0, .int x0_), (1, .int x1_), (2, .int x2_)] [] := by
  unfold fX4_join at hf
  refine u_iload_n hC dX4_join_0 0 rfl rfl ?_
  by_cases hs1_0 : x0_ = (-7 : Int32)
  · rw [if_pos hs1_0] at hf
    refine u_tin (tgt := 36) hC dX4_join_1 (by rw [hs1_0]; decide) (by rw [hs1_0]; decide) (by rw [hs1_0]; rfl) (by decide) ?_
    refine u_iload_n hC dX4_join_36 1 rfl rfl ?_
    refine u_iload_n hC dX4_join_37 2 rfl rfl ?_
    refine u_imul hC dX4_join_38 ?_
    cases hf
    exact hR _ _ dX4_join_39 trivial
  rw [if_neg hs1_0] at hf
  by_cases hs1_1 : x0_ = (-6 : Int32)
  · rw [if_pos hs1_1] at hf
    refine u_tin (tgt := 32) hC dX4_join_1 (by rw [hs1_1]; decide) (by rw [hs1_1]; decide) (by rw [hs1_1]; rfl) (by decide) ?_
    refine u_iload_n hC dX4_join_32 1 rfl rfl ?_
    refine u_iload_n hC dX4_join_33 2 rfl rfl ?_
    refine u_isub hC dX4_join_34 ?_
    cases hf
    exact hR _ _ dX4_join_35 trivial
  rw [if_neg hs1_1] at hf
  by_cases hs1_2 : x0_ = (-5 : Int32)
  · rw [if_pos hs1_2] at hf
    refine u_tin (tgt := 28) hC dX4_join_1 (by rw [hs1_2]; decide) (by rw [hs1_2]; decide) (by rw [hs1_2]; rfl) (by decide) ?_
    refine u_iload_n hC dX4_join_28 1 rfl rfl ?_
    refine u_iload_n hC dX4_join_29 2 rfl rfl ?_
    refine u_iadd hC dX4_join_30 ?_
    cases hf
    exact hR _ _ dX4_join_31 trivial
  rw [if_neg hs1_2] at hf
  have hz1_0 := lv_neT (a := -7) hs1_0 (by decide)
  have hz1_1 := lv_neT (a := -6) hs1_1 (by decide)
  have hz1_2 := lv_neT (a := -5) hs1_2 (by decide)
  refine u_tout (tgt := 40) hC dX4_join_1 (by omega) (by decide) ?_
  refine u_iload_n hC dX4_join_40 2 rfl rfl ?_
  refine u_if_ne (tgt := 48) hC dX4_join_41 (by decide) hf (fun h41 hf => ?_) (fun h41 hf => ?_)
  · refine u_iload_n hC dX4_join_48 1 rfl rfl ?_
    refine u_iload_n hC dX4_join_49 2 rfl rfl ?_
    refine u_idiv hC dX4_join_50 hf (fun z50 hf => ?_)
    refine u_sub (lv' := []) [] rfl ?_
    exact wjX4_join_51 hC n S z50   hf hR
  · refine u_iconst (v := (0 : Int32)) hC dX4_join_44 (by decide) ?_
    refine u_goto (tgt := 51) hC dX4_join_45 (by decide) ?_
    refine u_sub (lv' := []) [] rfl ?_
    exact wjX4_join_51 hC n S (0 : Int32)   hf hR
theorem ctX4_join (l : Launch) (hl : l.stackTraces = false) (G : GT) (ρ : Nat → Nat) (Y : XS) (n : Nat) (S : PS) (x0_ : Int32) (x1_ : Int32) (x2_ : Int32)  {o : Int32} (hf : fX4_join Y n S x0_ x1_ x2_ = some o) : Mt l G yX4_join cX4_join 3 (some .int) 1 ρ Y [.int x0_, .int x1_, .int x2_] S (some (.int o)) S :=
  Mt_of hl (by decide) (Nat.le_of_ble_eq_true rfl) (fun C _ _ hC hR => wX4_join (X := (ρ, Y, 0, 0)) hC n S x0_ x1_ x2_  hf hR)
-- X4_worthFor
theorem dX4_worthFor_0 : decode cX4_worthFor 0 = .ok (.iconst 0, 1) := by decide +kernel
theorem dX4_worthFor_1 : decode cX4_worthFor 1 = .ok (.istore 6, 2) := by decide +kernel
theorem dX4_worthFor_3 : decode cX4_worthFor 3 = .ok (.iconst 0, 1) := by decide +kernel
theorem dX4_worthFor_4 : decode cX4_worthFor 4 = .ok (.istore 7, 2) := by decide +kernel
theorem dX4_worthFor_6 : decode cX4_worthFor 6 = .ok (.iload 7, 2) := by decide +kernel
theorem dX4_worthFor_8 : decode cX4_worthFor 8 = .ok (.aload_n 0, 1) := by decide +kernel
theorem dX4_worthFor_9 : decode cX4_worthFor 9 = .ok (.getfield 9, 3) := by decide +kernel
theorem dX4_worthFor_12 : decode cX4_worthFor 12 = .ok (.arraylength, 1) := by decide +kernel
theorem dX4_worthFor_13 : decode cX4_worthFor 13 = .ok (.if_icmp .ge 94, 3) := by decide +kernel
theorem dX4_worthFor_16 : decode cX4_worthFor 16 = .ok (.aload_n 0, 1) := by decide +kernel
theorem dX4_worthFor_17 : decode cX4_worthFor 17 = .ok (.getfield 9, 3) := by decide +kernel
theorem dX4_worthFor_20 : decode cX4_worthFor 20 = .ok (.iload 7, 2) := by decide +kernel
theorem dX4_worthFor_22 : decode cX4_worthFor 22 = .ok (.iaload, 1) := by decide +kernel
theorem dX4_worthFor_23 : decode cX4_worthFor 23 = .ok (.istore 8, 2) := by decide +kernel
theorem dX4_worthFor_25 : decode cX4_worthFor 25 = .ok (.iload 8, 2) := by decide +kernel
theorem dX4_worthFor_27 : decode cX4_worthFor 27 = .ok (.bipush (-5), 2) := by decide +kernel
theorem dX4_worthFor_29 : decode cX4_worthFor 29 = .ok (.if_icmp .le 32, 3) := by decide +kernel
theorem dX4_worthFor_32 : decode cX4_worthFor 32 = .ok (.iload 6, 2) := by decide +kernel
theorem dX4_worthFor_34 : decode cX4_worthFor 34 = .ok (.aload 5, 2) := by decide +kernel
theorem dX4_worthFor_36 : decode cX4_worthFor 36 = .ok (.arraylength, 1) := by decide +kernel
theorem dX4_worthFor_37 : decode cX4_worthFor 37 = .ok (.if_icmp .ge 24, 3) := by decide +kernel
theorem dX4_worthFor_40 : decode cX4_worthFor 40 = .ok (.aload 5, 2) := by decide +kernel
theorem dX4_worthFor_42 : decode cX4_worthFor 42 = .ok (.iload 6, 2) := by decide +kernel
theorem dX4_worthFor_44 : decode cX4_worthFor 44 = .ok (.iload 8, 2) := by decide +kernel
theorem dX4_worthFor_46 : decode cX4_worthFor 46 = .ok (.iload_n 1, 1) := by decide +kernel
theorem dX4_worthFor_47 : decode cX4_worthFor 47 = .ok (.iload_n 2, 1) := by decide +kernel
theorem dX4_worthFor_48 : decode cX4_worthFor 48 = .ok (.iload_n 3, 1) := by decide +kernel
theorem dX4_worthFor_49 : decode cX4_worthFor 49 = .ok (.iload 4, 2) := by decide +kernel
theorem dX4_worthFor_51 : decode cX4_worthFor 51 = .ok (.invokestatic 15, 3) := by decide +kernel
theorem dX4_worthFor_54 : decode cX4_worthFor 54 = .ok (.iastore, 1) := by decide +kernel
theorem dX4_worthFor_55 : decode cX4_worthFor 55 = .ok (.iinc 6 1, 3) := by decide +kernel
theorem dX4_worthFor_58 : decode cX4_worthFor 58 = .ok (.goto 43, 3) := by decide +kernel
theorem dX4_worthFor_61 : decode cX4_worthFor 61 = .ok (.iload 8, 2) := by decide +kernel
theorem dX4_worthFor_63 : decode cX4_worthFor 63 = .ok (.bipush (-5), 2) := by decide +kernel
theorem dX4_worthFor_65 : decode cX4_worthFor 65 = .ok (.if_icmp .gt 36, 3) := by decide +kernel
theorem dX4_worthFor_68 : decode cX4_worthFor 68 = .ok (.iload 6, 2) := by decide +kernel
theorem dX4_worthFor_70 : decode cX4_worthFor 70 = .ok (.iconst 2, 1) := by decide +kernel
theorem dX4_worthFor_71 : decode cX4_worthFor 71 = .ok (.if_icmp .lt 30, 3) := by decide +kernel
theorem dX4_worthFor_74 : decode cX4_worthFor 74 = .ok (.iinc 6 (-1), 3) := by decide +kernel
theorem dX4_worthFor_77 : decode cX4_worthFor 77 = .ok (.aload 5, 2) := by decide +kernel
theorem dX4_worthFor_79 : decode cX4_worthFor 79 = .ok (.iload 6, 2) := by decide +kernel
theorem dX4_worthFor_81 : decode cX4_worthFor 81 = .ok (.iconst 1, 1) := by decide +kernel
theorem dX4_worthFor_82 : decode cX4_worthFor 82 = .ok (.isub, 1) := by decide +kernel
theorem dX4_worthFor_83 : decode cX4_worthFor 83 = .ok (.iload 8, 2) := by decide +kernel
theorem dX4_worthFor_85 : decode cX4_worthFor 85 = .ok (.aload 5, 2) := by decide +kernel
theorem dX4_worthFor_87 : decode cX4_worthFor 87 = .ok (.iload 6, 2) := by decide +kernel
theorem dX4_worthFor_89 : decode cX4_worthFor 89 = .ok (.iconst 1, 1) := by decide +kernel
theorem dX4_worthFor_90 : decode cX4_worthFor 90 = .ok (.isub, 1) := by decide +kernel
theorem dX4_worthFor_91 : decode cX4_worthFor 91 = .ok (.iaload, 1) := by decide +kernel
theorem dX4_worthFor_92 : decode cX4_worthFor 92 = .ok (.aload 5, 2) := by decide +kernel
theorem dX4_worthFor_94 : decode cX4_worthFor 94 = .ok (.iload 6, 2) := by decide +kernel
theorem dX4_worthFor_96 : decode cX4_worthFor 96 = .ok (.iaload, 1) := by decide +kernel
theorem dX4_worthFor_97 : decode cX4_worthFor 97 = .ok (.invokestatic 19, 3) := by decide +kernel
theorem dX4_worthFor_100 : decode cX4_worthFor 100 = .ok (.iastore, 1) := by decide +kernel
theorem dX4_worthFor_101 : decode cX4_worthFor 101 = .ok (.iinc 7 1, 3) := by decide +kernel
theorem dX4_worthFor_104 : decode cX4_worthFor 104 = .ok (.goto (-98), 3) := by decide +kernel
theorem dX4_worthFor_107 : decode cX4_worthFor 107 = .ok (.iload 6, 2) := by decide +kernel
theorem dX4_worthFor_109 : decode cX4_worthFor 109 = .ok (.ifCond .le 10, 3) := by decide +kernel
theorem dX4_worthFor_112 : decode cX4_worthFor 112 = .ok (.aload 5, 2) := by decide +kernel
theorem dX4_worthFor_114 : decode cX4_worthFor 114 = .ok (.iconst 0, 1) := by decide +kernel
theorem dX4_worthFor_115 : decode cX4_worthFor 115 = .ok (.iaload, 1) := by decide +kernel
theorem dX4_worthFor_116 : decode cX4_worthFor 116 = .ok (.goto 4, 3) := by decide +kernel
theorem dX4_worthFor_119 : decode cX4_worthFor 119 = .ok (.iconst 0, 1) := by decide +kernel
theorem dX4_worthFor_120 : decode cX4_worthFor 120 = .ok (.istore 7, 2) := by decide +kernel
theorem dX4_worthFor_122 : decode cX4_worthFor 122 = .ok (.iconst 0, 1) := by decide +kernel
theorem dX4_worthFor_123 : decode cX4_worthFor 123 = .ok (.sipush 9999, 3) := by decide +kernel
theorem dX4_worthFor_126 : decode cX4_worthFor 126 = .ok (.iload 7, 2) := by decide +kernel
theorem dX4_worthFor_128 : decode cX4_worthFor 128 = .ok (.invokestatic 23, 3) := by decide +kernel
theorem dX4_worthFor_131 : decode cX4_worthFor 131 = .ok (.invokestatic 29, 3) := by decide +kernel
theorem dX4_worthFor_134 : decode cX4_worthFor 134 = .ok (.ireturn, 1) := by decide +kernel
def jX4_worthFor_101_6 (Y : XS) (n : Nat) (S : PS) (v0 : Nat) (v1 : Int32) (v2 : Int32) (v3 : Int32) (v4 : Int32) (v5 : Nat) (v6 : Int32) (v7 : Int32) : Option ((Int32 × Int32 × PS) ⊕ (Int32 × PS)) :=
  some (.inl (v6, v7 + (1 : Int32), S))
def jX4_worthFor_61_6 (Y : XS) (n : Nat) (S : PS) (v0 : Nat) (v1 : Int32) (v2 : Int32) (v3 : Int32) (v4 : Int32) (v5 : Nat) (v6 : Int32) (v7 : Int32) (v8 : Int32) : Option ((Int32 × Int32 × PS) ⊕ (Int32 × PS)) :=
  (if (-5 : Int32) < v8 then jX4_worthFor_101_6 Y n S v0 v1 v2 v3 v4 v5 v6 v7 else (if v6 < (2 : Int32) then jX4_worthFor_101_6 Y n S v0 v1 v2 v3 v4 v5 v6 v7 else kai Y S v5 ((v6 + (-1 : Int32)) - (1 : Int32)) (fun x91 => kai Y S v5 (v6 + (-1 : Int32)) (fun x96 => kc (fX4_join Y n S v8 x91 x96) (fun q97 => kwi Y S v5 ((v6 + (-1 : Int32)) - (1 : Int32)) q97 (fun S100 => jX4_worthFor_101_6 Y n S100 v0 v1 v2 v3 v4 v5 (v6 + (-1 : Int32)) v7))))))
def bX4_worthFor_6 (Y : XS) (n : Nat) (v0 : Nat) (v1 : Int32) (v2 : Int32) (v3 : Int32) (v4 : Int32) (v5 : Nat) (s6 : (Int32 × Int32 × PS)) : Option ((Int32 × Int32 × PS) ⊕ (Int32 × PS)) :=
  kgr s6.2.2 v0 0 (fun b9 => kln Y b9 (fun x12 => (if x12 ≤ s6.2.1 then some (.inr (s6.1, s6.2.2)) else kgr s6.2.2 v0 0 (fun b17 => kai Y s6.2.2 b17 s6.2.1 (fun x22 => (if x22 ≤ (-5 : Int32) then jX4_worthFor_61_6 Y n s6.2.2 v0 v1 v2 v3 v4 v5 s6.1 s6.2.1 x22 else kln Y v5 (fun x36 => (if x36 ≤ s6.1 then jX4_worthFor_61_6 Y n s6.2.2 v0 v1 v2 v3 v4 v5 s6.1 s6.2.1 x22 else kc (fX4_valueOf Y n s6.2.2 x22 v1 v2 v3 v4) (fun q51 => kwi Y s6.2.2 v5 s6.1 q51 (fun S54 => jX4_worthFor_101_6 Y n S54 v0 v1 v2 v3 v4 v5 (s6.1 + (1 : Int32)) s6.2.1))))))))))
def jX4_worthFor_120 (Y : XS) (n : Nat) (S : PS) (t0 : Int32) : Option (Int32 × PS) :=
  some (imax (0 : Int32) (imin (9999 : Int32) t0), S)
def fX4_worthFor (Y : XS) (n : Nat) (S : PS) (a0 : Nat) (x1_ : Int32) (x2_ : Int32) (x3_ : Int32) (x4_ : Int32) (a5 : Nat) : Option (Int32 × PS) :=
  kc (iter (bX4_worthFor_6 Y n a0 x1_ x2_ x3_ x4_ a5) n ((0 : Int32), (0 : Int32), S)) (fun r6 => (if r6.1 ≤ 0 then jX4_worthFor_120 Y n r6.2 (0 : Int32) else kai Y r6.2 a5 (0 : Int32) (fun x115 => jX4_worthFor_120 Y n r6.2 x115)))
theorem wjX4_worthFor_101_6 {C : CT} {X : XT} (hC : CK C RX4 cX4_worthFor 9 (some .int) 2) (n : Nat) (S : PS) (v0 : Nat) (v1 : Int32) (v2 : Int32) (v3 : Int32) (v4 : Int32) (v5 : Nat) (v6 : Int32) (v7 : Int32)  (hTv0 : Ty X.2.1 v0 4) (hTv5 : Ty X.2.1 v5 12) {o : (Int32 × Int32 × PS) ⊕ (Int32 × PS)} (hf : jX4_worthFor_101_6 X.2.1 n S v0 v1 v2 v3 v4 v5 v6 v7 = some o) (hN : ∀ s', o = .inl s' → UW C X s'.2.2 6 [(0, .ref (X.1 v0)), (1, .int v1), (2, .int v2), (3, .int v3), (4, .int v4), (5, .ref (X.1 v5)), (6, .int s'.1), (7, .int s'.2.1)] []) (hO0 : ∀ p', o = .inr p' → UW C X p'.2 107 [(5, .ref (X.1 v5)), (6, .int p'.1)] []) : UW C X S 101 [(0, .ref (X.1 v0)), (1, .int v1), (2, .int v2), (3, .int v3), (4, .int v4), (5, .ref (X.1 v5)), (6, .int v6), (7, .int v7)] [] := by
  unfold jX4_worthFor_101_6 at hf
  refine u_iinc (v := v7 + (1 : Int32)) (lv' := [(7, .int (v7 + (1 : Int32))), (0, .ref (X.1 v0)), (1, .int v1), (2, .int v2), (3, .int v3), (4, .int v4), (5, .ref (X.1 v5)), (6, .int v6)]) hC dX4_worthFor_101 7 rfl rfl (by decide) rfl ?_
  refine u_goto (tgt := 6) hC dX4_worthFor_104 (by decide) ?_
  refine u_sub (lv' := [(0, .ref (X.1 v0)), (1, .int v1), (2, .int v2), (3, .int v3), (4, .int v4), (5, .ref (X.1 v5)), (6, .int v6), (7, .int (v7 + (1 : Int32)))]) [1, 2, 3, 4, 5, 6, 7, 0] rfl ?_
  exact hN _ (Option.some.inj hf).symm
theorem wjX4_worthFor_61_6 {C : CT} {X : XT} (hC : CK C RX4 cX4_worthFor 9 (some .int) 2) (n : Nat) (S : PS) (v0 : Nat) (v1 : Int32) (v2 : Int32) (v3 : Int32) (v4 : Int32) (v5 : Nat) (v6 : Int32) (v7 : Int32) (v8 : Int32)  (hTv0 : Ty X.2.1 v0 4) (hTv5 : Ty X.2.1 v5 12) {o : (Int32 × Int32 × PS) ⊕ (Int32 × PS)} (hf : jX4_worthFor_61_6 X.2.1 n S v0 v1 v2 v3 v4 v5 v6 v7 v8 = some o) (hN : ∀ s', o = .inl s' → UW C X s'.2.2 6 [(0, .ref (X.1 v0)), (1, .int v1), (2, .int v2), (3, .int v3), (4, .int v4), (5, .ref (X.1 v5)), (6, .int s'.1), (7, .int s'.2.1)] []) (hO0 : ∀ p', o = .inr p' → UW C X p'.2 107 [(5, .ref (X.1 v5)), (6, .int p'.1)] []) : UW C X S 61 [(0, .ref (X.1 v0)), (1, .int v1), (2, .int v2), (3, .int v3), (4, .int v4), (5, .ref (X.1 v5)), (6, .int v6), (7, .int v7), (8, .int v8)] [] := by
  unfold jX4_worthFor_61_6 at hf
  refine u_iload hC dX4_worthFor_61 8 rfl ?_
  refine u_bipush (v := (-5 : Int32)) hC dX4_worthFor_63 (by decide) ?_
  refine u_icmp_gt (tgt := 101) hC dX4_worthFor_65 (by decide) hf (fun h65 hf => ?_) (fun h65 hf => ?_)
  · refine u_sub (lv' := [(0, .ref (X.1 v0)), (1, .int v1), (2, .int v2), (3, .int v3), (4, .int v4), (5, .ref (X.1 v5)), (6, .int v6), (7, .int v7)]) [0, 1, 2, 3, 4, 5, 6, 7] rfl ?_
    exact wjX4_worthFor_101_6 hC n S v0 v1 v2 v3 v4 v5 v6 v7  hTv0 hTv5 hf hN hO0
  · refine u_iload hC dX4_worthFor_68 6 rfl ?_
    refine u_iconst (v := (2 : Int32)) hC dX4_worthFor_70 (by decide) ?_
    refine u_icmp_lt (tgt := 101) hC dX4_worthFor_71 (by decide) hf (fun h71 hf => ?_) (fun h71 hf => ?_)
    · refine u_sub (lv' := [(0, .ref (X.1 v0)), (1, .int v1), (2, .int v2), (3, .int v3), (4, .int v4), (5, .ref (X.1 v5)), (6, .int v6), (7, .int v7)]) [0, 1, 2, 3, 4, 5, 6, 7] rfl ?_
      exact wjX4_worthFor_101_6 hC n S v0 v1 v2 v3 v4 v5 v6 v7  hTv0 hTv5 hf hN hO0
    · refine u_iinc (v := v6 + (-1 : Int32)) (lv' := [(6, .int (v6 + (-1 : Int32))), (0, .ref (X.1 v0)), (1, .int v1), (2, .int v2), (3, .int v3), (4, .int v4), (5, .ref (X.1 v5)), (7, .int v7), (8, .int v8)]) hC dX4_worthFor_74 6 rfl rfl (by decide) rfl ?_
      refine u_aload hC dX4_worthFor_77 6 rfl ?_
      refine u_iload hC dX4_worthFor_79 0 rfl ?_
      refine u_iconst (v := (1 : Int32)) hC dX4_worthFor_81 (by decide) ?_
      refine u_isub hC dX4_worthFor_82 ?_
      refine u_iload hC dX4_worthFor_83 8 rfl ?_
      refine u_aload hC dX4_worthFor_85 6 rfl ?_
      refine u_iload hC dX4_worthFor_87 0 rfl ?_
      refine u_iconst (v := (1 : Int32)) hC dX4_worthFor_89 (by decide) ?_
      refine u_isub hC dX4_worthFor_90 ?_
      refine u_ai hC hTv5 dX4_worthFor_91 hf (fun x91 hf => ?_)
      refine u_aload hC dX4_worthFor_92 6 rfl ?_
      refine u_iload hC dX4_worthFor_94 0 rfl ?_
      refine u_ai hC hTv5 dX4_worthFor_96 hf (fun x96 hf => ?_)
      obtain ⟨q97, hq97, hf⟩ := kc_some hf
      refine u_callS hC (ctX4_join (cL C) hC.tr (cG C) X.1 X.2.1 n S v8 x91 x96  hq97) lk_X4_19 (by decide) (by decide) rfl rfl (Nat.le_of_ble_eq_true rfl) dX4_worthFor_97 ?_
      refine u_wi hC hTv5 dX4_worthFor_100 hf (fun S100 hf => ?_)
      refine u_sub (lv' := [(0, .ref (X.1 v0)), (1, .int v1), (2, .int v2), (3, .int v3), (4, .int v4), (5, .ref (X.1 v5)), (6, .int (v6 + (-1 : Int32))), (7, .int v7)]) [1, 2, 3, 4, 5, 6, 0, 7] rfl ?_
      exact wjX4_worthFor_101_6 hC n S100 v0 v1 v2 v3 v4 v5 (v6 + (-1 : Int32)) v7  hTv0 hTv5 hf hN hO0
theorem wbX4_worthFor_6 {C : CT} {X : XT} (hC : CK C RX4 cX4_worthFor 9 (some .int) 2) (n : Nat) (v0 : Nat) (v1 : Int32) (v2 : Int32) (v3 : Int32) (v4 : Int32) (v5 : Nat) (hTv0 : Ty X.2.1 v0 4) (hTv5 : Ty X.2.1 v5 12) (s6 : (Int32 × Int32 × PS)) {o : (Int32 × Int32 × PS) ⊕ (Int32 × PS)} (hf : bX4_worthFor_6 X.2.1 n v0 v1 v2 v3 v4 v5 s6 = some o) (hN : ∀ s', o = .inl s' → UW C X s'.2.2 6 [(0, .ref (X.1 v0)), (1, .int v1), (2, .int v2), (3, .int v3), (4, .int v4), (5, .ref (X.1 v5)), (6, .int s'.1), (7, .int s'.2.1)] []) (hO0 : ∀ p', o = .inr p' → UW C X p'.2 107 [(5, .ref (X.1 v5)), (6, .int p'.1)] []) : UW C X s6.2.2 6 [(0, .ref (X.1 v0)), (1, .int v1), (2, .int v2), (3, .int v3), (4, .int v4), (5, .ref (X.1 v5)), (6, .int s6.1), (7, .int s6.2.1)] [] := by
  unfold bX4_worthFor_6 at hf
  refine u_iload hC dX4_worthFor_6 7 rfl ?_
  refine u_aload_n hC dX4_worthFor_8 0 rfl rfl ?_
  refine u_gr hC lf_X4_9 rfl hTv0 dX4_worthFor_9 hf (fun b9 hTb9 hf => ?_)
  refine u_ln hC hTb9 dX4_worthFor_12 hf (fun x12 hf => ?_)
  refine u_icmp_ge (tgt := 107) hC dX4_worthFor_13 (by decide) hf (fun h13 hf => ?_) (fun h13 hf => ?_)
  · refine u_sub (lv' := [(5, .ref (X.1 v5)), (6, .int s6.1)]) [5, 6] rfl ?_
    exact hO0 _ (Option.some.inj hf).symm
  · refine u_aload_n hC dX4_worthFor_16 0 rfl rfl ?_
    refine u_gr hC lf_X4_9 rfl hTv0 dX4_worthFor_17 hf (fun b17 hTb17 hf => ?_)
    refine u_iload hC dX4_worthFor_20 7 rfl ?_
    refine u_ai hC hTb17 dX4_worthFor_22 hf (fun x22 hf => ?_)
    refine u_istore (lv' := [(8, .int x22), (0, .ref (X.1 v0)), (1, .int v1), (2, .int v2), (3, .int v3), (4, .int v4), (5, .ref (X.1 v5)), (6, .int s6.1), (7, .int s6.2.1)]) hC dX4_worthFor_23 (by decide) rfl ?_
    refine u_iload hC dX4_worthFor_25 0 rfl ?_
    refine u_bipush (v := (-5 : Int32)) hC dX4_worthFor_27 (by decide) ?_
    refine u_icmp_le (tgt := 61) hC dX4_worthFor_29 (by decide) hf (fun h29 hf => ?_) (fun h29 hf => ?_)
    · refine u_sub (lv' := [(0, .ref (X.1 v0)), (1, .int v1), (2, .int v2), (3, .int v3), (4, .int v4), (5, .ref (X.1 v5)), (6, .int s6.1), (7, .int s6.2.1), (8, .int x22)]) [1, 2, 3, 4, 5, 6, 7, 8, 0] rfl ?_
      exact wjX4_worthFor_61_6 hC n s6.2.2 v0 v1 v2 v3 v4 v5 s6.1 s6.2.1 x22  hTv0 hTv5 hf hN hO0
    · refine u_iload hC dX4_worthFor_32 7 rfl ?_
      refine u_aload hC dX4_worthFor_34 6 rfl ?_
      refine u_ln hC hTv5 dX4_worthFor_36 hf (fun x36 hf => ?_)
      refine u_icmp_ge (tgt := 61) hC dX4_worthFor_37 (by decide) hf (fun h37 hf => ?_) (fun h37 hf => ?_)
      · refine u_sub (lv' := [(0, .ref (X.1 v0)), (1, .int v1), (2, .int v2), (3, .int v3), (4, .int v4), (5, .ref (X.1 v5)), (6, .int s6.1), (7, .int s6.2.1), (8, .int x22)]) [1, 2, 3, 4, 5, 6, 7, 8, 0] rfl ?_
        exact wjX4_worthFor_61_6 hC n s6.2.2 v0 v1 v2 v3 v4 v5 s6.1 s6.2.1 x22  hTv0 hTv5 hf hN hO0
      · refine u_aload hC dX4_worthFor_40 6 rfl ?_
        refine u_iload hC dX4_worthFor_42 7 rfl ?_
        refine u_iload hC dX4_worthFor_44 0 rfl ?_
        refine u_iload_n hC dX4_worthFor_46 2 rfl rfl ?_
        refine u_iload_n hC dX4_worthFor_47 3 rfl rfl ?_
        refine u_iload_n hC dX4_worthFor_48 4 rfl rfl ?_
        refine u_iload hC dX4_worthFor_49 5 rfl ?_
        obtain ⟨q51, hq51, hf⟩ := kc_some hf
        refine u_callS hC (ctX4_valueOf (cL C) hC.tr (cG C) X.1 X.2.1 n s6.2.2 x22 v1 v2 v3 v4  hq51) lk_X4_15 (by decide) (by decide) rfl rfl (Nat.le_of_ble_eq_true rfl) dX4_worthFor_51 ?_
        refine u_wi hC hTv5 dX4_worthFor_54 hf (fun S54 hf => ?_)
        refine u_iinc (v := s6.1 + (1 : Int32)) (lv' := [(6, .int (s6.1 + (1 : Int32))), (8, .int x22), (0, .ref (X.1 v0)), (1, .int v1), (2, .int v2), (3, .int v3), (4, .int v4), (5, .ref (X.1 v5)), (7, .int s6.2.1)]) hC dX4_worthFor_55 7 rfl rfl (by decide) rfl ?_
        refine u_goto (tgt := 101) hC dX4_worthFor_58 (by decide) ?_
        refine u_sub (lv' := [(0, .ref (X.1 v0)), (1, .int v1), (2, .int v2), (3, .int v3), (4, .int v4), (5, .ref (X.1 v5)), (6, .int (s6.1 + (1 : Int32))), (7, .int s6.2.1)]) [2, 3, 4, 5, 6, 7, 0, 8] rfl ?_
        exact wjX4_worthFor_101_6 hC n S54 v0 v1 v2 v3 v4 v5 (s6.1 + (1 : Int32)) s6.2.1  hTv0 hTv5 hf hN hO0
theorem wjX4_worthFor_120 {C : CT} {X : XT} (hC : CK C RX4 cX4_worthFor 9 (some .int) 2) (n : Nat) (S : PS) (t0 : Int32)   {o : Int32 × PS} (hf : jX4_worthFor_120 X.2.1 n S t0 = some o) (hR : Rt C X cX4_worthFor (some .int) (some (.int o.1)) o.2) : UW C X S 120 [] [.int t0] := by
  unfold jX4_worthFor_120 at hf
  refine u_istore (lv' := [(7, .int t0)]) hC dX4_worthFor_120 (by decide) rfl ?_
  refine u_iconst (v := (0 : Int32)) hC dX4_worthFor_122 (by decide) ?_
  refine u_sipush (v := (9999 : Int32)) hC dX4_worthFor_123 (by decide) ?_
  refine u_iload hC dX4_worthFor_126 0 rfl ?_
  refine u_mmin hC (tb_2 235 rfl rfl) (by decide) (Nat.le_of_ble_eq_true rfl) dX4_worthFor_128 ?_
  refine u_mmax hC (tb_2 238 rfl rfl) (by decide) (Nat.le_of_ble_eq_true rfl) dX4_worthFor_131 ?_
  cases hf
  exact hR _ _ dX4_worthFor_134 trivial
theorem wX4_worthFor {C : CT} {X : XT} (hC : CK C RX4 cX4_worthFor 9 (some .int) 2) (n : Nat) (S : PS) (a0 : Nat) (x1_ : Int32) (x2_ : Int32) (x3_ : Int32) (x4_ : Int32) (a5 : Nat) (hTa0 : Ty X.2.1 a0 4) (hTa5 : Ty X.2.1 a5 12) {o : Int32 × PS} (hf : fX4_worthFor X.2.1 n S a0 x1_ x2_ x3_ x4_ a5 = some o) (hR : Rt C X cX4_worthFor (some .int) (some (.int o.1)) o.2) : UW C X S 0 [(0, .ref (X.1 a0)), (1, .int x1_), (2, .int x2_), (3, .int x3_), (4, .int x4_), (5, .ref (X.1 a5))] [] := by
  unfold fX4_worthFor at hf
  refine u_iconst (v := (0 : Int32)) hC dX4_worthFor_0 (by decide) ?_
  refine u_istore (lv' := [(6, .int (0 : Int32)), (0, .ref (X.1 a0)), (1, .int x1_), (2, .int x2_), (3, .int x3_), (4, .int x4_), (5, .ref (X.1 a5))]) hC dX4_worthFor_1 (by decide) rfl ?_
  refine u_iconst (v := (0 : Int32)) hC dX4_worthFor_3 (by decide) ?_
  refine u_istore (lv' := [(7, .int (0 : Int32)), (6, .int (0 : Int32)), (0, .ref (X.1 a0)), (1, .int x1_), (2, .int x2_), (3, .int x3_), (4, .int x4_), (5, .ref (X.1 a5))]) hC dX4_worthFor_4 (by decide) rfl ?_
  obtain ⟨r6, hr6, hf⟩ := kc_some hf
  have hk6 : UW C X r6.2 107 [(5, .ref (X.1 a5)), (6, .int r6.1)] [] := by
    refine u_iload hC dX4_worthFor_107 1 rfl ?_
    refine u_if_le (tgt := 119) hC dX4_worthFor_109 (by decide) hf (fun h109 hf => ?_) (fun h109 hf => ?_)
    · refine u_iconst (v := (0 : Int32)) hC dX4_worthFor_119 (by decide) ?_
      refine u_sub (lv' := []) [] rfl ?_
      exact wjX4_worthFor_120 hC n r6.2 (0 : Int32)   hf hR
    · refine u_aload hC dX4_worthFor_112 0 rfl ?_
      refine u_iconst (v := (0 : Int32)) hC dX4_worthFor_114 (by decide) ?_
      refine u_ai hC hTa5 dX4_worthFor_115 hf (fun x115 hf => ?_)
      refine u_goto (tgt := 120) hC dX4_worthFor_116 (by decide) ?_
      refine u_sub (lv' := []) [] rfl ?_
      exact wjX4_worthFor_120 hC n r6.2 x115   hf hR
  refine u_sub (lv' := [(0, .ref (X.1 a0)), (1, .int x1_), (2, .int x2_), (3, .int x3_), (4, .int x4_), (5, .ref (X.1 a5)), (6, .int (0 : Int32)), (7, .int (0 : Int32))]) [2, 3, 4, 5, 6, 7, 1, 0] rfl ?_
  refine iter_ind (P := fun s6 => UW C X s6.2.2 6 [(0, .ref (X.1 a0)), (1, .int x1_), (2, .int x2_), (3, .int x3_), (4, .int x4_), (5, .ref (X.1 a5)), (6, .int s6.1), (7, .int s6.2.1)] []) (fun s6 o' hb hin hout => ?_) n ((0 : Int32), (0 : Int32), S) hr6
  exact wbX4_worthFor_6 hC n a0 x1_ x2_ x3_ x4_ a5 hTa0 hTa5 s6 hb hin (fun p e => by rw [hout p e]; exact hk6)
theorem ctX4_worthFor (l : Launch) (hl : l.stackTraces = false) (G : GT) (ρ : Nat → Nat) (Y : XS) (n : Nat) (S : PS) (a0 : Nat) (x1_ : Int32) (x2_ : Int32) (x3_ : Int32) (x4_ : Int32) (a5 : Nat) (hTa0 : Ty Y a0 4) (hTa5 : Ty Y a5 12) {o : Int32 × PS} (hf : fX4_worthFor Y n S a0 x1_ x2_ x3_ x4_ a5 = some o) : Mt l G yX4_worthFor cX4_worthFor 9 (some .int) 2 ρ Y [.ref (ρ a0), .int x1_, .int x2_, .int x3_, .int x4_, .ref (ρ a5)] S (some (.int o.1)) o.2 :=
  Mt_of hl (by decide) (Nat.le_of_ble_eq_true rfl) (fun C _ _ hC hR => wX4_worthFor (X := (ρ, Y, 0, 0)) hC n S a0 x1_ x2_ x3_ x4_ a5 hTa0 hTa5 hf hR)
