-- X5_clear
theorem dX5_clear_0 : decode cX5_clear 0 = .ok (.aload_n 0, 1) := by decide +kernel
theorem dX5_clear_1 : decode cX5_clear 1 = .ok (.iconst 0, 1) := by decide +kernel
theorem dX5_clear_2 : decode cX5_clear 2 = .ok (.putfield 15, 3) := by decide +kernel
theorem dX5_clear_5 : decode cX5_clear 5 = .ok (.aload_n 0, 1) := by decide +kernel
theorem dX5_clear_6 : decode cX5_clear 6 = .ok (.iconst 0, 1) := by decide +kernel
theorem dX5_clear_7 : decode cX5_clear 7 = .ok (.putfield 19, 3) := by decide +kernel
theorem dX5_clear_10 : decode cX5_clear 10 = .ok (.aload_n 0, 1) := by decide +kernel
theorem dX5_clear_11 : decode cX5_clear 11 = .ok (.iconst 0, 1) := by decide +kernel
theorem dX5_clear_12 : decode cX5_clear 12 = .ok (.putfield 22, 3) := by decide +kernel
theorem dX5_clear_15 : decode cX5_clear 15 = .ok (.aload_n 0, 1) := by decide +kernel
theorem dX5_clear_16 : decode cX5_clear 16 = .ok (.iconst 0, 1) := by decide +kernel
theorem dX5_clear_17 : decode cX5_clear 17 = .ok (.putfield 25, 3) := by decide +kernel
theorem dX5_clear_20 : decode cX5_clear 20 = .ok (.aload_n 0, 1) := by decide +kernel
theorem dX5_clear_21 : decode cX5_clear 21 = .ok (.iconst 0, 1) := by decide +kernel
theorem dX5_clear_22 : decode cX5_clear 22 = .ok (.putfield 28, 3) := by decide +kernel
theorem dX5_clear_25 : decode cX5_clear 25 = .ok (.aload_n 0, 1) := by decide +kernel
theorem dX5_clear_26 : decode cX5_clear 26 = .ok (.iconst 0, 1) := by decide +kernel
theorem dX5_clear_27 : decode cX5_clear 27 = .ok (.putfield 46, 3) := by decide +kernel
theorem dX5_clear_30 : decode cX5_clear 30 = .ok (.return_, 1) := by decide +kernel
def fX5_clear (Y : XS) (n : Nat) (S : PS) (a0 : Nat) : Option (PS) :=
  kpi S a0 1 (0 : Int32) (fun S2 => kpi S2 a0 2 (0 : Int32) (fun S7 => kpi S7 a0 3 (0 : Int32) (fun S12 => kpi S12 a0 4 (0 : Int32) (fun S17 => kpi S17 a0 5 (0 : Int32) (fun S22 => kpz S22 a0 11 (0 : Int32) (fun S27 => some S27))))))
theorem wX5_clear {C : CT} {X : XT} (hC : CK C RX5 cX5_clear 1 none 1) (n : Nat) (S : PS) (a0 : Nat) (hTa0 : Ty X.2.1 a0 5) {o : PS} (hf : fX5_clear X.2.1 n S a0 = some o) (hR : Rt C X cX5_clear none none o) : UW C X S 0 [(0, .ref (X.1 a0))] [] := by
  unfold fX5_clear at hf
  refine u_aload_n hC dX5_clear_0 0 rfl rfl ?_
  refine u_iconst (v := (0 : Int32)) hC dX5_clear_1 (by decide) ?_
  refine u_pi hC lf_X5_15 rfl rfl rfl hTa0 dX5_clear_2 hf (fun S2 hf => ?_)
  refine u_aload_n hC dX5_clear_5 0 rfl rfl ?_
  refine u_iconst (v := (0 : Int32)) hC dX5_clear_6 (by decide) ?_
  refine u_pi hC lf_X5_19 rfl rfl rfl hTa0 dX5_clear_7 hf (fun S7 hf => ?_)
  refine u_aload_n hC dX5_clear_10 0 rfl rfl ?_
  refine u_iconst (v := (0 : Int32)) hC dX5_clear_11 (by decide) ?_
  refine u_pi hC lf_X5_22 rfl rfl rfl hTa0 dX5_clear_12 hf (fun S12 hf => ?_)
  refine u_aload_n hC dX5_clear_15 0 rfl rfl ?_
  refine u_iconst (v := (0 : Int32)) hC dX5_clear_16 (by decide) ?_
  refine u_pi hC lf_X5_25 rfl rfl rfl hTa0 dX5_clear_17 hf (fun S17 hf => ?_)
  refine u_aload_n hC dX5_clear_20 0 rfl rfl ?_
  refine u_iconst (v := (0 : Int32)) hC dX5_clear_21 (by decide) ?_
  refine u_pi hC lf_X5_28 rfl rfl rfl hTa0 dX5_clear_22 hf (fun S22 hf => ?_)
  refine u_aload_n hC dX5_clear_25 0 rfl rfl ?_
  refine u_iconst (v := (0 : Int32)) hC dX5_clear_26 (by decide) ?_
  refine u_pz hC lf_X5_46 rfl rfl rfl hTa0 dX5_clear_27 hf (fun S27 hf => ?_)
  cases hf
  exact hR _ _ dX5_clear_30 trivial
theorem ctX5_clear (l : Launch) (hl : l.stackTraces = false) (G : GT) (ρ : Nat → Nat) (Y : XS) (n : Nat) (S : PS) (a0 : Nat) (hTa0 : Ty Y a0 5) {o : PS} (hf : fX5_clear Y n S a0 = some o) : Mt l G yX5_clear cX5_clear 1 none 1 ρ Y [.ref (ρ a0)] S none o :=
  Mt_of hl (by decide) (Nat.le_of_ble_eq_true rfl) (fun C _ _ hC hR => wX5_clear (X := (ρ, Y, 0, 0)) hC n S a0 hTa0 hf hR)
-- X5_add
theorem dX5_add_0 : decode cX5_add 0 = .ok (.aload_n 0, 1) := by decide +kernel
theorem dX5_add_1 : decode cX5_add 1 = .ok (.getfield 15, 3) := by decide +kernel
theorem dX5_add_4 : decode cX5_add 4 = .ok (.bipush 12, 2) := by decide +kernel
theorem dX5_add_6 : decode cX5_add 6 = .ok (.if_icmp .ge 45, 3) := by decide +kernel
theorem dX5_add_9 : decode cX5_add 9 = .ok (.aload_n 0, 1) := by decide +kernel
theorem dX5_add_10 : decode cX5_add 10 = .ok (.getfield 9, 3) := by decide +kernel
theorem dX5_add_13 : decode cX5_add 13 = .ok (.aload_n 0, 1) := by decide +kernel
theorem dX5_add_14 : decode cX5_add 14 = .ok (.getfield 15, 3) := by decide +kernel
theorem dX5_add_17 : decode cX5_add 17 = .ok (.iload_n 1, 1) := by decide +kernel
theorem dX5_add_18 : decode cX5_add 18 = .ok (.iastore, 1) := by decide +kernel
theorem dX5_add_19 : decode cX5_add 19 = .ok (.aload_n 0, 1) := by decide +kernel
theorem dX5_add_20 : decode cX5_add 20 = .ok (.dup, 1) := by decide +kernel
theorem dX5_add_21 : decode cX5_add 21 = .ok (.getfield 15, 3) := by decide +kernel
theorem dX5_add_24 : decode cX5_add 24 = .ok (.iconst 1, 1) := by decide +kernel
theorem dX5_add_25 : decode cX5_add 25 = .ok (.iadd, 1) := by decide +kernel
theorem dX5_add_26 : decode cX5_add 26 = .ok (.putfield 15, 3) := by decide +kernel
theorem dX5_add_29 : decode cX5_add 29 = .ok (.aload_n 0, 1) := by decide +kernel
theorem dX5_add_30 : decode cX5_add 30 = .ok (.dup, 1) := by decide +kernel
theorem dX5_add_31 : decode cX5_add 31 = .ok (.getfield 19, 3) := by decide +kernel
theorem dX5_add_34 : decode cX5_add 34 = .ok (.iconst 1, 1) := by decide +kernel
theorem dX5_add_35 : decode cX5_add 35 = .ok (.iload_n 1, 1) := by decide +kernel
theorem dX5_add_36 : decode cX5_add 36 = .ok (.ishl, 1) := by decide +kernel
theorem dX5_add_37 : decode cX5_add 37 = .ok (.ior, 1) := by decide +kernel
theorem dX5_add_38 : decode cX5_add 38 = .ok (.putfield 19, 3) := by decide +kernel
theorem dX5_add_41 : decode cX5_add 41 = .ok (.aload_n 0, 1) := by decide +kernel
theorem dX5_add_42 : decode cX5_add 42 = .ok (.dup, 1) := by decide +kernel
theorem dX5_add_43 : decode cX5_add 43 = .ok (.getfield 22, 3) := by decide +kernel
theorem dX5_add_46 : decode cX5_add 46 = .ok (.iload_n 2, 1) := by decide +kernel
theorem dX5_add_47 : decode cX5_add 47 = .ok (.iadd, 1) := by decide +kernel
theorem dX5_add_48 : decode cX5_add 48 = .ok (.putfield 22, 3) := by decide +kernel
theorem dX5_add_51 : decode cX5_add 51 = .ok (.return_, 1) := by decide +kernel
def jX5_add_51 (Y : XS) (n : Nat) (S : PS)  : Option (PS) :=
  some S
def fX5_add (Y : XS) (n : Nat) (S : PS) (a0 : Nat) (x1_ : Int32) (x2_ : Int32) : Option (PS) :=
  kgi S a0 1 (fun x1 => (if (12 : Int32) ≤ x1 then jX5_add_51 Y n S  else kgr S a0 0 (fun b10 => kgi S a0 1 (fun x14 => kwi Y S b10 x14 x1_ (fun S18 => kgi S18 a0 1 (fun x21 => kpi S18 a0 1 (x21 + (1 : Int32)) (fun S26 => kgi S26 a0 2 (fun x31 => kpi S26 a0 2 (x31 ||| ((1 : Int32) <<< (x1_ &&& 31))) (fun S38 => kgi S38 a0 3 (fun x43 => kpi S38 a0 3 (x43 + x2_) (fun S48 => jX5_add_51 Y n S48 )))))))))))
theorem wjX5_add_51 {C : CT} {X : XT} (hC : CK C RX5 cX5_add 3 none 1) (n : Nat) (S : PS)    {o : PS} (hf : jX5_add_51 X.2.1 n S  = some o) (hR : Rt C X cX5_add none none o) : UW C X S 51 [] [] := by
  unfold jX5_add_51 at hf
  cases hf
  exact hR _ _ dX5_add_51 trivial
theorem wX5_add {C : CT} {X : XT} (hC : CK C RX5 cX5_add 3 none 1) (n : Nat) (S : PS) (a0 : Nat) (x1_ : Int32) (x2_ : Int32) (hTa0 : Ty X.2.1 a0 5) {o : PS} (hf : fX5_add X.2.1 n S a0 x1_ x2_ = some o) (hR : Rt C X cX5_add none none o) : UW C X S 0 [(0, .ref (X.1 a0)), (1, .int x1_), (2, .int x2_)] [] := by
  unfold fX5_add at hf
  refine u_aload_n hC dX5_add_0 0 rfl rfl ?_
  refine u_gi hC lf_X5_15 rfl hTa0 dX5_add_1 hf (fun x1 hf => ?_)
  refine u_bipush (v := (12 : Int32)) hC dX5_add_4 (by decide) ?_
  refine u_icmp_ge (tgt := 51) hC dX5_add_6 (by decide) hf (fun h6 hf => ?_) (fun h6 hf => ?_)
  · refine u_sub (lv' := []) [] rfl ?_
    exact wjX5_add_51 hC n S    hf hR
  · refine u_aload_n hC dX5_add_9 0 rfl rfl ?_
    refine u_gr hC lf_X5_9 rfl hTa0 dX5_add_10 hf (fun b10 hTb10 hf => ?_)
    refine u_aload_n hC dX5_add_13 0 rfl rfl ?_
    refine u_gi hC lf_X5_15 rfl hTa0 dX5_add_14 hf (fun x14 hf => ?_)
    refine u_iload_n hC dX5_add_17 1 rfl rfl ?_
    refine u_wi hC hTb10 dX5_add_18 hf (fun S18 hf => ?_)
    refine u_aload_n hC dX5_add_19 0 rfl rfl ?_
    refine u_dup hC dX5_add_20 rfl ?_
    refine u_gi hC lf_X5_15 rfl hTa0 dX5_add_21 hf (fun x21 hf => ?_)
    refine u_iconst (v := (1 : Int32)) hC dX5_add_24 (by decide) ?_
    refine u_iadd hC dX5_add_25 ?_
    refine u_pi hC lf_X5_15 rfl rfl rfl hTa0 dX5_add_26 hf (fun S26 hf => ?_)
    refine u_aload_n hC dX5_add_29 0 rfl rfl ?_
    refine u_dup hC dX5_add_30 rfl ?_
    refine u_gi hC lf_X5_19 rfl hTa0 dX5_add_31 hf (fun x31 hf => ?_)
    refine u_iconst (v := (1 : Int32)) hC dX5_add_34 (by decide) ?_
    refine u_iload_n hC dX5_add_35 1 rfl rfl ?_
    refine u_ishl hC dX5_add_36 ?_
    refine u_ior hC dX5_add_37 ?_
    refine u_pi hC lf_X5_19 rfl rfl rfl hTa0 dX5_add_38 hf (fun S38 hf => ?_)
    refine u_aload_n hC dX5_add_41 0 rfl rfl ?_
    refine u_dup hC dX5_add_42 rfl ?_
    refine u_gi hC lf_X5_22 rfl hTa0 dX5_add_43 hf (fun x43 hf => ?_)
    refine u_iload_n hC dX5_add_46 2 rfl rfl ?_
    refine u_iadd hC dX5_add_47 ?_
    refine u_pi hC lf_X5_22 rfl rfl rfl hTa0 dX5_add_48 hf (fun S48 hf => ?_)
    refine u_sub (lv' := []) [] rfl ?_
    exact wjX5_add_51 hC n S48    hf hR
theorem ctX5_add (l : Launch) (hl : l.stackTraces = false) (G : GT) (ρ : Nat → Nat) (Y : XS) (n : Nat) (S : PS) (a0 : Nat) (x1_ : Int32) (x2_ : Int32) (hTa0 : Ty Y a0 5) {o : PS} (hf : fX5_add Y n S a0 x1_ x2_ = some o) : Mt l G yX5_add cX5_add 3 none 1 ρ Y [.ref (ρ a0), .int x1_, .int x2_] S none o :=
  Mt_of hl (by decide) (Nat.le_of_ble_eq_true rfl) (fun C _ _ hC hR => wX5_add (X := (ρ, Y, 0, 0)) hC n S a0 x1_ x2_ hTa0 hf hR)
-- X5_buy
theorem dX5_buy_0 : decode cX5_buy 0 = .ok (.iload_n 2, 1) := by decide +kernel
theorem dX5_buy_1 : decode cX5_buy 1 = .ok (.bipush 24, 2) := by decide +kernel
theorem dX5_buy_3 : decode cX5_buy 3 = .ok (.imul, 1) := by decide +kernel
theorem dX5_buy_4 : decode cX5_buy 4 = .ok (.istore 4, 2) := by decide +kernel
theorem dX5_buy_6 : decode cX5_buy 6 = .ok (.aload_n 1, 1) := by decide +kernel
theorem dX5_buy_7 : decode cX5_buy 7 = .ok (.getfield 61, 3) := by decide +kernel
theorem dX5_buy_10 : decode cX5_buy 10 = .ok (.getfield 67, 3) := by decide +kernel
theorem dX5_buy_13 : decode cX5_buy 13 = .ok (.iload_n 2, 1) := by decide +kernel
theorem dX5_buy_14 : decode cX5_buy 14 = .ok (.iaload, 1) := by decide +kernel
theorem dX5_buy_15 : decode cX5_buy 15 = .ok (.sipush 1000, 3) := by decide +kernel
theorem dX5_buy_18 : decode cX5_buy 18 = .ok (.imul, 1) := by decide +kernel
theorem dX5_buy_19 : decode cX5_buy 19 = .ok (.istore 5, 2) := by decide +kernel
theorem dX5_buy_21 : decode cX5_buy 21 = .ok (.iconst 0, 1) := by decide +kernel
theorem dX5_buy_22 : decode cX5_buy 22 = .ok (.istore 6, 2) := by decide +kernel
theorem dX5_buy_24 : decode cX5_buy 24 = .ok (.iconst 0, 1) := by decide +kernel
theorem dX5_buy_25 : decode cX5_buy 25 = .ok (.istore 7, 2) := by decide +kernel
theorem dX5_buy_27 : decode cX5_buy 27 = .ok (.iconst 0, 1) := by decide +kernel
theorem dX5_buy_28 : decode cX5_buy 28 = .ok (.istore 8, 2) := by decide +kernel
theorem dX5_buy_30 : decode cX5_buy 30 = .ok (.iload 8, 2) := by decide +kernel
theorem dX5_buy_32 : decode cX5_buy 32 = .ok (.aload_n 1, 1) := by decide +kernel
theorem dX5_buy_33 : decode cX5_buy 33 = .ok (.getfield 61, 3) := by decide +kernel
theorem dX5_buy_36 : decode cX5_buy 36 = .ok (.getfield 72, 3) := by decide +kernel
theorem dX5_buy_39 : decode cX5_buy 39 = .ok (.if_icmp .ge 105, 3) := by decide +kernel
theorem dX5_buy_42 : decode cX5_buy 42 = .ok (.iload_n 3, 1) := by decide +kernel
theorem dX5_buy_43 : decode cX5_buy 43 = .ok (.i2l, 1) := by decide +kernel
theorem dX5_buy_44 : decode cX5_buy 44 = .ok (.aload_n 1, 1) := by decide +kernel
theorem dX5_buy_45 : decode cX5_buy 45 = .ok (.getfield 75, 3) := by decide +kernel
theorem dX5_buy_48 : decode cX5_buy 48 = .ok (.iload 4, 2) := by decide +kernel
theorem dX5_buy_50 : decode cX5_buy 50 = .ok (.iload 8, 2) := by decide +kernel
theorem dX5_buy_52 : decode cX5_buy 52 = .ok (.iadd, 1) := by decide +kernel
theorem dX5_buy_53 : decode cX5_buy 53 = .ok (.iaload, 1) := by decide +kernel
theorem dX5_buy_54 : decode cX5_buy 54 = .ok (.i2l, 1) := by decide +kernel
theorem dX5_buy_55 : decode cX5_buy 55 = .ok (.lmul, 1) := by decide +kernel
theorem dX5_buy_56 : decode cX5_buy 56 = .ok (.aload_n 0, 1) := by decide +kernel
theorem dX5_buy_57 : decode cX5_buy 57 = .ok (.getfield 34, 3) := by decide +kernel
theorem dX5_buy_60 : decode cX5_buy 60 = .ok (.iload 8, 2) := by decide +kernel
theorem dX5_buy_62 : decode cX5_buy 62 = .ok (.iaload, 1) := by decide +kernel
theorem dX5_buy_63 : decode cX5_buy 63 = .ok (.iload 5, 2) := by decide +kernel
theorem dX5_buy_65 : decode cX5_buy 65 = .ok (.invokestatic 78, 3) := by decide +kernel
theorem dX5_buy_68 : decode cX5_buy 68 = .ok (.i2l, 1) := by decide +kernel
theorem dX5_buy_69 : decode cX5_buy 69 = .ok (.invokestatic 84, 3) := by decide +kernel
theorem dX5_buy_72 : decode cX5_buy 72 = .ok (.lstore 9, 2) := by decide +kernel
theorem dX5_buy_74 : decode cX5_buy 74 = .ok (.aload_n 0, 1) := by decide +kernel
theorem dX5_buy_75 : decode cX5_buy 75 = .ok (.getfield 31, 3) := by decide +kernel
theorem dX5_buy_78 : decode cX5_buy 78 = .ok (.iload 4, 2) := by decide +kernel
theorem dX5_buy_80 : decode cX5_buy 80 = .ok (.iload 8, 2) := by decide +kernel
theorem dX5_buy_82 : decode cX5_buy 82 = .ok (.iadd, 1) := by decide +kernel
theorem dX5_buy_83 : decode cX5_buy 83 = .ok (.lload 9, 2) := by decide +kernel
theorem dX5_buy_85 : decode cX5_buy 85 = .ok (.l2i, 1) := by decide +kernel
theorem dX5_buy_86 : decode cX5_buy 86 = .ok (.iastore, 1) := by decide +kernel
theorem dX5_buy_87 : decode cX5_buy 87 = .ok (.aload_n 0, 1) := by decide +kernel
theorem dX5_buy_88 : decode cX5_buy 88 = .ok (.getfield 34, 3) := by decide +kernel
theorem dX5_buy_91 : decode cX5_buy 91 = .ok (.iload 8, 2) := by decide +kernel
theorem dX5_buy_93 : decode cX5_buy 93 = .ok (.dup2, 1) := by decide +kernel
theorem dX5_buy_94 : decode cX5_buy 94 = .ok (.iaload, 1) := by decide +kernel
theorem dX5_buy_95 : decode cX5_buy 95 = .ok (.lload 9, 2) := by decide +kernel
theorem dX5_buy_97 : decode cX5_buy 97 = .ok (.l2i, 1) := by decide +kernel
theorem dX5_buy_98 : decode cX5_buy 98 = .ok (.isub, 1) := by decide +kernel
theorem dX5_buy_99 : decode cX5_buy 99 = .ok (.iastore, 1) := by decide +kernel
theorem dX5_buy_100 : decode cX5_buy 100 = .ok (.iload 5, 2) := by decide +kernel
theorem dX5_buy_102 : decode cX5_buy 102 = .ok (.lload 9, 2) := by decide +kernel
theorem dX5_buy_104 : decode cX5_buy 104 = .ok (.l2i, 1) := by decide +kernel
theorem dX5_buy_105 : decode cX5_buy 105 = .ok (.isub, 1) := by decide +kernel
theorem dX5_buy_106 : decode cX5_buy 106 = .ok (.istore 5, 2) := by decide +kernel
theorem dX5_buy_108 : decode cX5_buy 108 = .ok (.lload 9, 2) := by decide +kernel
theorem dX5_buy_110 : decode cX5_buy 110 = .ok (.lconst 0, 1) := by decide +kernel
theorem dX5_buy_111 : decode cX5_buy 111 = .ok (.lcmp, 1) := by decide +kernel
theorem dX5_buy_112 : decode cX5_buy 112 = .ok (.ifCond .le 26, 3) := by decide +kernel
theorem dX5_buy_115 : decode cX5_buy 115 = .ok (.iinc 6 1, 3) := by decide +kernel
theorem dX5_buy_118 : decode cX5_buy 118 = .ok (.iload 7, 2) := by decide +kernel
theorem dX5_buy_120 : decode cX5_buy 120 = .ok (.aload_n 0, 1) := by decide +kernel
theorem dX5_buy_121 : decode cX5_buy 121 = .ok (.getfield 34, 3) := by decide +kernel
theorem dX5_buy_124 : decode cX5_buy 124 = .ok (.iload 8, 2) := by decide +kernel
theorem dX5_buy_126 : decode cX5_buy 126 = .ok (.iaload, 1) := by decide +kernel
theorem dX5_buy_127 : decode cX5_buy 127 = .ok (.ifCond .ne 7, 3) := by decide +kernel
theorem dX5_buy_130 : decode cX5_buy 130 = .ok (.iconst 1, 1) := by decide +kernel
theorem dX5_buy_131 : decode cX5_buy 131 = .ok (.goto 4, 3) := by decide +kernel
theorem dX5_buy_134 : decode cX5_buy 134 = .ok (.iconst 0, 1) := by decide +kernel
theorem dX5_buy_135 : decode cX5_buy 135 = .ok (.iadd, 1) := by decide +kernel
theorem dX5_buy_136 : decode cX5_buy 136 = .ok (.istore 7, 2) := by decide +kernel
theorem dX5_buy_138 : decode cX5_buy 138 = .ok (.iinc 8 1, 3) := by decide +kernel
theorem dX5_buy_141 : decode cX5_buy 141 = .ok (.goto (-111), 3) := by decide +kernel
theorem dX5_buy_144 : decode cX5_buy 144 = .ok (.aload_n 0, 1) := by decide +kernel
theorem dX5_buy_145 : decode cX5_buy 145 = .ok (.getfield 15, 3) := by decide +kernel
theorem dX5_buy_148 : decode cX5_buy 148 = .ok (.bipush 12, 2) := by decide +kernel
theorem dX5_buy_150 : decode cX5_buy 150 = .ok (.if_icmp .ge 35, 3) := by decide +kernel
theorem dX5_buy_153 : decode cX5_buy 153 = .ok (.aload_n 0, 1) := by decide +kernel
theorem dX5_buy_154 : decode cX5_buy 154 = .ok (.getfield 37, 3) := by decide +kernel
theorem dX5_buy_157 : decode cX5_buy 157 = .ok (.aload_n 0, 1) := by decide +kernel
theorem dX5_buy_158 : decode cX5_buy 158 = .ok (.getfield 15, 3) := by decide +kernel
theorem dX5_buy_161 : decode cX5_buy 161 = .ok (.iload_n 3, 1) := by decide +kernel
theorem dX5_buy_162 : decode cX5_buy 162 = .ok (.iastore, 1) := by decide +kernel
theorem dX5_buy_163 : decode cX5_buy 163 = .ok (.aload_n 0, 1) := by decide +kernel
theorem dX5_buy_164 : decode cX5_buy 164 = .ok (.getfield 40, 3) := by decide +kernel
theorem dX5_buy_167 : decode cX5_buy 167 = .ok (.aload_n 0, 1) := by decide +kernel
theorem dX5_buy_168 : decode cX5_buy 168 = .ok (.getfield 15, 3) := by decide +kernel
theorem dX5_buy_171 : decode cX5_buy 171 = .ok (.iload 6, 2) := by decide +kernel
theorem dX5_buy_173 : decode cX5_buy 173 = .ok (.iastore, 1) := by decide +kernel
theorem dX5_buy_174 : decode cX5_buy 174 = .ok (.aload_n 0, 1) := by decide +kernel
theorem dX5_buy_175 : decode cX5_buy 175 = .ok (.getfield 43, 3) := by decide +kernel
theorem dX5_buy_178 : decode cX5_buy 178 = .ok (.aload_n 0, 1) := by decide +kernel
theorem dX5_buy_179 : decode cX5_buy 179 = .ok (.getfield 15, 3) := by decide +kernel
theorem dX5_buy_182 : decode cX5_buy 182 = .ok (.iload 7, 2) := by decide +kernel
theorem dX5_buy_184 : decode cX5_buy 184 = .ok (.iastore, 1) := by decide +kernel
theorem dX5_buy_185 : decode cX5_buy 185 = .ok (.aload_n 0, 1) := by decide +kernel
theorem dX5_buy_186 : decode cX5_buy 186 = .ok (.dup, 1) := by decide +kernel
theorem dX5_buy_187 : decode cX5_buy 187 = .ok (.getfield 28, 3) := by decide +kernel
theorem dX5_buy_190 : decode cX5_buy 190 = .ok (.iconst 1, 1) := by decide +kernel
theorem dX5_buy_191 : decode cX5_buy 191 = .ok (.iload_n 2, 1) := by decide +kernel
theorem dX5_buy_192 : decode cX5_buy 192 = .ok (.ishl, 1) := by decide +kernel
theorem dX5_buy_193 : decode cX5_buy 193 = .ok (.ior, 1) := by decide +kernel
theorem dX5_buy_194 : decode cX5_buy 194 = .ok (.putfield 28, 3) := by decide +kernel
theorem dX5_buy_197 : decode cX5_buy 197 = .ok (.aload_n 0, 1) := by decide +kernel
theorem dX5_buy_198 : decode cX5_buy 198 = .ok (.iload_n 2, 1) := by decide +kernel
theorem dX5_buy_199 : decode cX5_buy 199 = .ok (.aload_n 1, 1) := by decide +kernel
theorem dX5_buy_200 : decode cX5_buy 200 = .ok (.getfield 61, 3) := by decide +kernel
theorem dX5_buy_203 : decode cX5_buy 203 = .ok (.getfield 67, 3) := by decide +kernel
theorem dX5_buy_206 : decode cX5_buy 206 = .ok (.iload_n 2, 1) := by decide +kernel
theorem dX5_buy_207 : decode cX5_buy 207 = .ok (.iaload, 1) := by decide +kernel
theorem dX5_buy_208 : decode cX5_buy 208 = .ok (.invokevirtual 87, 3) := by decide +kernel
theorem dX5_buy_211 : decode cX5_buy 211 = .ok (.return_, 1) := by decide +kernel
def jX5_buy_138_30 (Y : XS) (n : Nat) (S : PS) (v0 : Nat) (v1 : Nat) (v2 : Int32) (v3 : Int32) (v4 : Int32) (v5 : Int32) (v6 : Int32) (v7 : Int32) (v8 : Int32) : Option ((Int32 × Int32 × Int32 × Int32 × PS) ⊕ (Int32 × Int32 × PS)) :=
  some (.inl (v5, v6, v7, v8 + (1 : Int32), S))
def jX5_buy_135_30 (Y : XS) (n : Nat) (S : PS) (v0 : Nat) (v1 : Nat) (v2 : Int32) (v3 : Int32) (v4 : Int32) (v5 : Int32) (v6 : Int32) (v8 : Int32) (t0 : Int32) (t1 : Int32) : Option ((Int32 × Int32 × Int32 × Int32 × PS) ⊕ (Int32 × Int32 × PS)) :=
  jX5_buy_138_30 Y n S v0 v1 v2 v3 v4 v5 v6 (t1 + t0) v8
def bX5_buy_30 (Y : XS) (n : Nat) (v0 : Nat) (v1 : Nat) (v2 : Int32) (v3 : Int32) (v4 : Int32) (s30 : (Int32 × Int32 × Int32 × Int32 × PS)) : Option ((Int32 × Int32 × Int32 × Int32 × PS) ⊕ (Int32 × Int32 × PS)) :=
  kgr s30.2.2.2.2 v1 0 (fun b33 => kgi s30.2.2.2.2 b33 2 (fun x36 => (if x36 ≤ s30.2.2.2.1 then some (.inr (s30.2.1, s30.2.2.1, s30.2.2.2.2)) else kgr s30.2.2.2.2 v1 4 (fun b45 => kai Y s30.2.2.2.2 b45 (v4 + s30.2.2.2.1) (fun x53 => kgr s30.2.2.2.2 v0 7 (fun b57 => kai Y s30.2.2.2.2 b57 s30.2.2.2.1 (fun x62 => kgr s30.2.2.2.2 v0 6 (fun b75 => kwi Y s30.2.2.2.2 b75 (v4 + s30.2.2.2.1) (Int64.toInt32 (lmin ((Int32.toInt64 v3) * (Int32.toInt64 x53)) (Int32.toInt64 (imin x62 s30.1)))) (fun S86 => kgr S86 v0 7 (fun b88 => kai Y S86 b88 s30.2.2.2.1 (fun x94 => kwi Y S86 b88 s30.2.2.2.1 (x94 - (Int64.toInt32 (lmin ((Int32.toInt64 v3) * (Int32.toInt64 x53)) (Int32.toInt64 (imin x62 s30.1))))) (fun S99 => (if (lg_cmp (lmin ((Int32.toInt64 v3) * (Int32.toInt64 x53)) (Int32.toInt64 (imin x62 s30.1))) (0 : Int64)) ≤ 0 then jX5_buy_138_30 Y n S99 v0 v1 v2 v3 v4 (s30.1 - (Int64.toInt32 (lmin ((Int32.toInt64 v3) * (Int32.toInt64 x53)) (Int32.toInt64 (imin x62 s30.1))))) s30.2.1 s30.2.2.1 s30.2.2.2.1 else kgr S99 v0 7 (fun b121 => kai Y S99 b121 s30.2.2.2.1 (fun x126 => (if x126 = 0 then jX5_buy_135_30 Y n S99 v0 v1 v2 v3 v4 (s30.1 - (Int64.toInt32 (lmin ((Int32.toInt64 v3) * (Int32.toInt64 x53)) (Int32.toInt64 (imin x62 s30.1))))) (s30.2.1 + (1 : Int32)) s30.2.2.2.1 (1 : Int32) s30.2.2.1 else jX5_buy_135_30 Y n S99 v0 v1 v2 v3 v4 (s30.1 - (Int64.toInt32 (lmin ((Int32.toInt64 v3) * (Int32.toInt64 x53)) (Int32.toInt64 (imin x62 s30.1))))) (s30.2.1 + (1 : Int32)) s30.2.2.2.1 (0 : Int32) s30.2.2.1))))))))))))))))
def jX5_buy_185 (Y : XS) (n : Nat) (S : PS) (v0 : Nat) (v1 : Nat) (v2 : Int32) : Option (PS) :=
  kgi S v0 5 (fun x187 => kpi S v0 5 (x187 ||| ((1 : Int32) <<< (v2 &&& 31))) (fun S194 => kgr S194 v1 0 (fun b200 => kgr S194 b200 4 (fun b203 => kai Y S194 b203 v2 (fun x207 => kc (fX5_add Y n S194 v0 v2 x207) (fun q208 => some q208))))))
def fX5_buy (Y : XS) (n : Nat) (S : PS) (a0 : Nat) (a1 : Nat) (x2_ : Int32) (x3_ : Int32) : Option (PS) :=
  kgr S a1 0 (fun b7 => kgr S b7 4 (fun b10 => kai Y S b10 x2_ (fun x14 => kc (iter (bX5_buy_30 Y n a0 a1 x2_ x3_ (x2_ * (24 : Int32))) n (x14 * (1000 : Int32), (0 : Int32), (0 : Int32), (0 : Int32), S)) (fun r30 => kgi r30.2.2 a0 1 (fun x145 => (if (12 : Int32) ≤ x145 then jX5_buy_185 Y n r30.2.2 a0 a1 x2_ else kgr r30.2.2 a0 8 (fun b154 => kgi r30.2.2 a0 1 (fun x158 => kwi Y r30.2.2 b154 x158 x3_ (fun S162 => kgr S162 a0 9 (fun b164 => kgi S162 a0 1 (fun x168 => kwi Y S162 b164 x168 r30.1 (fun S173 => kgr S173 a0 10 (fun b175 => kgi S173 a0 1 (fun x179 => kwi Y S173 b175 x179 r30.2.1 (fun S184 => jX5_buy_185 Y n S184 a0 a1 x2_)))))))))))))))
theorem wjX5_buy_138_30 {C : CT} {X : XT} (hC : CK C RX5 cX5_buy 11 none 2) (n : Nat) (S : PS) (v0 : Nat) (v1 : Nat) (v2 : Int32) (v3 : Int32) (v4 : Int32) (v5 : Int32) (v6 : Int32) (v7 : Int32) (v8 : Int32)  (hTv0 : Ty X.2.1 v0 5) (hTv1 : Ty X.2.1 v1 6) {o : (Int32 × Int32 × Int32 × Int32 × PS) ⊕ (Int32 × Int32 × PS)} (hf : jX5_buy_138_30 X.2.1 n S v0 v1 v2 v3 v4 v5 v6 v7 v8 = some o) (hN : ∀ s', o = .inl s' → UW C X s'.2.2.2.2 30 [(0, .ref (X.1 v0)), (1, .ref (X.1 v1)), (2, .int v2), (3, .int v3), (4, .int v4), (5, .int s'.1), (6, .int s'.2.1), (7, .int s'.2.2.1), (8, .int s'.2.2.2.1)] []) (hO0 : ∀ p', o = .inr p' → UW C X p'.2.2 144 [(0, .ref (X.1 v0)), (1, .ref (X.1 v1)), (2, .int v2), (3, .int v3), (6, .int p'.1), (7, .int p'.2.1)] []) : UW C X S 138 [(0, .ref (X.1 v0)), (1, .ref (X.1 v1)), (2, .int v2), (3, .int v3), (4, .int v4), (5, .int v5), (6, .int v6), (7, .int v7), (8, .int v8)] [] := by
  unfold jX5_buy_138_30 at hf
  refine u_iinc (v := v8 + (1 : Int32)) (lv' := [(8, .int (v8 + (1 : Int32))), (0, .ref (X.1 v0)), (1, .ref (X.1 v1)), (2, .int v2), (3, .int v3), (4, .int v4), (5, .int v5), (6, .int v6), (7, .int v7)]) hC dX5_buy_138 8 rfl rfl (by decide) rfl ?_
  refine u_goto (tgt := 30) hC dX5_buy_141 (by decide) ?_
  refine u_sub (lv' := [(0, .ref (X.1 v0)), (1, .ref (X.1 v1)), (2, .int v2), (3, .int v3), (4, .int v4), (5, .int v5), (6, .int v6), (7, .int v7), (8, .int (v8 + (1 : Int32)))]) [1, 2, 3, 4, 5, 6, 7, 8, 0] rfl ?_
  exact hN _ (Option.some.inj hf).symm
theorem wjX5_buy_135_30 {C : CT} {X : XT} (hC : CK C RX5 cX5_buy 11 none 2) (n : Nat) (S : PS) (v0 : Nat) (v1 : Nat) (v2 : Int32) (v3 : Int32) (v4 : Int32) (v5 : Int32) (v6 : Int32) (v8 : Int32) (t0 : Int32) (t1 : Int32)  (hTv0 : Ty X.2.1 v0 5) (hTv1 : Ty X.2.1 v1 6) {o : (Int32 × Int32 × Int32 × Int32 × PS) ⊕ (Int32 × Int32 × PS)} (hf : jX5_buy_135_30 X.2.1 n S v0 v1 v2 v3 v4 v5 v6 v8 t0 t1 = some o) (hN : ∀ s', o = .inl s' → UW C X s'.2.2.2.2 30 [(0, .ref (X.1 v0)), (1, .ref (X.1 v1)), (2, .int v2), (3, .int v3), (4, .int v4), (5, .int s'.1), (6, .int s'.2.1), (7, .int s'.2.2.1), (8, .int s'.2.2.2.1)] []) (hO0 : ∀ p', o = .inr p' → UW C X p'.2.2 144 [(0, .ref (X.1 v0)), (1, .ref (X.1 v1)), (2, .int v2), (3, .int v3), (6, .int p'.1), (7, .int p'.2.1)] []) : UW C X S 135 [(0, .ref (X.1 v0)), (1, .ref (X.1 v1)), (2, .int v2), (3, .int v3), (4, .int v4), (5, .int v5), (6, .int v6), (8, .int v8)] [.int t0, .int t1] := by
  unfold jX5_buy_135_30 at hf
  refine u_iadd hC dX5_buy_135 ?_
  refine u_istore (lv' := [(7, .int (t1 + t0)), (0, .ref (X.1 v0)), (1, .ref (X.1 v1)), (2, .int v2), (3, .int v3), (4, .int v4), (5, .int v5), (6, .int v6), (8, .int v8)]) hC dX5_buy_136 (by decide) rfl ?_
  refine u_sub (lv' := [(0, .ref (X.1 v0)), (1, .ref (X.1 v1)), (2, .int v2), (3, .int v3), (4, .int v4), (5, .int v5), (6, .int v6), (7, .int (t1 + t0)), (8, .int v8)]) [1, 2, 3, 4, 5, 6, 7, 0, 8] rfl ?_
  exact wjX5_buy_138_30 hC n S v0 v1 v2 v3 v4 v5 v6 (t1 + t0) v8  hTv0 hTv1 hf hN hO0
theorem wbX5_buy_30 {C : CT} {X : XT} (hC : CK C RX5 cX5_buy 11 none 2) (n : Nat) (v0 : Nat) (v1 : Nat) (v2 : Int32) (v3 : Int32) (v4 : Int32) (hTv0 : Ty X.2.1 v0 5) (hTv1 : Ty X.2.1 v1 6) (s30 : (Int32 × Int32 × Int32 × Int32 × PS)) {o : (Int32 × Int32 × Int32 × Int32 × PS) ⊕ (Int32 × Int32 × PS)} (hf : bX5_buy_30 X.2.1 n v0 v1 v2 v3 v4 s30 = some o) (hN : ∀ s', o = .inl s' → UW C X s'.2.2.2.2 30 [(0, .ref (X.1 v0)), (1, .ref (X.1 v1)), (2, .int v2), (3, .int v3), (4, .int v4), (5, .int s'.1), (6, .int s'.2.1), (7, .int s'.2.2.1), (8, .int s'.2.2.2.1)] []) (hO0 : ∀ p', o = .inr p' → UW C X p'.2.2 144 [(0, .ref (X.1 v0)), (1, .ref (X.1 v1)), (2, .int v2), (3, .int v3), (6, .int p'.1), (7, .int p'.2.1)] []) : UW C X s30.2.2.2.2 30 [(0, .ref (X.1 v0)), (1, .ref (X.1 v1)), (2, .int v2), (3, .int v3), (4, .int v4), (5, .int s30.1), (6, .int s30.2.1), (7, .int s30.2.2.1), (8, .int s30.2.2.2.1)] [] := by
  unfold bX5_buy_30 at hf
  refine u_iload hC dX5_buy_30 8 rfl ?_
  refine u_aload_n hC dX5_buy_32 1 rfl rfl ?_
  refine u_gr hC lf_X5_61 rfl hTv1 dX5_buy_33 hf (fun b33 hTb33 hf => ?_)
  refine u_gi hC lf_X5_72 rfl hTb33 dX5_buy_36 hf (fun x36 hf => ?_)
  refine u_icmp_ge (tgt := 144) hC dX5_buy_39 (by decide) hf (fun h39 hf => ?_) (fun h39 hf => ?_)
  · refine u_sub (lv' := [(0, .ref (X.1 v0)), (1, .ref (X.1 v1)), (2, .int v2), (3, .int v3), (6, .int s30.2.1), (7, .int s30.2.2.1)]) [0, 1, 2, 3, 6, 7] rfl ?_
    exact hO0 _ (Option.some.inj hf).symm
  · refine u_iload_n hC dX5_buy_42 3 rfl rfl ?_
    refine u_i2l hC dX5_buy_43 ?_
    refine u_aload_n hC dX5_buy_44 1 rfl rfl ?_
    refine u_gr hC lf_X5_75 rfl hTv1 dX5_buy_45 hf (fun b45 hTb45 hf => ?_)
    refine u_iload hC dX5_buy_48 4 rfl ?_
    refine u_iload hC dX5_buy_50 8 rfl ?_
    refine u_iadd hC dX5_buy_52 ?_
    refine u_ai hC hTb45 dX5_buy_53 hf (fun x53 hf => ?_)
    refine u_i2l hC dX5_buy_54 ?_
    refine u_lmul hC dX5_buy_55 ?_
    refine u_aload_n hC dX5_buy_56 0 rfl rfl ?_
    refine u_gr hC lf_X5_34 rfl hTv0 dX5_buy_57 hf (fun b57 hTb57 hf => ?_)
    refine u_iload hC dX5_buy_60 8 rfl ?_
    refine u_ai hC hTb57 dX5_buy_62 hf (fun x62 hf => ?_)
    refine u_iload hC dX5_buy_63 5 rfl ?_
    refine u_mmin hC (tb_4 161 rfl rfl) (by decide) (Nat.le_of_ble_eq_true rfl) dX5_buy_65 ?_
    refine u_i2l hC dX5_buy_68 ?_
    refine u_mminl hC (tb_4 162 rfl rfl) (by decide) (Nat.le_of_ble_eq_true rfl) dX5_buy_69 ?_
    refine u_lstore (lv' := [(9, .long (lmin ((Int32.toInt64 v3) * (Int32.toInt64 x53)) (Int32.toInt64 (imin x62 s30.1)))), (0, .ref (X.1 v0)), (1, .ref (X.1 v1)), (2, .int v2), (3, .int v3), (4, .int v4), (5, .int s30.1), (6, .int s30.2.1), (7, .int s30.2.2.1), (8, .int s30.2.2.2.1)]) hC dX5_buy_72 (by decide) rfl ?_
    refine u_aload_n hC dX5_buy_74 1 rfl rfl ?_
    refine u_gr hC lf_X5_31 rfl hTv0 dX5_buy_75 hf (fun b75 hTb75 hf => ?_)
    refine u_iload hC dX5_buy_78 5 rfl ?_
    refine u_iload hC dX5_buy_80 9 rfl ?_
    refine u_iadd hC dX5_buy_82 ?_
    refine u_lload hC dX5_buy_83 0 rfl ?_
    refine u_l2i hC dX5_buy_85 ?_
    refine u_wi hC hTb75 dX5_buy_86 hf (fun S86 hf => ?_)
    refine u_aload_n hC dX5_buy_87 1 rfl rfl ?_
    refine u_gr hC lf_X5_34 rfl hTv0 dX5_buy_88 hf (fun b88 hTb88 hf => ?_)
    refine u_iload hC dX5_buy_91 9 rfl ?_
    refine u_dup2 hC dX5_buy_93 rfl rfl ?_
    refine u_ai hC hTb88 dX5_buy_94 hf (fun x94 hf => ?_)
    refine u_lload hC dX5_buy_95 0 rfl ?_
    refine u_l2i hC dX5_buy_97 ?_
    refine u_isub hC dX5_buy_98 ?_
    refine u_wi hC hTb88 dX5_buy_99 hf (fun S99 hf => ?_)
    refine u_iload hC dX5_buy_100 6 rfl ?_
    refine u_lload hC dX5_buy_102 0 rfl ?_
    refine u_l2i hC dX5_buy_104 ?_
    refine u_isub hC dX5_buy_105 ?_
    refine u_istore (lv' := [(5, .int (s30.1 - (Int64.toInt32 (lmin ((Int32.toInt64 v3) * (Int32.toInt64 x53)) (Int32.toInt64 (imin x62 s30.1)))))), (9, .long (lmin ((Int32.toInt64 v3) * (Int32.toInt64 x53)) (Int32.toInt64 (imin x62 s30.1)))), (0, .ref (X.1 v0)), (1, .ref (X.1 v1)), (2, .int v2), (3, .int v3), (4, .int v4), (6, .int s30.2.1), (7, .int s30.2.2.1), (8, .int s30.2.2.2.1)]) hC dX5_buy_106 (by decide) rfl ?_
    refine u_lload hC dX5_buy_108 1 rfl ?_
    refine u_lconst (v := (0 : Int64)) hC dX5_buy_110 (by decide) ?_
    refine u_lcmp hC dX5_buy_111 ?_
    refine u_if_le (tgt := 138) hC dX5_buy_112 (by decide) hf (fun h112 hf => ?_) (fun h112 hf => ?_)
    · refine u_sub (lv' := [(0, .ref (X.1 v0)), (1, .ref (X.1 v1)), (2, .int v2), (3, .int v3), (4, .int v4), (5, .int (s30.1 - (Int64.toInt32 (lmin ((Int32.toInt64 v3) * (Int32.toInt64 x53)) (Int32.toInt64 (imin x62 s30.1)))))), (6, .int s30.2.1), (7, .int s30.2.2.1), (8, .int s30.2.2.2.1)]) [2, 3, 4, 5, 6, 0, 7, 8, 9] rfl ?_
      exact wjX5_buy_138_30 hC n S99 v0 v1 v2 v3 v4 (s30.1 - (Int64.toInt32 (lmin ((Int32.toInt64 v3) * (Int32.toInt64 x53)) (Int32.toInt64 (imin x62 s30.1))))) s30.2.1 s30.2.2.1 s30.2.2.2.1  hTv0 hTv1 hf hN hO0
    · refine u_iinc (v := s30.2.1 + (1 : Int32)) (lv' := [(6, .int (s30.2.1 + (1 : Int32))), (5, .int (s30.1 - (Int64.toInt32 (lmin ((Int32.toInt64 v3) * (Int32.toInt64 x53)) (Int32.toInt64 (imin x62 s30.1)))))), (9, .long (lmin ((Int32.toInt64 v3) * (Int32.toInt64 x53)) (Int32.toInt64 (imin x62 s30.1)))), (0, .ref (X.1 v0)), (1, .ref (X.1 v1)), (2, .int v2), (3, .int v3), (4, .int v4), (7, .int s30.2.2.1), (8, .int s30.2.2.2.1)]) hC dX5_buy_115 7 rfl rfl (by decide) rfl ?_
      refine u_iload hC dX5_buy_118 8 rfl ?_
      refine u_aload_n hC dX5_buy_120 3 rfl rfl ?_
      refine u_gr hC lf_X5_34 rfl hTv0 dX5_buy_121 hf (fun b121 hTb121 hf => ?_)
      refine u_iload hC dX5_buy_124 9 rfl ?_
      refine u_ai hC hTb121 dX5_buy_126 hf (fun x126 hf => ?_)
      refine u_if_ne (tgt := 134) hC dX5_buy_127 (by decide) hf (fun h127 hf => ?_) (fun h127 hf => ?_)
      · refine u_iconst (v := (0 : Int32)) hC dX5_buy_134 (by decide) ?_
        refine u_sub (lv' := [(0, .ref (X.1 v0)), (1, .ref (X.1 v1)), (2, .int v2), (3, .int v3), (4, .int v4), (5, .int (s30.1 - (Int64.toInt32 (lmin ((Int32.toInt64 v3) * (Int32.toInt64 x53)) (Int32.toInt64 (imin x62 s30.1)))))), (6, .int (s30.2.1 + (1 : Int32))), (8, .int s30.2.2.2.1)]) [3, 4, 5, 6, 7, 1, 0, 9] rfl ?_
        exact wjX5_buy_135_30 hC n S99 v0 v1 v2 v3 v4 (s30.1 - (Int64.toInt32 (lmin ((Int32.toInt64 v3) * (Int32.toInt64 x53)) (Int32.toInt64 (imin x62 s30.1))))) (s30.2.1 + (1 : Int32)) s30.2.2.2.1 (0 : Int32) s30.2.2.1  hTv0 hTv1 hf hN hO0
      · refine u_iconst (v := (1 : Int32)) hC dX5_buy_130 (by decide) ?_
        refine u_goto (tgt := 135) hC dX5_buy_131 (by decide) ?_
        refine u_sub (lv' := [(0, .ref (X.1 v0)), (1, .ref (X.1 v1)), (2, .int v2), (3, .int v3), (4, .int v4), (5, .int (s30.1 - (Int64.toInt32 (lmin ((Int32.toInt64 v3) * (Int32.toInt64 x53)) (Int32.toInt64 (imin x62 s30.1)))))), (6, .int (s30.2.1 + (1 : Int32))), (8, .int s30.2.2.2.1)]) [3, 4, 5, 6, 7, 1, 0, 9] rfl ?_
        exact wjX5_buy_135_30 hC n S99 v0 v1 v2 v3 v4 (s30.1 - (Int64.toInt32 (lmin ((Int32.toInt64 v3) * (Int32.toInt64 x53)) (Int32.toInt64 (imin x62 s30.1))))) (s30.2.1 + (1 : Int32)) s30.2.2.2.1 (1 : Int32) s30.2.2.1  hTv0 hTv1 hf hN hO0
theorem wjX5_buy_185 {C : CT} {X : XT} (hC : CK C RX5 cX5_buy 11 none 2) (n : Nat) (S : PS) (v0 : Nat) (v1 : Nat) (v2 : Int32)  (hTv0 : Ty X.2.1 v0 5) (hTv1 : Ty X.2.1 v1 6) {o : PS} (hf : jX5_buy_185 X.2.1 n S v0 v1 v2 = some o) (hR : Rt C X cX5_buy none none o) : UW C X S 185 [(0, .ref (X.1 v0)), (1, .ref (X.1 v1)), (2, .int v2)] [] := by
  unfold jX5_buy_185 at hf
  refine u_aload_n hC dX5_buy_185 0 rfl rfl ?_
  refine u_dup hC dX5_buy_186 rfl ?_
  refine u_gi hC lf_X5_28 rfl hTv0 dX5_buy_187 hf (fun x187 hf => ?_)
  refine u_iconst (v := (1 : Int32)) hC dX5_buy_190 (by decide) ?_
  refine u_iload_n hC dX5_buy_191 2 rfl rfl ?_
  refine u_ishl hC dX5_buy_192 ?_
  refine u_ior hC dX5_buy_193 ?_
  refine u_pi hC lf_X5_28 rfl rfl rfl hTv0 dX5_buy_194 hf (fun S194 hf => ?_)
  refine u_aload_n hC dX5_buy_197 0 rfl rfl ?_
  refine u_iload_n hC dX5_buy_198 2 rfl rfl ?_
  refine u_aload_n hC dX5_buy_199 1 rfl rfl ?_
  refine u_gr hC lf_X5_61 rfl hTv1 dX5_buy_200 hf (fun b200 hTb200 hf => ?_)
  refine u_gr hC lf_X5_67 rfl hTb200 dX5_buy_203 hf (fun b203 hTb203 hf => ?_)
  refine u_iload_n hC dX5_buy_206 2 rfl rfl ?_
  refine u_ai hC hTb203 dX5_buy_207 hf (fun x207 hf => ?_)
  obtain ⟨q208, hq208, hf⟩ := kc_some hf
  refine u_callV hC (ctX5_add (cL C) hC.tr (cG C) X.1 X.2.1 n S194 v0 v2 x207 hTv0 hq208) lk_X5_87 rfl hTv0 (by decide) rfl (by decide) (by decide) rfl rfl (Nat.le_of_ble_eq_true rfl) dX5_buy_208 ?_
  cases hf
  exact hR _ _ dX5_buy_211 trivial
theorem wX5_buy {C : CT} {X : XT} (hC : CK C RX5 cX5_buy 11 none 2) (n : Nat) (S : PS) (a0 : Nat) (a1 : Nat) (x2_ : Int32) (x3_ : Int32) (hTa0 : Ty X.2.1 a0 5) (hTa1 : Ty X.2.1 a1 6) {o : PS} (hf : fX5_buy X.2.1 n S a0 a1 x2_ x3_ = some o) (hR : Rt C X cX5_buy none none o) : UW C X S 0 [(0, .ref (X.1 a0)), (1, .ref (X.1 a1)), (2, .int x2_), (3, .int x3_)] [] := by
  unfold fX5_buy at hf
  refine u_iload_n hC dX5_buy_0 2 rfl rfl ?_
  refine u_bipush (v := (24 : Int32)) hC dX5_buy_1 (by decide) ?_
  refine u_imul hC dX5_buy_3 ?_
  refine u_istore (lv' := [(4, .int (x2_ * (24 : Int32))), (0, .ref (X.1 a0)), (1, .ref (X.1 a1)), (2, .int x2_), (3, .int x3_)]) hC dX5_buy_4 (by decide) rfl ?_
  refine u_aload_n hC dX5_buy_6 2 rfl rfl ?_
  refine u_gr hC lf_X5_61 rfl hTa1 dX5_buy_7 hf (fun b7 hTb7 hf => ?_)
  refine u_gr hC lf_X5_67 rfl hTb7 dX5_buy_10 hf (fun b10 hTb10 hf => ?_)
  refine u_iload_n hC dX5_buy_13 3 rfl rfl ?_
  refine u_ai hC hTb10 dX5_buy_14 hf (fun x14 hf => ?_)
  refine u_sipush (v := (1000 : Int32)) hC dX5_buy_15 (by decide) ?_
  refine u_imul hC dX5_buy_18 ?_
  refine u_istore (lv' := [(5, .int (x14 * (1000 : Int32))), (4, .int (x2_ * (24 : Int32))), (0, .ref (X.1 a0)), (1, .ref (X.1 a1)), (2, .int x2_), (3, .int x3_)]) hC dX5_buy_19 (by decide) rfl ?_
  refine u_iconst (v := (0 : Int32)) hC dX5_buy_21 (by decide) ?_
  refine u_istore (lv' := [(6, .int (0 : Int32)), (5, .int (x14 * (1000 : Int32))), (4, .int (x2_ * (24 : Int32))), (0, .ref (X.1 a0)), (1, .ref (X.1 a1)), (2, .int x2_), (3, .int x3_)]) hC dX5_buy_22 (by decide) rfl ?_
  refine u_iconst (v := (0 : Int32)) hC dX5_buy_24 (by decide) ?_
  refine u_istore (lv' := [(7, .int (0 : Int32)), (6, .int (0 : Int32)), (5, .int (x14 * (1000 : Int32))), (4, .int (x2_ * (24 : Int32))), (0, .ref (X.1 a0)), (1, .ref (X.1 a1)), (2, .int x2_), (3, .int x3_)]) hC dX5_buy_25 (by decide) rfl ?_
  refine u_iconst (v := (0 : Int32)) hC dX5_buy_27 (by decide) ?_
  refine u_istore (lv' := [(8, .int (0 : Int32)), (7, .int (0 : Int32)), (6, .int (0 : Int32)), (5, .int (x14 * (1000 : Int32))), (4, .int (x2_ * (24 : Int32))), (0, .ref (X.1 a0)), (1, .ref (X.1 a1)), (2, .int x2_), (3, .int x3_)]) hC dX5_buy_28 (by decide) rfl ?_
  obtain ⟨r30, hr30, hf⟩ := kc_some hf
  have hk30 : UW C X r30.2.2 144 [(0, .ref (X.1 a0)), (1, .ref (X.1 a1)), (2, .int x2_), (3, .int x3_), (6, .int r30.1), (7, .int r30.2.1)] [] := by
    refine u_aload_n hC dX5_buy_144 0 rfl rfl ?_
    refine u_gi hC lf_X5_15 rfl hTa0 dX5_buy_145 hf (fun x145 hf => ?_)
    refine u_bipush (v := (12 : Int32)) hC dX5_buy_148 (by decide) ?_
    refine u_icmp_ge (tgt := 185) hC dX5_buy_150 (by decide) hf (fun h150 hf => ?_) (fun h150 hf => ?_)
    · refine u_sub (lv' := [(0, .ref (X.1 a0)), (1, .ref (X.1 a1)), (2, .int x2_)]) [0, 1, 2] rfl ?_
      exact wjX5_buy_185 hC n r30.2.2 a0 a1 x2_  hTa0 hTa1 hf hR
    · refine u_aload_n hC dX5_buy_153 0 rfl rfl ?_
      refine u_gr hC lf_X5_37 rfl hTa0 dX5_buy_154 hf (fun b154 hTb154 hf => ?_)
      refine u_aload_n hC dX5_buy_157 0 rfl rfl ?_
      refine u_gi hC lf_X5_15 rfl hTa0 dX5_buy_158 hf (fun x158 hf => ?_)
      refine u_iload_n hC dX5_buy_161 3 rfl rfl ?_
      refine u_wi hC hTb154 dX5_buy_162 hf (fun S162 hf => ?_)
      refine u_aload_n hC dX5_buy_163 0 rfl rfl ?_
      refine u_gr hC lf_X5_40 rfl hTa0 dX5_buy_164 hf (fun b164 hTb164 hf => ?_)
      refine u_aload_n hC dX5_buy_167 0 rfl rfl ?_
      refine u_gi hC lf_X5_15 rfl hTa0 dX5_buy_168 hf (fun x168 hf => ?_)
      refine u_iload hC dX5_buy_171 4 rfl ?_
      refine u_wi hC hTb164 dX5_buy_173 hf (fun S173 hf => ?_)
      refine u_aload_n hC dX5_buy_174 0 rfl rfl ?_
      refine u_gr hC lf_X5_43 rfl hTa0 dX5_buy_175 hf (fun b175 hTb175 hf => ?_)
      refine u_aload_n hC dX5_buy_178 0 rfl rfl ?_
      refine u_gi hC lf_X5_15 rfl hTa0 dX5_buy_179 hf (fun x179 hf => ?_)
      refine u_iload hC dX5_buy_182 5 rfl ?_
      refine u_wi hC hTb175 dX5_buy_184 hf (fun S184 hf => ?_)
      refine u_sub (lv' := [(0, .ref (X.1 a0)), (1, .ref (X.1 a1)), (2, .int x2_)]) [0, 1, 2] rfl ?_
      exact wjX5_buy_185 hC n S184 a0 a1 x2_  hTa0 hTa1 hf hR
  refine u_sub (lv' := [(0, .ref (X.1 a0)), (1, .ref (X.1 a1)), (2, .int x2_), (3, .int x3_), (4, .int (x2_ * (24 : Int32))), (5, .int (x14 * (1000 : Int32))), (6, .int (0 : Int32)), (7, .int (0 : Int32)), (8, .int (0 : Int32))]) [5, 6, 7, 8, 4, 3, 2, 1, 0] rfl ?_
  refine iter_ind (P := fun s30 => UW C X s30.2.2.2.2 30 [(0, .ref (X.1 a0)), (1, .ref (X.1 a1)), (2, .int x2_), (3, .int x3_), (4, .int (x2_ * (24 : Int32))), (5, .int s30.1), (6, .int s30.2.1), (7, .int s30.2.2.1), (8, .int s30.2.2.2.1)] []) (fun s30 o' hb hin hout => ?_) n (x14 * (1000 : Int32), (0 : Int32), (0 : Int32), (0 : Int32), S) hr30
  exact wbX5_buy_30 hC n a0 a1 x2_ x3_ (x2_ * (24 : Int32)) hTa0 hTa1 s30 hb hin (fun p e => by rw [hout p e]; exact hk30)
theorem ctX5_buy (l : Launch) (hl : l.stackTraces = false) (G : GT) (ρ : Nat → Nat) (Y : XS) (n : Nat) (S : PS) (a0 : Nat) (a1 : Nat) (x2_ : Int32) (x3_ : Int32) (hTa0 : Ty Y a0 5) (hTa1 : Ty Y a1 6) {o : PS} (hf : fX5_buy Y n S a0 a1 x2_ x3_ = some o) : Mt l G yX5_buy cX5_buy 11 none 2 ρ Y [.ref (ρ a0), .ref (ρ a1), .int x2_, .int x3_] S none o :=
  Mt_of hl (by decide) (Nat.le_of_ble_eq_true rfl) (fun C _ _ hC hR => wX5_buy (X := (ρ, Y, 0, 0)) hC n S a0 a1 x2_ x3_ hTa0 hTa1 hf hR)
-- X5_has
theorem dX5_has_0 : decode cX5_has 0 = .ok (.aload_n 0, 1) := by decide +kernel
theorem dX5_has_1 : decode cX5_has 1 = .ok (.getfield 19, 3) := by decide +kernel
theorem dX5_has_4 : decode cX5_has 4 = .ok (.iload_n 1, 1) := by decide +kernel
theorem dX5_has_5 : decode cX5_has 5 = .ok (.ishr, 1) := by decide +kernel
theorem dX5_has_6 : decode cX5_has 6 = .ok (.iconst 1, 1) := by decide +kernel
theorem dX5_has_7 : decode cX5_has 7 = .ok (.iand, 1) := by decide +kernel
theorem dX5_has_8 : decode cX5_has 8 = .ok (.ifCond .eq 7, 3) := by decide +kernel
theorem dX5_has_11 : decode cX5_has 11 = .ok (.iconst 1, 1) := by decide +kernel
theorem dX5_has_12 : decode cX5_has 12 = .ok (.goto 4, 3) := by decide +kernel
theorem dX5_has_15 : decode cX5_has 15 = .ok (.iconst 0, 1) := by decide +kernel
theorem dX5_has_16 : decode cX5_has 16 = .ok (.ireturn, 1) := by decide +kernel
def jX5_has_16 (Y : XS) (n : Nat) (S : PS) (t0 : Int32) : Option (Int32) :=
  kzr t0 (some t0)
def fX5_has (Y : XS) (n : Nat) (S : PS) (a0 : Nat) (x1_ : Int32) : Option (Int32) :=
  kgi S a0 2 (fun x1 => (if ((x1 >>> (x1_ &&& 31)) &&& (1 : Int32)) = 0 then jX5_has_16 Y n S (0 : Int32) else jX5_has_16 Y n S (1 : Int32)))
theorem wjX5_has_16 {C : CT} {X : XT} (hC : CK C RX5 cX5_has 2 (some .boolean) 1) (n : Nat) (S : PS) (t0 : Int32)   {o : Int32} (hf : jX5_has_16 X.2.1 n S t0 = some o) (hR : Rt C X cX5_has (some .boolean) (some (.int o)) S) : UW C X S 16 [] [.int t0] := by
  unfold jX5_has_16 at hf
  obtain ⟨hz, hf⟩ := kzr_some hf
  cases hf
  exact hR _ _ dX5_has_16 hz
theorem wX5_has {C : CT} {X : XT} (hC : CK C RX5 cX5_has 2 (some .boolean) 1) (n : Nat) (S : PS) (a0 : Nat) (x1_ : Int32) (hTa0 : Ty X.2.1 a0 5) {o : Int32} (hf : fX5_has X.2.1 n S a0 x1_ = some o) (hR : Rt C X cX5_has (some .boolean) (some (.int o)) S) : UW C X S 0 [(0, .ref (X.1 a0)), (1, .int x1_)] [] := by
  unfold fX5_has at hf
  refine u_aload_n hC dX5_has_0 0 rfl rfl ?_
  refine u_gi hC lf_X5_19 rfl hTa0 dX5_has_1 hf (fun x1 hf => ?_)
  refine u_iload_n hC dX5_has_4 1 rfl rfl ?_
  refine u_ishr hC dX5_has_5 ?_
  refine u_iconst (v := (1 : Int32)) hC dX5_has_6 (by decide) ?_
  refine u_iand hC dX5_has_7 ?_
  refine u_if_eq (tgt := 15) hC dX5_has_8 (by decide) hf (fun h8 hf => ?_) (fun h8 hf => ?_)
  · refine u_iconst (v := (0 : Int32)) hC dX5_has_15 (by decide) ?_
    refine u_sub (lv' := []) [] rfl ?_
    exact wjX5_has_16 hC n S (0 : Int32)   hf hR
  · refine u_iconst (v := (1 : Int32)) hC dX5_has_11 (by decide) ?_
    refine u_goto (tgt := 16) hC dX5_has_12 (by decide) ?_
    refine u_sub (lv' := []) [] rfl ?_
    exact wjX5_has_16 hC n S (1 : Int32)   hf hR
theorem ctX5_has (l : Launch) (hl : l.stackTraces = false) (G : GT) (ρ : Nat → Nat) (Y : XS) (n : Nat) (S : PS) (a0 : Nat) (x1_ : Int32) (hTa0 : Ty Y a0 5) {o : Int32} (hf : fX5_has Y n S a0 x1_ = some o) : Mt l G yX5_has cX5_has 2 (some .boolean) 1 ρ Y [.ref (ρ a0), .int x1_] S (some (.int o)) S :=
  Mt_of hl (by decide) (Nat.le_of_ble_eq_true rfl) (fun C _ _ hC hR => wX5_has (X := (ρ, Y, 0, 0)) hC n S a0 x1_ hTa0 hf hR)
-- X5_copyFrom
theorem dX5_copyFrom_0 : decode cX5_copyFrom 0 = .ok (.aload_n 0, 1) := by decide +kernel
theorem dX5_copyFrom_1 : decode cX5_copyFrom 1 = .ok (.aload_n 1, 1) := by decide +kernel
theorem dX5_copyFrom_2 : decode cX5_copyFrom 2 = .ok (.getfield 15, 3) := by decide +kernel
theorem dX5_copyFrom_5 : decode cX5_copyFrom 5 = .ok (.putfield 15, 3) := by decide +kernel
theorem dX5_copyFrom_8 : decode cX5_copyFrom 8 = .ok (.aload_n 0, 1) := by decide +kernel
theorem dX5_copyFrom_9 : decode cX5_copyFrom 9 = .ok (.aload_n 1, 1) := by decide +kernel
theorem dX5_copyFrom_10 : decode cX5_copyFrom 10 = .ok (.getfield 19, 3) := by decide +kernel
theorem dX5_copyFrom_13 : decode cX5_copyFrom 13 = .ok (.putfield 19, 3) := by decide +kernel
theorem dX5_copyFrom_16 : decode cX5_copyFrom 16 = .ok (.aload_n 0, 1) := by decide +kernel
theorem dX5_copyFrom_17 : decode cX5_copyFrom 17 = .ok (.aload_n 1, 1) := by decide +kernel
theorem dX5_copyFrom_18 : decode cX5_copyFrom 18 = .ok (.getfield 22, 3) := by decide +kernel
theorem dX5_copyFrom_21 : decode cX5_copyFrom 21 = .ok (.putfield 22, 3) := by decide +kernel
theorem dX5_copyFrom_24 : decode cX5_copyFrom 24 = .ok (.aload_n 0, 1) := by decide +kernel
theorem dX5_copyFrom_25 : decode cX5_copyFrom 25 = .ok (.aload_n 1, 1) := by decide +kernel
theorem dX5_copyFrom_26 : decode cX5_copyFrom 26 = .ok (.getfield 25, 3) := by decide +kernel
theorem dX5_copyFrom_29 : decode cX5_copyFrom 29 = .ok (.putfield 25, 3) := by decide +kernel
theorem dX5_copyFrom_32 : decode cX5_copyFrom 32 = .ok (.aload_n 0, 1) := by decide +kernel
theorem dX5_copyFrom_33 : decode cX5_copyFrom 33 = .ok (.aload_n 1, 1) := by decide +kernel
theorem dX5_copyFrom_34 : decode cX5_copyFrom 34 = .ok (.getfield 28, 3) := by decide +kernel
theorem dX5_copyFrom_37 : decode cX5_copyFrom 37 = .ok (.putfield 28, 3) := by decide +kernel
theorem dX5_copyFrom_40 : decode cX5_copyFrom 40 = .ok (.aload_n 0, 1) := by decide +kernel
theorem dX5_copyFrom_41 : decode cX5_copyFrom 41 = .ok (.iconst 0, 1) := by decide +kernel
theorem dX5_copyFrom_42 : decode cX5_copyFrom 42 = .ok (.putfield 46, 3) := by decide +kernel
theorem dX5_copyFrom_45 : decode cX5_copyFrom 45 = .ok (.aload_n 1, 1) := by decide +kernel
theorem dX5_copyFrom_46 : decode cX5_copyFrom 46 = .ok (.getfield 9, 3) := by decide +kernel
theorem dX5_copyFrom_49 : decode cX5_copyFrom 49 = .ok (.iconst 0, 1) := by decide +kernel
theorem dX5_copyFrom_50 : decode cX5_copyFrom 50 = .ok (.aload_n 0, 1) := by decide +kernel
theorem dX5_copyFrom_51 : decode cX5_copyFrom 51 = .ok (.getfield 9, 3) := by decide +kernel
theorem dX5_copyFrom_54 : decode cX5_copyFrom 54 = .ok (.iconst 0, 1) := by decide +kernel
theorem dX5_copyFrom_55 : decode cX5_copyFrom 55 = .ok (.bipush 12, 2) := by decide +kernel
theorem dX5_copyFrom_57 : decode cX5_copyFrom 57 = .ok (.invokestatic 55, 3) := by decide +kernel
theorem dX5_copyFrom_60 : decode cX5_copyFrom 60 = .ok (.aload_n 1, 1) := by decide +kernel
theorem dX5_copyFrom_61 : decode cX5_copyFrom 61 = .ok (.getfield 31, 3) := by decide +kernel
theorem dX5_copyFrom_64 : decode cX5_copyFrom 64 = .ok (.iconst 0, 1) := by decide +kernel
theorem dX5_copyFrom_65 : decode cX5_copyFrom 65 = .ok (.aload_n 0, 1) := by decide +kernel
theorem dX5_copyFrom_66 : decode cX5_copyFrom 66 = .ok (.getfield 31, 3) := by decide +kernel
theorem dX5_copyFrom_69 : decode cX5_copyFrom 69 = .ok (.iconst 0, 1) := by decide +kernel
theorem dX5_copyFrom_70 : decode cX5_copyFrom 70 = .ok (.sipush 288, 3) := by decide +kernel
theorem dX5_copyFrom_73 : decode cX5_copyFrom 73 = .ok (.invokestatic 55, 3) := by decide +kernel
theorem dX5_copyFrom_76 : decode cX5_copyFrom 76 = .ok (.aload_n 1, 1) := by decide +kernel
theorem dX5_copyFrom_77 : decode cX5_copyFrom 77 = .ok (.getfield 34, 3) := by decide +kernel
theorem dX5_copyFrom_80 : decode cX5_copyFrom 80 = .ok (.iconst 0, 1) := by decide +kernel
theorem dX5_copyFrom_81 : decode cX5_copyFrom 81 = .ok (.aload_n 0, 1) := by decide +kernel
theorem dX5_copyFrom_82 : decode cX5_copyFrom 82 = .ok (.getfield 34, 3) := by decide +kernel
theorem dX5_copyFrom_85 : decode cX5_copyFrom 85 = .ok (.iconst 0, 1) := by decide +kernel
theorem dX5_copyFrom_86 : decode cX5_copyFrom 86 = .ok (.bipush 24, 2) := by decide +kernel
theorem dX5_copyFrom_88 : decode cX5_copyFrom 88 = .ok (.invokestatic 55, 3) := by decide +kernel
theorem dX5_copyFrom_91 : decode cX5_copyFrom 91 = .ok (.return_, 1) := by decide +kernel
def fX5_copyFrom (Y : XS) (n : Nat) (S : PS) (a0 : Nat) (a1 : Nat) : Option (PS) :=
  kgi S a1 1 (fun x2 => kpi S a0 1 x2 (fun S5 => kgi S5 a1 2 (fun x10 => kpi S5 a0 2 x10 (fun S13 => kgi S13 a1 3 (fun x18 => kpi S13 a0 3 x18 (fun S21 => kgi S21 a1 4 (fun x26 => kpi S21 a0 4 x26 (fun S29 => kgi S29 a1 5 (fun x34 => kpi S29 a0 5 x34 (fun S37 => kpz S37 a0 11 (0 : Int32) (fun S42 => kgr S42 a1 0 (fun b46 => kgr S42 a0 0 (fun b51 => kcp Y S42 b46 (0 : Int32) b51 (0 : Int32) (12 : Int32) (fun S57 => kgr S57 a1 6 (fun b61 => kgr S57 a0 6 (fun b66 => kcp Y S57 b61 (0 : Int32) b66 (0 : Int32) (288 : Int32) (fun S73 => kgr S73 a1 7 (fun b77 => kgr S73 a0 7 (fun b82 => kcp Y S73 b77 (0 : Int32) b82 (0 : Int32) (24 : Int32) (fun S88 => some S88))))))))))))))))))))
theorem wX5_copyFrom {C : CT} {X : XT} (hC : CK C RX5 cX5_copyFrom 2 none 1) (n : Nat) (S : PS) (a0 : Nat) (a1 : Nat) (hTa0 : Ty X.2.1 a0 5) (hTa1 : Ty X.2.1 a1 5) {o : PS} (hf : fX5_copyFrom X.2.1 n S a0 a1 = some o) (hR : Rt C X cX5_copyFrom none none o) : UW C X S 0 [(0, .ref (X.1 a0)), (1, .ref (X.1 a1))] [] := by
  unfold fX5_copyFrom at hf
  refine u_aload_n hC dX5_copyFrom_0 0 rfl rfl ?_
  refine u_aload_n hC dX5_copyFrom_1 1 rfl rfl ?_
  refine u_gi hC lf_X5_15 rfl hTa1 dX5_copyFrom_2 hf (fun x2 hf => ?_)
  refine u_pi hC lf_X5_15 rfl rfl rfl hTa0 dX5_copyFrom_5 hf (fun S5 hf => ?_)
  refine u_aload_n hC dX5_copyFrom_8 0 rfl rfl ?_
  refine u_aload_n hC dX5_copyFrom_9 1 rfl rfl ?_
  refine u_gi hC lf_X5_19 rfl hTa1 dX5_copyFrom_10 hf (fun x10 hf => ?_)
  refine u_pi hC lf_X5_19 rfl rfl rfl hTa0 dX5_copyFrom_13 hf (fun S13 hf => ?_)
  refine u_aload_n hC dX5_copyFrom_16 0 rfl rfl ?_
  refine u_aload_n hC dX5_copyFrom_17 1 rfl rfl ?_
  refine u_gi hC lf_X5_22 rfl hTa1 dX5_copyFrom_18 hf (fun x18 hf => ?_)
  refine u_pi hC lf_X5_22 rfl rfl rfl hTa0 dX5_copyFrom_21 hf (fun S21 hf => ?_)
  refine u_aload_n hC dX5_copyFrom_24 0 rfl rfl ?_
  refine u_aload_n hC dX5_copyFrom_25 1 rfl rfl ?_
  refine u_gi hC lf_X5_25 rfl hTa1 dX5_copyFrom_26 hf (fun x26 hf => ?_)
  refine u_pi hC lf_X5_25 rfl rfl rfl hTa0 dX5_copyFrom_29 hf (fun S29 hf => ?_)
  refine u_aload_n hC dX5_copyFrom_32 0 rfl rfl ?_
  refine u_aload_n hC dX5_copyFrom_33 1 rfl rfl ?_
  refine u_gi hC lf_X5_28 rfl hTa1 dX5_copyFrom_34 hf (fun x34 hf => ?_)
  refine u_pi hC lf_X5_28 rfl rfl rfl hTa0 dX5_copyFrom_37 hf (fun S37 hf => ?_)
  refine u_aload_n hC dX5_copyFrom_40 0 rfl rfl ?_
  refine u_iconst (v := (0 : Int32)) hC dX5_copyFrom_41 (by decide) ?_
  refine u_pz hC lf_X5_46 rfl rfl rfl hTa0 dX5_copyFrom_42 hf (fun S42 hf => ?_)
  refine u_aload_n hC dX5_copyFrom_45 1 rfl rfl ?_
  refine u_gr hC lf_X5_9 rfl hTa1 dX5_copyFrom_46 hf (fun b46 hTb46 hf => ?_)
  refine u_iconst (v := (0 : Int32)) hC dX5_copyFrom_49 (by decide) ?_
  refine u_aload_n hC dX5_copyFrom_50 0 rfl rfl ?_
  refine u_gr hC lf_X5_9 rfl hTa0 dX5_copyFrom_51 hf (fun b51 hTb51 hf => ?_)
  refine u_iconst (v := (0 : Int32)) hC dX5_copyFrom_54 (by decide) ?_
  refine u_bipush (v := (12 : Int32)) hC dX5_copyFrom_55 (by decide) ?_
  refine u_cp hC (tb_5 5 rfl rfl) (by decide) hTb46 hTb51 (Nat.le_of_ble_eq_true rfl) dX5_copyFrom_57 hf (fun S57 hf => ?_)
  refine u_aload_n hC dX5_copyFrom_60 1 rfl rfl ?_
  refine u_gr hC lf_X5_31 rfl hTa1 dX5_copyFrom_61 hf (fun b61 hTb61 hf => ?_)
  refine u_iconst (v := (0 : Int32)) hC dX5_copyFrom_64 (by decide) ?_
  refine u_aload_n hC dX5_copyFrom_65 0 rfl rfl ?_
  refine u_gr hC lf_X5_31 rfl hTa0 dX5_copyFrom_66 hf (fun b66 hTb66 hf => ?_)
  refine u_iconst (v := (0 : Int32)) hC dX5_copyFrom_69 (by decide) ?_
  refine u_sipush (v := (288 : Int32)) hC dX5_copyFrom_70 (by decide) ?_
  refine u_cp hC (tb_5 5 rfl rfl) (by decide) hTb61 hTb66 (Nat.le_of_ble_eq_true rfl) dX5_copyFrom_73 hf (fun S73 hf => ?_)
  refine u_aload_n hC dX5_copyFrom_76 1 rfl rfl ?_
  refine u_gr hC lf_X5_34 rfl hTa1 dX5_copyFrom_77 hf (fun b77 hTb77 hf => ?_)
  refine u_iconst (v := (0 : Int32)) hC dX5_copyFrom_80 (by decide) ?_
  refine u_aload_n hC dX5_copyFrom_81 0 rfl rfl ?_
  refine u_gr hC lf_X5_34 rfl hTa0 dX5_copyFrom_82 hf (fun b82 hTb82 hf => ?_)
  refine u_iconst (v := (0 : Int32)) hC dX5_copyFrom_85 (by decide) ?_
  refine u_bipush (v := (24 : Int32)) hC dX5_copyFrom_86 (by decide) ?_
  refine u_cp hC (tb_5 5 rfl rfl) (by decide) hTb77 hTb82 (Nat.le_of_ble_eq_true rfl) dX5_copyFrom_88 hf (fun S88 hf => ?_)
  cases hf
  exact hR _ _ dX5_copyFrom_91 trivial
theorem ctX5_copyFrom (l : Launch) (hl : l.stackTraces = false) (G : GT) (ρ : Nat → Nat) (Y : XS) (n : Nat) (S : PS) (a0 : Nat) (a1 : Nat) (hTa0 : Ty Y a0 5) (hTa1 : Ty Y a1 5) {o : PS} (hf : fX5_copyFrom Y n S a0 a1 = some o) : Mt l G yX5_copyFrom cX5_copyFrom 2 none 1 ρ Y [.ref (ρ a0), .ref (ρ a1)] S none o :=
  Mt_of hl (by decide) (Nat.le_of_ble_eq_true rfl) (fun C _ _ hC hR => wX5_copyFrom (X := (ρ, Y, 0, 0)) hC n S a0 a1 hTa0 hTa1 hf hR)
-- X5_paidBy
theorem dX5_paidBy_0 : decode cX5_paidBy 0 = .ok (.iload_n 2, 1) := by decide +kernel
theorem dX5_paidBy_1 : decode cX5_paidBy 1 = .ok (.aload_n 0, 1) := by decide +kernel
theorem dX5_paidBy_2 : decode cX5_paidBy 2 = .ok (.getfield 28, 3) := by decide +kernel
theorem dX5_paidBy_5 : decode cX5_paidBy 5 = .ok (.invokestatic 91, 3) := by decide +kernel
theorem dX5_paidBy_8 : decode cX5_paidBy 8 = .ok (.ifCond .eq 17, 3) := by decide +kernel
theorem dX5_paidBy_11 : decode cX5_paidBy 11 = .ok (.aload_n 0, 1) := by decide +kernel
theorem dX5_paidBy_12 : decode cX5_paidBy 12 = .ok (.getfield 31, 3) := by decide +kernel
theorem dX5_paidBy_15 : decode cX5_paidBy 15 = .ok (.iload_n 2, 1) := by decide +kernel
theorem dX5_paidBy_16 : decode cX5_paidBy 16 = .ok (.bipush 24, 2) := by decide +kernel
theorem dX5_paidBy_18 : decode cX5_paidBy 18 = .ok (.imul, 1) := by decide +kernel
theorem dX5_paidBy_19 : decode cX5_paidBy 19 = .ok (.iload_n 1, 1) := by decide +kernel
theorem dX5_paidBy_20 : decode cX5_paidBy 20 = .ok (.iadd, 1) := by decide +kernel
theorem dX5_paidBy_21 : decode cX5_paidBy 21 = .ok (.iaload, 1) := by decide +kernel
theorem dX5_paidBy_22 : decode cX5_paidBy 22 = .ok (.goto 4, 3) := by decide +kernel
theorem dX5_paidBy_25 : decode cX5_paidBy 25 = .ok (.iconst 0, 1) := by decide +kernel
theorem dX5_paidBy_26 : decode cX5_paidBy 26 = .ok (.ireturn, 1) := by decide +kernel
def jX5_paidBy_26 (Y : XS) (n : Nat) (S : PS) (t0 : Int32) : Option (Int32) :=
  some t0
def fX5_paidBy (Y : XS) (n : Nat) (S : PS) (a0 : Nat) (x1_ : Int32) (x2_ : Int32) : Option (Int32) :=
  kgi S a0 5 (fun x2 => kc (fX10_isIn Y n S x2_ x2) (fun q5 => (if q5 = 0 then jX5_paidBy_26 Y n S (0 : Int32) else kgr S a0 6 (fun b12 => kai Y S b12 ((x2_ * (24 : Int32)) + x1_) (fun x21 => jX5_paidBy_26 Y n S x21)))))
theorem wjX5_paidBy_26 {C : CT} {X : XT} (hC : CK C RX5 cX5_paidBy 3 (some .int) 2) (n : Nat) (S : PS) (t0 : Int32)   {o : Int32} (hf : jX5_paidBy_26 X.2.1 n S t0 = some o) (hR : Rt C X cX5_paidBy (some .int) (some (.int o)) S) : UW C X S 26 [] [.int t0] := by
  unfold jX5_paidBy_26 at hf
  cases hf
  exact hR _ _ dX5_paidBy_26 trivial
theorem wX5_paidBy {C : CT} {X : XT} (hC : CK C RX5 cX5_paidBy 3 (some .int) 2) (n : Nat) (S : PS) (a0 : Nat) (x1_ : Int32) (x2_ : Int32) (hTa0 : Ty X.2.1 a0 5) {o : Int32} (hf : fX5_paidBy X.2.1 n S a0 x1_ x2_ = some o) (hR : Rt C X cX5_paidBy (some .int) (some (.int o)) S) : UW C X S 0 [(0, .ref (X.1 a0)), (1, .int x1_), (2, .int x2_)] [] := by
  unfold fX5_paidBy at hf
  refine u_iload_n hC dX5_paidBy_0 2 rfl rfl ?_
  refine u_aload_n hC dX5_paidBy_1 0 rfl rfl ?_
  refine u_gi hC lf_X5_28 rfl hTa0 dX5_paidBy_2 hf (fun x2 hf => ?_)
  obtain ⟨q5, hq5, hf⟩ := kc_some hf
  refine u_callSN hC (ctX10_isIn (cL C) hC.tr (cG C) X.1 X.2.1 n S x2_ x2  hq5) lk_X5_91 ls_X5_91 (by decide) (by decide) rfl rfl (Nat.le_of_ble_eq_true rfl) dX5_paidBy_5 ?_
  refine u_if_eq (tgt := 25) hC dX5_paidBy_8 (by decide) hf (fun h8 hf => ?_) (fun h8 hf => ?_)
  · refine u_iconst (v := (0 : Int32)) hC dX5_paidBy_25 (by decide) ?_
    refine u_sub (lv' := []) [] rfl ?_
    exact wjX5_paidBy_26 hC n S (0 : Int32)   hf hR
  · refine u_aload_n hC dX5_paidBy_11 0 rfl rfl ?_
    refine u_gr hC lf_X5_31 rfl hTa0 dX5_paidBy_12 hf (fun b12 hTb12 hf => ?_)
    refine u_iload_n hC dX5_paidBy_15 2 rfl rfl ?_
    refine u_bipush (v := (24 : Int32)) hC dX5_paidBy_16 (by decide) ?_
    refine u_imul hC dX5_paidBy_18 ?_
    refine u_iload_n hC dX5_paidBy_19 1 rfl rfl ?_
    refine u_iadd hC dX5_paidBy_20 ?_
    refine u_ai hC hTb12 dX5_paidBy_21 hf (fun x21 hf => ?_)
    refine u_goto (tgt := 26) hC dX5_paidBy_22 (by decide) ?_
    refine u_sub (lv' := []) [] rfl ?_
    exact wjX5_paidBy_26 hC n S x21   hf hR
theorem ctX5_paidBy (l : Launch) (hl : l.stackTraces = false) (G : GT) (ρ : Nat → Nat) (Y : XS) (n : Nat) (S : PS) (a0 : Nat) (x1_ : Int32) (x2_ : Int32) (hTa0 : Ty Y a0 5) {o : Int32} (hf : fX5_paidBy Y n S a0 x1_ x2_ = some o) : Mt l G yX5_paidBy cX5_paidBy 3 (some .int) 2 ρ Y [.ref (ρ a0), .int x1_, .int x2_] S (some (.int o)) S :=
  Mt_of hl (by decide) (Nat.le_of_ble_eq_true rfl) (fun C _ _ hC hR => wX5_paidBy (X := (ρ, Y, 0, 0)) hC n S a0 x1_ x2_ hTa0 hf hR)
