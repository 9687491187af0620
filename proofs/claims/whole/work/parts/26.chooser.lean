-- X0_greed
theorem dX0_greed_0 : decode cX0_greed 0 = .ok (.aload_n 0, 1) := by decide +kernel
theorem dX0_greed_1 : decode cX0_greed 1 = .ok (.getfield 56, 3) := by decide +kernel
theorem dX0_greed_4 : decode cX0_greed 4 = .ok (.getfield 72, 3) := by decide +kernel
theorem dX0_greed_7 : decode cX0_greed 7 = .ok (.iload_n 1, 1) := by decide +kernel
theorem dX0_greed_8 : decode cX0_greed 8 = .ok (.iaload, 1) := by decide +kernel
theorem dX0_greed_9 : decode cX0_greed 9 = .ok (.istore_n 3, 1) := by decide +kernel
theorem dX0_greed_10 : decode cX0_greed 10 = .ok (.iload_n 2, 1) := by decide +kernel
theorem dX0_greed_11 : decode cX0_greed 11 = .ok (.ifCond .eq 22, 3) := by decide +kernel
theorem dX0_greed_14 : decode cX0_greed 14 = .ok (.iload_n 3, 1) := by decide +kernel
theorem dX0_greed_15 : decode cX0_greed 15 = .ok (.ifCond .le 18, 3) := by decide +kernel
theorem dX0_greed_18 : decode cX0_greed 18 = .ok (.aload_n 0, 1) := by decide +kernel
theorem dX0_greed_19 : decode cX0_greed 19 = .ok (.getfield 97, 3) := by decide +kernel
theorem dX0_greed_22 : decode cX0_greed 22 = .ok (.iload_n 1, 1) := by decide +kernel
theorem dX0_greed_23 : decode cX0_greed 23 = .ok (.iaload, 1) := by decide +kernel
theorem dX0_greed_24 : decode cX0_greed 24 = .ok (.sipush 1000, 3) := by decide +kernel
theorem dX0_greed_27 : decode cX0_greed 27 = .ok (.imul, 1) := by decide +kernel
theorem dX0_greed_28 : decode cX0_greed 28 = .ok (.iload_n 3, 1) := by decide +kernel
theorem dX0_greed_29 : decode cX0_greed 29 = .ok (.idiv, 1) := by decide +kernel
theorem dX0_greed_30 : decode cX0_greed 30 = .ok (.goto 9, 3) := by decide +kernel
theorem dX0_greed_33 : decode cX0_greed 33 = .ok (.aload_n 0, 1) := by decide +kernel
theorem dX0_greed_34 : decode cX0_greed 34 = .ok (.getfield 97, 3) := by decide +kernel
theorem dX0_greed_37 : decode cX0_greed 37 = .ok (.iload_n 1, 1) := by decide +kernel
theorem dX0_greed_38 : decode cX0_greed 38 = .ok (.iaload, 1) := by decide +kernel
theorem dX0_greed_39 : decode cX0_greed 39 = .ok (.ireturn, 1) := by decide +kernel
def jX0_greed_39 (Y : XS) (n : Nat) (S : PS) (t0 : Int32) : Option (Int32) :=
  some t0
def jX0_greed_33 (Y : XS) (n : Nat) (S : PS) (v0 : Nat) (v1 : Int32) : Option (Int32) :=
  kgr S v0 2 (fun b34 => kai Y S b34 v1 (fun x38 => jX0_greed_39 Y n S x38))
def fX0_greed (Y : XS) (n : Nat) (S : PS) (a0 : Nat) (x1_ : Int32) (x2_ : Int32) : Option (Int32) :=
  kgr S a0 0 (fun b1 => kgr S b1 4 (fun b4 => kai Y S b4 x1_ (fun x8 => (if x2_ = 0 then jX0_greed_33 Y n S a0 x1_ else (if x8 ≤ 0 then jX0_greed_33 Y n S a0 x1_ else kgr S a0 2 (fun b19 => kai Y S b19 x1_ (fun x23 => kidiv (x23 * (1000 : Int32)) x8 (fun z29 => jX0_greed_39 Y n S z29))))))))
theorem wjX0_greed_39 {C : CT} {X : XT} (hC : CK C RX0 cX0_greed 4 (some .int) 1) (n : Nat) (S : PS) (t0 : Int32)   {o : Int32} (hf : jX0_greed_39 X.2.1 n S t0 = some o) (hR : Rt C X cX0_greed (some .int) (some (.int o)) S) : UW C X S 39 [] [.int t0] := by
  unfold jX0_greed_39 at hf
  cases hf
  exact hR _ _ dX0_greed_39 trivial
theorem wjX0_greed_33 {C : CT} {X : XT} (hC : CK C RX0 cX0_greed 4 (some .int) 1) (n : Nat) (S : PS) (v0 : Nat) (v1 : Int32)  (hTv0 : Ty X.2.1 v0 6) {o : Int32} (hf : jX0_greed_33 X.2.1 n S v0 v1 = some o) (hR : Rt C X cX0_greed (some .int) (some (.int o)) S) : UW C X S 33 [(0, .ref (X.1 v0)), (1, .int v1)] [] := by
  unfold jX0_greed_33 at hf
  refine u_aload_n hC dX0_greed_33 0 rfl rfl ?_
  refine u_gr hC lf_X0_97 rfl hTv0 dX0_greed_34 hf (fun b34 hTb34 hf => ?_)
  refine u_iload_n hC dX0_greed_37 1 rfl rfl ?_
  refine u_ai hC hTb34 dX0_greed_38 hf (fun x38 hf => ?_)
  refine u_sub (lv' := []) [] rfl ?_
  exact wjX0_greed_39 hC n S x38   hf hR
theorem wX0_greed {C : CT} {X : XT} (hC : CK C RX0 cX0_greed 4 (some .int) 1) (n : Nat) (S : PS) (a0 : Nat) (x1_ : Int32) (x2_ : Int32) (hTa0 : Ty X.2.1 a0 6) {o : Int32} (hf : fX0_greed X.2.1 n S a0 x1_ x2_ = some o) (hR : Rt C X cX0_greed (some .int) (some (.int o)) S) : UW C X S 0 [(0, .ref (X.1 a0)), (1, .int x1_), (2, .int x2_)] [] := by
  unfold fX0_greed at hf
  refine u_aload_n hC dX0_greed_0 0 rfl rfl ?_
  refine u_gr hC lf_X0_56 rfl hTa0 dX0_greed_1 hf (fun b1 hTb1 hf => ?_)
  refine u_gr hC lf_X0_72 rfl hTb1 dX0_greed_4 hf (fun b4 hTb4 hf => ?_)
  refine u_iload_n hC dX0_greed_7 1 rfl rfl ?_
  refine u_ai hC hTb4 dX0_greed_8 hf (fun x8 hf => ?_)
  refine u_istore_n (lv' := [(3, .int x8), (0, .ref (X.1 a0)), (1, .int x1_), (2, .int x2_)]) hC dX0_greed_9 rfl (by decide) rfl ?_
  refine u_iload_n hC dX0_greed_10 3 rfl rfl ?_
  refine u_if_eq (tgt := 33) hC dX0_greed_11 (by decide) hf (fun h11 hf => ?_) (fun h11 hf => ?_)
  · refine u_sub (lv' := [(0, .ref (X.1 a0)), (1, .int x1_)]) [1, 2] rfl ?_
    exact wjX0_greed_33 hC n S a0 x1_  hTa0 hf hR
  · refine u_iload_n hC dX0_greed_14 0 rfl rfl ?_
    refine u_if_le (tgt := 33) hC dX0_greed_15 (by decide) hf (fun h15 hf => ?_) (fun h15 hf => ?_)
    · refine u_sub (lv' := [(0, .ref (X.1 a0)), (1, .int x1_)]) [1, 2] rfl ?_
      exact wjX0_greed_33 hC n S a0 x1_  hTa0 hf hR
    · refine u_aload_n hC dX0_greed_18 1 rfl rfl ?_
      refine u_gr hC lf_X0_97 rfl hTa0 dX0_greed_19 hf (fun b19 hTb19 hf => ?_)
      refine u_iload_n hC dX0_greed_22 2 rfl rfl ?_
      refine u_ai hC hTb19 dX0_greed_23 hf (fun x23 hf => ?_)
      refine u_sipush (v := (1000 : Int32)) hC dX0_greed_24 (by decide) ?_
      refine u_imul hC dX0_greed_27 ?_
      refine u_iload_n hC dX0_greed_28 0 rfl rfl ?_
      refine u_idiv hC dX0_greed_29 hf (fun z29 hf => ?_)
      refine u_goto (tgt := 39) hC dX0_greed_30 (by decide) ?_
      refine u_sub (lv' := []) [] rfl ?_
      exact wjX0_greed_39 hC n S z29   hf hR
theorem ctX0_greed (l : Launch) (hl : l.stackTraces = false) (G : GT) (ρ : Nat → Nat) (Y : XS) (n : Nat) (S : PS) (a0 : Nat) (x1_ : Int32) (x2_ : Int32) (hTa0 : Ty Y a0 6) {o : Int32} (hf : fX0_greed Y n S a0 x1_ x2_ = some o) : Mt l G yX0_greed cX0_greed 4 (some .int) 1 ρ Y [.ref (ρ a0), .int x1_, .int x2_] S (some (.int o)) S :=
  Mt_of hl (by decide) (Nat.le_of_ble_eq_true rfl) (fun C _ _ hC hR => wX0_greed (X := (ρ, Y, 0, 0)) hC n S a0 x1_ x2_ hTa0 hf hR)
-- X0_isGreedier
theorem dX0_isGreedier_0 : decode cX0_isGreedier 0 = .ok (.aload_n 0, 1) := by decide +kernel
theorem dX0_isGreedier_1 : decode cX0_isGreedier 1 = .ok (.iload_n 1, 1) := by decide +kernel
theorem dX0_isGreedier_2 : decode cX0_isGreedier 2 = .ok (.iload_n 3, 1) := by decide +kernel
theorem dX0_isGreedier_3 : decode cX0_isGreedier 3 = .ok (.invokestatic 93, 3) := by decide +kernel
theorem dX0_isGreedier_6 : decode cX0_isGreedier 6 = .ok (.istore 4, 2) := by decide +kernel
theorem dX0_isGreedier_8 : decode cX0_isGreedier 8 = .ok (.aload_n 0, 1) := by decide +kernel
theorem dX0_isGreedier_9 : decode cX0_isGreedier 9 = .ok (.iload_n 2, 1) := by decide +kernel
theorem dX0_isGreedier_10 : decode cX0_isGreedier 10 = .ok (.iload_n 3, 1) := by decide +kernel
theorem dX0_isGreedier_11 : decode cX0_isGreedier 11 = .ok (.invokestatic 93, 3) := by decide +kernel
theorem dX0_isGreedier_14 : decode cX0_isGreedier 14 = .ok (.istore 5, 2) := by decide +kernel
theorem dX0_isGreedier_16 : decode cX0_isGreedier 16 = .ok (.iload 4, 2) := by decide +kernel
theorem dX0_isGreedier_18 : decode cX0_isGreedier 18 = .ok (.iload 5, 2) := by decide +kernel
theorem dX0_isGreedier_20 : decode cX0_isGreedier 20 = .ok (.if_icmp .gt 31, 3) := by decide +kernel
theorem dX0_isGreedier_23 : decode cX0_isGreedier 23 = .ok (.iload 4, 2) := by decide +kernel
theorem dX0_isGreedier_25 : decode cX0_isGreedier 25 = .ok (.iload 5, 2) := by decide +kernel
theorem dX0_isGreedier_27 : decode cX0_isGreedier 27 = .ok (.if_icmp .ne 28, 3) := by decide +kernel
theorem dX0_isGreedier_30 : decode cX0_isGreedier 30 = .ok (.aload_n 0, 1) := by decide +kernel
theorem dX0_isGreedier_31 : decode cX0_isGreedier 31 = .ok (.getfield 56, 3) := by decide +kernel
theorem dX0_isGreedier_34 : decode cX0_isGreedier 34 = .ok (.getfield 72, 3) := by decide +kernel
theorem dX0_isGreedier_37 : decode cX0_isGreedier 37 = .ok (.iload_n 1, 1) := by decide +kernel
theorem dX0_isGreedier_38 : decode cX0_isGreedier 38 = .ok (.iaload, 1) := by decide +kernel
theorem dX0_isGreedier_39 : decode cX0_isGreedier 39 = .ok (.aload_n 0, 1) := by decide +kernel
theorem dX0_isGreedier_40 : decode cX0_isGreedier 40 = .ok (.getfield 56, 3) := by decide +kernel
theorem dX0_isGreedier_43 : decode cX0_isGreedier 43 = .ok (.getfield 72, 3) := by decide +kernel
theorem dX0_isGreedier_46 : decode cX0_isGreedier 46 = .ok (.iload_n 2, 1) := by decide +kernel
theorem dX0_isGreedier_47 : decode cX0_isGreedier 47 = .ok (.iaload, 1) := by decide +kernel
theorem dX0_isGreedier_48 : decode cX0_isGreedier 48 = .ok (.if_icmp .ge 7, 3) := by decide +kernel
theorem dX0_isGreedier_51 : decode cX0_isGreedier 51 = .ok (.iconst 1, 1) := by decide +kernel
theorem dX0_isGreedier_52 : decode cX0_isGreedier 52 = .ok (.goto 4, 3) := by decide +kernel
theorem dX0_isGreedier_55 : decode cX0_isGreedier 55 = .ok (.iconst 0, 1) := by decide +kernel
theorem dX0_isGreedier_56 : decode cX0_isGreedier 56 = .ok (.ireturn, 1) := by decide +kernel
def jX0_isGreedier_56 (Y : XS) (n : Nat) (S : PS) (t0 : Int32) : Option (Int32) :=
  kzr t0 (some t0)
def jX0_isGreedier_51 (Y : XS) (n : Nat) (S : PS)  : Option (Int32) :=
  jX0_isGreedier_56 Y n S (1 : Int32)
def jX0_isGreedier_55 (Y : XS) (n : Nat) (S : PS)  : Option (Int32) :=
  jX0_isGreedier_56 Y n S (0 : Int32)
def fX0_isGreedier (Y : XS) (n : Nat) (S : PS) (a0 : Nat) (x1_ : Int32) (x2_ : Int32) (x3_ : Int32) : Option (Int32) :=
  kc (fX0_greed Y n S a0 x1_ x3_) (fun q3 => kc (fX0_greed Y n S a0 x2_ x3_) (fun q11 => (if q11 < q3 then jX0_isGreedier_51 Y n S  else (if q3 = q11 then kgr S a0 0 (fun b31 => kgr S b31 4 (fun b34 => kai Y S b34 x1_ (fun x38 => kgr S a0 0 (fun b40 => kgr S b40 4 (fun b43 => kai Y S b43 x2_ (fun x47 => (if x47 ≤ x38 then jX0_isGreedier_55 Y n S  else jX0_isGreedier_51 Y n S ))))))) else jX0_isGreedier_55 Y n S ))))
theorem wjX0_isGreedier_56 {C : CT} {X : XT} (hC : CK C RX0 cX0_isGreedier 6 (some .boolean) 2) (n : Nat) (S : PS) (t0 : Int32)   {o : Int32} (hf : jX0_isGreedier_56 X.2.1 n S t0 = some o) (hR : Rt C X cX0_isGreedier (some .boolean) (some (.int o)) S) : UW C X S 56 [] [.int t0] := by
  unfold jX0_isGreedier_56 at hf
  obtain ⟨hz, hf⟩ := kzr_some hf
  cases hf
  exact hR _ _ dX0_isGreedier_56 hz
theorem wjX0_isGreedier_51 {C : CT} {X : XT} (hC : CK C RX0 cX0_isGreedier 6 (some .boolean) 2) (n : Nat) (S : PS)    {o : Int32} (hf : jX0_isGreedier_51 X.2.1 n S  = some o) (hR : Rt C X cX0_isGreedier (some .boolean) (some (.int o)) S) : UW C X S 51 [] [] := by
  unfold jX0_isGreedier_51 at hf
  refine u_iconst (v := (1 : Int32)) hC dX0_isGreedier_51 (by decide) ?_
  refine u_goto (tgt := 56) hC dX0_isGreedier_52 (by decide) ?_
  exact wjX0_isGreedier_56 hC n S (1 : Int32)   hf hR
theorem wjX0_isGreedier_55 {C : CT} {X : XT} (hC : CK C RX0 cX0_isGreedier 6 (some .boolean) 2) (n : Nat) (S : PS)    {o : Int32} (hf : jX0_isGreedier_55 X.2.1 n S  = some o) (hR : Rt C X cX0_isGreedier (some .boolean) (some (.int o)) S) : UW C X S 55 [] [] := by
  unfold jX0_isGreedier_55 at hf
  refine u_iconst (v := (0 : Int32)) hC dX0_isGreedier_55 (by decide) ?_
  exact wjX0_isGreedier_56 hC n S (0 : Int32)   hf hR
theorem wX0_isGreedier {C : CT} {X : XT} (hC : CK C RX0 cX0_isGreedier 6 (some .boolean) 2) (n : Nat) (S : PS) (a0 : Nat) (x1_ : Int32) (x2_ : Int32) (x3_ : Int32) (hTa0 : Ty X.2.1 a0 6) {o : Int32} (hf : fX0_isGreedier X.2.1 n S a0 x1_ x2_ x3_ = some o) (hR : Rt C X cX0_isGreedier (some .boolean) (some (.int o)) S) : UW C X S 0 [(0, .ref (X.1 a0)), (1, .int x1_), (2, .int x2_), (3, .int x3_)] [] := by
  unfold fX0_isGreedier at hf
  refine u_aload_n hC dX0_isGreedier_0 0 rfl rfl ?_
  refine u_iload_n hC dX0_isGreedier_1 1 rfl rfl ?_
  refine u_iload_n hC dX0_isGreedier_2 3 rfl rfl ?_
  obtain ⟨q3, hq3, hf⟩ := kc_some hf
  refine u_callS hC (ctX0_greed (cL C) hC.tr (cG C) X.1 X.2.1 n S a0 x1_ x3_ hTa0 hq3) lk_X0_93 (by decide) (by decide) rfl rfl (Nat.le_of_ble_eq_true rfl) dX0_isGreedier_3 ?_
  refine u_istore (lv' := [(4, .int q3), (0, .ref (X.1 a0)), (1, .int x1_), (2, .int x2_), (3, .int x3_)]) hC dX0_isGreedier_6 (by decide) rfl ?_
  refine u_aload_n hC dX0_isGreedier_8 1 rfl rfl ?_
  refine u_iload_n hC dX0_isGreedier_9 3 rfl rfl ?_
  refine u_iload_n hC dX0_isGreedier_10 4 rfl rfl ?_
  obtain ⟨q11, hq11, hf⟩ := kc_some hf
  refine u_callS hC (ctX0_greed (cL C) hC.tr (cG C) X.1 X.2.1 n S a0 x2_ x3_ hTa0 hq11) lk_X0_93 (by decide) (by decide) rfl rfl (Nat.le_of_ble_eq_true rfl) dX0_isGreedier_11 ?_
  refine u_istore (lv' := [(5, .int q11), (4, .int q3), (0, .ref (X.1 a0)), (1, .int x1_), (2, .int x2_), (3, .int x3_)]) hC dX0_isGreedier_14 (by decide) rfl ?_
  refine u_iload hC dX0_isGreedier_16 1 rfl ?_
  refine u_iload hC dX0_isGreedier_18 0 rfl ?_
  refine u_icmp_gt (tgt := 51) hC dX0_isGreedier_20 (by decide) hf (fun h20 hf => ?_) (fun h20 hf => ?_)
  · refine u_sub (lv' := []) [] rfl ?_
    exact wjX0_isGreedier_51 hC n S    hf hR
  · refine u_iload hC dX0_isGreedier_23 1 rfl ?_
    refine u_iload hC dX0_isGreedier_25 0 rfl ?_
    refine u_icmp_ne (tgt := 55) hC dX0_isGreedier_27 (by decide) hf (fun h27 hf => ?_) (fun h27 hf => ?_)
    · refine u_sub (lv' := []) [] rfl ?_
      exact wjX0_isGreedier_55 hC n S    hf hR
    · refine u_aload_n hC dX0_isGreedier_30 2 rfl rfl ?_
      refine u_gr hC lf_X0_56 rfl hTa0 dX0_isGreedier_31 hf (fun b31 hTb31 hf => ?_)
      refine u_gr hC lf_X0_72 rfl hTb31 dX0_isGreedier_34 hf (fun b34 hTb34 hf => ?_)
      refine u_iload_n hC dX0_isGreedier_37 3 rfl rfl ?_
      refine u_ai hC hTb34 dX0_isGreedier_38 hf (fun x38 hf => ?_)
      refine u_aload_n hC dX0_isGreedier_39 2 rfl rfl ?_
      refine u_gr hC lf_X0_56 rfl hTa0 dX0_isGreedier_40 hf (fun b40 hTb40 hf => ?_)
      refine u_gr hC lf_X0_72 rfl hTb40 dX0_isGreedier_43 hf (fun b43 hTb43 hf => ?_)
      refine u_iload_n hC dX0_isGreedier_46 4 rfl rfl ?_
      refine u_ai hC hTb43 dX0_isGreedier_47 hf (fun x47 hf => ?_)
      refine u_icmp_ge (tgt := 55) hC dX0_isGreedier_48 (by decide) hf (fun h48 hf => ?_) (fun h48 hf => ?_)
      · refine u_sub (lv' := []) [] rfl ?_
        exact wjX0_isGreedier_55 hC n S    hf hR
      · refine u_sub (lv' := []) [] rfl ?_
        exact wjX0_isGreedier_51 hC n S    hf hR
theorem ctX0_isGreedier (l : Launch) (hl : l.stackTraces = false) (G : GT) (ρ : Nat → Nat) (Y : XS) (n : Nat) (S : PS) (a0 : Nat) (x1_ : Int32) (x2_ : Int32) (x3_ : Int32) (hTa0 : Ty Y a0 6) {o : Int32} (hf : fX0_isGreedier Y n S a0 x1_ x2_ x3_ = some o) : Mt l G yX0_isGreedier cX0_isGreedier 6 (some .boolean) 2 ρ Y [.ref (ρ a0), .int x1_, .int x2_, .int x3_] S (some (.int o)) S :=
  Mt_of hl (by decide) (Nat.le_of_ble_eq_true rfl) (fun C _ _ hC hR => wX0_isGreedier (X := (ρ, Y, 0, 0)) hC n S a0 x1_ x2_ x3_ hTa0 hf hR)
-- X0_fillUp
theorem dX0_fillUp_0 : decode cX0_fillUp 0 = .ok (.aload_n 2, 1) := by decide +kernel
theorem dX0_fillUp_1 : decode cX0_fillUp 1 = .ok (.getfield 80, 3) := by decide +kernel
theorem dX0_fillUp_4 : decode cX0_fillUp 4 = .ok (.istore 4, 2) := by decide +kernel
theorem dX0_fillUp_6 : decode cX0_fillUp 6 = .ok (.iconst 0, 1) := by decide +kernel
theorem dX0_fillUp_7 : decode cX0_fillUp 7 = .ok (.istore 5, 2) := by decide +kernel
theorem dX0_fillUp_9 : decode cX0_fillUp 9 = .ok (.iload 5, 2) := by decide +kernel
theorem dX0_fillUp_11 : decode cX0_fillUp 11 = .ok (.aload_n 1, 1) := by decide +kernel
theorem dX0_fillUp_12 : decode cX0_fillUp 12 = .ok (.getfield 56, 3) := by decide +kernel
theorem dX0_fillUp_15 : decode cX0_fillUp 15 = .ok (.getfield 62, 3) := by decide +kernel
theorem dX0_fillUp_18 : decode cX0_fillUp 18 = .ok (.if_icmp .ge 122, 3) := by decide +kernel
theorem dX0_fillUp_21 : decode cX0_fillUp 21 = .ok (.iconst (-1), 1) := by decide +kernel
theorem dX0_fillUp_22 : decode cX0_fillUp 22 = .ok (.istore 6, 2) := by decide +kernel
theorem dX0_fillUp_24 : decode cX0_fillUp 24 = .ok (.iconst 0, 1) := by decide +kernel
theorem dX0_fillUp_25 : decode cX0_fillUp 25 = .ok (.istore 7, 2) := by decide +kernel
theorem dX0_fillUp_27 : decode cX0_fillUp 27 = .ok (.iload 7, 2) := by decide +kernel
theorem dX0_fillUp_29 : decode cX0_fillUp 29 = .ok (.aload_n 1, 1) := by decide +kernel
theorem dX0_fillUp_30 : decode cX0_fillUp 30 = .ok (.getfield 56, 3) := by decide +kernel
theorem dX0_fillUp_33 : decode cX0_fillUp 33 = .ok (.getfield 62, 3) := by decide +kernel
theorem dX0_fillUp_36 : decode cX0_fillUp 36 = .ok (.if_icmp .ge 41, 3) := by decide +kernel
theorem dX0_fillUp_39 : decode cX0_fillUp 39 = .ok (.iload 7, 2) := by decide +kernel
theorem dX0_fillUp_41 : decode cX0_fillUp 41 = .ok (.iload 4, 2) := by decide +kernel
theorem dX0_fillUp_43 : decode cX0_fillUp 43 = .ok (.invokestatic 68, 3) := by decide +kernel
theorem dX0_fillUp_46 : decode cX0_fillUp 46 = .ok (.ifCond .ne 25, 3) := by decide +kernel
theorem dX0_fillUp_49 : decode cX0_fillUp 49 = .ok (.iload 6, 2) := by decide +kernel
theorem dX0_fillUp_51 : decode cX0_fillUp 51 = .ok (.iconst (-1), 1) := by decide +kernel
theorem dX0_fillUp_52 : decode cX0_fillUp 52 = .ok (.if_icmp .eq 15, 3) := by decide +kernel
theorem dX0_fillUp_55 : decode cX0_fillUp 55 = .ok (.aload_n 1, 1) := by decide +kernel
theorem dX0_fillUp_56 : decode cX0_fillUp 56 = .ok (.iload 7, 2) := by decide +kernel
theorem dX0_fillUp_58 : decode cX0_fillUp 58 = .ok (.iload 6, 2) := by decide +kernel
theorem dX0_fillUp_60 : decode cX0_fillUp 60 = .ok (.iload_n 3, 1) := by decide +kernel
theorem dX0_fillUp_61 : decode cX0_fillUp 61 = .ok (.invokestatic 83, 3) := by decide +kernel
theorem dX0_fillUp_64 : decode cX0_fillUp 64 = .ok (.ifCond .eq 7, 3) := by decide +kernel
theorem dX0_fillUp_67 : decode cX0_fillUp 67 = .ok (.iload 7, 2) := by decide +kernel
theorem dX0_fillUp_69 : decode cX0_fillUp 69 = .ok (.istore 6, 2) := by decide +kernel
theorem dX0_fillUp_71 : decode cX0_fillUp 71 = .ok (.iinc 7 1, 3) := by decide +kernel
theorem dX0_fillUp_74 : decode cX0_fillUp 74 = .ok (.goto (-47), 3) := by decide +kernel
theorem dX0_fillUp_77 : decode cX0_fillUp 77 = .ok (.iload 6, 2) := by decide +kernel
theorem dX0_fillUp_79 : decode cX0_fillUp 79 = .ok (.iconst (-1), 1) := by decide +kernel
theorem dX0_fillUp_80 : decode cX0_fillUp 80 = .ok (.if_icmp .ne 4, 3) := by decide +kernel
theorem dX0_fillUp_83 : decode cX0_fillUp 83 = .ok (.return_, 1) := by decide +kernel
theorem dX0_fillUp_84 : decode cX0_fillUp 84 = .ok (.iload 4, 2) := by decide +kernel
theorem dX0_fillUp_86 : decode cX0_fillUp 86 = .ok (.iconst 1, 1) := by decide +kernel
theorem dX0_fillUp_87 : decode cX0_fillUp 87 = .ok (.iload 6, 2) := by decide +kernel
theorem dX0_fillUp_89 : decode cX0_fillUp 89 = .ok (.ishl, 1) := by decide +kernel
theorem dX0_fillUp_90 : decode cX0_fillUp 90 = .ok (.ior, 1) := by decide +kernel
theorem dX0_fillUp_91 : decode cX0_fillUp 91 = .ok (.istore 4, 2) := by decide +kernel
theorem dX0_fillUp_93 : decode cX0_fillUp 93 = .ok (.aload_n 2, 1) := by decide +kernel
theorem dX0_fillUp_94 : decode cX0_fillUp 94 = .ok (.getfield 87, 3) := by decide +kernel
theorem dX0_fillUp_97 : decode cX0_fillUp 97 = .ok (.aload_n 1, 1) := by decide +kernel
theorem dX0_fillUp_98 : decode cX0_fillUp 98 = .ok (.getfield 56, 3) := by decide +kernel
theorem dX0_fillUp_101 : decode cX0_fillUp 101 = .ok (.getfield 72, 3) := by decide +kernel
theorem dX0_fillUp_104 : decode cX0_fillUp 104 = .ok (.iload 6, 2) := by decide +kernel
theorem dX0_fillUp_106 : decode cX0_fillUp 106 = .ok (.iaload, 1) := by decide +kernel
theorem dX0_fillUp_107 : decode cX0_fillUp 107 = .ok (.iadd, 1) := by decide +kernel
theorem dX0_fillUp_108 : decode cX0_fillUp 108 = .ok (.aload_n 1, 1) := by decide +kernel
theorem dX0_fillUp_109 : decode cX0_fillUp 109 = .ok (.getfield 56, 3) := by decide +kernel
theorem dX0_fillUp_112 : decode cX0_fillUp 112 = .ok (.getfield 90, 3) := by decide +kernel
theorem dX0_fillUp_115 : decode cX0_fillUp 115 = .ok (.if_icmp .gt 19, 3) := by decide +kernel
theorem dX0_fillUp_118 : decode cX0_fillUp 118 = .ok (.aload_n 2, 1) := by decide +kernel
theorem dX0_fillUp_119 : decode cX0_fillUp 119 = .ok (.iload 6, 2) := by decide +kernel
theorem dX0_fillUp_121 : decode cX0_fillUp 121 = .ok (.aload_n 1, 1) := by decide +kernel
theorem dX0_fillUp_122 : decode cX0_fillUp 122 = .ok (.getfield 56, 3) := by decide +kernel
theorem dX0_fillUp_125 : decode cX0_fillUp 125 = .ok (.getfield 72, 3) := by decide +kernel
theorem dX0_fillUp_128 : decode cX0_fillUp 128 = .ok (.iload 6, 2) := by decide +kernel
theorem dX0_fillUp_130 : decode cX0_fillUp 130 = .ok (.iaload, 1) := by decide +kernel
theorem dX0_fillUp_131 : decode cX0_fillUp 131 = .ok (.invokevirtual 76, 3) := by decide +kernel
theorem dX0_fillUp_134 : decode cX0_fillUp 134 = .ok (.iinc 5 1, 3) := by decide +kernel
theorem dX0_fillUp_137 : decode cX0_fillUp 137 = .ok (.goto (-128), 3) := by decide +kernel
theorem dX0_fillUp_140 : decode cX0_fillUp 140 = .ok (.return_, 1) := by decide +kernel
def jX0_fillUp_71_27 (Y : XS) (n : Nat) (S : PS) (v1 : Nat) (v2 : Nat) (v3 : Int32) (v4 : Int32) (v5 : Int32) (v6 : Int32) (v7 : Int32) : Option ((Int32 × Int32) ⊕ Int32) :=
  some (.inl (v6, v7 + (1 : Int32)))
def jX0_fillUp_67_27 (Y : XS) (n : Nat) (S : PS) (v1 : Nat) (v2 : Nat) (v3 : Int32) (v4 : Int32) (v5 : Int32) (v7 : Int32) : Option ((Int32 × Int32) ⊕ Int32) :=
  jX0_fillUp_71_27 Y n S v1 v2 v3 v4 v5 v7 v7
def bX0_fillUp_27 (Y : XS) (n : Nat) (S : PS) (v1 : Nat) (v2 : Nat) (v3 : Int32) (v4 : Int32) (v5 : Int32) (s27 : (Int32 × Int32)) : Option ((Int32 × Int32) ⊕ Int32) :=
  kgr S v1 0 (fun b30 => kgi S b30 1 (fun x33 => (if x33 ≤ s27.2 then some (.inr s27.1) else kc (fX10_isIn Y n S s27.2 v4) (fun q43 => (if q43 = 0 then (if s27.1 = (-1 : Int32) then jX0_fillUp_67_27 Y n S v1 v2 v3 v4 v5 s27.2 else kc (fX0_isGreedier Y n S v1 s27.2 s27.1 v3) (fun q61 => (if q61 = 0 then jX0_fillUp_71_27 Y n S v1 v2 v3 v4 v5 s27.1 s27.2 else jX0_fillUp_67_27 Y n S v1 v2 v3 v4 v5 s27.2))) else jX0_fillUp_71_27 Y n S v1 v2 v3 v4 v5 s27.1 s27.2)))))
def jX0_fillUp_134_9 (Y : XS) (n : Nat) (S : PS) (v1 : Nat) (v2 : Nat) (v3 : Int32) (v4 : Int32) (v5 : Int32) : Option ((Int32 × Int32 × PS) ⊕ (PS ⊕ (PS))) :=
  some (.inl (v4, v5 + (1 : Int32), S))
def bX0_fillUp_9 (Y : XS) (n : Nat) (v1 : Nat) (v2 : Nat) (v3 : Int32) (s9 : (Int32 × Int32 × PS)) : Option ((Int32 × Int32 × PS) ⊕ (PS ⊕ (PS))) :=
  kgr s9.2.2 v1 0 (fun b12 => kgi s9.2.2 b12 1 (fun x15 => (if x15 ≤ s9.2.1 then some (.inr (.inl s9.2.2)) else kc (iter (bX0_fillUp_27 Y n s9.2.2 v1 v2 v3 s9.1 s9.2.1) n ((-1 : Int32), (0 : Int32))) (fun r27 => (if r27 = (-1 : Int32) then some (.inr (.inr s9.2.2)) else kgi s9.2.2 v2 3 (fun x94 => kgr s9.2.2 v1 0 (fun b98 => kgr s9.2.2 b98 4 (fun b101 => kai Y s9.2.2 b101 r27 (fun x106 => kgr s9.2.2 v1 0 (fun b109 => kgi s9.2.2 b109 0 (fun x112 => (if x112 < (x94 + x106) then jX0_fillUp_134_9 Y n s9.2.2 v1 v2 v3 (s9.1 ||| ((1 : Int32) <<< (r27 &&& 31))) s9.2.1 else kgr s9.2.2 v1 0 (fun b122 => kgr s9.2.2 b122 4 (fun b125 => kai Y s9.2.2 b125 r27 (fun x130 => kc (fX5_add Y n s9.2.2 v2 r27 x130) (fun q131 => jX0_fillUp_134_9 Y n q131 v1 v2 v3 (s9.1 ||| ((1 : Int32) <<< (r27 &&& 31))) s9.2.1))))))))))))))))
def fX0_fillUp (Y : XS) (n : Nat) (S : PS) (a0 : Nat) (a1 : Nat) (a2 : Nat) (x3_ : Int32) : Option (PS) :=
  kgi S a2 2 (fun x1 => kc (iter (bX0_fillUp_9 Y n a1 a2 x3_) n (x1, (0 : Int32), S)) (fun r9 => ks r9 (fun p9_0 => some p9_0) (fun p9_1 => some p9_1)))
theorem wjX0_fillUp_71_27 {C : CT} {X : XT} (hC : CK C RX0 cX0_fillUp 8 none 3) (n : Nat) (S : PS) (v1 : Nat) (v2 : Nat) (v3 : Int32) (v4 : Int32) (v5 : Int32) (v6 : Int32) (v7 : Int32)  (hTv1 : Ty X.2.1 v1 6) (hTv2 : Ty X.2.1 v2 5) {o : (Int32 × Int32) ⊕ Int32} (hf : jX0_fillUp_71_27 X.2.1 n S v1 v2 v3 v4 v5 v6 v7 = some o) (hN : ∀ s', o = .inl s' → UW C X S 27 [(1, .ref (X.1 v1)), (2, .ref (X.1 v2)), (3, .int v3), (4, .int v4), (5, .int v5), (6, .int s'.1), (7, .int s'.2)] []) (hO0 : ∀ p', o = .inr p' → UW C X S 77 [(1, .ref (X.1 v1)), (2, .ref (X.1 v2)), (3, .int v3), (4, .int v4), (5, .int v5), (6, .int p')] []) : UW C X S 71 [(1, .ref (X.1 v1)), (2, .ref (X.1 v2)), (3, .int v3), (4, .int v4), (5, .int v5), (6, .int v6), (7, .int v7)] [] := by
  unfold jX0_fillUp_71_27 at hf
  refine u_iinc (v := v7 + (1 : Int32)) (lv' := [(7, .int (v7 + (1 : Int32))), (1, .ref (X.1 v1)), (2, .ref (X.1 v2)), (3, .int v3), (4, .int v4), (5, .int v5), (6, .int v6)]) hC dX0_fillUp_71 6 rfl rfl (by decide) rfl ?_
  refine u_goto (tgt := 27) hC dX0_fillUp_74 (by decide) ?_
  refine u_sub (lv' := [(1, .ref (X.1 v1)), (2, .ref (X.1 v2)), (3, .int v3), (4, .int v4), (5, .int v5), (6, .int v6), (7, .int (v7 + (1 : Int32)))]) [1, 2, 3, 4, 5, 6, 0] rfl ?_
  exact hN _ (Option.some.inj hf).symm
theorem wjX0_fillUp_67_27 {C : CT} {X : XT} (hC : CK C RX0 cX0_fillUp 8 none 3) (n : Nat) (S : PS) (v1 : Nat) (v2 : Nat) (v3 : Int32) (v4 : Int32) (v5 : Int32) (v7 : Int32)  (hTv1 : Ty X.2.1 v1 6) (hTv2 : Ty X.2.1 v2 5) {o : (Int32 × Int32) ⊕ Int32} (hf : jX0_fillUp_67_27 X.2.1 n S v1 v2 v3 v4 v5 v7 = some o) (hN : ∀ s', o = .inl s' → UW C X S 27 [(1, .ref (X.1 v1)), (2, .ref (X.1 v2)), (3, .int v3), (4, .int v4), (5, .int v5), (6, .int s'.1), (7, .int s'.2)] []) (hO0 : ∀ p', o = .inr p' → UW C X S 77 [(1, .ref (X.1 v1)), (2, .ref (X.1 v2)), (3, .int v3), (4, .int v4), (5, .int v5), (6, .int p')] []) : UW C X S 67 [(1, .ref (X.1 v1)), (2, .ref (X.1 v2)), (3, .int v3), (4, .int v4), (5, .int v5), (7, .int v7)] [] := by
  unfold jX0_fillUp_67_27 at hf
  refine u_iload hC dX0_fillUp_67 5 rfl ?_
  refine u_istore (lv' := [(6, .int v7), (1, .ref (X.1 v1)), (2, .ref (X.1 v2)), (3, .int v3), (4, .int v4), (5, .int v5), (7, .int v7)]) hC dX0_fillUp_69 (by decide) rfl ?_
  refine u_sub (lv' := [(1, .ref (X.1 v1)), (2, .ref (X.1 v2)), (3, .int v3), (4, .int v4), (5, .int v5), (6, .int v7), (7, .int v7)]) [1, 2, 3, 4, 5, 0, 6] rfl ?_
  exact wjX0_fillUp_71_27 hC n S v1 v2 v3 v4 v5 v7 v7  hTv1 hTv2 hf hN hO0
theorem wbX0_fillUp_27 {C : CT} {X : XT} (hC : CK C RX0 cX0_fillUp 8 none 3) (n : Nat) (S : PS) (v1 : Nat) (v2 : Nat) (v3 : Int32) (v4 : Int32) (v5 : Int32) (hTv1 : Ty X.2.1 v1 6) (hTv2 : Ty X.2.1 v2 5) (s27 : (Int32 × Int32)) {o : (Int32 × Int32) ⊕ Int32} (hf : bX0_fillUp_27 X.2.1 n S v1 v2 v3 v4 v5 s27 = some o) (hN : ∀ s', o = .inl s' → UW C X S 27 [(1, .ref (X.1 v1)), (2, .ref (X.1 v2)), (3, .int v3), (4, .int v4), (5, .int v5), (6, .int s'.1), (7, .int s'.2)] []) (hO0 : ∀ p', o = .inr p' → UW C X S 77 [(1, .ref (X.1 v1)), (2, .ref (X.1 v2)), (3, .int v3), (4, .int v4), (5, .int v5), (6, .int p')] []) : UW C X S 27 [(1, .ref (X.1 v1)), (2, .ref (X.1 v2)), (3, .int v3), (4, .int v4), (5, .int v5), (6, .int s27.1), (7, .int s27.2)] [] := by
  unfold bX0_fillUp_27 at hf
  refine u_iload hC dX0_fillUp_27 6 rfl ?_
  refine u_aload_n hC dX0_fillUp_29 0 rfl rfl ?_
  refine u_gr hC lf_X0_56 rfl hTv1 dX0_fillUp_30 hf (fun b30 hTb30 hf => ?_)
  refine u_gi hC lf_X0_62 rfl hTb30 dX0_fillUp_33 hf (fun x33 hf => ?_)
  refine u_icmp_ge (tgt := 77) hC dX0_fillUp_36 (by decide) hf (fun h36 hf => ?_) (fun h36 hf => ?_)
  · refine u_sub (lv' := [(1, .ref (X.1 v1)), (2, .ref (X.1 v2)), (3, .int v3), (4, .int v4), (5, .int v5), (6, .int s27.1)]) [0, 1, 2, 3, 4, 5] rfl ?_
    exact hO0 _ (Option.some.inj hf).symm
  · refine u_iload hC dX0_fillUp_39 6 rfl ?_
    refine u_iload hC dX0_fillUp_41 3 rfl ?_
    obtain ⟨q43, hq43, hf⟩ := kc_some hf
    refine u_callSN hC (ctX10_isIn (cL C) hC.tr (cG C) X.1 X.2.1 n S s27.2 v4  hq43) lk_X0_68 ls_X0_68 (by decide) (by decide) rfl rfl (Nat.le_of_ble_eq_true rfl) dX0_fillUp_43 ?_
    refine u_if_ne (tgt := 71) hC dX0_fillUp_46 (by decide) hf (fun h46 hf => ?_) (fun h46 hf => ?_)
    · exact wjX0_fillUp_71_27 hC n S v1 v2 v3 v4 v5 s27.1 s27.2  hTv1 hTv2 hf hN hO0
    · refine u_iload hC dX0_fillUp_49 5 rfl ?_
      refine u_iconst (v := (-1 : Int32)) hC dX0_fillUp_51 (by decide) ?_
      refine u_icmp_eq (tgt := 67) hC dX0_fillUp_52 (by decide) hf (fun h52 hf => ?_) (fun h52 hf => ?_)
      · refine u_sub (lv' := [(1, .ref (X.1 v1)), (2, .ref (X.1 v2)), (3, .int v3), (4, .int v4), (5, .int v5), (7, .int s27.2)]) [0, 1, 2, 3, 4, 6] rfl ?_
        exact wjX0_fillUp_67_27 hC n S v1 v2 v3 v4 v5 s27.2  hTv1 hTv2 hf hN hO0
      · refine u_aload_n hC dX0_fillUp_55 0 rfl rfl ?_
        refine u_iload hC dX0_fillUp_56 6 rfl ?_
        refine u_iload hC dX0_fillUp_58 5 rfl ?_
        refine u_iload_n hC dX0_fillUp_60 2 rfl rfl ?_
        obtain ⟨q61, hq61, hf⟩ := kc_some hf
        refine u_callS hC (ctX0_isGreedier (cL C) hC.tr (cG C) X.1 X.2.1 n S v1 s27.2 s27.1 v3 hTv1 hq61) lk_X0_83 (by decide) (by decide) rfl rfl (Nat.le_of_ble_eq_true rfl) dX0_fillUp_61 ?_
        refine u_if_eq (tgt := 71) hC dX0_fillUp_64 (by decide) hf (fun h64 hf => ?_) (fun h64 hf => ?_)
        · exact wjX0_fillUp_71_27 hC n S v1 v2 v3 v4 v5 s27.1 s27.2  hTv1 hTv2 hf hN hO0
        · refine u_sub (lv' := [(1, .ref (X.1 v1)), (2, .ref (X.1 v2)), (3, .int v3), (4, .int v4), (5, .int v5), (7, .int s27.2)]) [0, 1, 2, 3, 4, 6] rfl ?_
          exact wjX0_fillUp_67_27 hC n S v1 v2 v3 v4 v5 s27.2  hTv1 hTv2 hf hN hO0
theorem wjX0_fillUp_134_9 {C : CT} {X : XT} (hC : CK C RX0 cX0_fillUp 8 none 3) (n : Nat) (S : PS) (v1 : Nat) (v2 : Nat) (v3 : Int32) (v4 : Int32) (v5 : Int32)  (hTv1 : Ty X.2.1 v1 6) (hTv2 : Ty X.2.1 v2 5) {o : (Int32 × Int32 × PS) ⊕ (PS ⊕ (PS))} (hf : jX0_fillUp_134_9 X.2.1 n S v1 v2 v3 v4 v5 = some o) (hN : ∀ s', o = .inl s' → UW C X s'.2.2 9 [(1, .ref (X.1 v1)), (2, .ref (X.1 v2)), (3, .int v3), (4, .int s'.1), (5, .int s'.2.1)] []) (hO0 : ∀ p', o = .inr (.inl p') → UW C X p' 140 [] []) (hR : ∀ q', o = .inr (.inr q') → Rt C X cX0_fillUp none none q') : UW C X S 134 [(1, .ref (X.1 v1)), (2, .ref (X.1 v2)), (3, .int v3), (4, .int v4), (5, .int v5)] [] := by
  unfold jX0_fillUp_134_9 at hf
  refine u_iinc (v := v5 + (1 : Int32)) (lv' := [(5, .int (v5 + (1 : Int32))), (1, .ref (X.1 v1)), (2, .ref (X.1 v2)), (3, .int v3), (4, .int v4)]) hC dX0_fillUp_134 4 rfl rfl (by decide) rfl ?_
  refine u_goto (tgt := 9) hC dX0_fillUp_137 (by decide) ?_
  refine u_sub (lv' := [(1, .ref (X.1 v1)), (2, .ref (X.1 v2)), (3, .int v3), (4, .int v4), (5, .int (v5 + (1 : Int32)))]) [1, 2, 3, 4, 0] rfl ?_
  exact hN _ (Option.some.inj hf).symm
theorem wbX0_fillUp_9 {C : CT} {X : XT} (hC : CK C RX0 cX0_fillUp 8 none 3) (n : Nat) (v1 : Nat) (v2 : Nat) (v3 : Int32) (hTv1 : Ty X.2.1 v1 6) (hTv2 : Ty X.2.1 v2 5) (s9 : (Int32 × Int32 × PS)) {o : (Int32 × Int32 × PS) ⊕ (PS ⊕ (PS))} (hf : bX0_fillUp_9 X.2.1 n v1 v2 v3 s9 = some o) (hN : ∀ s', o = .inl s' → UW C X s'.2.2 9 [(1, .ref (X.1 v1)), (2, .ref (X.1 v2)), (3, .int v3), (4, .int s'.1), (5, .int s'.2.1)] []) (hO0 : ∀ p', o = .inr (.inl p') → UW C X p' 140 [] []) (hR : ∀ q', o = .inr (.inr q') → Rt C X cX0_fillUp none none q') : UW C X s9.2.2 9 [(1, .ref (X.1 v1)), (2, .ref (X.1 v2)), (3, .int v3), (4, .int s9.1), (5, .int s9.2.1)] [] := by
  unfold bX0_fillUp_9 at hf
  refine u_iload hC dX0_fillUp_9 4 rfl ?_
  refine u_aload_n hC dX0_fillUp_11 0 rfl rfl ?_
  refine u_gr hC lf_X0_56 rfl hTv1 dX0_fillUp_12 hf (fun b12 hTb12 hf => ?_)
  refine u_gi hC lf_X0_62 rfl hTb12 dX0_fillUp_15 hf (fun x15 hf => ?_)
  refine u_icmp_ge (tgt := 140) hC dX0_fillUp_18 (by decide) hf (fun h18 hf => ?_) (fun h18 hf => ?_)
  · refine u_sub (lv' := []) [] rfl ?_
    exact hO0 _ (Option.some.inj hf).symm
  · refine u_iconst (v := (-1 : Int32)) hC dX0_fillUp_21 (by decide) ?_
    refine u_istore (lv' := [(6, .int (-1 : Int32)), (1, .ref (X.1 v1)), (2, .ref (X.1 v2)), (3, .int v3), (4, .int s9.1), (5, .int s9.2.1)]) hC dX0_fillUp_22 (by decide) rfl ?_
    refine u_iconst (v := (0 : Int32)) hC dX0_fillUp_24 (by decide) ?_
    refine u_istore (lv' := [(7, .int (0 : Int32)), (6, .int (-1 : Int32)), (1, .ref (X.1 v1)), (2, .ref (X.1 v2)), (3, .int v3), (4, .int s9.1), (5, .int s9.2.1)]) hC dX0_fillUp_25 (by decide) rfl ?_
    obtain ⟨r27, hr27, hf⟩ := kc_some hf
    have hk27 : UW C X s9.2.2 77 [(1, .ref (X.1 v1)), (2, .ref (X.1 v2)), (3, .int v3), (4, .int s9.1), (5, .int s9.2.1), (6, .int r27)] [] := by
      refine u_iload hC dX0_fillUp_77 5 rfl ?_
      refine u_iconst (v := (-1 : Int32)) hC dX0_fillUp_79 (by decide) ?_
      refine u_icmp_ne (tgt := 84) hC dX0_fillUp_80 (by decide) hf (fun h80 hf => ?_) (fun h80 hf => ?_)
      · refine u_iload hC dX0_fillUp_84 3 rfl ?_
        refine u_iconst (v := (1 : Int32)) hC dX0_fillUp_86 (by decide) ?_
        refine u_iload hC dX0_fillUp_87 5 rfl ?_
        refine u_ishl hC dX0_fillUp_89 ?_
        refine u_ior hC dX0_fillUp_90 ?_
        refine u_istore (lv' := [(4, .int (s9.1 ||| ((1 : Int32) <<< (r27 &&& 31)))), (1, .ref (X.1 v1)), (2, .ref (X.1 v2)), (3, .int v3), (5, .int s9.2.1), (6, .int r27)]) hC dX0_fillUp_91 (by decide) rfl ?_
        refine u_aload_n hC dX0_fillUp_93 2 rfl rfl ?_
        refine u_gi hC lf_X0_87 rfl hTv2 dX0_fillUp_94 hf (fun x94 hf => ?_)
        refine u_aload_n hC dX0_fillUp_97 1 rfl rfl ?_
        refine u_gr hC lf_X0_56 rfl hTv1 dX0_fillUp_98 hf (fun b98 hTb98 hf => ?_)
        refine u_gr hC lf_X0_72 rfl hTb98 dX0_fillUp_101 hf (fun b101 hTb101 hf => ?_)
        refine u_iload hC dX0_fillUp_104 5 rfl ?_
        refine u_ai hC hTb101 dX0_fillUp_106 hf (fun x106 hf => ?_)
        refine u_iadd hC dX0_fillUp_107 ?_
        refine u_aload_n hC dX0_fillUp_108 1 rfl rfl ?_
        refine u_gr hC lf_X0_56 rfl hTv1 dX0_fillUp_109 hf (fun b109 hTb109 hf => ?_)
        refine u_gi hC lf_X0_90 rfl hTb109 dX0_fillUp_112 hf (fun x112 hf => ?_)
        refine u_icmp_gt (tgt := 134) hC dX0_fillUp_115 (by decide) hf (fun h115 hf => ?_) (fun h115 hf => ?_)
        · refine u_sub (lv' := [(1, .ref (X.1 v1)), (2, .ref (X.1 v2)), (3, .int v3), (4, .int (s9.1 ||| ((1 : Int32) <<< (r27 &&& 31)))), (5, .int s9.2.1)]) [1, 2, 3, 0, 4] rfl ?_
          exact wjX0_fillUp_134_9 hC n s9.2.2 v1 v2 v3 (s9.1 ||| ((1 : Int32) <<< (r27 &&& 31))) s9.2.1  hTv1 hTv2 hf hN hO0 hR
        · refine u_aload_n hC dX0_fillUp_118 2 rfl rfl ?_
          refine u_iload hC dX0_fillUp_119 5 rfl ?_
          refine u_aload_n hC dX0_fillUp_121 1 rfl rfl ?_
          refine u_gr hC lf_X0_56 rfl hTv1 dX0_fillUp_122 hf (fun b122 hTb122 hf => ?_)
          refine u_gr hC lf_X0_72 rfl hTb122 dX0_fillUp_125 hf (fun b125 hTb125 hf => ?_)
          refine u_iload hC dX0_fillUp_128 5 rfl ?_
          refine u_ai hC hTb125 dX0_fillUp_130 hf (fun x130 hf => ?_)
          obtain ⟨q131, hq131, hf⟩ := kc_some hf
          refine u_callV hC (ctX5_add (cL C) hC.tr (cG C) X.1 X.2.1 n s9.2.2 v2 r27 x130 hTv2 hq131) lk_X0_76 rfl hTv2 (by decide) rfl (by decide) (by decide) rfl rfl (Nat.le_of_ble_eq_true rfl) dX0_fillUp_131 ?_
          refine u_sub (lv' := [(1, .ref (X.1 v1)), (2, .ref (X.1 v2)), (3, .int v3), (4, .int (s9.1 ||| ((1 : Int32) <<< (r27 &&& 31)))), (5, .int s9.2.1)]) [1, 2, 3, 0, 4] rfl ?_
          exact wjX0_fillUp_134_9 hC n q131 v1 v2 v3 (s9.1 ||| ((1 : Int32) <<< (r27 &&& 31))) s9.2.1  hTv1 hTv2 hf hN hO0 hR
      · exact hR _ (Option.some.inj hf).symm _ _ dX0_fillUp_83 trivial
    refine u_sub (lv' := [(1, .ref (X.1 v1)), (2, .ref (X.1 v2)), (3, .int v3), (4, .int s9.1), (5, .int s9.2.1), (6, .int (-1 : Int32)), (7, .int (0 : Int32))]) [2, 3, 4, 5, 6, 1, 0] rfl ?_
    refine iter_ind (P := fun s27 => UW C X s9.2.2 27 [(1, .ref (X.1 v1)), (2, .ref (X.1 v2)), (3, .int v3), (4, .int s9.1), (5, .int s9.2.1), (6, .int s27.1), (7, .int s27.2)] []) (fun s27 o' hb hin hout => ?_) n ((-1 : Int32), (0 : Int32)) hr27
    exact wbX0_fillUp_27 hC n s9.2.2 v1 v2 v3 s9.1 s9.2.1 hTv1 hTv2 s27 hb hin (fun p e => by rw [hout p e]; exact hk27)
theorem wX0_fillUp {C : CT} {X : XT} (hC : CK C RX0 cX0_fillUp 8 none 3) (n : Nat) (S : PS) (a0 : Nat) (a1 : Nat) (a2 : Nat) (x3_ : Int32) (hTa0 : Ty X.2.1 a0 0) (hTa1 : Ty X.2.1 a1 6) (hTa2 : Ty X.2.1 a2 5) {o : PS} (hf : fX0_fillUp X.2.1 n S a0 a1 a2 x3_ = some o) (hR : Rt C X cX0_fillUp none none o) : UW C X S 0 [(0, .ref (X.1 a0)), (1, .ref (X.1 a1)), (2, .ref (X.1 a2)), (3, .int x3_)] [] := by
  unfold fX0_fillUp at hf
  refine u_aload_n hC dX0_fillUp_0 2 rfl rfl ?_
  refine u_gi hC lf_X0_80 rfl hTa2 dX0_fillUp_1 hf (fun x1 hf => ?_)
  refine u_istore (lv' := [(4, .int x1), (0, .ref (X.1 a0)), (1, .ref (X.1 a1)), (2, .ref (X.1 a2)), (3, .int x3_)]) hC dX0_fillUp_4 (by decide) rfl ?_
  refine u_iconst (v := (0 : Int32)) hC dX0_fillUp_6 (by decide) ?_
  refine u_istore (lv' := [(5, .int (0 : Int32)), (4, .int x1), (0, .ref (X.1 a0)), (1, .ref (X.1 a1)), (2, .ref (X.1 a2)), (3, .int x3_)]) hC dX0_fillUp_7 (by decide) rfl ?_
  obtain ⟨r9, hr9, hf⟩ := kc_some hf
  have hk9_0 : ∀ p9_0, r9 = (.inl p9_0) → UW C X p9_0 140 [] [] := by
    intro p9_0 he
    subst he
    have hf := ks_l hf
    cases hf
    exact hR _ _ dX0_fillUp_140 trivial
  have hk9_1 : ∀ p9_1, r9 = (.inr p9_1) → Rt C X cX0_fillUp none none p9_1 := by
    intro p9_1 he
    subst he
    have hf := ks_r hf
    cases hf
    exact hR
  refine u_sub (lv' := [(1, .ref (X.1 a1)), (2, .ref (X.1 a2)), (3, .int x3_), (4, .int x1), (5, .int (0 : Int32))]) [3, 4, 5, 1, 0] rfl ?_
  refine iter_ind (P := fun s9 => UW C X s9.2.2 9 [(1, .ref (X.1 a1)), (2, .ref (X.1 a2)), (3, .int x3_), (4, .int s9.1), (5, .int s9.2.1)] []) (fun s9 o' hb hin hout => ?_) n (x1, (0 : Int32), S) hr9
  exact wbX0_fillUp_9 hC n a1 a2 x3_ hTa1 hTa2 s9 hb hin (fun p e => hk9_0 p (hout _ e).symm) (fun p e => hk9_1 p (hout _ e).symm)
theorem ctX0_fillUp (l : Launch) (hl : l.stackTraces = false) (G : GT) (ρ : Nat → Nat) (Y : XS) (n : Nat) (S : PS) (a0 : Nat) (a1 : Nat) (a2 : Nat) (x3_ : Int32) (hTa0 : Ty Y a0 0) (hTa1 : Ty Y a1 6) (hTa2 : Ty Y a2 5) {o : PS} (hf : fX0_fillUp Y n S a0 a1 a2 x3_ = some o) : Mt l G yX0_fillUp cX0_fillUp 8 none 3 ρ Y [.ref (ρ a0), .ref (ρ a1), .ref (ρ a2), .int x3_] S none o :=
  Mt_of hl (by decide) (Nat.le_of_ble_eq_true rfl) (fun C _ _ hC hR => wX0_fillUp (X := (ρ, Y, 0, 0)) hC n S a0 a1 a2 x3_ hTa0 hTa1 hTa2 hf hR)
-- X0_addAll
theorem dX0_addAll_0 : decode cX0_addAll 0 = .ok (.iconst 0, 1) := by decide +kernel
theorem dX0_addAll_1 : decode cX0_addAll 1 = .ok (.istore_n 3, 1) := by decide +kernel
theorem dX0_addAll_2 : decode cX0_addAll 2 = .ok (.iload_n 3, 1) := by decide +kernel
theorem dX0_addAll_3 : decode cX0_addAll 3 = .ok (.aload_n 0, 1) := by decide +kernel
theorem dX0_addAll_4 : decode cX0_addAll 4 = .ok (.getfield 56, 3) := by decide +kernel
theorem dX0_addAll_7 : decode cX0_addAll 7 = .ok (.getfield 62, 3) := by decide +kernel
theorem dX0_addAll_10 : decode cX0_addAll 10 = .ok (.if_icmp .ge 31, 3) := by decide +kernel
theorem dX0_addAll_13 : decode cX0_addAll 13 = .ok (.iload_n 3, 1) := by decide +kernel
theorem dX0_addAll_14 : decode cX0_addAll 14 = .ok (.iload_n 2, 1) := by decide +kernel
theorem dX0_addAll_15 : decode cX0_addAll 15 = .ok (.invokestatic 68, 3) := by decide +kernel
theorem dX0_addAll_18 : decode cX0_addAll 18 = .ok (.ifCond .eq 17, 3) := by decide +kernel
theorem dX0_addAll_21 : decode cX0_addAll 21 = .ok (.aload_n 1, 1) := by decide +kernel
theorem dX0_addAll_22 : decode cX0_addAll 22 = .ok (.iload_n 3, 1) := by decide +kernel
theorem dX0_addAll_23 : decode cX0_addAll 23 = .ok (.aload_n 0, 1) := by decide +kernel
theorem dX0_addAll_24 : decode cX0_addAll 24 = .ok (.getfield 56, 3) := by decide +kernel
theorem dX0_addAll_27 : decode cX0_addAll 27 = .ok (.getfield 72, 3) := by decide +kernel
theorem dX0_addAll_30 : decode cX0_addAll 30 = .ok (.iload_n 3, 1) := by decide +kernel
theorem dX0_addAll_31 : decode cX0_addAll 31 = .ok (.iaload, 1) := by decide +kernel
theorem dX0_addAll_32 : decode cX0_addAll 32 = .ok (.invokevirtual 76, 3) := by decide +kernel
theorem dX0_addAll_35 : decode cX0_addAll 35 = .ok (.iinc 3 1, 3) := by decide +kernel
theorem dX0_addAll_38 : decode cX0_addAll 38 = .ok (.goto (-36), 3) := by decide +kernel
theorem dX0_addAll_41 : decode cX0_addAll 41 = .ok (.return_, 1) := by decide +kernel
def jX0_addAll_35_2 (Y : XS) (n : Nat) (S : PS) (v0 : Nat) (v1 : Nat) (v2 : Int32) (v3 : Int32) : Option ((Int32 × PS) ⊕ PS) :=
  some (.inl (v3 + (1 : Int32), S))
def bX0_addAll_2 (Y : XS) (n : Nat) (v0 : Nat) (v1 : Nat) (v2 : Int32) (s2 : (Int32 × PS)) : Option ((Int32 × PS) ⊕ PS) :=
  kgr s2.2 v0 0 (fun b4 => kgi s2.2 b4 1 (fun x7 => (if x7 ≤ s2.1 then some (.inr s2.2) else kc (fX10_isIn Y n s2.2 s2.1 v2) (fun q15 => (if q15 = 0 then jX0_addAll_35_2 Y n s2.2 v0 v1 v2 s2.1 else kgr s2.2 v0 0 (fun b24 => kgr s2.2 b24 4 (fun b27 => kai Y s2.2 b27 s2.1 (fun x31 => kc (fX5_add Y n s2.2 v1 s2.1 x31) (fun q32 => jX0_addAll_35_2 Y n q32 v0 v1 v2 s2.1)))))))))
def fX0_addAll (Y : XS) (n : Nat) (S : PS) (a0 : Nat) (a1 : Nat) (x2_ : Int32) : Option (PS) :=
  kc (iter (bX0_addAll_2 Y n a0 a1 x2_) n ((0 : Int32), S)) (fun r2 => some r2)
theorem wjX0_addAll_35_2 {C : CT} {X : XT} (hC : CK C RX0 cX0_addAll 4 none 2) (n : Nat) (S : PS) (v0 : Nat) (v1 : Nat) (v2 : Int32) (v3 : Int32)  (hTv0 : Ty X.2.1 v0 6) (hTv1 : Ty X.2.1 v1 5) {o : (Int32 × PS) ⊕ PS} (hf : jX0_addAll_35_2 X.2.1 n S v0 v1 v2 v3 = some o) (hN : ∀ s', o = .inl s' → UW C X s'.2 2 [(0, .ref (X.1 v0)), (1, .ref (X.1 v1)), (2, .int v2), (3, .int s'.1)] []) (hO0 : ∀ p', o = .inr p' → UW C X p' 41 [] []) : UW C X S 35 [(0, .ref (X.1 v0)), (1, .ref (X.1 v1)), (2, .int v2), (3, .int v3)] [] := by
  unfold jX0_addAll_35_2 at hf
  refine u_iinc (v := v3 + (1 : Int32)) (lv' := [(3, .int (v3 + (1 : Int32))), (0, .ref (X.1 v0)), (1, .ref (X.1 v1)), (2, .int v2)]) hC dX0_addAll_35 3 rfl rfl (by decide) rfl ?_
  refine u_goto (tgt := 2) hC dX0_addAll_38 (by decide) ?_
  refine u_sub (lv' := [(0, .ref (X.1 v0)), (1, .ref (X.1 v1)), (2, .int v2), (3, .int (v3 + (1 : Int32)))]) [1, 2, 3, 0] rfl ?_
  exact hN _ (Option.some.inj hf).symm
theorem wbX0_addAll_2 {C : CT} {X : XT} (hC : CK C RX0 cX0_addAll 4 none 2) (n : Nat) (v0 : Nat) (v1 : Nat) (v2 : Int32) (hTv0 : Ty X.2.1 v0 6) (hTv1 : Ty X.2.1 v1 5) (s2 : (Int32 × PS)) {o : (Int32 × PS) ⊕ PS} (hf : bX0_addAll_2 X.2.1 n v0 v1 v2 s2 = some o) (hN : ∀ s', o = .inl s' → UW C X s'.2 2 [(0, .ref (X.1 v0)), (1, .ref (X.1 v1)), (2, .int v2), (3, .int s'.1)] []) (hO0 : ∀ p', o = .inr p' → UW C X p' 41 [] []) : UW C X s2.2 2 [(0, .ref (X.1 v0)), (1, .ref (X.1 v1)), (2, .int v2), (3, .int s2.1)] [] := by
  unfold bX0_addAll_2 at hf
  refine u_iload_n hC dX0_addAll_2 3 rfl rfl ?_
  refine u_aload_n hC dX0_addAll_3 0 rfl rfl ?_
  refine u_gr hC lf_X0_56 rfl hTv0 dX0_addAll_4 hf (fun b4 hTb4 hf => ?_)
  refine u_gi hC lf_X0_62 rfl hTb4 dX0_addAll_7 hf (fun x7 hf => ?_)
  refine u_icmp_ge (tgt := 41) hC dX0_addAll_10 (by decide) hf (fun h10 hf => ?_) (fun h10 hf => ?_)
  · refine u_sub (lv' := []) [] rfl ?_
    exact hO0 _ (Option.some.inj hf).symm
  · refine u_iload_n hC dX0_addAll_13 3 rfl rfl ?_
    refine u_iload_n hC dX0_addAll_14 2 rfl rfl ?_
    obtain ⟨q15, hq15, hf⟩ := kc_some hf
    refine u_callSN hC (ctX10_isIn (cL C) hC.tr (cG C) X.1 X.2.1 n s2.2 s2.1 v2  hq15) lk_X0_68 ls_X0_68 (by decide) (by decide) rfl rfl (Nat.le_of_ble_eq_true rfl) dX0_addAll_15 ?_
    refine u_if_eq (tgt := 35) hC dX0_addAll_18 (by decide) hf (fun h18 hf => ?_) (fun h18 hf => ?_)
    · exact wjX0_addAll_35_2 hC n s2.2 v0 v1 v2 s2.1  hTv0 hTv1 hf hN hO0
    · refine u_aload_n hC dX0_addAll_21 1 rfl rfl ?_
      refine u_iload_n hC dX0_addAll_22 3 rfl rfl ?_
      refine u_aload_n hC dX0_addAll_23 0 rfl rfl ?_
      refine u_gr hC lf_X0_56 rfl hTv0 dX0_addAll_24 hf (fun b24 hTb24 hf => ?_)
      refine u_gr hC lf_X0_72 rfl hTb24 dX0_addAll_27 hf (fun b27 hTb27 hf => ?_)
      refine u_iload_n hC dX0_addAll_30 3 rfl rfl ?_
      refine u_ai hC hTb27 dX0_addAll_31 hf (fun x31 hf => ?_)
      obtain ⟨q32, hq32, hf⟩ := kc_some hf
      refine u_callV hC (ctX5_add (cL C) hC.tr (cG C) X.1 X.2.1 n s2.2 v1 s2.1 x31 hTv1 hq32) lk_X0_76 rfl hTv1 (by decide) rfl (by decide) (by decide) rfl rfl (Nat.le_of_ble_eq_true rfl) dX0_addAll_32 ?_
      exact wjX0_addAll_35_2 hC n q32 v0 v1 v2 s2.1  hTv0 hTv1 hf hN hO0
theorem wX0_addAll {C : CT} {X : XT} (hC : CK C RX0 cX0_addAll 4 none 2) (n : Nat) (S : PS) (a0 : Nat) (a1 : Nat) (x2_ : Int32) (hTa0 : Ty X.2.1 a0 6) (hTa1 : Ty X.2.1 a1 5) {o : PS} (hf : fX0_addAll X.2.1 n S a0 a1 x2_ = some o) (hR : Rt C X cX0_addAll none none o) : UW C X S 0 [(0, .ref (X.1 a0)), (1, .ref (X.1 a1)), (2, .int x2_)] [] := by
  unfold fX0_addAll at hf
  refine u_iconst (v := (0 : Int32)) hC dX0_addAll_0 (by decide) ?_
  refine u_istore_n (lv' := [(3, .int (0 : Int32)), (0, .ref (X.1 a0)), (1, .ref (X.1 a1)), (2, .int x2_)]) hC dX0_addAll_1 rfl (by decide) rfl ?_
  obtain ⟨r2, hr2, hf⟩ := kc_some hf
  have hk2 : UW C X r2 41 [] [] := by
    cases hf
    exact hR _ _ dX0_addAll_41 trivial
  refine u_sub (lv' := [(0, .ref (X.1 a0)), (1, .ref (X.1 a1)), (2, .int x2_), (3, .int (0 : Int32))]) [1, 2, 3, 0] rfl ?_
  refine iter_ind (P := fun s2 => UW C X s2.2 2 [(0, .ref (X.1 a0)), (1, .ref (X.1 a1)), (2, .int x2_), (3, .int s2.1)] []) (fun s2 o' hb hin hout => ?_) n ((0 : Int32), S) hr2
  exact wbX0_addAll_2 hC n a0 a1 x2_ hTa0 hTa1 s2 hb hin (fun p e => by rw [hout p e]; exact hk2)
theorem ctX0_addAll (l : Launch) (hl : l.stackTraces = false) (G : GT) (ρ : Nat → Nat) (Y : XS) (n : Nat) (S : PS) (a0 : Nat) (a1 : Nat) (x2_ : Int32) (hTa0 : Ty Y a0 6) (hTa1 : Ty Y a1 5) {o : PS} (hf : fX0_addAll Y n S a0 a1 x2_ = some o) : Mt l G yX0_addAll cX0_addAll 4 none 2 ρ Y [.ref (ρ a0), .ref (ρ a1), .int x2_] S none o :=
  Mt_of hl (by decide) (Nat.le_of_ble_eq_true rfl) (fun C _ _ hC hR => wX0_addAll (X := (ρ, Y, 0, 0)) hC n S a0 a1 x2_ hTa0 hTa1 hf hR)
-- X0_dueAt
theorem dX0_dueAt_0 : decode cX0_dueAt 0 = .ok (.aload_n 1, 1) := by decide +kernel
theorem dX0_dueAt_1 : decode cX0_dueAt 1 = .ok (.getfield 56, 3) := by decide +kernel
theorem dX0_dueAt_4 : decode cX0_dueAt 4 = .ok (.getfield 72, 3) := by decide +kernel
theorem dX0_dueAt_7 : decode cX0_dueAt 7 = .ok (.iload_n 2, 1) := by decide +kernel
theorem dX0_dueAt_8 : decode cX0_dueAt 8 = .ok (.iaload, 1) := by decide +kernel
theorem dX0_dueAt_9 : decode cX0_dueAt 9 = .ok (.i2l, 1) := by decide +kernel
theorem dX0_dueAt_10 : decode cX0_dueAt 10 = .ok (.ldc2_w 121, 3) := by decide +kernel
theorem dX0_dueAt_13 : decode cX0_dueAt 13 = .ok (.lmul, 1) := by decide +kernel
theorem dX0_dueAt_14 : decode cX0_dueAt 14 = .ok (.lstore_n 3, 1) := by decide +kernel
theorem dX0_dueAt_15 : decode cX0_dueAt 15 = .ok (.lconst 0, 1) := by decide +kernel
theorem dX0_dueAt_16 : decode cX0_dueAt 16 = .ok (.lstore 5, 2) := by decide +kernel
theorem dX0_dueAt_18 : decode cX0_dueAt 18 = .ok (.iconst 0, 1) := by decide +kernel
theorem dX0_dueAt_19 : decode cX0_dueAt 19 = .ok (.istore 7, 2) := by decide +kernel
theorem dX0_dueAt_21 : decode cX0_dueAt 21 = .ok (.iload 7, 2) := by decide +kernel
theorem dX0_dueAt_23 : decode cX0_dueAt 23 = .ok (.aload_n 1, 1) := by decide +kernel
theorem dX0_dueAt_24 : decode cX0_dueAt 24 = .ok (.getfield 56, 3) := by decide +kernel
theorem dX0_dueAt_27 : decode cX0_dueAt 27 = .ok (.getfield 123, 3) := by decide +kernel
theorem dX0_dueAt_30 : decode cX0_dueAt 30 = .ok (.if_icmp .ge 43, 3) := by decide +kernel
theorem dX0_dueAt_33 : decode cX0_dueAt 33 = .ok (.aload_n 1, 1) := by decide +kernel
theorem dX0_dueAt_34 : decode cX0_dueAt 34 = .ok (.getfield 56, 3) := by decide +kernel
theorem dX0_dueAt_37 : decode cX0_dueAt 37 = .ok (.getfield 126, 3) := by decide +kernel
theorem dX0_dueAt_40 : decode cX0_dueAt 40 = .ok (.iload_n 2, 1) := by decide +kernel
theorem dX0_dueAt_41 : decode cX0_dueAt 41 = .ok (.bipush 24, 2) := by decide +kernel
theorem dX0_dueAt_43 : decode cX0_dueAt 43 = .ok (.imul, 1) := by decide +kernel
theorem dX0_dueAt_44 : decode cX0_dueAt 44 = .ok (.iload 7, 2) := by decide +kernel
theorem dX0_dueAt_46 : decode cX0_dueAt 46 = .ok (.iadd, 1) := by decide +kernel
theorem dX0_dueAt_47 : decode cX0_dueAt 47 = .ok (.iaload, 1) := by decide +kernel
theorem dX0_dueAt_48 : decode cX0_dueAt 48 = .ok (.ifCond .le 19, 3) := by decide +kernel
theorem dX0_dueAt_51 : decode cX0_dueAt 51 = .ok (.lload_n 3, 1) := by decide +kernel
theorem dX0_dueAt_52 : decode cX0_dueAt 52 = .ok (.aload_n 0, 1) := by decide +kernel
theorem dX0_dueAt_53 : decode cX0_dueAt 53 = .ok (.getfield 25, 3) := by decide +kernel
theorem dX0_dueAt_56 : decode cX0_dueAt 56 = .ok (.iload 7, 2) := by decide +kernel
theorem dX0_dueAt_58 : decode cX0_dueAt 58 = .ok (.laload, 1) := by decide +kernel
theorem dX0_dueAt_59 : decode cX0_dueAt 59 = .ok (.ladd, 1) := by decide +kernel
theorem dX0_dueAt_60 : decode cX0_dueAt 60 = .ok (.lstore_n 3, 1) := by decide +kernel
theorem dX0_dueAt_61 : decode cX0_dueAt 61 = .ok (.lload 5, 2) := by decide +kernel
theorem dX0_dueAt_63 : decode cX0_dueAt 63 = .ok (.lconst 1, 1) := by decide +kernel
theorem dX0_dueAt_64 : decode cX0_dueAt 64 = .ok (.ladd, 1) := by decide +kernel
theorem dX0_dueAt_65 : decode cX0_dueAt 65 = .ok (.lstore 5, 2) := by decide +kernel
theorem dX0_dueAt_67 : decode cX0_dueAt 67 = .ok (.iinc 7 1, 3) := by decide +kernel
theorem dX0_dueAt_70 : decode cX0_dueAt 70 = .ok (.goto (-49), 3) := by decide +kernel
theorem dX0_dueAt_73 : decode cX0_dueAt 73 = .ok (.lload 5, 2) := by decide +kernel
theorem dX0_dueAt_75 : decode cX0_dueAt 75 = .ok (.lconst 0, 1) := by decide +kernel
theorem dX0_dueAt_76 : decode cX0_dueAt 76 = .ok (.lcmp, 1) := by decide +kernel
theorem dX0_dueAt_77 : decode cX0_dueAt 77 = .ok (.ifCond .le 15, 3) := by decide +kernel
theorem dX0_dueAt_80 : decode cX0_dueAt 80 = .ok (.lload_n 3, 1) := by decide +kernel
theorem dX0_dueAt_81 : decode cX0_dueAt 81 = .ok (.lload 5, 2) := by decide +kernel
theorem dX0_dueAt_83 : decode cX0_dueAt 83 = .ok (.ladd, 1) := by decide +kernel
theorem dX0_dueAt_84 : decode cX0_dueAt 84 = .ok (.lconst 1, 1) := by decide +kernel
theorem dX0_dueAt_85 : decode cX0_dueAt 85 = .ok (.lsub, 1) := by decide +kernel
theorem dX0_dueAt_86 : decode cX0_dueAt 86 = .ok (.lload 5, 2) := by decide +kernel
theorem dX0_dueAt_88 : decode cX0_dueAt 88 = .ok (.ldiv, 1) := by decide +kernel
theorem dX0_dueAt_89 : decode cX0_dueAt 89 = .ok (.goto 4, 3) := by decide +kernel
theorem dX0_dueAt_92 : decode cX0_dueAt 92 = .ok (.lconst 0, 1) := by decide +kernel
theorem dX0_dueAt_93 : decode cX0_dueAt 93 = .ok (.lreturn, 1) := by decide +kernel
def jX0_dueAt_67_21 (Y : XS) (n : Nat) (S : PS) (v0 : Nat) (v1 : Nat) (v2 : Int32) (v3 : Int64) (v5 : Int64) (v7 : Int32) : Option ((Int64 × Int64 × Int32) ⊕ (Int64 × Int64)) :=
  some (.inl (v3, v5, v7 + (1 : Int32)))
def bX0_dueAt_21 (Y : XS) (n : Nat) (S : PS) (v0 : Nat) (v1 : Nat) (v2 : Int32) (s21 : (Int64 × Int64 × Int32)) : Option ((Int64 × Int64 × Int32) ⊕ (Int64 × Int64)) :=
  kgr S v1 0 (fun b24 => kgi S b24 2 (fun x27 => (if x27 ≤ s21.2.2 then some (.inr (s21.1, s21.2.1)) else kgr S v1 0 (fun b34 => kgr S b34 6 (fun b37 => kai Y S b37 ((v2 * (24 : Int32)) + s21.2.2) (fun x47 => (if x47 ≤ 0 then jX0_dueAt_67_21 Y n S v0 v1 v2 s21.1 s21.2.1 s21.2.2 else kgr S v0 2 (fun b53 => kal Y S b53 s21.2.2 (fun x58 => jX0_dueAt_67_21 Y n S v0 v1 v2 (s21.1 + x58) (s21.2.1 + (1 : Int64)) s21.2.2)))))))))
def jX0_dueAt_93 (Y : XS) (n : Nat) (S : PS) (t0 : Int64) : Option (Int64) :=
  some t0
def fX0_dueAt (Y : XS) (n : Nat) (S : PS) (a0 : Nat) (a1 : Nat) (x2_ : Int32) : Option (Int64) :=
  kgr S a1 0 (fun b1 => kgr S b1 4 (fun b4 => kai Y S b4 x2_ (fun x8 => kc (iter (bX0_dueAt_21 Y n S a0 a1 x2_) n ((Int32.toInt64 x8) * (1000 : Int64), (0 : Int64), (0 : Int32))) (fun r21 => (if (lg_cmp r21.2 (0 : Int64)) ≤ 0 then jX0_dueAt_93 Y n S (0 : Int64) else kldiv ((r21.1 + r21.2) - (1 : Int64)) r21.2 (fun z88 => jX0_dueAt_93 Y n S z88))))))
theorem wjX0_dueAt_67_21 {C : CT} {X : XT} (hC : CK C RX0 cX0_dueAt 8 (some .long) 1) (n : Nat) (S : PS) (v0 : Nat) (v1 : Nat) (v2 : Int32) (v3 : Int64) (v5 : Int64) (v7 : Int32)  (hTv0 : Ty X.2.1 v0 0) (hTv1 : Ty X.2.1 v1 6) {o : (Int64 × Int64 × Int32) ⊕ (Int64 × Int64)} (hf : jX0_dueAt_67_21 X.2.1 n S v0 v1 v2 v3 v5 v7 = some o) (hN : ∀ s', o = .inl s' → UW C X S 21 [(0, .ref (X.1 v0)), (1, .ref (X.1 v1)), (2, .int v2), (3, .long s'.1), (5, .long s'.2.1), (7, .int s'.2.2)] []) (hO0 : ∀ p', o = .inr p' → UW C X S 73 [(3, .long p'.1), (5, .long p'.2)] []) : UW C X S 67 [(0, .ref (X.1 v0)), (1, .ref (X.1 v1)), (2, .int v2), (3, .long v3), (5, .long v5), (7, .int v7)] [] := by
  unfold jX0_dueAt_67_21 at hf
  refine u_iinc (v := v7 + (1 : Int32)) (lv' := [(7, .int (v7 + (1 : Int32))), (0, .ref (X.1 v0)), (1, .ref (X.1 v1)), (2, .int v2), (3, .long v3), (5, .long v5)]) hC dX0_dueAt_67 5 rfl rfl (by decide) rfl ?_
  refine u_goto (tgt := 21) hC dX0_dueAt_70 (by decide) ?_
  refine u_sub (lv' := [(0, .ref (X.1 v0)), (1, .ref (X.1 v1)), (2, .int v2), (3, .long v3), (5, .long v5), (7, .int (v7 + (1 : Int32)))]) [1, 2, 3, 4, 5, 0] rfl ?_
  exact hN _ (Option.some.inj hf).symm
theorem wbX0_dueAt_21 {C : CT} {X : XT} (hC : CK C RX0 cX0_dueAt 8 (some .long) 1) (n : Nat) (S : PS) (v0 : Nat) (v1 : Nat) (v2 : Int32) (hTv0 : Ty X.2.1 v0 0) (hTv1 : Ty X.2.1 v1 6) (s21 : (Int64 × Int64 × Int32)) {o : (Int64 × Int64 × Int32) ⊕ (Int64 × Int64)} (hf : bX0_dueAt_21 X.2.1 n S v0 v1 v2 s21 = some o) (hN : ∀ s', o = .inl s' → UW C X S 21 [(0, .ref (X.1 v0)), (1, .ref (X.1 v1)), (2, .int v2), (3, .long s'.1), (5, .long s'.2.1), (7, .int s'.2.2)] []) (hO0 : ∀ p', o = .inr p' → UW C X S 73 [(3, .long p'.1), (5, .long p'.2)] []) : UW C X S 21 [(0, .ref (X.1 v0)), (1, .ref (X.1 v1)), (2, .int v2), (3, .long s21.1), (5, .long s21.2.1), (7, .int s21.2.2)] [] := by
  unfold bX0_dueAt_21 at hf
  refine u_iload hC dX0_dueAt_21 5 rfl ?_
  refine u_aload_n hC dX0_dueAt_23 1 rfl rfl ?_
  refine u_gr hC lf_X0_56 rfl hTv1 dX0_dueAt_24 hf (fun b24 hTb24 hf => ?_)
  refine u_gi hC lf_X0_123 rfl hTb24 dX0_dueAt_27 hf (fun x27 hf => ?_)
  refine u_icmp_ge (tgt := 73) hC dX0_dueAt_30 (by decide) hf (fun h30 hf => ?_) (fun h30 hf => ?_)
  · refine u_sub (lv' := [(3, .long s21.1), (5, .long s21.2.1)]) [3, 4] rfl ?_
    exact hO0 _ (Option.some.inj hf).symm
  · refine u_aload_n hC dX0_dueAt_33 1 rfl rfl ?_
    refine u_gr hC lf_X0_56 rfl hTv1 dX0_dueAt_34 hf (fun b34 hTb34 hf => ?_)
    refine u_gr hC lf_X0_126 rfl hTb34 dX0_dueAt_37 hf (fun b37 hTb37 hf => ?_)
    refine u_iload_n hC dX0_dueAt_40 2 rfl rfl ?_
    refine u_bipush (v := (24 : Int32)) hC dX0_dueAt_41 (by decide) ?_
    refine u_imul hC dX0_dueAt_43 ?_
    refine u_iload hC dX0_dueAt_44 5 rfl ?_
    refine u_iadd hC dX0_dueAt_46 ?_
    refine u_ai hC hTb37 dX0_dueAt_47 hf (fun x47 hf => ?_)
    refine u_if_le (tgt := 67) hC dX0_dueAt_48 (by decide) hf (fun h48 hf => ?_) (fun h48 hf => ?_)
    · exact wjX0_dueAt_67_21 hC n S v0 v1 v2 s21.1 s21.2.1 s21.2.2  hTv0 hTv1 hf hN hO0
    · refine u_lload_n hC dX0_dueAt_51 3 rfl rfl ?_
      refine u_aload_n hC dX0_dueAt_52 0 rfl rfl ?_
      refine u_gr hC lf_X0_25 rfl hTv0 dX0_dueAt_53 hf (fun b53 hTb53 hf => ?_)
      refine u_iload hC dX0_dueAt_56 5 rfl ?_
      refine u_al hC hTb53 dX0_dueAt_58 hf (fun x58 hf => ?_)
      refine u_ladd hC dX0_dueAt_59 ?_
      refine u_lstore_n (lv' := [(3, .long (s21.1 + x58)), (0, .ref (X.1 v0)), (1, .ref (X.1 v1)), (2, .int v2), (5, .long s21.2.1), (7, .int s21.2.2)]) hC dX0_dueAt_60 rfl (by decide) rfl ?_
      refine u_lload hC dX0_dueAt_61 4 rfl ?_
      refine u_lconst (v := (1 : Int64)) hC dX0_dueAt_63 (by decide) ?_
      refine u_ladd hC dX0_dueAt_64 ?_
      refine u_lstore (lv' := [(5, .long (s21.2.1 + (1 : Int64))), (3, .long (s21.1 + x58)), (0, .ref (X.1 v0)), (1, .ref (X.1 v1)), (2, .int v2), (7, .int s21.2.2)]) hC dX0_dueAt_65 (by decide) rfl ?_
      refine u_sub (lv' := [(0, .ref (X.1 v0)), (1, .ref (X.1 v1)), (2, .int v2), (3, .long (s21.1 + x58)), (5, .long (s21.2.1 + (1 : Int64))), (7, .int s21.2.2)]) [2, 3, 4, 1, 0, 5] rfl ?_
      exact wjX0_dueAt_67_21 hC n S v0 v1 v2 (s21.1 + x58) (s21.2.1 + (1 : Int64)) s21.2.2  hTv0 hTv1 hf hN hO0
theorem wjX0_dueAt_93 {C : CT} {X : XT} (hC : CK C RX0 cX0_dueAt 8 (some .long) 1) (n : Nat) (S : PS) (t0 : Int64)   {o : Int64} (hf : jX0_dueAt_93 X.2.1 n S t0 = some o) (hR : Rt C X cX0_dueAt (some .long) (some (.long o)) S) : UW C X S 93 [] [.long t0] := by
  unfold jX0_dueAt_93 at hf
  cases hf
  exact hR _ _ dX0_dueAt_93 trivial
theorem wX0_dueAt {C : CT} {X : XT} (hC : CK C RX0 cX0_dueAt 8 (some .long) 1) (n : Nat) (S : PS) (a0 : Nat) (a1 : Nat) (x2_ : Int32) (hTa0 : Ty X.2.1 a0 0) (hTa1 : Ty X.2.1 a1 6) {o : Int64} (hf : fX0_dueAt X.2.1 n S a0 a1 x2_ = some o) (hR : Rt C X cX0_dueAt (some .long) (some (.long o)) S) : UW C X S 0 [(0, .ref (X.1 a0)), (1, .ref (X.1 a1)), (2, .int x2_)] [] := by
  unfold fX0_dueAt at hf
  refine u_aload_n hC dX0_dueAt_0 1 rfl rfl ?_
  refine u_gr hC lf_X0_56 rfl hTa1 dX0_dueAt_1 hf (fun b1 hTb1 hf => ?_)
  refine u_gr hC lf_X0_72 rfl hTb1 dX0_dueAt_4 hf (fun b4 hTb4 hf => ?_)
  refine u_iload_n hC dX0_dueAt_7 2 rfl rfl ?_
  refine u_ai hC hTb4 dX0_dueAt_8 hf (fun x8 hf => ?_)
  refine u_i2l hC dX0_dueAt_9 ?_
  refine u_ldc2 (v := (1000 : Int64)) hC dX0_dueAt_10 (tb_4 236 rfl rfl) ?_
  refine u_lmul hC dX0_dueAt_13 ?_
  refine u_lstore_n (lv' := [(3, .long ((Int32.toInt64 x8) * (1000 : Int64))), (0, .ref (X.1 a0)), (1, .ref (X.1 a1)), (2, .int x2_)]) hC dX0_dueAt_14 rfl (by decide) rfl ?_
  refine u_lconst (v := (0 : Int64)) hC dX0_dueAt_15 (by decide) ?_
  refine u_lstore (lv' := [(5, .long (0 : Int64)), (3, .long ((Int32.toInt64 x8) * (1000 : Int64))), (0, .ref (X.1 a0)), (1, .ref (X.1 a1)), (2, .int x2_)]) hC dX0_dueAt_16 (by decide) rfl ?_
  refine u_iconst (v := (0 : Int32)) hC dX0_dueAt_18 (by decide) ?_
  refine u_istore (lv' := [(7, .int (0 : Int32)), (5, .long (0 : Int64)), (3, .long ((Int32.toInt64 x8) * (1000 : Int64))), (0, .ref (X.1 a0)), (1, .ref (X.1 a1)), (2, .int x2_)]) hC dX0_dueAt_19 (by decide) rfl ?_
  obtain ⟨r21, hr21, hf⟩ := kc_some hf
  have hk21 : UW C X S 73 [(3, .long r21.1), (5, .long r21.2)] [] := by
    refine u_lload hC dX0_dueAt_73 1 rfl ?_
    refine u_lconst (v := (0 : Int64)) hC dX0_dueAt_75 (by decide) ?_
    refine u_lcmp hC dX0_dueAt_76 ?_
    refine u_if_le (tgt := 92) hC dX0_dueAt_77 (by decide) hf (fun h77 hf => ?_) (fun h77 hf => ?_)
    · refine u_lconst (v := (0 : Int64)) hC dX0_dueAt_92 (by decide) ?_
      refine u_sub (lv' := []) [] rfl ?_
      exact wjX0_dueAt_93 hC n S (0 : Int64)   hf hR
    · refine u_lload_n hC dX0_dueAt_80 0 rfl rfl ?_
      refine u_lload hC dX0_dueAt_81 1 rfl ?_
      refine u_ladd hC dX0_dueAt_83 ?_
      refine u_lconst (v := (1 : Int64)) hC dX0_dueAt_84 (by decide) ?_
      refine u_lsub hC dX0_dueAt_85 ?_
      refine u_lload hC dX0_dueAt_86 1 rfl ?_
      refine u_ldiv hC dX0_dueAt_88 hf (fun z88 hf => ?_)
      refine u_goto (tgt := 93) hC dX0_dueAt_89 (by decide) ?_
      refine u_sub (lv' := []) [] rfl ?_
      exact wjX0_dueAt_93 hC n S z88   hf hR
  refine u_sub (lv' := [(0, .ref (X.1 a0)), (1, .ref (X.1 a1)), (2, .int x2_), (3, .long ((Int32.toInt64 x8) * (1000 : Int64))), (5, .long (0 : Int64)), (7, .int (0 : Int32))]) [3, 4, 5, 2, 1, 0] rfl ?_
  refine iter_ind (P := fun s21 => UW C X S 21 [(0, .ref (X.1 a0)), (1, .ref (X.1 a1)), (2, .int x2_), (3, .long s21.1), (5, .long s21.2.1), (7, .int s21.2.2)] []) (fun s21 o' hb hin hout => ?_) n ((Int32.toInt64 x8) * (1000 : Int64), (0 : Int64), (0 : Int32)) hr21
  exact wbX0_dueAt_21 hC n S a0 a1 x2_ hTa0 hTa1 s21 hb hin (fun p e => by rw [hout p e]; exact hk21)
theorem ctX0_dueAt (l : Launch) (hl : l.stackTraces = false) (G : GT) (ρ : Nat → Nat) (Y : XS) (n : Nat) (S : PS) (a0 : Nat) (a1 : Nat) (x2_ : Int32) (hTa0 : Ty Y a0 0) (hTa1 : Ty Y a1 6) {o : Int64} (hf : fX0_dueAt Y n S a0 a1 x2_ = some o) : Mt l G yX0_dueAt cX0_dueAt 8 (some .long) 1 ρ Y [.ref (ρ a0), .ref (ρ a1), .int x2_] S (some (.long o)) S :=
  Mt_of hl (by decide) (Nat.le_of_ble_eq_true rfl) (fun C _ _ hC hR => wX0_dueAt (X := (ρ, Y, 0, 0)) hC n S a0 a1 x2_ hTa0 hTa1 hf hR)
-- X0_emptyPurses
theorem dX0_emptyPurses_0 : decode cX0_emptyPurses 0 = .ok (.iconst 0, 1) := by decide +kernel
theorem dX0_emptyPurses_1 : decode cX0_emptyPurses 1 = .ok (.istore 5, 2) := by decide +kernel
theorem dX0_emptyPurses_3 : decode cX0_emptyPurses 3 = .ok (.iload 5, 2) := by decide +kernel
theorem dX0_emptyPurses_5 : decode cX0_emptyPurses 5 = .ok (.aload_n 1, 1) := by decide +kernel
theorem dX0_emptyPurses_6 : decode cX0_emptyPurses 6 = .ok (.getfield 56, 3) := by decide +kernel
theorem dX0_emptyPurses_9 : decode cX0_emptyPurses 9 = .ok (.getfield 123, 3) := by decide +kernel
theorem dX0_emptyPurses_12 : decode cX0_emptyPurses 12 = .ok (.if_icmp .ge 35, 3) := by decide +kernel
theorem dX0_emptyPurses_15 : decode cX0_emptyPurses 15 = .ok (.aload_n 1, 1) := by decide +kernel
theorem dX0_emptyPurses_16 : decode cX0_emptyPurses 16 = .ok (.getfield 56, 3) := by decide +kernel
theorem dX0_emptyPurses_19 : decode cX0_emptyPurses 19 = .ok (.getfield 126, 3) := by decide +kernel
theorem dX0_emptyPurses_22 : decode cX0_emptyPurses 22 = .ok (.iload_n 2, 1) := by decide +kernel
theorem dX0_emptyPurses_23 : decode cX0_emptyPurses 23 = .ok (.bipush 24, 2) := by decide +kernel
theorem dX0_emptyPurses_25 : decode cX0_emptyPurses 25 = .ok (.imul, 1) := by decide +kernel
theorem dX0_emptyPurses_26 : decode cX0_emptyPurses 26 = .ok (.iload 5, 2) := by decide +kernel
theorem dX0_emptyPurses_28 : decode cX0_emptyPurses 28 = .ok (.iadd, 1) := by decide +kernel
theorem dX0_emptyPurses_29 : decode cX0_emptyPurses 29 = .ok (.iaload, 1) := by decide +kernel
theorem dX0_emptyPurses_30 : decode cX0_emptyPurses 30 = .ok (.ifCond .le 11, 3) := by decide +kernel
theorem dX0_emptyPurses_33 : decode cX0_emptyPurses 33 = .ok (.aload_n 0, 1) := by decide +kernel
theorem dX0_emptyPurses_34 : decode cX0_emptyPurses 34 = .ok (.getfield 25, 3) := by decide +kernel
theorem dX0_emptyPurses_37 : decode cX0_emptyPurses 37 = .ok (.iload 5, 2) := by decide +kernel
theorem dX0_emptyPurses_39 : decode cX0_emptyPurses 39 = .ok (.lload_n 3, 1) := by decide +kernel
theorem dX0_emptyPurses_40 : decode cX0_emptyPurses 40 = .ok (.lastore, 1) := by decide +kernel
theorem dX0_emptyPurses_41 : decode cX0_emptyPurses 41 = .ok (.iinc 5 1, 3) := by decide +kernel
theorem dX0_emptyPurses_44 : decode cX0_emptyPurses 44 = .ok (.goto (-41), 3) := by decide +kernel
theorem dX0_emptyPurses_47 : decode cX0_emptyPurses 47 = .ok (.return_, 1) := by decide +kernel
def jX0_emptyPurses_41_3 (Y : XS) (n : Nat) (S : PS) (v0 : Nat) (v1 : Nat) (v2 : Int32) (v3 : Int64) (v5 : Int32) : Option ((Int32 × PS) ⊕ PS) :=
  some (.inl (v5 + (1 : Int32), S))
def bX0_emptyPurses_3 (Y : XS) (n : Nat) (v0 : Nat) (v1 : Nat) (v2 : Int32) (v3 : Int64) (s3 : (Int32 × PS)) : Option ((Int32 × PS) ⊕ PS) :=
  kgr s3.2 v1 0 (fun b6 => kgi s3.2 b6 2 (fun x9 => (if x9 ≤ s3.1 then some (.inr s3.2) else kgr s3.2 v1 0 (fun b16 => kgr s3.2 b16 6 (fun b19 => kai Y s3.2 b19 ((v2 * (24 : Int32)) + s3.1) (fun x29 => (if x29 ≤ 0 then jX0_emptyPurses_41_3 Y n s3.2 v0 v1 v2 v3 s3.1 else kgr s3.2 v0 2 (fun b34 => kwl Y s3.2 b34 s3.1 v3 (fun S40 => jX0_emptyPurses_41_3 Y n S40 v0 v1 v2 v3 s3.1)))))))))
def fX0_emptyPurses (Y : XS) (n : Nat) (S : PS) (a0 : Nat) (a1 : Nat) (x2_ : Int32) (x3_ : Int64) : Option (PS) :=
  kc (iter (bX0_emptyPurses_3 Y n a0 a1 x2_ x3_) n ((0 : Int32), S)) (fun r3 => some r3)
theorem wjX0_emptyPurses_41_3 {C : CT} {X : XT} (hC : CK C RX0 cX0_emptyPurses 6 none 1) (n : Nat) (S : PS) (v0 : Nat) (v1 : Nat) (v2 : Int32) (v3 : Int64) (v5 : Int32)  (hTv0 : Ty X.2.1 v0 0) (hTv1 : Ty X.2.1 v1 6) {o : (Int32 × PS) ⊕ PS} (hf : jX0_emptyPurses_41_3 X.2.1 n S v0 v1 v2 v3 v5 = some o) (hN : ∀ s', o = .inl s' → UW C X s'.2 3 [(0, .ref (X.1 v0)), (1, .ref (X.1 v1)), (2, .int v2), (3, .long v3), (5, .int s'.1)] []) (hO0 : ∀ p', o = .inr p' → UW C X p' 47 [] []) : UW C X S 41 [(0, .ref (X.1 v0)), (1, .ref (X.1 v1)), (2, .int v2), (3, .long v3), (5, .int v5)] [] := by
  unfold jX0_emptyPurses_41_3 at hf
  refine u_iinc (v := v5 + (1 : Int32)) (lv' := [(5, .int (v5 + (1 : Int32))), (0, .ref (X.1 v0)), (1, .ref (X.1 v1)), (2, .int v2), (3, .long v3)]) hC dX0_emptyPurses_41 4 rfl rfl (by decide) rfl ?_
  refine u_goto (tgt := 3) hC dX0_emptyPurses_44 (by decide) ?_
  refine u_sub (lv' := [(0, .ref (X.1 v0)), (1, .ref (X.1 v1)), (2, .int v2), (3, .long v3), (5, .int (v5 + (1 : Int32)))]) [1, 2, 3, 4, 0] rfl ?_
  exact hN _ (Option.some.inj hf).symm
theorem wbX0_emptyPurses_3 {C : CT} {X : XT} (hC : CK C RX0 cX0_emptyPurses 6 none 1) (n : Nat) (v0 : Nat) (v1 : Nat) (v2 : Int32) (v3 : Int64) (hTv0 : Ty X.2.1 v0 0) (hTv1 : Ty X.2.1 v1 6) (s3 : (Int32 × PS)) {o : (Int32 × PS) ⊕ PS} (hf : bX0_emptyPurses_3 X.2.1 n v0 v1 v2 v3 s3 = some o) (hN : ∀ s', o = .inl s' → UW C X s'.2 3 [(0, .ref (X.1 v0)), (1, .ref (X.1 v1)), (2, .int v2), (3, .long v3), (5, .int s'.1)] []) (hO0 : ∀ p', o = .inr p' → UW C X p' 47 [] []) : UW C X s3.2 3 [(0, .ref (X.1 v0)), (1, .ref (X.1 v1)), (2, .int v2), (3, .long v3), (5, .int s3.1)] [] := by
  unfold bX0_emptyPurses_3 at hf
  refine u_iload hC dX0_emptyPurses_3 4 rfl ?_
  refine u_aload_n hC dX0_emptyPurses_5 1 rfl rfl ?_
  refine u_gr hC lf_X0_56 rfl hTv1 dX0_emptyPurses_6 hf (fun b6 hTb6 hf => ?_)
  refine u_gi hC lf_X0_123 rfl hTb6 dX0_emptyPurses_9 hf (fun x9 hf => ?_)
  refine u_icmp_ge (tgt := 47) hC dX0_emptyPurses_12 (by decide) hf (fun h12 hf => ?_) (fun h12 hf => ?_)
  · refine u_sub (lv' := []) [] rfl ?_
    exact hO0 _ (Option.some.inj hf).symm
  · refine u_aload_n hC dX0_emptyPurses_15 1 rfl rfl ?_
    refine u_gr hC lf_X0_56 rfl hTv1 dX0_emptyPurses_16 hf (fun b16 hTb16 hf => ?_)
    refine u_gr hC lf_X0_126 rfl hTb16 dX0_emptyPurses_19 hf (fun b19 hTb19 hf => ?_)
    refine u_iload_n hC dX0_emptyPurses_22 2 rfl rfl ?_
    refine u_bipush (v := (24 : Int32)) hC dX0_emptyPurses_23 (by decide) ?_
    refine u_imul hC dX0_emptyPurses_25 ?_
    refine u_iload hC dX0_emptyPurses_26 4 rfl ?_
    refine u_iadd hC dX0_emptyPurses_28 ?_
    refine u_ai hC hTb19 dX0_emptyPurses_29 hf (fun x29 hf => ?_)
    refine u_if_le (tgt := 41) hC dX0_emptyPurses_30 (by decide) hf (fun h30 hf => ?_) (fun h30 hf => ?_)
    · exact wjX0_emptyPurses_41_3 hC n s3.2 v0 v1 v2 v3 s3.1  hTv0 hTv1 hf hN hO0
    · refine u_aload_n hC dX0_emptyPurses_33 0 rfl rfl ?_
      refine u_gr hC lf_X0_25 rfl hTv0 dX0_emptyPurses_34 hf (fun b34 hTb34 hf => ?_)
      refine u_iload hC dX0_emptyPurses_37 4 rfl ?_
      refine u_lload_n hC dX0_emptyPurses_39 3 rfl rfl ?_
      refine u_wl hC hTb34 dX0_emptyPurses_40 hf (fun S40 hf => ?_)
      exact wjX0_emptyPurses_41_3 hC n S40 v0 v1 v2 v3 s3.1  hTv0 hTv1 hf hN hO0
theorem wX0_emptyPurses {C : CT} {X : XT} (hC : CK C RX0 cX0_emptyPurses 6 none 1) (n : Nat) (S : PS) (a0 : Nat) (a1 : Nat) (x2_ : Int32) (x3_ : Int64) (hTa0 : Ty X.2.1 a0 0) (hTa1 : Ty X.2.1 a1 6) {o : PS} (hf : fX0_emptyPurses X.2.1 n S a0 a1 x2_ x3_ = some o) (hR : Rt C X cX0_emptyPurses none none o) : UW C X S 0 [(0, .ref (X.1 a0)), (1, .ref (X.1 a1)), (2, .int x2_), (3, .long x3_)] [] := by
  unfold fX0_emptyPurses at hf
  refine u_iconst (v := (0 : Int32)) hC dX0_emptyPurses_0 (by decide) ?_
  refine u_istore (lv' := [(5, .int (0 : Int32)), (0, .ref (X.1 a0)), (1, .ref (X.1 a1)), (2, .int x2_), (3, .long x3_)]) hC dX0_emptyPurses_1 (by decide) rfl ?_
  obtain ⟨r3, hr3, hf⟩ := kc_some hf
  have hk3 : UW C X r3 47 [] [] := by
    cases hf
    exact hR _ _ dX0_emptyPurses_47 trivial
  refine u_sub (lv' := [(0, .ref (X.1 a0)), (1, .ref (X.1 a1)), (2, .int x2_), (3, .long x3_), (5, .int (0 : Int32))]) [1, 2, 3, 4, 0] rfl ?_
  refine iter_ind (P := fun s3 => UW C X s3.2 3 [(0, .ref (X.1 a0)), (1, .ref (X.1 a1)), (2, .int x2_), (3, .long x3_), (5, .int s3.1)] []) (fun s3 o' hb hin hout => ?_) n ((0 : Int32), S) hr3
  exact wbX0_emptyPurses_3 hC n a0 a1 x2_ x3_ hTa0 hTa1 s3 hb hin (fun p e => by rw [hout p e]; exact hk3)
theorem ctX0_emptyPurses (l : Launch) (hl : l.stackTraces = false) (G : GT) (ρ : Nat → Nat) (Y : XS) (n : Nat) (S : PS) (a0 : Nat) (a1 : Nat) (x2_ : Int32) (x3_ : Int64) (hTa0 : Ty Y a0 0) (hTa1 : Ty Y a1 6) {o : PS} (hf : fX0_emptyPurses Y n S a0 a1 x2_ x3_ = some o) : Mt l G yX0_emptyPurses cX0_emptyPurses 6 none 1 ρ Y [.ref (ρ a0), .ref (ρ a1), .int x2_, .long x3_] S none o :=
  Mt_of hl (by decide) (Nat.le_of_ble_eq_true rfl) (fun C _ _ hC hR => wX0_emptyPurses (X := (ρ, Y, 0, 0)) hC n S a0 a1 x2_ x3_ hTa0 hTa1 hf hR)
-- X0_keepTime
theorem dX0_keepTime_0 : decode cX0_keepTime 0 = .ok (.aload_n 0, 1) := by decide +kernel
theorem dX0_keepTime_1 : decode cX0_keepTime 1 = .ok (.getfield 25, 3) := by decide +kernel
theorem dX0_keepTime_4 : decode cX0_keepTime 4 = .ok (.lconst 0, 1) := by decide +kernel
theorem dX0_keepTime_5 : decode cX0_keepTime 5 = .ok (.invokestatic 100, 3) := by decide +kernel
theorem dX0_keepTime_8 : decode cX0_keepTime 8 = .ok (.iconst 0, 1) := by decide +kernel
theorem dX0_keepTime_9 : decode cX0_keepTime 9 = .ok (.istore_n 3, 1) := by decide +kernel
theorem dX0_keepTime_10 : decode cX0_keepTime 10 = .ok (.iload_n 3, 1) := by decide +kernel
theorem dX0_keepTime_11 : decode cX0_keepTime 11 = .ok (.aload_n 1, 1) := by decide +kernel
theorem dX0_keepTime_12 : decode cX0_keepTime 12 = .ok (.getfield 56, 3) := by decide +kernel
theorem dX0_keepTime_15 : decode cX0_keepTime 15 = .ok (.getfield 62, 3) := by decide +kernel
theorem dX0_keepTime_18 : decode cX0_keepTime 18 = .ok (.if_icmp .ge 195, 3) := by decide +kernel
theorem dX0_keepTime_21 : decode cX0_keepTime 21 = .ok (.iconst (-1), 1) := by decide +kernel
theorem dX0_keepTime_22 : decode cX0_keepTime 22 = .ok (.istore 4, 2) := by decide +kernel
theorem dX0_keepTime_24 : decode cX0_keepTime 24 = .ok (.lconst 0, 1) := by decide +kernel
theorem dX0_keepTime_25 : decode cX0_keepTime 25 = .ok (.lstore 5, 2) := by decide +kernel
theorem dX0_keepTime_27 : decode cX0_keepTime 27 = .ok (.iconst 0, 1) := by decide +kernel
theorem dX0_keepTime_28 : decode cX0_keepTime 28 = .ok (.istore 7, 2) := by decide +kernel
theorem dX0_keepTime_30 : decode cX0_keepTime 30 = .ok (.iload 7, 2) := by decide +kernel
theorem dX0_keepTime_32 : decode cX0_keepTime 32 = .ok (.aload_n 1, 1) := by decide +kernel
theorem dX0_keepTime_33 : decode cX0_keepTime 33 = .ok (.getfield 56, 3) := by decide +kernel
theorem dX0_keepTime_36 : decode cX0_keepTime 36 = .ok (.getfield 62, 3) := by decide +kernel
theorem dX0_keepTime_39 : decode cX0_keepTime 39 = .ok (.if_icmp .ge 111, 3) := by decide +kernel
theorem dX0_keepTime_42 : decode cX0_keepTime 42 = .ok (.aload_n 2, 1) := by decide +kernel
theorem dX0_keepTime_43 : decode cX0_keepTime 43 = .ok (.iload 7, 2) := by decide +kernel
theorem dX0_keepTime_45 : decode cX0_keepTime 45 = .ok (.invokevirtual 106, 3) := by decide +kernel
theorem dX0_keepTime_48 : decode cX0_keepTime 48 = .ok (.ifCond .ne 96, 3) := by decide +kernel
theorem dX0_keepTime_51 : decode cX0_keepTime 51 = .ok (.aload_n 1, 1) := by decide +kernel
theorem dX0_keepTime_52 : decode cX0_keepTime 52 = .ok (.getfield 110, 3) := by decide +kernel
theorem dX0_keepTime_55 : decode cX0_keepTime 55 = .ok (.iload 7, 2) := by decide +kernel
theorem dX0_keepTime_57 : decode cX0_keepTime 57 = .ok (.iaload, 1) := by decide +kernel
theorem dX0_keepTime_58 : decode cX0_keepTime 58 = .ok (.ifCond .le 86, 3) := by decide +kernel
theorem dX0_keepTime_61 : decode cX0_keepTime 61 = .ok (.aload_n 0, 1) := by decide +kernel
theorem dX0_keepTime_62 : decode cX0_keepTime 62 = .ok (.aload_n 1, 1) := by decide +kernel
theorem dX0_keepTime_63 : decode cX0_keepTime 63 = .ok (.iload 7, 2) := by decide +kernel
theorem dX0_keepTime_65 : decode cX0_keepTime 65 = .ok (.invokevirtual 113, 3) := by decide +kernel
theorem dX0_keepTime_68 : decode cX0_keepTime 68 = .ok (.lstore 8, 2) := by decide +kernel
theorem dX0_keepTime_70 : decode cX0_keepTime 70 = .ok (.iload 4, 2) := by decide +kernel
theorem dX0_keepTime_72 : decode cX0_keepTime 72 = .ok (.iconst (-1), 1) := by decide +kernel
theorem dX0_keepTime_73 : decode cX0_keepTime 73 = .ok (.if_icmp .eq 36, 3) := by decide +kernel
theorem dX0_keepTime_76 : decode cX0_keepTime 76 = .ok (.lload 8, 2) := by decide +kernel
theorem dX0_keepTime_78 : decode cX0_keepTime 78 = .ok (.lload 5, 2) := by decide +kernel
theorem dX0_keepTime_80 : decode cX0_keepTime 80 = .ok (.lcmp, 1) := by decide +kernel
theorem dX0_keepTime_81 : decode cX0_keepTime 81 = .ok (.ifCond .lt 28, 3) := by decide +kernel
theorem dX0_keepTime_84 : decode cX0_keepTime 84 = .ok (.lload 8, 2) := by decide +kernel
theorem dX0_keepTime_86 : decode cX0_keepTime 86 = .ok (.lload 5, 2) := by decide +kernel
theorem dX0_keepTime_88 : decode cX0_keepTime 88 = .ok (.lcmp, 1) := by decide +kernel
theorem dX0_keepTime_89 : decode cX0_keepTime 89 = .ok (.ifCond .ne 24, 3) := by decide +kernel
theorem dX0_keepTime_92 : decode cX0_keepTime 92 = .ok (.aload_n 1, 1) := by decide +kernel
theorem dX0_keepTime_93 : decode cX0_keepTime 93 = .ok (.getfield 110, 3) := by decide +kernel
theorem dX0_keepTime_96 : decode cX0_keepTime 96 = .ok (.iload 7, 2) := by decide +kernel
theorem dX0_keepTime_98 : decode cX0_keepTime 98 = .ok (.iaload, 1) := by decide +kernel
theorem dX0_keepTime_99 : decode cX0_keepTime 99 = .ok (.aload_n 1, 1) := by decide +kernel
theorem dX0_keepTime_100 : decode cX0_keepTime 100 = .ok (.getfield 110, 3) := by decide +kernel
theorem dX0_keepTime_103 : decode cX0_keepTime 103 = .ok (.iload 4, 2) := by decide +kernel
theorem dX0_keepTime_105 : decode cX0_keepTime 105 = .ok (.iaload, 1) := by decide +kernel
theorem dX0_keepTime_106 : decode cX0_keepTime 106 = .ok (.if_icmp .le 7, 3) := by decide +kernel
theorem dX0_keepTime_109 : decode cX0_keepTime 109 = .ok (.iconst 1, 1) := by decide +kernel
theorem dX0_keepTime_110 : decode cX0_keepTime 110 = .ok (.goto 4, 3) := by decide +kernel
theorem dX0_keepTime_113 : decode cX0_keepTime 113 = .ok (.iconst 0, 1) := by decide +kernel
theorem dX0_keepTime_114 : decode cX0_keepTime 114 = .ok (.istore 10, 2) := by decide +kernel
theorem dX0_keepTime_116 : decode cX0_keepTime 116 = .ok (.iload 10, 2) := by decide +kernel
theorem dX0_keepTime_118 : decode cX0_keepTime 118 = .ok (.ifCond .eq 8, 3) := by decide +kernel
theorem dX0_keepTime_121 : decode cX0_keepTime 121 = .ok (.iload 7, 2) := by decide +kernel
theorem dX0_keepTime_123 : decode cX0_keepTime 123 = .ok (.goto 5, 3) := by decide +kernel
theorem dX0_keepTime_126 : decode cX0_keepTime 126 = .ok (.iload 4, 2) := by decide +kernel
theorem dX0_keepTime_128 : decode cX0_keepTime 128 = .ok (.istore 4, 2) := by decide +kernel
theorem dX0_keepTime_130 : decode cX0_keepTime 130 = .ok (.iload 10, 2) := by decide +kernel
theorem dX0_keepTime_132 : decode cX0_keepTime 132 = .ok (.ifCond .eq 8, 3) := by decide +kernel
theorem dX0_keepTime_135 : decode cX0_keepTime 135 = .ok (.lload 8, 2) := by decide +kernel
theorem dX0_keepTime_137 : decode cX0_keepTime 137 = .ok (.goto 5, 3) := by decide +kernel
theorem dX0_keepTime_140 : decode cX0_keepTime 140 = .ok (.lload 5, 2) := by decide +kernel
theorem dX0_keepTime_142 : decode cX0_keepTime 142 = .ok (.lstore 5, 2) := by decide +kernel
theorem dX0_keepTime_144 : decode cX0_keepTime 144 = .ok (.iinc 7 1, 3) := by decide +kernel
theorem dX0_keepTime_147 : decode cX0_keepTime 147 = .ok (.goto (-117), 3) := by decide +kernel
theorem dX0_keepTime_150 : decode cX0_keepTime 150 = .ok (.iload 4, 2) := by decide +kernel
theorem dX0_keepTime_152 : decode cX0_keepTime 152 = .ok (.iconst (-1), 1) := by decide +kernel
theorem dX0_keepTime_153 : decode cX0_keepTime 153 = .ok (.if_icmp .eq 28, 3) := by decide +kernel
theorem dX0_keepTime_156 : decode cX0_keepTime 156 = .ok (.aload_n 2, 1) := by decide +kernel
theorem dX0_keepTime_157 : decode cX0_keepTime 157 = .ok (.getfield 87, 3) := by decide +kernel
theorem dX0_keepTime_160 : decode cX0_keepTime 160 = .ok (.aload_n 1, 1) := by decide +kernel
theorem dX0_keepTime_161 : decode cX0_keepTime 161 = .ok (.getfield 56, 3) := by decide +kernel
theorem dX0_keepTime_164 : decode cX0_keepTime 164 = .ok (.getfield 72, 3) := by decide +kernel
theorem dX0_keepTime_167 : decode cX0_keepTime 167 = .ok (.iload 4, 2) := by decide +kernel
theorem dX0_keepTime_169 : decode cX0_keepTime 169 = .ok (.iaload, 1) := by decide +kernel
theorem dX0_keepTime_170 : decode cX0_keepTime 170 = .ok (.iadd, 1) := by decide +kernel
theorem dX0_keepTime_171 : decode cX0_keepTime 171 = .ok (.aload_n 1, 1) := by decide +kernel
theorem dX0_keepTime_172 : decode cX0_keepTime 172 = .ok (.getfield 56, 3) := by decide +kernel
theorem dX0_keepTime_175 : decode cX0_keepTime 175 = .ok (.getfield 90, 3) := by decide +kernel
theorem dX0_keepTime_178 : decode cX0_keepTime 178 = .ok (.if_icmp .le 4, 3) := by decide +kernel
theorem dX0_keepTime_181 : decode cX0_keepTime 181 = .ok (.return_, 1) := by decide +kernel
theorem dX0_keepTime_182 : decode cX0_keepTime 182 = .ok (.aload_n 2, 1) := by decide +kernel
theorem dX0_keepTime_183 : decode cX0_keepTime 183 = .ok (.iload 4, 2) := by decide +kernel
theorem dX0_keepTime_185 : decode cX0_keepTime 185 = .ok (.aload_n 1, 1) := by decide +kernel
theorem dX0_keepTime_186 : decode cX0_keepTime 186 = .ok (.getfield 56, 3) := by decide +kernel
theorem dX0_keepTime_189 : decode cX0_keepTime 189 = .ok (.getfield 72, 3) := by decide +kernel
theorem dX0_keepTime_192 : decode cX0_keepTime 192 = .ok (.iload 4, 2) := by decide +kernel
theorem dX0_keepTime_194 : decode cX0_keepTime 194 = .ok (.iaload, 1) := by decide +kernel
theorem dX0_keepTime_195 : decode cX0_keepTime 195 = .ok (.invokevirtual 76, 3) := by decide +kernel
theorem dX0_keepTime_198 : decode cX0_keepTime 198 = .ok (.aload_n 0, 1) := by decide +kernel
theorem dX0_keepTime_199 : decode cX0_keepTime 199 = .ok (.aload_n 1, 1) := by decide +kernel
theorem dX0_keepTime_200 : decode cX0_keepTime 200 = .ok (.iload 4, 2) := by decide +kernel
theorem dX0_keepTime_202 : decode cX0_keepTime 202 = .ok (.lload 5, 2) := by decide +kernel
theorem dX0_keepTime_204 : decode cX0_keepTime 204 = .ok (.invokevirtual 117, 3) := by decide +kernel
theorem dX0_keepTime_207 : decode cX0_keepTime 207 = .ok (.iinc 3 1, 3) := by decide +kernel
theorem dX0_keepTime_210 : decode cX0_keepTime 210 = .ok (.goto (-200), 3) := by decide +kernel
theorem dX0_keepTime_213 : decode cX0_keepTime 213 = .ok (.return_, 1) := by decide +kernel
def jX0_keepTime_144_30 (Y : XS) (n : Nat) (S : PS) (v0 : Nat) (v1 : Nat) (v2 : Nat) (v3 : Int32) (v4 : Int32) (v5 : Int64) (v7 : Int32) : Option ((Int32 × Int64 × Int32) ⊕ (Int32 × Int64)) :=
  some (.inl (v4, v5, v7 + (1 : Int32)))
def jX0_keepTime_142_30 (Y : XS) (n : Nat) (S : PS) (v0 : Nat) (v1 : Nat) (v2 : Nat) (v3 : Int32) (v4 : Int32) (v7 : Int32) (t0 : Int64) : Option ((Int32 × Int64 × Int32) ⊕ (Int32 × Int64)) :=
  jX0_keepTime_144_30 Y n S v0 v1 v2 v3 v4 t0 v7
def jX0_keepTime_128_30 (Y : XS) (n : Nat) (S : PS) (v0 : Nat) (v1 : Nat) (v2 : Nat) (v3 : Int32) (v5 : Int64) (v7 : Int32) (v8 : Int64) (v10 : Int32) (t0 : Int32) : Option ((Int32 × Int64 × Int32) ⊕ (Int32 × Int64)) :=
  (if v10 = 0 then jX0_keepTime_142_30 Y n S v0 v1 v2 v3 t0 v7 v5 else jX0_keepTime_142_30 Y n S v0 v1 v2 v3 t0 v7 v8)
def jX0_keepTime_114_30 (Y : XS) (n : Nat) (S : PS) (v0 : Nat) (v1 : Nat) (v2 : Nat) (v3 : Int32) (v4 : Int32) (v5 : Int64) (v7 : Int32) (v8 : Int64) (t0 : Int32) : Option ((Int32 × Int64 × Int32) ⊕ (Int32 × Int64)) :=
  (if t0 = 0 then jX0_keepTime_128_30 Y n S v0 v1 v2 v3 v5 v7 v8 t0 v4 else jX0_keepTime_128_30 Y n S v0 v1 v2 v3 v5 v7 v8 t0 v7)
def jX0_keepTime_109_30 (Y : XS) (n : Nat) (S : PS) (v0 : Nat) (v1 : Nat) (v2 : Nat) (v3 : Int32) (v4 : Int32) (v5 : Int64) (v7 : Int32) (v8 : Int64) : Option ((Int32 × Int64 × Int32) ⊕ (Int32 × Int64)) :=
  jX0_keepTime_114_30 Y n S v0 v1 v2 v3 v4 v5 v7 v8 (1 : Int32)
def jX0_keepTime_113_30 (Y : XS) (n : Nat) (S : PS) (v0 : Nat) (v1 : Nat) (v2 : Nat) (v3 : Int32) (v4 : Int32) (v5 : Int64) (v7 : Int32) (v8 : Int64) : Option ((Int32 × Int64 × Int32) ⊕ (Int32 × Int64)) :=
  jX0_keepTime_114_30 Y n S v0 v1 v2 v3 v4 v5 v7 v8 (0 : Int32)
def bX0_keepTime_30 (Y : XS) (n : Nat) (S : PS) (v0 : Nat) (v1 : Nat) (v2 : Nat) (v3 : Int32) (s30 : (Int32 × Int64 × Int32)) : Option ((Int32 × Int64 × Int32) ⊕ (Int32 × Int64)) :=
  kgr S v1 0 (fun b33 => kgi S b33 1 (fun x36 => (if x36 ≤ s30.2.2 then some (.inr (s30.1, s30.2.1)) else kc (fX5_has Y n S v2 s30.2.2) (fun q45 => (if q45 = 0 then kgr S v1 1 (fun b52 => kai Y S b52 s30.2.2 (fun x57 => (if x57 ≤ 0 then jX0_keepTime_144_30 Y n S v0 v1 v2 v3 s30.1 s30.2.1 s30.2.2 else kc (fX0_dueAt Y n S v0 v1 s30.2.2) (fun q65 => (if s30.1 = (-1 : Int32) then jX0_keepTime_109_30 Y n S v0 v1 v2 v3 s30.1 s30.2.1 s30.2.2 q65 else (if (lg_cmp q65 s30.2.1) < 0 then jX0_keepTime_109_30 Y n S v0 v1 v2 v3 s30.1 s30.2.1 s30.2.2 q65 else (if (lg_cmp q65 s30.2.1) = 0 then kgr S v1 1 (fun b93 => kai Y S b93 s30.2.2 (fun x98 => kgr S v1 1 (fun b100 => kai Y S b100 s30.1 (fun x105 => (if x98 ≤ x105 then jX0_keepTime_113_30 Y n S v0 v1 v2 v3 s30.1 s30.2.1 s30.2.2 q65 else jX0_keepTime_109_30 Y n S v0 v1 v2 v3 s30.1 s30.2.1 s30.2.2 q65))))) else jX0_keepTime_113_30 Y n S v0 v1 v2 v3 s30.1 s30.2.1 s30.2.2 q65))))))) else jX0_keepTime_144_30 Y n S v0 v1 v2 v3 s30.1 s30.2.1 s30.2.2)))))
def jX0_keepTime_181_10 (Y : XS) (n : Nat) (S : PS)  : Option ((Int32 × PS) ⊕ (PS ⊕ (PS))) :=
  some (.inr (.inr S))
def bX0_keepTime_10 (Y : XS) (n : Nat) (v0 : Nat) (v1 : Nat) (v2 : Nat) (s10 : (Int32 × PS)) : Option ((Int32 × PS) ⊕ (PS ⊕ (PS))) :=
  kgr s10.2 v1 0 (fun b12 => kgi s10.2 b12 1 (fun x15 => (if x15 ≤ s10.1 then some (.inr (.inl s10.2)) else kc (iter (bX0_keepTime_30 Y n s10.2 v0 v1 v2 s10.1) n ((-1 : Int32), (0 : Int64), (0 : Int32))) (fun r30 => (if r30.1 = (-1 : Int32) then jX0_keepTime_181_10 Y n s10.2  else kgi s10.2 v2 3 (fun x157 => kgr s10.2 v1 0 (fun b161 => kgr s10.2 b161 4 (fun b164 => kai Y s10.2 b164 r30.1 (fun x169 => kgr s10.2 v1 0 (fun b172 => kgi s10.2 b172 0 (fun x175 => (if (x157 + x169) ≤ x175 then kgr s10.2 v1 0 (fun b186 => kgr s10.2 b186 4 (fun b189 => kai Y s10.2 b189 r30.1 (fun x194 => kc (fX5_add Y n s10.2 v2 r30.1 x194) (fun q195 => kc (fX0_emptyPurses Y n q195 v0 v1 r30.1 r30.2) (fun q204 => some (.inl (s10.1 + (1 : Int32), q204))))))) else jX0_keepTime_181_10 Y n s10.2 ))))))))))))
def fX0_keepTime (Y : XS) (n : Nat) (S : PS) (a0 : Nat) (a1 : Nat) (a2 : Nat) : Option (PS) :=
  kgr S a0 2 (fun b1 => kc (fJ7_fill_d0a16 Y n S b1 (0 : Int64)) (fun q5 => kc (iter (bX0_keepTime_10 Y n a0 a1 a2) n ((0 : Int32), q5)) (fun r10 => ks r10 (fun p10_0 => some p10_0) (fun p10_1 => some p10_1))))
theorem wjX0_keepTime_144_30 {C : CT} {X : XT} (hC : CK C RX0 cX0_keepTime 11 none 2) (n : Nat) (S : PS) (v0 : Nat) (v1 : Nat) (v2 : Nat) (v3 : Int32) (v4 : Int32) (v5 : Int64) (v7 : Int32)  (hTv0 : Ty X.2.1 v0 0) (hTv1 : Ty X.2.1 v1 6) (hTv2 : Ty X.2.1 v2 5) {o : (Int32 × Int64 × Int32) ⊕ (Int32 × Int64)} (hf : jX0_keepTime_144_30 X.2.1 n S v0 v1 v2 v3 v4 v5 v7 = some o) (hN : ∀ s', o = .inl s' → UW C X S 30 [(0, .ref (X.1 v0)), (1, .ref (X.1 v1)), (2, .ref (X.1 v2)), (3, .int v3), (4, .int s'.1), (5, .long s'.2.1), (7, .int s'.2.2)] []) (hO0 : ∀ p', o = .inr p' → UW C X S 150 [(0, .ref (X.1 v0)), (1, .ref (X.1 v1)), (2, .ref (X.1 v2)), (3, .int v3), (4, .int p'.1), (5, .long p'.2)] []) : UW C X S 144 [(0, .ref (X.1 v0)), (1, .ref (X.1 v1)), (2, .ref (X.1 v2)), (3, .int v3), (4, .int v4), (5, .long v5), (7, .int v7)] [] := by
  unfold jX0_keepTime_144_30 at hf
  refine u_iinc (v := v7 + (1 : Int32)) (lv' := [(7, .int (v7 + (1 : Int32))), (0, .ref (X.1 v0)), (1, .ref (X.1 v1)), (2, .ref (X.1 v2)), (3, .int v3), (4, .int v4), (5, .long v5)]) hC dX0_keepTime_144 6 rfl rfl (by decide) rfl ?_
  refine u_goto (tgt := 30) hC dX0_keepTime_147 (by decide) ?_
  refine u_sub (lv' := [(0, .ref (X.1 v0)), (1, .ref (X.1 v1)), (2, .ref (X.1 v2)), (3, .int v3), (4, .int v4), (5, .long v5), (7, .int (v7 + (1 : Int32)))]) [1, 2, 3, 4, 5, 6, 0] rfl ?_
  exact hN _ (Option.some.inj hf).symm
theorem wjX0_keepTime_142_30 {C : CT} {X : XT} (hC : CK C RX0 cX0_keepTime 11 none 2) (n : Nat) (S : PS) (v0 : Nat) (v1 : Nat) (v2 : Nat) (v3 : Int32) (v4 : Int32) (v7 : Int32) (t0 : Int64)  (hTv0 : Ty X.2.1 v0 0) (hTv1 : Ty X.2.1 v1 6) (hTv2 : Ty X.2.1 v2 5) {o : (Int32 × Int64 × Int32) ⊕ (Int32 × Int64)} (hf : jX0_keepTime_142_30 X.2.1 n S v0 v1 v2 v3 v4 v7 t0 = some o) (hN : ∀ s', o = .inl s' → UW C X S 30 [(0, .ref (X.1 v0)), (1, .ref (X.1 v1)), (2, .ref (X.1 v2)), (3, .int v3), (4, .int s'.1), (5, .long s'.2.1), (7, .int s'.2.2)] []) (hO0 : ∀ p', o = .inr p' → UW C X S 150 [(0, .ref (X.1 v0)), (1, .ref (X.1 v1)), (2, .ref (X.1 v2)), (3, .int v3), (4, .int p'.1), (5, .long p'.2)] []) : UW C X S 142 [(0, .ref (X.1 v0)), (1, .ref (X.1 v1)), (2, .ref (X.1 v2)), (3, .int v3), (4, .int v4), (7, .int v7)] [.long t0] := by
  unfold jX0_keepTime_142_30 at hf
  refine u_lstore (lv' := [(5, .long t0), (0, .ref (X.1 v0)), (1, .ref (X.1 v1)), (2, .ref (X.1 v2)), (3, .int v3), (4, .int v4), (7, .int v7)]) hC dX0_keepTime_142 (by decide) rfl ?_
  refine u_sub (lv' := [(0, .ref (X.1 v0)), (1, .ref (X.1 v1)), (2, .ref (X.1 v2)), (3, .int v3), (4, .int v4), (5, .long t0), (7, .int v7)]) [1, 2, 3, 4, 5, 0, 6] rfl ?_
  exact wjX0_keepTime_144_30 hC n S v0 v1 v2 v3 v4 t0 v7  hTv0 hTv1 hTv2 hf hN hO0
theorem wjX0_keepTime_128_30 {C : CT} {X : XT} (hC : CK C RX0 cX0_keepTime 11 none 2) (n : Nat) (S : PS) (v0 : Nat) (v1 : Nat) (v2 : Nat) (v3 : Int32) (v5 : Int64) (v7 : Int32) (v8 : Int64) (v10 : Int32) (t0 : Int32)  (hTv0 : Ty X.2.1 v0 0) (hTv1 : Ty X.2.1 v1 6) (hTv2 : Ty X.2.1 v2 5) {o : (Int32 × Int64 × Int32) ⊕ (Int32 × Int64)} (hf : jX0_keepTime_128_30 X.2.1 n S v0 v1 v2 v3 v5 v7 v8 v10 t0 = some o) (hN : ∀ s', o = .inl s' → UW C X S 30 [(0, .ref (X.1 v0)), (1, .ref (X.1 v1)), (2, .ref (X.1 v2)), (3, .int v3), (4, .int s'.1), (5, .long s'.2.1), (7, .int s'.2.2)] []) (hO0 : ∀ p', o = .inr p' → UW C X S 150 [(0, .ref (X.1 v0)), (1, .ref (X.1 v1)), (2, .ref (X.1 v2)), (3, .int v3), (4, .int p'.1), (5, .long p'.2)] []) : UW C X S 128 [(0, .ref (X.1 v0)), (1, .ref (X.1 v1)), (2, .ref (X.1 v2)), (3, .int v3), (5, .long v5), (7, .int v7), (8, .long v8), (10, .int v10)] [.int t0] := by
  unfold jX0_keepTime_128_30 at hf
  refine u_istore (lv' := [(4, .int t0), (0, .ref (X.1 v0)), (1, .ref (X.1 v1)), (2, .ref (X.1 v2)), (3, .int v3), (5, .long v5), (7, .int v7), (8, .long v8), (10, .int v10)]) hC dX0_keepTime_128 (by decide) rfl ?_
  refine u_iload hC dX0_keepTime_130 8 rfl ?_
  refine u_if_eq (tgt := 140) hC dX0_keepTime_132 (by decide) hf (fun h132 hf => ?_) (fun h132 hf => ?_)
  · refine u_lload hC dX0_keepTime_140 5 rfl ?_
    refine u_sub (lv' := [(0, .ref (X.1 v0)), (1, .ref (X.1 v1)), (2, .ref (X.1 v2)), (3, .int v3), (4, .int t0), (7, .int v7)]) [1, 2, 3, 4, 0, 6] rfl ?_
    exact wjX0_keepTime_142_30 hC n S v0 v1 v2 v3 t0 v7 v5  hTv0 hTv1 hTv2 hf hN hO0
  · refine u_lload hC dX0_keepTime_135 7 rfl ?_
    refine u_goto (tgt := 142) hC dX0_keepTime_137 (by decide) ?_
    refine u_sub (lv' := [(0, .ref (X.1 v0)), (1, .ref (X.1 v1)), (2, .ref (X.1 v2)), (3, .int v3), (4, .int t0), (7, .int v7)]) [1, 2, 3, 4, 0, 6] rfl ?_
    exact wjX0_keepTime_142_30 hC n S v0 v1 v2 v3 t0 v7 v8  hTv0 hTv1 hTv2 hf hN hO0
theorem wjX0_keepTime_114_30 {C : CT} {X : XT} (hC : CK C RX0 cX0_keepTime 11 none 2) (n : Nat) (S : PS) (v0 : Nat) (v1 : Nat) (v2 : Nat) (v3 : Int32) (v4 : Int32) (v5 : Int64) (v7 : Int32) (v8 : Int64) (t0 : Int32)  (hTv0 : Ty X.2.1 v0 0) (hTv1 : Ty X.2.1 v1 6) (hTv2 : Ty X.2.1 v2 5) {o : (Int32 × Int64 × Int32) ⊕ (Int32 × Int64)} (hf : jX0_keepTime_114_30 X.2.1 n S v0 v1 v2 v3 v4 v5 v7 v8 t0 = some o) (hN : ∀ s', o = .inl s' → UW C X S 30 [(0, .ref (X.1 v0)), (1, .ref (X.1 v1)), (2, .ref (X.1 v2)), (3, .int v3), (4, .int s'.1), (5, .long s'.2.1), (7, .int s'.2.2)] []) (hO0 : ∀ p', o = .inr p' → UW C X S 150 [(0, .ref (X.1 v0)), (1, .ref (X.1 v1)), (2, .ref (X.1 v2)), (3, .int v3), (4, .int p'.1), (5, .long p'.2)] []) : UW C X S 114 [(0, .ref (X.1 v0)), (1, .ref (X.1 v1)), (2, .ref (X.1 v2)), (3, .int v3), (4, .int v4), (5, .long v5), (7, .int v7), (8, .long v8)] [.int t0] := by
  unfold jX0_keepTime_114_30 at hf
  refine u_istore (lv' := [(10, .int t0), (0, .ref (X.1 v0)), (1, .ref (X.1 v1)), (2, .ref (X.1 v2)), (3, .int v3), (4, .int v4), (5, .long v5), (7, .int v7), (8, .long v8)]) hC dX0_keepTime_114 (by decide) rfl ?_
  refine u_iload hC dX0_keepTime_116 0 rfl ?_
  refine u_if_eq (tgt := 126) hC dX0_keepTime_118 (by decide) hf (fun h118 hf => ?_) (fun h118 hf => ?_)
  · refine u_iload hC dX0_keepTime_126 5 rfl ?_
    refine u_sub (lv' := [(0, .ref (X.1 v0)), (1, .ref (X.1 v1)), (2, .ref (X.1 v2)), (3, .int v3), (5, .long v5), (7, .int v7), (8, .long v8), (10, .int t0)]) [1, 2, 3, 4, 6, 7, 8, 0] rfl ?_
    exact wjX0_keepTime_128_30 hC n S v0 v1 v2 v3 v5 v7 v8 t0 v4  hTv0 hTv1 hTv2 hf hN hO0
  · refine u_iload hC dX0_keepTime_121 7 rfl ?_
    refine u_goto (tgt := 128) hC dX0_keepTime_123 (by decide) ?_
    refine u_sub (lv' := [(0, .ref (X.1 v0)), (1, .ref (X.1 v1)), (2, .ref (X.1 v2)), (3, .int v3), (5, .long v5), (7, .int v7), (8, .long v8), (10, .int t0)]) [1, 2, 3, 4, 6, 7, 8, 0] rfl ?_
    exact wjX0_keepTime_128_30 hC n S v0 v1 v2 v3 v5 v7 v8 t0 v7  hTv0 hTv1 hTv2 hf hN hO0
theorem wjX0_keepTime_109_30 {C : CT} {X : XT} (hC : CK C RX0 cX0_keepTime 11 none 2) (n : Nat) (S : PS) (v0 : Nat) (v1 : Nat) (v2 : Nat) (v3 : Int32) (v4 : Int32) (v5 : Int64) (v7 : Int32) (v8 : Int64)  (hTv0 : Ty X.2.1 v0 0) (hTv1 : Ty X.2.1 v1 6) (hTv2 : Ty X.2.1 v2 5) {o : (Int32 × Int64 × Int32) ⊕ (Int32 × Int64)} (hf : jX0_keepTime_109_30 X.2.1 n S v0 v1 v2 v3 v4 v5 v7 v8 = some o) (hN : ∀ s', o = .inl s' → UW C X S 30 [(0, .ref (X.1 v0)), (1, .ref (X.1 v1)), (2, .ref (X.1 v2)), (3, .int v3), (4, .int s'.1), (5, .long s'.2.1), (7, .int s'.2.2)] []) (hO0 : ∀ p', o = .inr p' → UW C X S 150 [(0, .ref (X.1 v0)), (1, .ref (X.1 v1)), (2, .ref (X.1 v2)), (3, .int v3), (4, .int p'.1), (5, .long p'.2)] []) : UW C X S 109 [(0, .ref (X.1 v0)), (1, .ref (X.1 v1)), (2, .ref (X.1 v2)), (3, .int v3), (4, .int v4), (5, .long v5), (7, .int v7), (8, .long v8)] [] := by
  unfold jX0_keepTime_109_30 at hf
  refine u_iconst (v := (1 : Int32)) hC dX0_keepTime_109 (by decide) ?_
  refine u_goto (tgt := 114) hC dX0_keepTime_110 (by decide) ?_
  exact wjX0_keepTime_114_30 hC n S v0 v1 v2 v3 v4 v5 v7 v8 (1 : Int32)  hTv0 hTv1 hTv2 hf hN hO0
theorem wjX0_keepTime_113_30 {C : CT} {X : XT} (hC : CK C RX0 cX0_keepTime 11 none 2) (n : Nat) (S : PS) (v0 : Nat) (v1 : Nat) (v2 : Nat) (v3 : Int32) (v4 : Int32) (v5 : Int64) (v7 : Int32) (v8 : Int64)  (hTv0 : Ty X.2.1 v0 0) (hTv1 : Ty X.2.1 v1 6) (hTv2 : Ty X.2.1 v2 5) {o : (Int32 × Int64 × Int32) ⊕ (Int32 × Int64)} (hf : jX0_keepTime_113_30 X.2.1 n S v0 v1 v2 v3 v4 v5 v7 v8 = some o) (hN : ∀ s', o = .inl s' → UW C X S 30 [(0, .ref (X.1 v0)), (1, .ref (X.1 v1)), (2, .ref (X.1 v2)), (3, .int v3), (4, .int s'.1), (5, .long s'.2.1), (7, .int s'.2.2)] []) (hO0 : ∀ p', o = .inr p' → UW C X S 150 [(0, .ref (X.1 v0)), (1, .ref (X.1 v1)), (2, .ref (X.1 v2)), (3, .int v3), (4, .int p'.1), (5, .long p'.2)] []) : UW C X S 113 [(0, .ref (X.1 v0)), (1, .ref (X.1 v1)), (2, .ref (X.1 v2)), (3, .int v3), (4, .int v4), (5, .long v5), (7, .int v7), (8, .long v8)] [] := by
  unfold jX0_keepTime_113_30 at hf
  refine u_iconst (v := (0 : Int32)) hC dX0_keepTime_113 (by decide) ?_
  exact wjX0_keepTime_114_30 hC n S v0 v1 v2 v3 v4 v5 v7 v8 (0 : Int32)  hTv0 hTv1 hTv2 hf hN hO0
theorem wbX0_keepTime_30 {C : CT} {X : XT} (hC : CK C RX0 cX0_keepTime 11 none 2) (n : Nat) (S : PS) (v0 : Nat) (v1 : Nat) (v2 : Nat) (v3 : Int32) (hTv0 : Ty X.2.1 v0 0) (hTv1 : Ty X.2.1 v1 6) (hTv2 : Ty X.2.1 v2 5) (s30 : (Int32 × Int64 × Int32)) {o : (Int32 × Int64 × Int32) ⊕ (Int32 × Int64)} (hf : bX0_keepTime_30 X.2.1 n S v0 v1 v2 v3 s30 = some o) (hN : ∀ s', o = .inl s' → UW C X S 30 [(0, .ref (X.1 v0)), (1, .ref (X.1 v1)), (2, .ref (X.1 v2)), (3, .int v3), (4, .int s'.1), (5, .long s'.2.1), (7, .int s'.2.2)] []) (hO0 : ∀ p', o = .inr p' → UW C X S 150 [(0, .ref (X.1 v0)), (1, .ref (X.1 v1)), (2, .ref (X.1 v2)), (3, .int v3), (4, .int p'.1), (5, .long p'.2)] []) : UW C X S 30 [(0, .ref (X.1 v0)), (1, .ref (X.1 v1)), (2, .ref (X.1 v2)), (3, .int v3), (4, .int s30.1), (5, .long s30.2.1), (7, .int s30.2.2)] [] := by
  unfold bX0_keepTime_30 at hf
  refine u_iload hC dX0_keepTime_30 6 rfl ?_
  refine u_aload_n hC dX0_keepTime_32 1 rfl rfl ?_
  refine u_gr hC lf_X0_56 rfl hTv1 dX0_keepTime_33 hf (fun b33 hTb33 hf => ?_)
  refine u_gi hC lf_X0_62 rfl hTb33 dX0_keepTime_36 hf (fun x36 hf => ?_)
  refine u_icmp_ge (tgt := 150) hC dX0_keepTime_39 (by decide) hf (fun h39 hf => ?_) (fun h39 hf => ?_)
  · refine u_sub (lv' := [(0, .ref (X.1 v0)), (1, .ref (X.1 v1)), (2, .ref (X.1 v2)), (3, .int v3), (4, .int s30.1), (5, .long s30.2.1)]) [0, 1, 2, 3, 4, 5] rfl ?_
    exact hO0 _ (Option.some.inj hf).symm
  · refine u_aload_n hC dX0_keepTime_42 2 rfl rfl ?_
    refine u_iload hC dX0_keepTime_43 6 rfl ?_
    obtain ⟨q45, hq45, hf⟩ := kc_some hf
    refine u_callV hC (ctX5_has (cL C) hC.tr (cG C) X.1 X.2.1 n S v2 s30.2.2 hTv2 hq45) lk_X0_106 rfl hTv2 (by decide) rfl (by decide) (by decide) rfl rfl (Nat.le_of_ble_eq_true rfl) dX0_keepTime_45 ?_
    refine u_if_ne (tgt := 144) hC dX0_keepTime_48 (by decide) hf (fun h48 hf => ?_) (fun h48 hf => ?_)
    · exact wjX0_keepTime_144_30 hC n S v0 v1 v2 v3 s30.1 s30.2.1 s30.2.2  hTv0 hTv1 hTv2 hf hN hO0
    · refine u_aload_n hC dX0_keepTime_51 1 rfl rfl ?_
      refine u_gr hC lf_X0_110 rfl hTv1 dX0_keepTime_52 hf (fun b52 hTb52 hf => ?_)
      refine u_iload hC dX0_keepTime_55 6 rfl ?_
      refine u_ai hC hTb52 dX0_keepTime_57 hf (fun x57 hf => ?_)
      refine u_if_le (tgt := 144) hC dX0_keepTime_58 (by decide) hf (fun h58 hf => ?_) (fun h58 hf => ?_)
      · exact wjX0_keepTime_144_30 hC n S v0 v1 v2 v3 s30.1 s30.2.1 s30.2.2  hTv0 hTv1 hTv2 hf hN hO0
      · refine u_aload_n hC dX0_keepTime_61 0 rfl rfl ?_
        refine u_aload_n hC dX0_keepTime_62 1 rfl rfl ?_
        refine u_iload hC dX0_keepTime_63 6 rfl ?_
        obtain ⟨q65, hq65, hf⟩ := kc_some hf
        refine u_callV hC (ctX0_dueAt (cL C) hC.tr (cG C) X.1 X.2.1 n S v0 v1 s30.2.2 hTv0 hTv1 hq65) lk_X0_113 rfl hTv0 (by decide) rfl (by decide) (by decide) rfl rfl (Nat.le_of_ble_eq_true rfl) dX0_keepTime_65 ?_
        refine u_lstore (lv' := [(8, .long q65), (0, .ref (X.1 v0)), (1, .ref (X.1 v1)), (2, .ref (X.1 v2)), (3, .int v3), (4, .int s30.1), (5, .long s30.2.1), (7, .int s30.2.2)]) hC dX0_keepTime_68 (by decide) rfl ?_
        refine u_iload hC dX0_keepTime_70 5 rfl ?_
        refine u_iconst (v := (-1 : Int32)) hC dX0_keepTime_72 (by decide) ?_
        refine u_icmp_eq (tgt := 109) hC dX0_keepTime_73 (by decide) hf (fun h73 hf => ?_) (fun h73 hf => ?_)
        · refine u_sub (lv' := [(0, .ref (X.1 v0)), (1, .ref (X.1 v1)), (2, .ref (X.1 v2)), (3, .int v3), (4, .int s30.1), (5, .long s30.2.1), (7, .int s30.2.2), (8, .long q65)]) [1, 2, 3, 4, 5, 6, 7, 0] rfl ?_
          exact wjX0_keepTime_109_30 hC n S v0 v1 v2 v3 s30.1 s30.2.1 s30.2.2 q65  hTv0 hTv1 hTv2 hf hN hO0
        · refine u_lload hC dX0_keepTime_76 0 rfl ?_
          refine u_lload hC dX0_keepTime_78 6 rfl ?_
          refine u_lcmp hC dX0_keepTime_80 ?_
          refine u_if_lt (tgt := 109) hC dX0_keepTime_81 (by decide) hf (fun h81 hf => ?_) (fun h81 hf => ?_)
          · refine u_sub (lv' := [(0, .ref (X.1 v0)), (1, .ref (X.1 v1)), (2, .ref (X.1 v2)), (3, .int v3), (4, .int s30.1), (5, .long s30.2.1), (7, .int s30.2.2), (8, .long q65)]) [1, 2, 3, 4, 5, 6, 7, 0] rfl ?_
            exact wjX0_keepTime_109_30 hC n S v0 v1 v2 v3 s30.1 s30.2.1 s30.2.2 q65  hTv0 hTv1 hTv2 hf hN hO0
          · refine u_lload hC dX0_keepTime_84 0 rfl ?_
            refine u_lload hC dX0_keepTime_86 6 rfl ?_
            refine u_lcmp hC dX0_keepTime_88 ?_
            refine u_if_ne (tgt := 113) hC dX0_keepTime_89 (by decide) hf (fun h89 hf => ?_) (fun h89 hf => ?_)
            · refine u_sub (lv' := [(0, .ref (X.1 v0)), (1, .ref (X.1 v1)), (2, .ref (X.1 v2)), (3, .int v3), (4, .int s30.1), (5, .long s30.2.1), (7, .int s30.2.2), (8, .long q65)]) [1, 2, 3, 4, 5, 6, 7, 0] rfl ?_
              exact wjX0_keepTime_113_30 hC n S v0 v1 v2 v3 s30.1 s30.2.1 s30.2.2 q65  hTv0 hTv1 hTv2 hf hN hO0
            · refine u_aload_n hC dX0_keepTime_92 2 rfl rfl ?_
              refine u_gr hC lf_X0_110 rfl hTv1 dX0_keepTime_93 hf (fun b93 hTb93 hf => ?_)
              refine u_iload hC dX0_keepTime_96 7 rfl ?_
              refine u_ai hC hTb93 dX0_keepTime_98 hf (fun x98 hf => ?_)
              refine u_aload_n hC dX0_keepTime_99 2 rfl rfl ?_
              refine u_gr hC lf_X0_110 rfl hTv1 dX0_keepTime_100 hf (fun b100 hTb100 hf => ?_)
              refine u_iload hC dX0_keepTime_103 5 rfl ?_
              refine u_ai hC hTb100 dX0_keepTime_105 hf (fun x105 hf => ?_)
              refine u_icmp_le (tgt := 113) hC dX0_keepTime_106 (by decide) hf (fun h106 hf => ?_) (fun h106 hf => ?_)
              · refine u_sub (lv' := [(0, .ref (X.1 v0)), (1, .ref (X.1 v1)), (2, .ref (X.1 v2)), (3, .int v3), (4, .int s30.1), (5, .long s30.2.1), (7, .int s30.2.2), (8, .long q65)]) [1, 2, 3, 4, 5, 6, 7, 0] rfl ?_
                exact wjX0_keepTime_113_30 hC n S v0 v1 v2 v3 s30.1 s30.2.1 s30.2.2 q65  hTv0 hTv1 hTv2 hf hN hO0
              · refine u_sub (lv' := [(0, .ref (X.1 v0)), (1, .ref (X.1 v1)), (2, .ref (X.1 v2)), (3, .int v3), (4, .int s30.1), (5, .long s30.2.1), (7, .int s30.2.2), (8, .long q65)]) [1, 2, 3, 4, 5, 6, 7, 0] rfl ?_
                exact wjX0_keepTime_109_30 hC n S v0 v1 v2 v3 s30.1 s30.2.1 s30.2.2 q65  hTv0 hTv1 hTv2 hf hN hO0
theorem wjX0_keepTime_181_10 {C : CT} {X : XT} (hC : CK C RX0 cX0_keepTime 11 none 2) (n : Nat) (S : PS)  (v0 : Nat) (v1 : Nat) (v2 : Nat)  {o : (Int32 × PS) ⊕ (PS ⊕ (PS))} (hf : jX0_keepTime_181_10 X.2.1 n S  = some o) (hN : ∀ s', o = .inl s' → UW C X s'.2 10 [(0, .ref (X.1 v0)), (1, .ref (X.1 v1)), (2, .ref (X.1 v2)), (3, .int s'.1)] []) (hO0 : ∀ p', o = .inr (.inl p') → UW C X p' 213 [] []) (hR : ∀ q', o = .inr (.inr q') → Rt C X cX0_keepTime none none q') : UW C X S 181 [] [] := by
  unfold jX0_keepTime_181_10 at hf
  exact hR _ (Option.some.inj hf).symm _ _ dX0_keepTime_181 trivial
theorem wbX0_keepTime_10 {C : CT} {X : XT} (hC : CK C RX0 cX0_keepTime 11 none 2) (n : Nat) (v0 : Nat) (v1 : Nat) (v2 : Nat) (hTv0 : Ty X.2.1 v0 0) (hTv1 : Ty X.2.1 v1 6) (hTv2 : Ty X.2.1 v2 5) (s10 : (Int32 × PS)) {o : (Int32 × PS) ⊕ (PS ⊕ (PS))} (hf : bX0_keepTime_10 X.2.1 n v0 v1 v2 s10 = some o) (hN : ∀ s', o = .inl s' → UW C X s'.2 10 [(0, .ref (X.1 v0)), (1, .ref (X.1 v1)), (2, .ref (X.1 v2)), (3, .int s'.1)] []) (hO0 : ∀ p', o = .inr (.inl p') → UW C X p' 213 [] []) (hR : ∀ q', o = .inr (.inr q') → Rt C X cX0_keepTime none none q') : UW C X s10.2 10 [(0, .ref (X.1 v0)), (1, .ref (X.1 v1)), (2, .ref (X.1 v2)), (3, .int s10.1)] [] := by
  unfold bX0_keepTime_10 at hf
  refine u_iload_n hC dX0_keepTime_10 3 rfl rfl ?_
  refine u_aload_n hC dX0_keepTime_11 1 rfl rfl ?_
  refine u_gr hC lf_X0_56 rfl hTv1 dX0_keepTime_12 hf (fun b12 hTb12 hf => ?_)
  refine u_gi hC lf_X0_62 rfl hTb12 dX0_keepTime_15 hf (fun x15 hf => ?_)
  refine u_icmp_ge (tgt := 213) hC dX0_keepTime_18 (by decide) hf (fun h18 hf => ?_) (fun h18 hf => ?_)
  · refine u_sub (lv' := []) [] rfl ?_
    exact hO0 _ (Option.some.inj hf).symm
  · refine u_iconst (v := (-1 : Int32)) hC dX0_keepTime_21 (by decide) ?_
    refine u_istore (lv' := [(4, .int (-1 : Int32)), (0, .ref (X.1 v0)), (1, .ref (X.1 v1)), (2, .ref (X.1 v2)), (3, .int s10.1)]) hC dX0_keepTime_22 (by decide) rfl ?_
    refine u_lconst (v := (0 : Int64)) hC dX0_keepTime_24 (by decide) ?_
    refine u_lstore (lv' := [(5, .long (0 : Int64)), (4, .int (-1 : Int32)), (0, .ref (X.1 v0)), (1, .ref (X.1 v1)), (2, .ref (X.1 v2)), (3, .int s10.1)]) hC dX0_keepTime_25 (by decide) rfl ?_
    refine u_iconst (v := (0 : Int32)) hC dX0_keepTime_27 (by decide) ?_
    refine u_istore (lv' := [(7, .int (0 : Int32)), (5, .long (0 : Int64)), (4, .int (-1 : Int32)), (0, .ref (X.1 v0)), (1, .ref (X.1 v1)), (2, .ref (X.1 v2)), (3, .int s10.1)]) hC dX0_keepTime_28 (by decide) rfl ?_
    obtain ⟨r30, hr30, hf⟩ := kc_some hf
    have hk30 : UW C X s10.2 150 [(0, .ref (X.1 v0)), (1, .ref (X.1 v1)), (2, .ref (X.1 v2)), (3, .int s10.1), (4, .int r30.1), (5, .long r30.2)] [] := by
      refine u_iload hC dX0_keepTime_150 4 rfl ?_
      refine u_iconst (v := (-1 : Int32)) hC dX0_keepTime_152 (by decide) ?_
      refine u_icmp_eq (tgt := 181) hC dX0_keepTime_153 (by decide) hf (fun h153 hf => ?_) (fun h153 hf => ?_)
      · refine u_sub (lv' := []) [] rfl ?_
        exact wjX0_keepTime_181_10 hC n s10.2  v0 v1 v2  hf hN hO0 hR
      · refine u_aload_n hC dX0_keepTime_156 2 rfl rfl ?_
        refine u_gi hC lf_X0_87 rfl hTv2 dX0_keepTime_157 hf (fun x157 hf => ?_)
        refine u_aload_n hC dX0_keepTime_160 1 rfl rfl ?_
        refine u_gr hC lf_X0_56 rfl hTv1 dX0_keepTime_161 hf (fun b161 hTb161 hf => ?_)
        refine u_gr hC lf_X0_72 rfl hTb161 dX0_keepTime_164 hf (fun b164 hTb164 hf => ?_)
        refine u_iload hC dX0_keepTime_167 4 rfl ?_
        refine u_ai hC hTb164 dX0_keepTime_169 hf (fun x169 hf => ?_)
        refine u_iadd hC dX0_keepTime_170 ?_
        refine u_aload_n hC dX0_keepTime_171 1 rfl rfl ?_
        refine u_gr hC lf_X0_56 rfl hTv1 dX0_keepTime_172 hf (fun b172 hTb172 hf => ?_)
        refine u_gi hC lf_X0_90 rfl hTb172 dX0_keepTime_175 hf (fun x175 hf => ?_)
        refine u_icmp_le (tgt := 182) hC dX0_keepTime_178 (by decide) hf (fun h178 hf => ?_) (fun h178 hf => ?_)
        · refine u_aload_n hC dX0_keepTime_182 2 rfl rfl ?_
          refine u_iload hC dX0_keepTime_183 4 rfl ?_
          refine u_aload_n hC dX0_keepTime_185 1 rfl rfl ?_
          refine u_gr hC lf_X0_56 rfl hTv1 dX0_keepTime_186 hf (fun b186 hTb186 hf => ?_)
          refine u_gr hC lf_X0_72 rfl hTb186 dX0_keepTime_189 hf (fun b189 hTb189 hf => ?_)
          refine u_iload hC dX0_keepTime_192 4 rfl ?_
          refine u_ai hC hTb189 dX0_keepTime_194 hf (fun x194 hf => ?_)
          obtain ⟨q195, hq195, hf⟩ := kc_some hf
          refine u_callV hC (ctX5_add (cL C) hC.tr (cG C) X.1 X.2.1 n s10.2 v2 r30.1 x194 hTv2 hq195) lk_X0_76 rfl hTv2 (by decide) rfl (by decide) (by decide) rfl rfl (Nat.le_of_ble_eq_true rfl) dX0_keepTime_195 ?_
          refine u_aload_n hC dX0_keepTime_198 0 rfl rfl ?_
          refine u_aload_n hC dX0_keepTime_199 1 rfl rfl ?_
          refine u_iload hC dX0_keepTime_200 4 rfl ?_
          refine u_lload hC dX0_keepTime_202 5 rfl ?_
          obtain ⟨q204, hq204, hf⟩ := kc_some hf
          refine u_callV hC (ctX0_emptyPurses (cL C) hC.tr (cG C) X.1 X.2.1 n q195 v0 v1 r30.1 r30.2 hTv0 hTv1 hq204) lk_X0_117 rfl hTv0 (by decide) rfl (by decide) (by decide) rfl rfl (Nat.le_of_ble_eq_true rfl) dX0_keepTime_204 ?_
          refine u_iinc (v := s10.1 + (1 : Int32)) (lv' := [(3, .int (s10.1 + (1 : Int32))), (0, .ref (X.1 v0)), (1, .ref (X.1 v1)), (2, .ref (X.1 v2)), (4, .int r30.1), (5, .long r30.2)]) hC dX0_keepTime_207 3 rfl rfl (by decide) rfl ?_
          refine u_goto (tgt := 10) hC dX0_keepTime_210 (by decide) ?_
          refine u_sub (lv' := [(0, .ref (X.1 v0)), (1, .ref (X.1 v1)), (2, .ref (X.1 v2)), (3, .int (s10.1 + (1 : Int32)))]) [1, 2, 3, 0] rfl ?_
          exact hN _ (Option.some.inj hf).symm
        · refine u_sub (lv' := []) [] rfl ?_
          exact wjX0_keepTime_181_10 hC n s10.2  v0 v1 v2  hf hN hO0 hR
    refine u_sub (lv' := [(0, .ref (X.1 v0)), (1, .ref (X.1 v1)), (2, .ref (X.1 v2)), (3, .int s10.1), (4, .int (-1 : Int32)), (5, .long (0 : Int64)), (7, .int (0 : Int32))]) [3, 4, 5, 6, 2, 1, 0] rfl ?_
    refine iter_ind (P := fun s30 => UW C X s10.2 30 [(0, .ref (X.1 v0)), (1, .ref (X.1 v1)), (2, .ref (X.1 v2)), (3, .int s10.1), (4, .int s30.1), (5, .long s30.2.1), (7, .int s30.2.2)] []) (fun s30 o' hb hin hout => ?_) n ((-1 : Int32), (0 : Int64), (0 : Int32)) hr30
    exact wbX0_keepTime_30 hC n s10.2 v0 v1 v2 s10.1 hTv0 hTv1 hTv2 s30 hb hin (fun p e => by rw [hout p e]; exact hk30)
theorem wX0_keepTime {C : CT} {X : XT} (hC : CK C RX0 cX0_keepTime 11 none 2) (n : Nat) (S : PS) (a0 : Nat) (a1 : Nat) (a2 : Nat) (hTa0 : Ty X.2.1 a0 0) (hTa1 : Ty X.2.1 a1 6) (hTa2 : Ty X.2.1 a2 5) {o : PS} (hf : fX0_keepTime X.2.1 n S a0 a1 a2 = some o) (hR : Rt C X cX0_keepTime none none o) : UW C X S 0 [(0, .ref (X.1 a0)), (1, .ref (X.1 a1)), (2, .ref (X.1 a2))] [] := by
  unfold fX0_keepTime at hf
  refine u_aload_n hC dX0_keepTime_0 0 rfl rfl ?_
  refine u_gr hC lf_X0_25 rfl hTa0 dX0_keepTime_1 hf (fun b1 hTb1 hf => ?_)
  refine u_lconst (v := (0 : Int64)) hC dX0_keepTime_4 (by decide) ?_
  obtain ⟨q5, hq5, hf⟩ := kc_some hf
  refine u_callS hC (ctJ7_fill_d0a16 (cL C) hC.tr (cG C) X.1 X.2.1 n S b1 (0 : Int64) hTb1 hq5) lk_X0_100 (by decide) (by decide) rfl rfl (Nat.le_of_ble_eq_true rfl) dX0_keepTime_5 ?_
  refine u_iconst (v := (0 : Int32)) hC dX0_keepTime_8 (by decide) ?_
  refine u_istore_n (lv' := [(3, .int (0 : Int32)), (0, .ref (X.1 a0)), (1, .ref (X.1 a1)), (2, .ref (X.1 a2))]) hC dX0_keepTime_9 rfl (by decide) rfl ?_
  obtain ⟨r10, hr10, hf⟩ := kc_some hf
  have hk10_0 : ∀ p10_0, r10 = (.inl p10_0) → UW C X p10_0 213 [] [] := by
    intro p10_0 he
    subst he
    have hf := ks_l hf
    cases hf
    exact hR _ _ dX0_keepTime_213 trivial
  have hk10_1 : ∀ p10_1, r10 = (.inr p10_1) → Rt C X cX0_keepTime none none p10_1 := by
    intro p10_1 he
    subst he
    have hf := ks_r hf
    cases hf
    exact hR
  refine u_sub (lv' := [(0, .ref (X.1 a0)), (1, .ref (X.1 a1)), (2, .ref (X.1 a2)), (3, .int (0 : Int32))]) [1, 2, 3, 0] rfl ?_
  refine iter_ind (P := fun s10 => UW C X s10.2 10 [(0, .ref (X.1 a0)), (1, .ref (X.1 a1)), (2, .ref (X.1 a2)), (3, .int s10.1)] []) (fun s10 o' hb hin hout => ?_) n ((0 : Int32), q5) hr10
  exact wbX0_keepTime_10 hC n a0 a1 a2 hTa0 hTa1 hTa2 s10 hb hin (fun p e => hk10_0 p (hout _ e).symm) (fun p e => hk10_1 p (hout _ e).symm)
theorem ctX0_keepTime (l : Launch) (hl : l.stackTraces = false) (G : GT) (ρ : Nat → Nat) (Y : XS) (n : Nat) (S : PS) (a0 : Nat) (a1 : Nat) (a2 : Nat) (hTa0 : Ty Y a0 0) (hTa1 : Ty Y a1 6) (hTa2 : Ty Y a2 5) {o : PS} (hf : fX0_keepTime Y n S a0 a1 a2 = some o) : Mt l G yX0_keepTime cX0_keepTime 11 none 2 ρ Y [.ref (ρ a0), .ref (ρ a1), .ref (ρ a2)] S none o :=
  Mt_of hl (by decide) (Nat.le_of_ble_eq_true rfl) (fun C _ _ hC hR => wX0_keepTime (X := (ρ, Y, 0, 0)) hC n S a0 a1 a2 hTa0 hTa1 hTa2 hf hR)
-- X0_choose
theorem dX0_choose_0 : decode cX0_choose 0 = .ok (.aload_n 3, 1) := by decide +kernel
theorem dX0_choose_1 : decode cX0_choose 1 = .ok (.invokevirtual 29, 3) := by decide +kernel
theorem dX0_choose_4 : decode cX0_choose 4 = .ok (.iload_n 1, 1) := by decide +kernel
theorem dX0_choose_5 : decode cX0_choose 5 = .ok (.tableswitch 165 0 7 #[47, 60, 80, 92, 111, 121, 131, 148], 47) := by decide +kernel
theorem dX0_choose_52 : decode cX0_choose 52 = .ok (.aload_n 0, 1) := by decide +kernel
theorem dX0_choose_53 : decode cX0_choose 53 = .ok (.getfield 12, 3) := by decide +kernel
theorem dX0_choose_56 : decode cX0_choose 56 = .ok (.aload_n 2, 1) := by decide +kernel
theorem dX0_choose_57 : decode cX0_choose 57 = .ok (.aload_n 3, 1) := by decide +kernel
theorem dX0_choose_58 : decode cX0_choose 58 = .ok (.iconst 0, 1) := by decide +kernel
theorem dX0_choose_59 : decode cX0_choose 59 = .ok (.invokevirtual 34, 3) := by decide +kernel
theorem dX0_choose_62 : decode cX0_choose 62 = .ok (.goto 114, 3) := by decide +kernel
theorem dX0_choose_65 : decode cX0_choose 65 = .ok (.aload_n 0, 1) := by decide +kernel
theorem dX0_choose_66 : decode cX0_choose 66 = .ok (.getfield 12, 3) := by decide +kernel
theorem dX0_choose_69 : decode cX0_choose 69 = .ok (.aload_n 2, 1) := by decide +kernel
theorem dX0_choose_70 : decode cX0_choose 70 = .ok (.aload_n 3, 1) := by decide +kernel
theorem dX0_choose_71 : decode cX0_choose 71 = .ok (.iconst 0, 1) := by decide +kernel
theorem dX0_choose_72 : decode cX0_choose 72 = .ok (.invokevirtual 34, 3) := by decide +kernel
theorem dX0_choose_75 : decode cX0_choose 75 = .ok (.aload_n 0, 1) := by decide +kernel
theorem dX0_choose_76 : decode cX0_choose 76 = .ok (.aload_n 2, 1) := by decide +kernel
theorem dX0_choose_77 : decode cX0_choose 77 = .ok (.aload_n 3, 1) := by decide +kernel
theorem dX0_choose_78 : decode cX0_choose 78 = .ok (.iconst 0, 1) := by decide +kernel
theorem dX0_choose_79 : decode cX0_choose 79 = .ok (.invokevirtual 38, 3) := by decide +kernel
theorem dX0_choose_82 : decode cX0_choose 82 = .ok (.goto 94, 3) := by decide +kernel
theorem dX0_choose_85 : decode cX0_choose 85 = .ok (.aload_n 0, 1) := by decide +kernel
theorem dX0_choose_86 : decode cX0_choose 86 = .ok (.getfield 12, 3) := by decide +kernel
theorem dX0_choose_89 : decode cX0_choose 89 = .ok (.aload_n 2, 1) := by decide +kernel
theorem dX0_choose_90 : decode cX0_choose 90 = .ok (.aload_n 3, 1) := by decide +kernel
theorem dX0_choose_91 : decode cX0_choose 91 = .ok (.invokevirtual 42, 3) := by decide +kernel
theorem dX0_choose_94 : decode cX0_choose 94 = .ok (.goto 82, 3) := by decide +kernel
theorem dX0_choose_97 : decode cX0_choose 97 = .ok (.aload_n 0, 1) := by decide +kernel
theorem dX0_choose_98 : decode cX0_choose 98 = .ok (.getfield 12, 3) := by decide +kernel
theorem dX0_choose_101 : decode cX0_choose 101 = .ok (.aload_n 2, 1) := by decide +kernel
theorem dX0_choose_102 : decode cX0_choose 102 = .ok (.aload_n 3, 1) := by decide +kernel
theorem dX0_choose_103 : decode cX0_choose 103 = .ok (.invokevirtual 42, 3) := by decide +kernel
theorem dX0_choose_106 : decode cX0_choose 106 = .ok (.aload_n 0, 1) := by decide +kernel
theorem dX0_choose_107 : decode cX0_choose 107 = .ok (.aload_n 2, 1) := by decide +kernel
theorem dX0_choose_108 : decode cX0_choose 108 = .ok (.aload_n 3, 1) := by decide +kernel
theorem dX0_choose_109 : decode cX0_choose 109 = .ok (.iconst 0, 1) := by decide +kernel
theorem dX0_choose_110 : decode cX0_choose 110 = .ok (.invokevirtual 38, 3) := by decide +kernel
theorem dX0_choose_113 : decode cX0_choose 113 = .ok (.goto 63, 3) := by decide +kernel
theorem dX0_choose_116 : decode cX0_choose 116 = .ok (.aload_n 0, 1) := by decide +kernel
theorem dX0_choose_117 : decode cX0_choose 117 = .ok (.aload_n 2, 1) := by decide +kernel
theorem dX0_choose_118 : decode cX0_choose 118 = .ok (.aload_n 3, 1) := by decide +kernel
theorem dX0_choose_119 : decode cX0_choose 119 = .ok (.iconst 0, 1) := by decide +kernel
theorem dX0_choose_120 : decode cX0_choose 120 = .ok (.invokevirtual 38, 3) := by decide +kernel
theorem dX0_choose_123 : decode cX0_choose 123 = .ok (.goto 53, 3) := by decide +kernel
theorem dX0_choose_126 : decode cX0_choose 126 = .ok (.aload_n 0, 1) := by decide +kernel
theorem dX0_choose_127 : decode cX0_choose 127 = .ok (.aload_n 2, 1) := by decide +kernel
theorem dX0_choose_128 : decode cX0_choose 128 = .ok (.aload_n 3, 1) := by decide +kernel
theorem dX0_choose_129 : decode cX0_choose 129 = .ok (.iconst 1, 1) := by decide +kernel
theorem dX0_choose_130 : decode cX0_choose 130 = .ok (.invokevirtual 38, 3) := by decide +kernel
theorem dX0_choose_133 : decode cX0_choose 133 = .ok (.goto 43, 3) := by decide +kernel
theorem dX0_choose_136 : decode cX0_choose 136 = .ok (.aload_n 2, 1) := by decide +kernel
theorem dX0_choose_137 : decode cX0_choose 137 = .ok (.aload_n 3, 1) := by decide +kernel
theorem dX0_choose_138 : decode cX0_choose 138 = .ok (.aload_n 0, 1) := by decide +kernel
theorem dX0_choose_139 : decode cX0_choose 139 = .ok (.getfield 21, 3) := by decide +kernel
theorem dX0_choose_142 : decode cX0_choose 142 = .ok (.aload_n 2, 1) := by decide +kernel
theorem dX0_choose_143 : decode cX0_choose 143 = .ok (.iconst 0, 1) := by decide +kernel
theorem dX0_choose_144 : decode cX0_choose 144 = .ok (.invokevirtual 46, 3) := by decide +kernel
theorem dX0_choose_147 : decode cX0_choose 147 = .ok (.invokestatic 50, 3) := by decide +kernel
theorem dX0_choose_150 : decode cX0_choose 150 = .ok (.goto 26, 3) := by decide +kernel
theorem dX0_choose_153 : decode cX0_choose 153 = .ok (.aload_n 2, 1) := by decide +kernel
theorem dX0_choose_154 : decode cX0_choose 154 = .ok (.aload_n 3, 1) := by decide +kernel
theorem dX0_choose_155 : decode cX0_choose 155 = .ok (.aload_n 0, 1) := by decide +kernel
theorem dX0_choose_156 : decode cX0_choose 156 = .ok (.getfield 21, 3) := by decide +kernel
theorem dX0_choose_159 : decode cX0_choose 159 = .ok (.aload_n 2, 1) := by decide +kernel
theorem dX0_choose_160 : decode cX0_choose 160 = .ok (.iconst 1, 1) := by decide +kernel
theorem dX0_choose_161 : decode cX0_choose 161 = .ok (.invokevirtual 46, 3) := by decide +kernel
theorem dX0_choose_164 : decode cX0_choose 164 = .ok (.invokestatic 50, 3) := by decide +kernel
theorem dX0_choose_167 : decode cX0_choose 167 = .ok (.goto 9, 3) := by decide +kernel
theorem dX0_choose_170 : decode cX0_choose 170 = .ok (.aload_n 0, 1) := by decide +kernel
theorem dX0_choose_171 : decode cX0_choose 171 = .ok (.aload_n 2, 1) := by decide +kernel
theorem dX0_choose_172 : decode cX0_choose 172 = .ok (.aload_n 3, 1) := by decide +kernel
theorem dX0_choose_173 : decode cX0_choose 173 = .ok (.invokevirtual 53, 3) := by decide +kernel
theorem dX0_choose_176 : decode cX0_choose 176 = .ok (.return_, 1) := by decide +kernel
def jX0_choose_176 (Y : XS) (n : Nat) (S : PS)  : Option (PS) :=
  some S
def fX0_choose (Y : XS) (n : Nat) (S : PS) (a0 : Nat) (x1_ : Int32) (a2 : Nat) (a3 : Nat) : Option (PS) :=
  kc (fX5_clear Y n S a3) (fun q1 => (if x1_ = (0 : Int32) then kgr q1 a0 0 (fun b53 => kc (fX9_share Y n q1 b53 a2 a3 (0 : Int32)) (fun q59 => jX0_choose_176 Y n q59 )) else (if x1_ = (1 : Int32) then kgr q1 a0 0 (fun b66 => kc (fX9_share Y n q1 b66 a2 a3 (0 : Int32)) (fun q72 => kc (fX0_fillUp Y n q72 a0 a2 a3 (0 : Int32)) (fun q79 => jX0_choose_176 Y n q79 ))) else (if x1_ = (2 : Int32) then kgr q1 a0 0 (fun b86 => kc (fX9_raise Y n q1 b86 a2 a3) (fun q91 => jX0_choose_176 Y n q91 )) else (if x1_ = (3 : Int32) then kgr q1 a0 0 (fun b98 => kc (fX9_raise Y n q1 b98 a2 a3) (fun q103 => kc (fX0_fillUp Y n q103 a0 a2 a3 (0 : Int32)) (fun q110 => jX0_choose_176 Y n q110 ))) else (if x1_ = (4 : Int32) then kc (fX0_fillUp Y n q1 a0 a2 a3 (0 : Int32)) (fun q120 => jX0_choose_176 Y n q120 ) else (if x1_ = (5 : Int32) then kc (fX0_fillUp Y n q1 a0 a2 a3 (1 : Int32)) (fun q130 => jX0_choose_176 Y n q130 ) else (if x1_ = (6 : Int32) then kgr q1 a0 1 (fun b139 => kc (fX8_bestSet Y n q1 b139 a2 (0 : Int32)) (fun q144 => kc (fX0_addAll Y n q144.2 a2 a3 q144.1) (fun q147 => jX0_choose_176 Y n q147 ))) else (if x1_ = (7 : Int32) then kgr q1 a0 1 (fun b156 => kc (fX8_bestSet Y n q1 b156 a2 (1 : Int32)) (fun q161 => kc (fX0_addAll Y n q161.2 a2 a3 q161.1) (fun q164 => jX0_choose_176 Y n q164 ))) else kc (fX0_keepTime Y n q1 a0 a2 a3) (fun q173 => jX0_choose_176 Y n q173 ))))))))))
theorem wjX0_choose_176 {C : CT} {X : XT} (hC : CK C RX0 cX0_choose 4 none 5) (n : Nat) (S : PS)    {o : PS} (hf : jX0_choose_176 X.2.1 n S  = some o) (hR : Rt C X cX0_choose none none o) : UW C X S 176 [] [] := by
  unfold jX0_choose_176 at hf
  cases hf
  exact hR _ _ dX0_choose_176 trivial
theorem wX0_choose {C : CT} {X : XT} (hC : CK C RX0 cX0_choose 4 none 5) (n : Nat) (S : PS) (a0 : Nat) (x1_ : Int32) (a2 : Nat) (a3 : Nat) (hTa0 : Ty X.2.1 a0 0) (hTa2 : Ty X.2.1 a2 6) (hTa3 : Ty X.2.1 a3 5) {o : PS} (hf : fX0_choose X.2.1 n S a0 x1_ a2 a3 = some o) (hR : Rt C X cX0_choose none none o) : UW C X S 0 [(0, .ref (X.1 a0)), (1, .int x1_), (2, .ref (X.1 a2)), (3, .ref (X.1 a3))] [] := by
  unfold fX0_choose at hf
  refine u_aload_n hC dX0_choose_0 3 rfl rfl ?_
  obtain ⟨q1, hq1, hf⟩ := kc_some hf
  refine u_callV hC (ctX5_clear (cL C) hC.tr (cG C) X.1 X.2.1 n S a3 hTa3 hq1) lk_X0_29 rfl hTa3 (by decide) rfl (by decide) (by decide) rfl rfl (Nat.le_of_ble_eq_true rfl) dX0_choose_1 ?_
  refine u_iload_n hC dX0_choose_4 1 rfl rfl ?_
  by_cases hs5_0 : x1_ = (0 : Int32)
  · rw [if_pos hs5_0] at hf
    refine u_tin (tgt := 52) hC dX0_choose_5 (by rw [hs5_0]; decide) (by rw [hs5_0]; decide) (by rw [hs5_0]; rfl) (by decide) ?_
    refine u_aload_n hC dX0_choose_52 0 rfl rfl ?_
    refine u_gr hC lf_X0_12 rfl hTa0 dX0_choose_53 hf (fun b53 hTb53 hf => ?_)
    refine u_aload_n hC dX0_choose_56 2 rfl rfl ?_
    refine u_aload_n hC dX0_choose_57 3 rfl rfl ?_
    refine u_iconst (v := (0 : Int32)) hC dX0_choose_58 (by decide) ?_
    obtain ⟨q59, hq59, hf⟩ := kc_some hf
    refine u_callV hC (ctX9_share (cL C) hC.tr (cG C) X.1 X.2.1 n q1 b53 a2 a3 (0 : Int32) hTb53 hTa2 hTa3 hq59) lk_X0_34 rfl hTb53 (by decide) rfl (by decide) (by decide) rfl rfl (Nat.le_of_ble_eq_true rfl) dX0_choose_59 ?_
    refine u_goto (tgt := 176) hC dX0_choose_62 (by decide) ?_
    refine u_sub (lv' := []) [] rfl ?_
    exact wjX0_choose_176 hC n q59    hf hR
  rw [if_neg hs5_0] at hf
  by_cases hs5_1 : x1_ = (1 : Int32)
  · rw [if_pos hs5_1] at hf
    refine u_tin (tgt := 65) hC dX0_choose_5 (by rw [hs5_1]; decide) (by rw [hs5_1]; decide) (by rw [hs5_1]; rfl) (by decide) ?_
    refine u_aload_n hC dX0_choose_65 0 rfl rfl ?_
    refine u_gr hC lf_X0_12 rfl hTa0 dX0_choose_66 hf (fun b66 hTb66 hf => ?_)
    refine u_aload_n hC dX0_choose_69 2 rfl rfl ?_
    refine u_aload_n hC dX0_choose_70 3 rfl rfl ?_
    refine u_iconst (v := (0 : Int32)) hC dX0_choose_71 (by decide) ?_
    obtain ⟨q72, hq72, hf⟩ := kc_some hf
    refine u_callV hC (ctX9_share (cL C) hC.tr (cG C) X.1 X.2.1 n q1 b66 a2 a3 (0 : Int32) hTb66 hTa2 hTa3 hq72) lk_X0_34 rfl hTb66 (by decide) rfl (by decide) (by decide) rfl rfl (Nat.le_of_ble_eq_true rfl) dX0_choose_72 ?_
    refine u_aload_n hC dX0_choose_75 0 rfl rfl ?_
    refine u_aload_n hC dX0_choose_76 2 rfl rfl ?_
    refine u_aload_n hC dX0_choose_77 3 rfl rfl ?_
    refine u_iconst (v := (0 : Int32)) hC dX0_choose_78 (by decide) ?_
    obtain ⟨q79, hq79, hf⟩ := kc_some hf
    refine u_callV hC (ctX0_fillUp (cL C) hC.tr (cG C) X.1 X.2.1 n q72 a0 a2 a3 (0 : Int32) hTa0 hTa2 hTa3 hq79) lk_X0_38 rfl hTa0 (by decide) rfl (by decide) (by decide) rfl rfl (Nat.le_of_ble_eq_true rfl) dX0_choose_79 ?_
    refine u_goto (tgt := 176) hC dX0_choose_82 (by decide) ?_
    refine u_sub (lv' := []) [] rfl ?_
    exact wjX0_choose_176 hC n q79    hf hR
  rw [if_neg hs5_1] at hf
  by_cases hs5_2 : x1_ = (2 : Int32)
  · rw [if_pos hs5_2] at hf
    refine u_tin (tgt := 85) hC dX0_choose_5 (by rw [hs5_2]; decide) (by rw [hs5_2]; decide) (by rw [hs5_2]; rfl) (by decide) ?_
    refine u_aload_n hC dX0_choose_85 0 rfl rfl ?_
    refine u_gr hC lf_X0_12 rfl hTa0 dX0_choose_86 hf (fun b86 hTb86 hf => ?_)
    refine u_aload_n hC dX0_choose_89 2 rfl rfl ?_
    refine u_aload_n hC dX0_choose_90 3 rfl rfl ?_
    obtain ⟨q91, hq91, hf⟩ := kc_some hf
    refine u_callV hC (ctX9_raise (cL C) hC.tr (cG C) X.1 X.2.1 n q1 b86 a2 a3 hTb86 hTa2 hTa3 hq91) lk_X0_42 rfl hTb86 (by decide) rfl (by decide) (by decide) rfl rfl (Nat.le_of_ble_eq_true rfl) dX0_choose_91 ?_
    refine u_goto (tgt := 176) hC dX0_choose_94 (by decide) ?_
    refine u_sub (lv' := []) [] rfl ?_
    exact wjX0_choose_176 hC n q91    hf hR
  rw [if_neg hs5_2] at hf
  by_cases hs5_3 : x1_ = (3 : Int32)
  · rw [if_pos hs5_3] at hf
    refine u_tin (tgt := 97) hC dX0_choose_5 (by rw [hs5_3]; decide) (by rw [hs5_3]; decide) (by rw [hs5_3]; rfl) (by decide) ?_
    refine u_aload_n hC dX0_choose_97 0 rfl rfl ?_
    refine u_gr hC lf_X0_12 rfl hTa0 dX0_choose_98 hf (fun b98 hTb98 hf => ?_)
    refine u_aload_n hC dX0_choose_101 2 rfl rfl ?_
    refine u_aload_n hC dX0_choose_102 3 rfl rfl ?_
    obtain ⟨q103, hq103, hf⟩ := kc_some hf
    refine u_callV hC (ctX9_raise (cL C) hC.tr (cG C) X.1 X.2.1 n q1 b98 a2 a3 hTb98 hTa2 hTa3 hq103) lk_X0_42 rfl hTb98 (by decide) rfl (by decide) (by decide) rfl rfl (Nat.le_of_ble_eq_true rfl) dX0_choose_103 ?_
    refine u_aload_n hC dX0_choose_106 0 rfl rfl ?_
    refine u_aload_n hC dX0_choose_107 2 rfl rfl ?_
    refine u_aload_n hC dX0_choose_108 3 rfl rfl ?_
    refine u_iconst (v := (0 : Int32)) hC dX0_choose_109 (by decide) ?_
    obtain ⟨q110, hq110, hf⟩ := kc_some hf
    refine u_callV hC (ctX0_fillUp (cL C) hC.tr (cG C) X.1 X.2.1 n q103 a0 a2 a3 (0 : Int32) hTa0 hTa2 hTa3 hq110) lk_X0_38 rfl hTa0 (by decide) rfl (by decide) (by decide) rfl rfl (Nat.le_of_ble_eq_true rfl) dX0_choose_110 ?_
    refine u_goto (tgt := 176) hC dX0_choose_113 (by decide) ?_
    refine u_sub (lv' := []) [] rfl ?_
    exact wjX0_choose_176 hC n q110    hf hR
  rw [if_neg hs5_3] at hf
  by_cases hs5_4 : x1_ = (4 : Int32)
  · rw [if_pos hs5_4] at hf
    refine u_tin (tgt := 116) hC dX0_choose_5 (by rw [hs5_4]; decide) (by rw [hs5_4]; decide) (by rw [hs5_4]; rfl) (by decide) ?_
    refine u_aload_n hC dX0_choose_116 0 rfl rfl ?_
    refine u_aload_n hC dX0_choose_117 2 rfl rfl ?_
    refine u_aload_n hC dX0_choose_118 3 rfl rfl ?_
    refine u_iconst (v := (0 : Int32)) hC dX0_choose_119 (by decide) ?_
    obtain ⟨q120, hq120, hf⟩ := kc_some hf
    refine u_callV hC (ctX0_fillUp (cL C) hC.tr (cG C) X.1 X.2.1 n q1 a0 a2 a3 (0 : Int32) hTa0 hTa2 hTa3 hq120) lk_X0_38 rfl hTa0 (by decide) rfl (by decide) (by decide) rfl rfl (Nat.le_of_ble_eq_true rfl) dX0_choose_120 ?_
    refine u_goto (tgt := 176) hC dX0_choose_123 (by decide) ?_
    refine u_sub (lv' := []) [] rfl ?_
    exact wjX0_choose_176 hC n q120    hf hR
  rw [if_neg hs5_4] at hf
  by_cases hs5_5 : x1_ = (5 : Int32)
  · rw [if_pos hs5_5] at hf
    refine u_tin (tgt := 126) hC dX0_choose_5 (by rw [hs5_5]; decide) (by rw [hs5_5]; decide) (by rw [hs5_5]; rfl) (by decide) ?_
    refine u_aload_n hC dX0_choose_126 0 rfl rfl ?_
    refine u_aload_n hC dX0_choose_127 2 rfl rfl ?_
    refine u_aload_n hC dX0_choose_128 3 rfl rfl ?_
    refine u_iconst (v := (1 : Int32)) hC dX0_choose_129 (by decide) ?_
    obtain ⟨q130, hq130, hf⟩ := kc_some hf
    refine u_callV hC (ctX0_fillUp (cL C) hC.tr (cG C) X.1 X.2.1 n q1 a0 a2 a3 (1 : Int32) hTa0 hTa2 hTa3 hq130) lk_X0_38 rfl hTa0 (by decide) rfl (by decide) (by decide) rfl rfl (Nat.le_of_ble_eq_true rfl) dX0_choose_130 ?_
    refine u_goto (tgt := 176) hC dX0_choose_133 (by decide) ?_
    refine u_sub (lv' := []) [] rfl ?_
    exact wjX0_choose_176 hC n q130    hf hR
  rw [if_neg hs5_5] at hf
  by_cases hs5_6 : x1_ = (6 : Int32)
  · rw [if_pos hs5_6] at hf
    refine u_tin (tgt := 136) hC dX0_choose_5 (by rw [hs5_6]; decide) (by rw [hs5_6]; decide) (by rw [hs5_6]; rfl) (by decide) ?_
    refine u_aload_n hC dX0_choose_136 2 rfl rfl ?_
    refine u_aload_n hC dX0_choose_137 3 rfl rfl ?_
    refine u_aload_n hC dX0_choose_138 0 rfl rfl ?_
    refine u_gr hC lf_X0_21 rfl hTa0 dX0_choose_139 hf (fun b139 hTb139 hf => ?_)
    refine u_aload_n hC dX0_choose_142 2 rfl rfl ?_
    refine u_iconst (v := (0 : Int32)) hC dX0_choose_143 (by decide) ?_
    obtain ⟨q144, hq144, hf⟩ := kc_some hf
    refine u_callV hC (ctX8_bestSet (cL C) hC.tr (cG C) X.1 X.2.1 n q1 b139 a2 (0 : Int32) hTb139 hTa2 hq144) lk_X0_46 rfl hTb139 (by decide) rfl (by decide) (by decide) rfl rfl (Nat.le_of_ble_eq_true rfl) dX0_choose_144 ?_
    obtain ⟨q147, hq147, hf⟩ := kc_some hf
    refine u_callS hC (ctX0_addAll (cL C) hC.tr (cG C) X.1 X.2.1 n q144.2 a2 a3 q144.1 hTa2 hTa3 hq147) lk_X0_50 (by decide) (by decide) rfl rfl (Nat.le_of_ble_eq_true rfl) dX0_choose_147 ?_
    refine u_goto (tgt := 176) hC dX0_choose_150 (by decide) ?_
    refine u_sub (lv' := []) [] rfl ?_
    exact wjX0_choose_176 hC n q147    hf hR
  rw [if_neg hs5_6] at hf
  by_cases hs5_7 : x1_ = (7 : Int32)
  · rw [if_pos hs5_7] at hf
    refine u_tin (tgt := 153) hC dX0_choose_5 (by rw [hs5_7]; decide) (by rw [hs5_7]; decide) (by rw [hs5_7]; rfl) (by decide) ?_
    refine u_aload_n hC dX0_choose_153 2 rfl rfl ?_
    refine u_aload_n hC dX0_choose_154 3 rfl rfl ?_
    refine u_aload_n hC dX0_choose_155 0 rfl rfl ?_
    refine u_gr hC lf_X0_21 rfl hTa0 dX0_choose_156 hf (fun b156 hTb156 hf => ?_)
    refine u_aload_n hC dX0_choose_159 2 rfl rfl ?_
    refine u_iconst (v := (1 : Int32)) hC dX0_choose_160 (by decide) ?_
    obtain ⟨q161, hq161, hf⟩ := kc_some hf
    refine u_callV hC (ctX8_bestSet (cL C) hC.tr (cG C) X.1 X.2.1 n q1 b156 a2 (1 : Int32) hTb156 hTa2 hq161) lk_X0_46 rfl hTb156 (by decide) rfl (by decide) (by decide) rfl rfl (Nat.le_of_ble_eq_true rfl) dX0_choose_161 ?_
    obtain ⟨q164, hq164, hf⟩ := kc_some hf
    refine u_callS hC (ctX0_addAll (cL C) hC.tr (cG C) X.1 X.2.1 n q161.2 a2 a3 q161.1 hTa2 hTa3 hq164) lk_X0_50 (by decide) (by decide) rfl rfl (Nat.le_of_ble_eq_true rfl) dX0_choose_164 ?_
    refine u_goto (tgt := 176) hC dX0_choose_167 (by decide) ?_
    refine u_sub (lv' := []) [] rfl ?_
    exact wjX0_choose_176 hC n q164    hf hR
  rw [if_neg hs5_7] at hf
  have hz5_0 := lv_neT (a := 0) hs5_0 (by decide)
  have hz5_1 := lv_neT (a := 1) hs5_1 (by decide)
  have hz5_2 := lv_neT (a := 2) hs5_2 (by decide)
  have hz5_3 := lv_neT (a := 3) hs5_3 (by decide)
  have hz5_4 := lv_neT (a := 4) hs5_4 (by decide)
  have hz5_5 := lv_neT (a := 5) hs5_5 (by decide)
  have hz5_6 := lv_neT (a := 6) hs5_6 (by decide)
  have hz5_7 := lv_neT (a := 7) hs5_7 (by decide)
  refine u_tout (tgt := 170) hC dX0_choose_5 (by omega) (by decide) ?_
  refine u_aload_n hC dX0_choose_170 0 rfl rfl ?_
  refine u_aload_n hC dX0_choose_171 2 rfl rfl ?_
  refine u_aload_n hC dX0_choose_172 3 rfl rfl ?_
  obtain ⟨q173, hq173, hf⟩ := kc_some hf
  refine u_callV hC (ctX0_keepTime (cL C) hC.tr (cG C) X.1 X.2.1 n q1 a0 a2 a3 hTa0 hTa2 hTa3 hq173) lk_X0_53 rfl hTa0 (by decide) rfl (by decide) (by decide) rfl rfl (Nat.le_of_ble_eq_true rfl) dX0_choose_173 ?_
  refine u_sub (lv' := []) [] rfl ?_
  exact wjX0_choose_176 hC n q173    hf hR
theorem ctX0_choose (l : Launch) (hl : l.stackTraces = false) (G : GT) (ρ : Nat → Nat) (Y : XS) (n : Nat) (S : PS) (a0 : Nat) (x1_ : Int32) (a2 : Nat) (a3 : Nat) (hTa0 : Ty Y a0 0) (hTa2 : Ty Y a2 6) (hTa3 : Ty Y a3 5) {o : PS} (hf : fX0_choose Y n S a0 x1_ a2 a3 = some o) : Mt l G yX0_choose cX0_choose 4 none 5 ρ Y [.ref (ρ a0), .int x1_, .ref (ρ a2), .ref (ρ a3)] S none o :=
  Mt_of hl (by decide) (Nat.le_of_ble_eq_true rfl) (fun C _ _ hC hR => wX0_choose (X := (ρ, Y, 0, 0)) hC n S a0 x1_ a2 a3 hTa0 hTa2 hTa3 hf hR)
