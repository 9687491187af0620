-- X10_feed
theorem dX10_feed_0 : decode cX10_feed 0 = .ok (.aload_n 0, 1) := by decide +kernel
theorem dX10_feed_1 : decode cX10_feed 1 = .ok (.getfield 10, 3) := by decide +kernel
theorem dX10_feed_4 : decode cX10_feed 4 = .ok (.getfield 76, 3) := by decide +kernel
theorem dX10_feed_7 : decode cX10_feed 7 = .ok (.bipush 20, 2) := by decide +kernel
theorem dX10_feed_9 : decode cX10_feed 9 = .ok (.iadd, 1) := by decide +kernel
theorem dX10_feed_10 : decode cX10_feed 10 = .ok (.sipush 500, 3) := by decide +kernel
theorem dX10_feed_13 : decode cX10_feed 13 = .ok (.if_icmp .le 5, 3) := by decide +kernel
theorem dX10_feed_16 : decode cX10_feed 16 = .ok (.iconst (-1), 1) := by decide +kernel
theorem dX10_feed_17 : decode cX10_feed 17 = .ok (.ireturn, 1) := by decide +kernel
theorem dX10_feed_18 : decode cX10_feed 18 = .ok (.aload_n 0, 1) := by decide +kernel
theorem dX10_feed_19 : decode cX10_feed 19 = .ok (.getfield 10, 3) := by decide +kernel
theorem dX10_feed_22 : decode cX10_feed 22 = .ok (.iload_n 1, 1) := by decide +kernel
theorem dX10_feed_23 : decode cX10_feed 23 = .ok (.invokevirtual 79, 3) := by decide +kernel
theorem dX10_feed_26 : decode cX10_feed 26 = .ok (.aload_n 0, 1) := by decide +kernel
theorem dX10_feed_27 : decode cX10_feed 27 = .ok (.getfield 10, 3) := by decide +kernel
theorem dX10_feed_30 : decode cX10_feed 30 = .ok (.iload_n 2, 1) := by decide +kernel
theorem dX10_feed_31 : decode cX10_feed 31 = .ok (.invokevirtual 79, 3) := by decide +kernel
theorem dX10_feed_34 : decode cX10_feed 34 = .ok (.aload_n 0, 1) := by decide +kernel
theorem dX10_feed_35 : decode cX10_feed 35 = .ok (.getfield 10, 3) := by decide +kernel
theorem dX10_feed_38 : decode cX10_feed 38 = .ok (.iload_n 3, 1) := by decide +kernel
theorem dX10_feed_39 : decode cX10_feed 39 = .ok (.invokevirtual 79, 3) := by decide +kernel
theorem dX10_feed_42 : decode cX10_feed 42 = .ok (.aload_n 0, 1) := by decide +kernel
theorem dX10_feed_43 : decode cX10_feed 43 = .ok (.getfield 10, 3) := by decide +kernel
theorem dX10_feed_46 : decode cX10_feed 46 = .ok (.iload 4, 2) := by decide +kernel
theorem dX10_feed_48 : decode cX10_feed 48 = .ok (.invokevirtual 79, 3) := by decide +kernel
theorem dX10_feed_51 : decode cX10_feed 51 = .ok (.aload_n 0, 1) := by decide +kernel
theorem dX10_feed_52 : decode cX10_feed 52 = .ok (.getfield 10, 3) := by decide +kernel
theorem dX10_feed_55 : decode cX10_feed 55 = .ok (.iload 5, 2) := by decide +kernel
theorem dX10_feed_57 : decode cX10_feed 57 = .ok (.invokevirtual 79, 3) := by decide +kernel
theorem dX10_feed_60 : decode cX10_feed 60 = .ok (.aload_n 0, 1) := by decide +kernel
theorem dX10_feed_61 : decode cX10_feed 61 = .ok (.getfield 10, 3) := by decide +kernel
theorem dX10_feed_64 : decode cX10_feed 64 = .ok (.getfield 76, 3) := by decide +kernel
theorem dX10_feed_67 : decode cX10_feed 67 = .ok (.ireturn, 1) := by decide +kernel
def fX10_feed (Y : XS) (n : Nat) (S : PS) (a0 : Nat) (x1_ : Int32) (x2_ : Int32) (x3_ : Int32) (x4_ : Int32) (x5_ : Int32) : Option (Int32 × PS) :=
  kgr S a0 0 (fun b1 => kgi S b1 3 (fun x4 => (if (x4 + (20 : Int32)) ≤ (500 : Int32) then kgr S a0 0 (fun b19 => kc (fX7_addBytes Y n S b19 x1_) (fun q23 => kgr q23 a0 0 (fun b27 => kc (fX7_addBytes Y n q23 b27 x2_) (fun q31 => kgr q31 a0 0 (fun b35 => kc (fX7_addBytes Y n q31 b35 x3_) (fun q39 => kgr q39 a0 0 (fun b43 => kc (fX7_addBytes Y n q39 b43 x4_) (fun q48 => kgr q48 a0 0 (fun b52 => kc (fX7_addBytes Y n q48 b52 x5_) (fun q57 => kgr q57 a0 0 (fun b61 => kgi q57 b61 3 (fun x64 => some (x64, q57))))))))))))) else some ((-1 : Int32), S))))
theorem wX10_feed {C : CT} {X : XT} (hC : CK C RX10 cX10_feed 6 (some .int) 2) (n : Nat) (S : PS) (a0 : Nat) (x1_ : Int32) (x2_ : Int32) (x3_ : Int32) (x4_ : Int32) (x5_ : Int32) (hTa0 : Ty X.2.1 a0 10) {o : Int32 × PS} (hf : fX10_feed X.2.1 n S a0 x1_ x2_ x3_ x4_ x5_ = some o) (hR : Rt C X cX10_feed (some .int) (some (.int o.1)) o.2) : UW C X S 0 [(0, .ref (X.1 a0)), (1, .int x1_), (2, .int x2_), (3, .int x3_), (4, .int x4_), (5, .int x5_)] [] := by
  unfold fX10_feed at hf
  refine u_aload_n hC dX10_feed_0 0 rfl rfl ?_
  refine u_gr hC lf_X10_10 rfl hTa0 dX10_feed_1 hf (fun b1 hTb1 hf => ?_)
  refine u_gi hC lf_X10_76 rfl hTb1 dX10_feed_4 hf (fun x4 hf => ?_)
  refine u_bipush (v := (20 : Int32)) hC dX10_feed_7 (by decide) ?_
  refine u_iadd hC dX10_feed_9 ?_
  refine u_sipush (v := (500 : Int32)) hC dX10_feed_10 (by decide) ?_
  refine u_icmp_le (tgt := 18) hC dX10_feed_13 (by decide) hf (fun h13 hf => ?_) (fun h13 hf => ?_)
  · refine u_aload_n hC dX10_feed_18 0 rfl rfl ?_
    refine u_gr hC lf_X10_10 rfl hTa0 dX10_feed_19 hf (fun b19 hTb19 hf => ?_)
    refine u_iload_n hC dX10_feed_22 1 rfl rfl ?_
    obtain ⟨q23, hq23, hf⟩ := kc_some hf
    refine u_callV hC (ctX7_addBytes (cL C) hC.tr (cG C) X.1 X.2.1 n S b19 x1_ hTb19 hq23) lk_X10_79 rfl hTb19 (by decide) rfl (by decide) (by decide) rfl rfl (Nat.le_of_ble_eq_true rfl) dX10_feed_23 ?_
    refine u_aload_n hC dX10_feed_26 0 rfl rfl ?_
    refine u_gr hC lf_X10_10 rfl hTa0 dX10_feed_27 hf (fun b27 hTb27 hf => ?_)
    refine u_iload_n hC dX10_feed_30 2 rfl rfl ?_
    obtain ⟨q31, hq31, hf⟩ := kc_some hf
    refine u_callV hC (ctX7_addBytes (cL C) hC.tr (cG C) X.1 X.2.1 n q23 b27 x2_ hTb27 hq31) lk_X10_79 rfl hTb27 (by decide) rfl (by decide) (by decide) rfl rfl (Nat.le_of_ble_eq_true rfl) dX10_feed_31 ?_
    refine u_aload_n hC dX10_feed_34 0 rfl rfl ?_
    refine u_gr hC lf_X10_10 rfl hTa0 dX10_feed_35 hf (fun b35 hTb35 hf => ?_)
    refine u_iload_n hC dX10_feed_38 3 rfl rfl ?_
    obtain ⟨q39, hq39, hf⟩ := kc_some hf
    refine u_callV hC (ctX7_addBytes (cL C) hC.tr (cG C) X.1 X.2.1 n q31 b35 x3_ hTb35 hq39) lk_X10_79 rfl hTb35 (by decide) rfl (by decide) (by decide) rfl rfl (Nat.le_of_ble_eq_true rfl) dX10_feed_39 ?_
    refine u_aload_n hC dX10_feed_42 0 rfl rfl ?_
    refine u_gr hC lf_X10_10 rfl hTa0 dX10_feed_43 hf (fun b43 hTb43 hf => ?_)
    refine u_iload hC dX10_feed_46 4 rfl ?_
    obtain ⟨q48, hq48, hf⟩ := kc_some hf
    refine u_callV hC (ctX7_addBytes (cL C) hC.tr (cG C) X.1 X.2.1 n q39 b43 x4_ hTb43 hq48) lk_X10_79 rfl hTb43 (by decide) rfl (by decide) (by decide) rfl rfl (Nat.le_of_ble_eq_true rfl) dX10_feed_48 ?_
    refine u_aload_n hC dX10_feed_51 0 rfl rfl ?_
    refine u_gr hC lf_X10_10 rfl hTa0 dX10_feed_52 hf (fun b52 hTb52 hf => ?_)
    refine u_iload hC dX10_feed_55 5 rfl ?_
    obtain ⟨q57, hq57, hf⟩ := kc_some hf
    refine u_callV hC (ctX7_addBytes (cL C) hC.tr (cG C) X.1 X.2.1 n q48 b52 x5_ hTb52 hq57) lk_X10_79 rfl hTb52 (by decide) rfl (by decide) (by decide) rfl rfl (Nat.le_of_ble_eq_true rfl) dX10_feed_57 ?_
    refine u_aload_n hC dX10_feed_60 0 rfl rfl ?_
    refine u_gr hC lf_X10_10 rfl hTa0 dX10_feed_61 hf (fun b61 hTb61 hf => ?_)
    refine u_gi hC lf_X10_76 rfl hTb61 dX10_feed_64 hf (fun x64 hf => ?_)
    cases hf
    exact hR _ _ dX10_feed_67 trivial
  · refine u_iconst (v := (-1 : Int32)) hC dX10_feed_16 (by decide) ?_
    cases hf
    exact hR _ _ dX10_feed_17 trivial
theorem ctX10_feed (l : Launch) (hl : l.stackTraces = false) (G : GT) (ρ : Nat → Nat) (Y : XS) (n : Nat) (S : PS) (a0 : Nat) (x1_ : Int32) (x2_ : Int32) (x3_ : Int32) (x4_ : Int32) (x5_ : Int32) (hTa0 : Ty Y a0 10) {o : Int32 × PS} (hf : fX10_feed Y n S a0 x1_ x2_ x3_ x4_ x5_ = some o) : Mt l G yX10_feed cX10_feed 6 (some .int) 2 ρ Y [.ref (ρ a0), .int x1_, .int x2_, .int x3_, .int x4_, .int x5_] S (some (.int o.1)) o.2 :=
  Mt_of hl (by decide) (Nat.le_of_ble_eq_true rfl) (fun C _ _ hC hR => wX10_feed (X := (ρ, Y, 0, 0)) hC n S a0 x1_ x2_ x3_ x4_ x5_ hTa0 hf hR)
-- X10_startFrom
theorem dX10_startFrom_0 : decode cX10_startFrom 0 = .ok (.aload_n 0, 1) := by decide +kernel
theorem dX10_startFrom_1 : decode cX10_startFrom 1 = .ok (.getfield 23, 3) := by decide +kernel
theorem dX10_startFrom_4 : decode cX10_startFrom 4 = .ok (.getfield 104, 3) := by decide +kernel
theorem dX10_startFrom_7 : decode cX10_startFrom 7 = .ok (.aload_n 1, 1) := by decide +kernel
theorem dX10_startFrom_8 : decode cX10_startFrom 8 = .ok (.invokevirtual 108, 3) := by decide +kernel
theorem dX10_startFrom_11 : decode cX10_startFrom 11 = .ok (.aload_n 0, 1) := by decide +kernel
theorem dX10_startFrom_12 : decode cX10_startFrom 12 = .ok (.getfield 61, 3) := by decide +kernel
theorem dX10_startFrom_15 : decode cX10_startFrom 15 = .ok (.iconst 0, 1) := by decide +kernel
theorem dX10_startFrom_16 : decode cX10_startFrom 16 = .ok (.putfield 111, 3) := by decide +kernel
theorem dX10_startFrom_19 : decode cX10_startFrom 19 = .ok (.aload_n 0, 1) := by decide +kernel
theorem dX10_startFrom_20 : decode cX10_startFrom 20 = .ok (.getfield 23, 3) := by decide +kernel
theorem dX10_startFrom_23 : decode cX10_startFrom 23 = .ok (.invokevirtual 114, 3) := by decide +kernel
theorem dX10_startFrom_26 : decode cX10_startFrom 26 = .ok (.aload_n 0, 1) := by decide +kernel
theorem dX10_startFrom_27 : decode cX10_startFrom 27 = .ok (.iconst 0, 1) := by decide +kernel
theorem dX10_startFrom_28 : decode cX10_startFrom 28 = .ok (.putfield 33, 3) := by decide +kernel
theorem dX10_startFrom_31 : decode cX10_startFrom 31 = .ok (.return_, 1) := by decide +kernel
def fX10_startFrom (Y : XS) (n : Nat) (S : PS) (a0 : Nat) (a1 : Nat) : Option (PS) :=
  kgr S a0 2 (fun b1 => kgr S b1 0 (fun b4 => kc (fX1_copyFrom Y n S b4 a1) (fun q8 => kgr q8 a0 9 (fun b12 => kpi q8 b12 2 (0 : Int32) (fun S16 => kgr S16 a0 2 (fun b20 => kc (fX6_tally Y n S16 b20) (fun q23 => kpi q23 a0 4 (0 : Int32) (fun S28 => some S28))))))))
theorem wX10_startFrom {C : CT} {X : XT} (hC : CK C RX10 cX10_startFrom 2 none 6) (n : Nat) (S : PS) (a0 : Nat) (a1 : Nat) (hTa0 : Ty X.2.1 a0 10) (hTa1 : Ty X.2.1 a1 1) {o : PS} (hf : fX10_startFrom X.2.1 n S a0 a1 = some o) (hR : Rt C X cX10_startFrom none none o) : UW C X S 0 [(0, .ref (X.1 a0)), (1, .ref (X.1 a1))] [] := by
  unfold fX10_startFrom at hf
  refine u_aload_n hC dX10_startFrom_0 0 rfl rfl ?_
  refine u_gr hC lf_X10_23 rfl hTa0 dX10_startFrom_1 hf (fun b1 hTb1 hf => ?_)
  refine u_gr hC lf_X10_104 rfl hTb1 dX10_startFrom_4 hf (fun b4 hTb4 hf => ?_)
  refine u_aload_n hC dX10_startFrom_7 1 rfl rfl ?_
  obtain ⟨q8, hq8, hf⟩ := kc_some hf
  refine u_callV hC (ctX1_copyFrom (cL C) hC.tr (cG C) X.1 X.2.1 n S b4 a1 hTb4 hTa1 hq8) lk_X10_108 rfl hTb4 (by decide) rfl (by decide) (by decide) rfl rfl (Nat.le_of_ble_eq_true rfl) dX10_startFrom_8 ?_
  refine u_aload_n hC dX10_startFrom_11 0 rfl rfl ?_
  refine u_gr hC lf_X10_61 rfl hTa0 dX10_startFrom_12 hf (fun b12 hTb12 hf => ?_)
  refine u_iconst (v := (0 : Int32)) hC dX10_startFrom_15 (by decide) ?_
  refine u_pi hC lf_X10_111 rfl rfl rfl hTb12 dX10_startFrom_16 hf (fun S16 hf => ?_)
  refine u_aload_n hC dX10_startFrom_19 0 rfl rfl ?_
  refine u_gr hC lf_X10_23 rfl hTa0 dX10_startFrom_20 hf (fun b20 hTb20 hf => ?_)
  obtain ⟨q23, hq23, hf⟩ := kc_some hf
  refine u_callV hC (ctX6_tally (cL C) hC.tr (cG C) X.1 X.2.1 n S16 b20 hTb20 hq23) lk_X10_114 rfl hTb20 (by decide) rfl (by decide) (by decide) rfl rfl (Nat.le_of_ble_eq_true rfl) dX10_startFrom_23 ?_
  refine u_aload_n hC dX10_startFrom_26 0 rfl rfl ?_
  refine u_iconst (v := (0 : Int32)) hC dX10_startFrom_27 (by decide) ?_
  refine u_pi hC lf_X10_33 rfl rfl rfl hTa0 dX10_startFrom_28 hf (fun S28 hf => ?_)
  cases hf
  exact hR _ _ dX10_startFrom_31 trivial
theorem ctX10_startFrom (l : Launch) (hl : l.stackTraces = false) (G : GT) (ρ : Nat → Nat) (Y : XS) (n : Nat) (S : PS) (a0 : Nat) (a1 : Nat) (hTa0 : Ty Y a0 10) (hTa1 : Ty Y a1 1) {o : PS} (hf : fX10_startFrom Y n S a0 a1 = some o) : Mt l G yX10_startFrom cX10_startFrom 2 none 6 ρ Y [.ref (ρ a0), .ref (ρ a1)] S none o :=
  Mt_of hl (by decide) (Nat.le_of_ble_eq_true rfl) (fun C _ _ hC hR => wX10_startFrom (X := (ρ, Y, 0, 0)) hC n S a0 a1 hTa0 hTa1 hf hR)
-- X10_refresh
theorem dX10_refresh_0 : decode cX10_refresh 0 = .ok (.aload_n 0, 1) := by decide +kernel
theorem dX10_refresh_1 : decode cX10_refresh 1 = .ok (.getfield 23, 3) := by decide +kernel
theorem dX10_refresh_4 : decode cX10_refresh 4 = .ok (.invokevirtual 114, 3) := by decide +kernel
theorem dX10_refresh_7 : decode cX10_refresh 7 = .ok (.aload_n 0, 1) := by decide +kernel
theorem dX10_refresh_8 : decode cX10_refresh 8 = .ok (.iconst 0, 1) := by decide +kernel
theorem dX10_refresh_9 : decode cX10_refresh 9 = .ok (.putfield 33, 3) := by decide +kernel
theorem dX10_refresh_12 : decode cX10_refresh 12 = .ok (.return_, 1) := by decide +kernel
def fX10_refresh (Y : XS) (n : Nat) (S : PS) (a0 : Nat) : Option (PS) :=
  kgr S a0 2 (fun b1 => kc (fX6_tally Y n S b1) (fun q4 => kpi q4 a0 4 (0 : Int32) (fun S9 => some S9)))
theorem wX10_refresh {C : CT} {X : XT} (hC : CK C RX10 cX10_refresh 1 none 6) (n : Nat) (S : PS) (a0 : Nat) (hTa0 : Ty X.2.1 a0 10) {o : PS} (hf : fX10_refresh X.2.1 n S a0 = some o) (hR : Rt C X cX10_refresh none none o) : UW C X S 0 [(0, .ref (X.1 a0))] [] := by
  unfold fX10_refresh at hf
  refine u_aload_n hC dX10_refresh_0 0 rfl rfl ?_
  refine u_gr hC lf_X10_23 rfl hTa0 dX10_refresh_1 hf (fun b1 hTb1 hf => ?_)
  obtain ⟨q4, hq4, hf⟩ := kc_some hf
  refine u_callV hC (ctX6_tally (cL C) hC.tr (cG C) X.1 X.2.1 n S b1 hTb1 hq4) lk_X10_114 rfl hTb1 (by decide) rfl (by decide) (by decide) rfl rfl (Nat.le_of_ble_eq_true rfl) dX10_refresh_4 ?_
  refine u_aload_n hC dX10_refresh_7 0 rfl rfl ?_
  refine u_iconst (v := (0 : Int32)) hC dX10_refresh_8 (by decide) ?_
  refine u_pi hC lf_X10_33 rfl rfl rfl hTa0 dX10_refresh_9 hf (fun S9 hf => ?_)
  cases hf
  exact hR _ _ dX10_refresh_12 trivial
theorem ctX10_refresh (l : Launch) (hl : l.stackTraces = false) (G : GT) (ρ : Nat → Nat) (Y : XS) (n : Nat) (S : PS) (a0 : Nat) (hTa0 : Ty Y a0 10) {o : PS} (hf : fX10_refresh Y n S a0 = some o) : Mt l G yX10_refresh cX10_refresh 1 none 6 ρ Y [.ref (ρ a0)] S none o :=
  Mt_of hl (by decide) (Nat.le_of_ble_eq_true rfl) (fun C _ _ hC hR => wX10_refresh (X := (ρ, Y, 0, 0)) hC n S a0 hTa0 hf hR)
-- X10_fault
theorem dX10_fault_0 : decode cX10_fault 0 = .ok (.aload_n 0, 1) := by decide +kernel
theorem dX10_fault_1 : decode cX10_fault 1 = .ok (.getfield 16, 3) := by decide +kernel
theorem dX10_fault_4 : decode cX10_fault 4 = .ok (.ireturn, 1) := by decide +kernel
def fX10_fault (Y : XS) (n : Nat) (S : PS) (a0 : Nat) : Option (Int32) :=
  kgi S a0 1 (fun x1 => some x1)
theorem wX10_fault {C : CT} {X : XT} (hC : CK C RX10 cX10_fault 1 (some .int) 1) (n : Nat) (S : PS) (a0 : Nat) (hTa0 : Ty X.2.1 a0 10) {o : Int32} (hf : fX10_fault X.2.1 n S a0 = some o) (hR : Rt C X cX10_fault (some .int) (some (.int o)) S) : UW C X S 0 [(0, .ref (X.1 a0))] [] := by
  unfold fX10_fault at hf
  refine u_aload_n hC dX10_fault_0 0 rfl rfl ?_
  refine u_gi hC lf_X10_16 rfl hTa0 dX10_fault_1 hf (fun x1 hf => ?_)
  cases hf
  exact hR _ _ dX10_fault_4 trivial
theorem ctX10_fault (l : Launch) (hl : l.stackTraces = false) (G : GT) (ρ : Nat → Nat) (Y : XS) (n : Nat) (S : PS) (a0 : Nat) (hTa0 : Ty Y a0 10) {o : Int32} (hf : fX10_fault Y n S a0 = some o) : Mt l G yX10_fault cX10_fault 1 (some .int) 1 ρ Y [.ref (ρ a0)] S (some (.int o)) S :=
  Mt_of hl (by decide) (Nat.le_of_ble_eq_true rfl) (fun C _ _ hC hR => wX10_fault (X := (ρ, Y, 0, 0)) hC n S a0 hTa0 hf hR)
-- X10_needWhat
theorem dX10_needWhat_0 : decode cX10_needWhat 0 = .ok (.iload_n 0, 1) := by decide +kernel
theorem dX10_needWhat_1 : decode cX10_needWhat 1 = .ok (.ifCond .lt 8, 3) := by decide +kernel
theorem dX10_needWhat_4 : decode cX10_needWhat 4 = .ok (.iload_n 0, 1) := by decide +kernel
theorem dX10_needWhat_5 : decode cX10_needWhat 5 = .ok (.iload_n 1, 1) := by decide +kernel
theorem dX10_needWhat_6 : decode cX10_needWhat 6 = .ok (.if_icmp .le 14, 3) := by decide +kernel
theorem dX10_needWhat_9 : decode cX10_needWhat 9 = .ok (.new 185, 3) := by decide +kernel
theorem dX10_needWhat_12 : decode cX10_needWhat 12 = .ok (.dup, 1) := by decide +kernel
theorem dX10_needWhat_13 : decode cX10_needWhat 13 = .ok (.ldc_w 313, 3) := by decide +kernel
theorem dX10_needWhat_16 : decode cX10_needWhat 16 = .ok (.invokespecial 189, 3) := by decide +kernel
theorem dX10_needWhat_19 : decode cX10_needWhat 19 = .ok (.athrow, 1) := by decide +kernel
theorem dX10_needWhat_20 : decode cX10_needWhat 20 = .ok (.return_, 1) := by decide +kernel
def jX10_needWhat_9 (Y : XS) (n : Nat) (S : PS)  : Option ((PS) ⊕ (Nat × PS)) :=
  some (.inr (1, S))
def fX10_needWhat (Y : XS) (n : Nat) (S : PS) (x0_ : Int32) (x1_ : Int32) : Option ((PS) ⊕ (Nat × PS)) :=
  (if x0_ < 0 then jX10_needWhat_9 Y n S  else (if x0_ ≤ x1_ then some (.inl S) else jX10_needWhat_9 Y n S ))
theorem wjX10_needWhat_9 {C : CT} {ρ : Nat → Nat} {Y : XS} (hC : CK C RX10 cX10_needWhat 2 none 6) (n : Nat) (S : PS)    {o : (PS) ⊕ (Nat × PS)} (hf : jX10_needWhat_9 Y n S  = some o) (hB : XB C (ρ, Y, 0, 0) 1 6) (hR : RtX C ρ Y cX10_needWhat none 1 6 (mrV o)) (hTo : ThO C ρ Y cX10_needWhat 1 6 (mrV o)) (hTp : ThP C ρ Y 1 6 (mrV o)) : UW C (ρ, Y, 0, 0) S 9 [] [] := by
  unfold jX10_needWhat_9 at hf
  cases hf
  exact hTo _ _ rfl (by decide) _ _ (Nat.le_of_ble_eq_true rfl) (Nat.le_of_ble_eq_true rfl) _ _ 9 ⟨by decide, rfl, dX10_needWhat_9, dX10_needWhat_12, Or.inr ⟨dX10_needWhat_13, dX10_needWhat_16, dX10_needWhat_19⟩⟩
theorem wX10_needWhat {C : CT} {ρ : Nat → Nat} {Y : XS} (hC : CK C RX10 cX10_needWhat 2 none 6) (n : Nat) (S : PS) (x0_ : Int32) (x1_ : Int32)  {o : (PS) ⊕ (Nat × PS)} (hf : fX10_needWhat Y n S x0_ x1_ = some o) (hB : XB C (ρ, Y, 0, 0) 1 6) (hR : RtX C ρ Y cX10_needWhat none 1 6 (mrV o)) (hTo : ThO C ρ Y cX10_needWhat 1 6 (mrV o)) (hTp : ThP C ρ Y 1 6 (mrV o)) : UW C (ρ, Y, 0, 0) S 0 [(0, .int x0_), (1, .int x1_)] [] := by
  unfold fX10_needWhat at hf
  refine u_iload_n hC dX10_needWhat_0 0 rfl rfl ?_
  refine u_if_lt (tgt := 9) hC dX10_needWhat_1 (by decide) hf (fun h1 hf => ?_) (fun h1 hf => ?_)
  · refine u_sub (lv' := []) [] rfl ?_
    exact wjX10_needWhat_9 hC n S    hf hB hR hTo hTp
  · refine u_iload_n hC dX10_needWhat_4 0 rfl rfl ?_
    refine u_iload_n hC dX10_needWhat_5 1 rfl rfl ?_
    refine u_icmp_le (tgt := 20) hC dX10_needWhat_6 (by decide) hf (fun h6 hf => ?_) (fun h6 hf => ?_)
    · cases hf
      exact hR _ _ rfl _ _ (Nat.le_of_ble_eq_true rfl) (Nat.le_of_ble_eq_true rfl) _ _ dX10_needWhat_20 trivial
    · refine u_sub (lv' := []) [] rfl ?_
      exact wjX10_needWhat_9 hC n S    hf hB hR hTo hTp
theorem ctX10_needWhat (l : Launch) (hl : l.stackTraces = false) (G : GT) (ρ : Nat → Nat) (Y : XS) (n : Nat) (S : PS) (x0_ : Int32) (x1_ : Int32)  {o : (PS) ⊕ (Nat × PS)} (hf : fX10_needWhat Y n S x0_ x1_ = some o) : Mx l G yX10_needWhat cX10_needWhat 2 none 6 1 6 ρ Y [.int x0_, .int x1_] S (mrV o) :=
  Mx_of hl (by decide) rfl (by decide) (Nat.le_of_ble_eq_true rfl) (fun C _ _ hC hB hR hTo hTp => wX10_needWhat hC n S x0_ x1_  hf hB hR hTo hTp)
-- X10_count
theorem dX10_count_0 : decode cX10_count 0 = .ok (.iload_n 1, 1) := by decide +kernel
theorem dX10_count_1 : decode cX10_count 1 = .ok (.bipush 6, 2) := by decide +kernel
theorem dX10_count_3 : decode cX10_count 3 = .ok (.invokestatic 117, 3) := by decide +kernel
theorem dX10_count_6 : decode cX10_count 6 = .ok (.iload_n 1, 1) := by decide +kernel
theorem dX10_count_7 : decode cX10_count 7 = .ok (.tableswitch 111 0 5 #[37, 48, 59, 70, 95, 103], 37) := by decide +kernel
theorem dX10_count_44 : decode cX10_count 44 = .ok (.aload_n 0, 1) := by decide +kernel
theorem dX10_count_45 : decode cX10_count 45 = .ok (.getfield 23, 3) := by decide +kernel
theorem dX10_count_48 : decode cX10_count 48 = .ok (.getfield 104, 3) := by decide +kernel
theorem dX10_count_51 : decode cX10_count 51 = .ok (.getfield 105, 3) := by decide +kernel
theorem dX10_count_54 : decode cX10_count 54 = .ok (.ireturn, 1) := by decide +kernel
theorem dX10_count_55 : decode cX10_count 55 = .ok (.aload_n 0, 1) := by decide +kernel
theorem dX10_count_56 : decode cX10_count 56 = .ok (.getfield 23, 3) := by decide +kernel
theorem dX10_count_59 : decode cX10_count 59 = .ok (.getfield 104, 3) := by decide +kernel
theorem dX10_count_62 : decode cX10_count 62 = .ok (.getfield 121, 3) := by decide +kernel
theorem dX10_count_65 : decode cX10_count 65 = .ok (.ireturn, 1) := by decide +kernel
theorem dX10_count_66 : decode cX10_count 66 = .ok (.aload_n 0, 1) := by decide +kernel
theorem dX10_count_67 : decode cX10_count 67 = .ok (.getfield 23, 3) := by decide +kernel
theorem dX10_count_70 : decode cX10_count 70 = .ok (.getfield 104, 3) := by decide +kernel
theorem dX10_count_73 : decode cX10_count 73 = .ok (.getfield 124, 3) := by decide +kernel
theorem dX10_count_76 : decode cX10_count 76 = .ok (.ireturn, 1) := by decide +kernel
theorem dX10_count_77 : decode cX10_count 77 = .ok (.aload_n 0, 1) := by decide +kernel
theorem dX10_count_78 : decode cX10_count 78 = .ok (.getfield 23, 3) := by decide +kernel
theorem dX10_count_81 : decode cX10_count 81 = .ok (.getfield 104, 3) := by decide +kernel
theorem dX10_count_84 : decode cX10_count 84 = .ok (.iconst 1, 1) := by decide +kernel
theorem dX10_count_85 : decode cX10_count 85 = .ok (.aload_n 0, 1) := by decide +kernel
theorem dX10_count_86 : decode cX10_count 86 = .ok (.getfield 23, 3) := by decide +kernel
theorem dX10_count_89 : decode cX10_count 89 = .ok (.getfield 104, 3) := by decide +kernel
theorem dX10_count_92 : decode cX10_count 92 = .ok (.getfield 105, 3) := by decide +kernel
theorem dX10_count_95 : decode cX10_count 95 = .ok (.ishl, 1) := by decide +kernel
theorem dX10_count_96 : decode cX10_count 96 = .ok (.iconst 1, 1) := by decide +kernel
theorem dX10_count_97 : decode cX10_count 97 = .ok (.isub, 1) := by decide +kernel
theorem dX10_count_98 : decode cX10_count 98 = .ok (.invokevirtual 127, 3) := by decide +kernel
theorem dX10_count_101 : decode cX10_count 101 = .ok (.ireturn, 1) := by decide +kernel
theorem dX10_count_102 : decode cX10_count 102 = .ok (.aload_n 0, 1) := by decide +kernel
theorem dX10_count_103 : decode cX10_count 103 = .ok (.getfield 61, 3) := by decide +kernel
theorem dX10_count_106 : decode cX10_count 106 = .ok (.getfield 111, 3) := by decide +kernel
theorem dX10_count_109 : decode cX10_count 109 = .ok (.ireturn, 1) := by decide +kernel
theorem dX10_count_110 : decode cX10_count 110 = .ok (.aload_n 0, 1) := by decide +kernel
theorem dX10_count_111 : decode cX10_count 111 = .ok (.getfield 10, 3) := by decide +kernel
theorem dX10_count_114 : decode cX10_count 114 = .ok (.getfield 76, 3) := by decide +kernel
theorem dX10_count_117 : decode cX10_count 117 = .ok (.ireturn, 1) := by decide +kernel
theorem dX10_count_118 : decode cX10_count 118 = .ok (.aload_n 0, 1) := by decide +kernel
theorem dX10_count_119 : decode cX10_count 119 = .ok (.getfield 23, 3) := by decide +kernel
theorem dX10_count_122 : decode cX10_count 122 = .ok (.getfield 104, 3) := by decide +kernel
theorem dX10_count_125 : decode cX10_count 125 = .ok (.getfield 130, 3) := by decide +kernel
theorem dX10_count_128 : decode cX10_count 128 = .ok (.ifnonnull 7, 3) := by decide +kernel
theorem dX10_count_131 : decode cX10_count 131 = .ok (.iconst 0, 1) := by decide +kernel
theorem dX10_count_132 : decode cX10_count 132 = .ok (.goto 4, 3) := by decide +kernel
theorem dX10_count_135 : decode cX10_count 135 = .ok (.iconst 1, 1) := by decide +kernel
theorem dX10_count_136 : decode cX10_count 136 = .ok (.ireturn, 1) := by decide +kernel
def jX10_count_136 (Y : XS) (n : Nat) (S : PS) (t0 : Int32) : Option ((Int32 × PS) ⊕ (Nat × PS)) :=
  some (.inl (t0, S))
def fX10_count (Y : XS) (n : Nat) (S : PS) (a0 : Nat) (x1_ : Int32) : Option ((Int32 × PS) ⊕ (Nat × PS)) :=
  kc (fX10_needWhat Y n S x1_ (6 : Int32)) (fun q3 => ks q3 (fun p3 => (if x1_ = (0 : Int32) then kgr p3 a0 2 (fun b45 => kgr p3 b45 0 (fun b48 => kgi p3 b48 1 (fun x51 => some (.inl (x51, p3))))) else (if x1_ = (1 : Int32) then kgr p3 a0 2 (fun b56 => kgr p3 b56 0 (fun b59 => kgi p3 b59 2 (fun x62 => some (.inl (x62, p3))))) else (if x1_ = (2 : Int32) then kgr p3 a0 2 (fun b67 => kgr p3 b67 0 (fun b70 => kgi p3 b70 0 (fun x73 => some (.inl (x73, p3))))) else (if x1_ = (3 : Int32) then kgr p3 a0 2 (fun b78 => kgr p3 b78 0 (fun b81 => kgr p3 a0 2 (fun b86 => kgr p3 b86 0 (fun b89 => kgi p3 b89 1 (fun x92 => kc (fX1_costOf Y n p3 b81 (((1 : Int32) <<< (x92 &&& 31)) - (1 : Int32))) (fun q98 => some (.inl (q98, p3)))))))) else (if x1_ = (4 : Int32) then kgr p3 a0 9 (fun b103 => kgi p3 b103 2 (fun x106 => some (.inl (x106, p3)))) else (if x1_ = (5 : Int32) then kgr p3 a0 0 (fun b111 => kgi p3 b111 3 (fun x114 => some (.inl (x114, p3)))) else kgr p3 a0 2 (fun b119 => kgr p3 b119 0 (fun b122 => kgq p3 b122 3 (fun r125 => kq r125 (jX10_count_136 Y n p3 (0 : Int32)) (fun c128 => jX10_count_136 Y n p3 (1 : Int32)))))))))))) (fun e3 => some (.inr e3)))
theorem wjX10_count_136 {C : CT} {ρ : Nat → Nat} {Y : XS} (hC : CK C RX10 cX10_count 2 (some .int) 7) (n : Nat) (S : PS) (t0 : Int32)   {o : (Int32 × PS) ⊕ (Nat × PS)} (hf : jX10_count_136 Y n S t0 = some o) (hB : XB C (ρ, Y, 0, 0) 8 48) (hR : RtX C ρ Y cX10_count (some .int) 8 48 (mrI o)) (hTo : ThO C ρ Y cX10_count 8 48 (mrI o)) (hTp : ThP C ρ Y 8 48 (mrI o)) : UW C (ρ, Y, 0 + 1, 0 + 6) S 136 [] [.int t0] := by
  unfold jX10_count_136 at hf
  cases hf
  exact hR _ _ rfl _ _ (Nat.le_of_ble_eq_true rfl) (Nat.le_of_ble_eq_true rfl) _ _ dX10_count_136 trivial
theorem wX10_count {C : CT} {ρ : Nat → Nat} {Y : XS} (hC : CK C RX10 cX10_count 2 (some .int) 7) (n : Nat) (S : PS) (a0 : Nat) (x1_ : Int32) (hTa0 : Ty Y a0 10) {o : (Int32 × PS) ⊕ (Nat × PS)} (hf : fX10_count Y n S a0 x1_ = some o) (hB : XB C (ρ, Y, 0, 0) 8 48) (hR : RtX C ρ Y cX10_count (some .int) 8 48 (mrI o)) (hTo : ThO C ρ Y cX10_count 8 48 (mrI o)) (hTp : ThP C ρ Y 8 48 (mrI o)) : UW C (ρ, Y, 0, 0) S 0 [(0, .ref (ρ a0)), (1, .int x1_)] [] := by
  unfold fX10_count at hf
  refine u_iload_n hC dX10_count_0 1 rfl rfl ?_
  refine u_bipush (v := (6 : Int32)) hC dX10_count_1 (by decide) ?_
  obtain ⟨q3, hq3, hf⟩ := kc_some hf
  refine u_callSX hC (ctX10_needWhat (cL C) hC.tr (cG C) ρ Y n S x1_ (6 : Int32)  hq3) (hB.at (Nat.le_of_ble_eq_true rfl) (Nat.le_of_ble_eq_true rfl)) lk_X10_117 (by decide) (by decide) rfl rfl (Nat.le_of_ble_eq_true rfl) dX10_count_3 (fun v' S' he => ?_) (fun k' S' he => ?_)
  · rcases q3 with p3 | e3
    · have he : (Sum.inl (none, p3) : MR) = .inl (v', S') := he
      obtain ⟨hv9, hS9⟩ : none = v' ∧ p3 = S' := by cases he; exact ⟨rfl, rfl⟩
      subst hv9
      subst hS9
      have hf := ks_l hf
      refine u_iload_n hC dX10_count_6 1 rfl rfl ?_
      by_cases hs7_0 : x1_ = (0 : Int32)
      · rw [if_pos hs7_0] at hf
        refine u_tin (tgt := 44) hC dX10_count_7 (by rw [hs7_0]; decide) (by rw [hs7_0]; decide) (by rw [hs7_0]; rfl) (by decide) ?_
        refine u_aload_n hC dX10_count_44 0 rfl rfl ?_
        refine u_gr hC lf_X10_23 rfl hTa0 dX10_count_45 hf (fun b45 hTb45 hf => ?_)
        refine u_gr hC lf_X10_104 rfl hTb45 dX10_count_48 hf (fun b48 hTb48 hf => ?_)
        refine u_gi hC lf_X10_105 rfl hTb48 dX10_count_51 hf (fun x51 hf => ?_)
        cases hf
        exact hR _ _ rfl _ _ (Nat.le_of_ble_eq_true rfl) (Nat.le_of_ble_eq_true rfl) _ _ dX10_count_54 trivial
      rw [if_neg hs7_0] at hf
      by_cases hs7_1 : x1_ = (1 : Int32)
      · rw [if_pos hs7_1] at hf
        refine u_tin (tgt := 55) hC dX10_count_7 (by rw [hs7_1]; decide) (by rw [hs7_1]; decide) (by rw [hs7_1]; rfl) (by decide) ?_
        refine u_aload_n hC dX10_count_55 0 rfl rfl ?_
        refine u_gr hC lf_X10_23 rfl hTa0 dX10_count_56 hf (fun b56 hTb56 hf => ?_)
        refine u_gr hC lf_X10_104 rfl hTb56 dX10_count_59 hf (fun b59 hTb59 hf => ?_)
        refine u_gi hC lf_X10_121 rfl hTb59 dX10_count_62 hf (fun x62 hf => ?_)
        cases hf
        exact hR _ _ rfl _ _ (Nat.le_of_ble_eq_true rfl) (Nat.le_of_ble_eq_true rfl) _ _ dX10_count_65 trivial
      rw [if_neg hs7_1] at hf
      by_cases hs7_2 : x1_ = (2 : Int32)
      · rw [if_pos hs7_2] at hf
        refine u_tin (tgt := 66) hC dX10_count_7 (by rw [hs7_2]; decide) (by rw [hs7_2]; decide) (by rw [hs7_2]; rfl) (by decide) ?_
        refine u_aload_n hC dX10_count_66 0 rfl rfl ?_
        refine u_gr hC lf_X10_23 rfl hTa0 dX10_count_67 hf (fun b67 hTb67 hf => ?_)
        refine u_gr hC lf_X10_104 rfl hTb67 dX10_count_70 hf (fun b70 hTb70 hf => ?_)
        refine u_gi hC lf_X10_124 rfl hTb70 dX10_count_73 hf (fun x73 hf => ?_)
        cases hf
        exact hR _ _ rfl _ _ (Nat.le_of_ble_eq_true rfl) (Nat.le_of_ble_eq_true rfl) _ _ dX10_count_76 trivial
      rw [if_neg hs7_2] at hf
      by_cases hs7_3 : x1_ = (3 : Int32)
      · rw [if_pos hs7_3] at hf
        refine u_tin (tgt := 77) hC dX10_count_7 (by rw [hs7_3]; decide) (by rw [hs7_3]; decide) (by rw [hs7_3]; rfl) (by decide) ?_
        refine u_aload_n hC dX10_count_77 0 rfl rfl ?_
        refine u_gr hC lf_X10_23 rfl hTa0 dX10_count_78 hf (fun b78 hTb78 hf => ?_)
        refine u_gr hC lf_X10_104 rfl hTb78 dX10_count_81 hf (fun b81 hTb81 hf => ?_)
        refine u_iconst (v := (1 : Int32)) hC dX10_count_84 (by decide) ?_
        refine u_aload_n hC dX10_count_85 0 rfl rfl ?_
        refine u_gr hC lf_X10_23 rfl hTa0 dX10_count_86 hf (fun b86 hTb86 hf => ?_)
        refine u_gr hC lf_X10_104 rfl hTb86 dX10_count_89 hf (fun b89 hTb89 hf => ?_)
        refine u_gi hC lf_X10_105 rfl hTb89 dX10_count_92 hf (fun x92 hf => ?_)
        refine u_ishl hC dX10_count_95 ?_
        refine u_iconst (v := (1 : Int32)) hC dX10_count_96 (by decide) ?_
        refine u_isub hC dX10_count_97 ?_
        obtain ⟨q98, hq98, hf⟩ := kc_some hf
        refine u_callV hC (ctX1_costOf (cL C) hC.tr (cG C) ρ Y n p3 b81 (((1 : Int32) <<< (x92 &&& 31)) - (1 : Int32)) hTb81 hq98) lk_X10_127 rfl hTb81 (by decide) rfl (by decide) (by decide) rfl rfl (Nat.le_of_ble_eq_true rfl) dX10_count_98 ?_
        cases hf
        exact hR _ _ rfl _ _ (Nat.le_of_ble_eq_true rfl) (Nat.le_of_ble_eq_true rfl) _ _ dX10_count_101 trivial
      rw [if_neg hs7_3] at hf
      by_cases hs7_4 : x1_ = (4 : Int32)
      · rw [if_pos hs7_4] at hf
        refine u_tin (tgt := 102) hC dX10_count_7 (by rw [hs7_4]; decide) (by rw [hs7_4]; decide) (by rw [hs7_4]; rfl) (by decide) ?_
        refine u_aload_n hC dX10_count_102 0 rfl rfl ?_
        refine u_gr hC lf_X10_61 rfl hTa0 dX10_count_103 hf (fun b103 hTb103 hf => ?_)
        refine u_gi hC lf_X10_111 rfl hTb103 dX10_count_106 hf (fun x106 hf => ?_)
        cases hf
        exact hR _ _ rfl _ _ (Nat.le_of_ble_eq_true rfl) (Nat.le_of_ble_eq_true rfl) _ _ dX10_count_109 trivial
      rw [if_neg hs7_4] at hf
      by_cases hs7_5 : x1_ = (5 : Int32)
      · rw [if_pos hs7_5] at hf
        refine u_tin (tgt := 110) hC dX10_count_7 (by rw [hs7_5]; decide) (by rw [hs7_5]; decide) (by rw [hs7_5]; rfl) (by decide) ?_
        refine u_aload_n hC dX10_count_110 0 rfl rfl ?_
        refine u_gr hC lf_X10_10 rfl hTa0 dX10_count_111 hf (fun b111 hTb111 hf => ?_)
        refine u_gi hC lf_X10_76 rfl hTb111 dX10_count_114 hf (fun x114 hf => ?_)
        cases hf
        exact hR _ _ rfl _ _ (Nat.le_of_ble_eq_true rfl) (Nat.le_of_ble_eq_true rfl) _ _ dX10_count_117 trivial
      rw [if_neg hs7_5] at hf
      have hz7_0 := lv_neT (a := 0) hs7_0 (by decide)
      have hz7_1 := lv_neT (a := 1) hs7_1 (by decide)
      have hz7_2 := lv_neT (a := 2) hs7_2 (by decide)
      have hz7_3 := lv_neT (a := 3) hs7_3 (by decide)
      have hz7_4 := lv_neT (a := 4) hs7_4 (by decide)
      have hz7_5 := lv_neT (a := 5) hs7_5 (by decide)
      refine u_tout (tgt := 118) hC dX10_count_7 (by omega) (by decide) ?_
      refine u_aload_n hC dX10_count_118 0 rfl rfl ?_
      refine u_gr hC lf_X10_23 rfl hTa0 dX10_count_119 hf (fun b119 hTb119 hf => ?_)
      refine u_gr hC lf_X10_104 rfl hTb119 dX10_count_122 hf (fun b122 hTb122 hf => ?_)
      refine u_gq hC lf_X10_130 rfl hTb122 dX10_count_125 hf (fun r125 hTr125 hf => ?_)
      refine u_ifnonnull (tgt := 135) hC dX10_count_128 (by decide) hf (fun he hf => ?_) (fun c128 he hf => ?_)
      · subst he
        refine u_iconst (v := (0 : Int32)) hC dX10_count_131 (by decide) ?_
        refine u_goto (tgt := 136) hC dX10_count_132 (by decide) ?_
        refine u_sub (lv' := []) [] rfl ?_
        exact wjX10_count_136 hC n p3 (0 : Int32)   hf hB hR hTo hTp
      · subst he
        have hTc128 := hTr125 c128 rfl
        refine u_iconst (v := (1 : Int32)) hC dX10_count_135 (by decide) ?_
        refine u_sub (lv' := []) [] rfl ?_
        exact wjX10_count_136 hC n p3 (1 : Int32)   hf hB hR hTo hTp
    · have he : (Sum.inr e3 : MR) = .inl (v', S') := he
      cases he
  · rcases q3 with p3 | e3
    · have he : (Sum.inl (none, p3) : MR) = .inr (k', S') := he
      cases he
    · have he : (Sum.inr e3 : MR) = .inr (k', S') := he
      cases he
      have hf := ks_r hf
      cases hf
      exact hTp _ _ rfl _ _ (Nat.le_of_ble_eq_true rfl) (Nat.le_of_ble_eq_true rfl)
theorem ctX10_count (l : Launch) (hl : l.stackTraces = false) (G : GT) (ρ : Nat → Nat) (Y : XS) (n : Nat) (S : PS) (a0 : Nat) (x1_ : Int32) (hTa0 : Ty Y a0 10) {o : (Int32 × PS) ⊕ (Nat × PS)} (hf : fX10_count Y n S a0 x1_ = some o) : Mx l G yX10_count cX10_count 2 (some .int) 7 8 48 ρ Y [.ref (ρ a0), .int x1_] S (mrI o) :=
  Mx_of hl (by decide) rfl (by decide) (Nat.le_of_ble_eq_true rfl) (fun C _ _ hC hB hR hTo hTp => wX10_count hC n S a0 x1_ hTa0 hf hB hR hTo hTp)
-- X10_needProject
theorem dX10_needProject_0 : decode cX10_needProject 0 = .ok (.iload_n 1, 1) := by decide +kernel
theorem dX10_needProject_1 : decode cX10_needProject 1 = .ok (.ifCond .lt 17, 3) := by decide +kernel
theorem dX10_needProject_4 : decode cX10_needProject 4 = .ok (.iload_n 1, 1) := by decide +kernel
theorem dX10_needProject_5 : decode cX10_needProject 5 = .ok (.aload_n 0, 1) := by decide +kernel
theorem dX10_needProject_6 : decode cX10_needProject 6 = .ok (.getfield 23, 3) := by decide +kernel
theorem dX10_needProject_9 : decode cX10_needProject 9 = .ok (.getfield 104, 3) := by decide +kernel
theorem dX10_needProject_12 : decode cX10_needProject 12 = .ok (.getfield 105, 3) := by decide +kernel
theorem dX10_needProject_15 : decode cX10_needProject 15 = .ok (.if_icmp .lt 14, 3) := by decide +kernel
theorem dX10_needProject_18 : decode cX10_needProject 18 = .ok (.new 185, 3) := by decide +kernel
theorem dX10_needProject_21 : decode cX10_needProject 21 = .ok (.dup, 1) := by decide +kernel
theorem dX10_needProject_22 : decode cX10_needProject 22 = .ok (.ldc_w 317, 3) := by decide +kernel
theorem dX10_needProject_25 : decode cX10_needProject 25 = .ok (.invokespecial 189, 3) := by decide +kernel
theorem dX10_needProject_28 : decode cX10_needProject 28 = .ok (.athrow, 1) := by decide +kernel
theorem dX10_needProject_29 : decode cX10_needProject 29 = .ok (.return_, 1) := by decide +kernel
def jX10_needProject_18 (Y : XS) (n : Nat) (S : PS)  : Option ((PS) ⊕ (Nat × PS)) :=
  some (.inr (1, S))
def fX10_needProject (Y : XS) (n : Nat) (S : PS) (a0 : Nat) (x1_ : Int32) : Option ((PS) ⊕ (Nat × PS)) :=
  (if x1_ < 0 then jX10_needProject_18 Y n S  else kgr S a0 2 (fun b6 => kgr S b6 0 (fun b9 => kgi S b9 1 (fun x12 => (if x1_ < x12 then some (.inl S) else jX10_needProject_18 Y n S )))))
theorem wjX10_needProject_18 {C : CT} {ρ : Nat → Nat} {Y : XS} (hC : CK C RX10 cX10_needProject 2 none 6) (n : Nat) (S : PS)    {o : (PS) ⊕ (Nat × PS)} (hf : jX10_needProject_18 Y n S  = some o) (hB : XB C (ρ, Y, 0, 0) 1 6) (hR : RtX C ρ Y cX10_needProject none 1 6 (mrV o)) (hTo : ThO C ρ Y cX10_needProject 1 6 (mrV o)) (hTp : ThP C ρ Y 1 6 (mrV o)) : UW C (ρ, Y, 0, 0) S 18 [] [] := by
  unfold jX10_needProject_18 at hf
  cases hf
  exact hTo _ _ rfl (by decide) _ _ (Nat.le_of_ble_eq_true rfl) (Nat.le_of_ble_eq_true rfl) _ _ 10 ⟨by decide, rfl, dX10_needProject_18, dX10_needProject_21, Or.inr ⟨dX10_needProject_22, dX10_needProject_25, dX10_needProject_28⟩⟩
theorem wX10_needProject {C : CT} {ρ : Nat → Nat} {Y : XS} (hC : CK C RX10 cX10_needProject 2 none 6) (n : Nat) (S : PS) (a0 : Nat) (x1_ : Int32) (hTa0 : Ty Y a0 10) {o : (PS) ⊕ (Nat × PS)} (hf : fX10_needProject Y n S a0 x1_ = some o) (hB : XB C (ρ, Y, 0, 0) 1 6) (hR : RtX C ρ Y cX10_needProject none 1 6 (mrV o)) (hTo : ThO C ρ Y cX10_needProject 1 6 (mrV o)) (hTp : ThP C ρ Y 1 6 (mrV o)) : UW C (ρ, Y, 0, 0) S 0 [(0, .ref (ρ a0)), (1, .int x1_)] [] := by
  unfold fX10_needProject at hf
  refine u_iload_n hC dX10_needProject_0 1 rfl rfl ?_
  refine u_if_lt (tgt := 18) hC dX10_needProject_1 (by decide) hf (fun h1 hf => ?_) (fun h1 hf => ?_)
  · refine u_sub (lv' := []) [] rfl ?_
    exact wjX10_needProject_18 hC n S    hf hB hR hTo hTp
  · refine u_iload_n hC dX10_needProject_4 1 rfl rfl ?_
    refine u_aload_n hC dX10_needProject_5 0 rfl rfl ?_
    refine u_gr hC lf_X10_23 rfl hTa0 dX10_needProject_6 hf (fun b6 hTb6 hf => ?_)
    refine u_gr hC lf_X10_104 rfl hTb6 dX10_needProject_9 hf (fun b9 hTb9 hf => ?_)
    refine u_gi hC lf_X10_105 rfl hTb9 dX10_needProject_12 hf (fun x12 hf => ?_)
    refine u_icmp_lt (tgt := 29) hC dX10_needProject_15 (by decide) hf (fun h15 hf => ?_) (fun h15 hf => ?_)
    · cases hf
      exact hR _ _ rfl _ _ (Nat.le_of_ble_eq_true rfl) (Nat.le_of_ble_eq_true rfl) _ _ dX10_needProject_29 trivial
    · refine u_sub (lv' := []) [] rfl ?_
      exact wjX10_needProject_18 hC n S    hf hB hR hTo hTp
theorem ctX10_needProject (l : Launch) (hl : l.stackTraces = false) (G : GT) (ρ : Nat → Nat) (Y : XS) (n : Nat) (S : PS) (a0 : Nat) (x1_ : Int32) (hTa0 : Ty Y a0 10) {o : (PS) ⊕ (Nat × PS)} (hf : fX10_needProject Y n S a0 x1_ = some o) : Mx l G yX10_needProject cX10_needProject 2 none 6 1 6 ρ Y [.ref (ρ a0), .int x1_] S (mrV o) :=
  Mx_of hl (by decide) rfl (by decide) (Nat.le_of_ble_eq_true rfl) (fun C _ _ hC hB hR hTo hTp => wX10_needProject hC n S a0 x1_ hTa0 hf hB hR hTo hTp)
-- X10_project
theorem dX10_project_0 : decode cX10_project 0 = .ok (.aload_n 0, 1) := by decide +kernel
theorem dX10_project_1 : decode cX10_project 1 = .ok (.iload_n 1, 1) := by decide +kernel
theorem dX10_project_2 : decode cX10_project 2 = .ok (.invokevirtual 134, 3) := by decide +kernel
theorem dX10_project_5 : decode cX10_project 5 = .ok (.iload_n 2, 1) := by decide +kernel
theorem dX10_project_6 : decode cX10_project 6 = .ok (.bipush 8, 2) := by decide +kernel
theorem dX10_project_8 : decode cX10_project 8 = .ok (.invokestatic 117, 3) := by decide +kernel
theorem dX10_project_11 : decode cX10_project 11 = .ok (.iload_n 2, 1) := by decide +kernel
theorem dX10_project_12 : decode cX10_project 12 = .ok (.tableswitch 61 0 2 #[28, 41, 51], 28) := by decide +kernel
theorem dX10_project_40 : decode cX10_project 40 = .ok (.aload_n 0, 1) := by decide +kernel
theorem dX10_project_41 : decode cX10_project 41 = .ok (.getfield 23, 3) := by decide +kernel
theorem dX10_project_44 : decode cX10_project 44 = .ok (.getfield 104, 3) := by decide +kernel
theorem dX10_project_47 : decode cX10_project 47 = .ok (.getfield 137, 3) := by decide +kernel
theorem dX10_project_50 : decode cX10_project 50 = .ok (.iload_n 1, 1) := by decide +kernel
theorem dX10_project_51 : decode cX10_project 51 = .ok (.iaload, 1) := by decide +kernel
theorem dX10_project_52 : decode cX10_project 52 = .ok (.ireturn, 1) := by decide +kernel
theorem dX10_project_53 : decode cX10_project 53 = .ok (.aload_n 0, 1) := by decide +kernel
theorem dX10_project_54 : decode cX10_project 54 = .ok (.getfield 23, 3) := by decide +kernel
theorem dX10_project_57 : decode cX10_project 57 = .ok (.getfield 141, 3) := by decide +kernel
theorem dX10_project_60 : decode cX10_project 60 = .ok (.iload_n 1, 1) := by decide +kernel
theorem dX10_project_61 : decode cX10_project 61 = .ok (.iaload, 1) := by decide +kernel
theorem dX10_project_62 : decode cX10_project 62 = .ok (.ireturn, 1) := by decide +kernel
theorem dX10_project_63 : decode cX10_project 63 = .ok (.aload_n 0, 1) := by decide +kernel
theorem dX10_project_64 : decode cX10_project 64 = .ok (.getfield 23, 3) := by decide +kernel
theorem dX10_project_67 : decode cX10_project 67 = .ok (.getfield 144, 3) := by decide +kernel
theorem dX10_project_70 : decode cX10_project 70 = .ok (.iload_n 1, 1) := by decide +kernel
theorem dX10_project_71 : decode cX10_project 71 = .ok (.iaload, 1) := by decide +kernel
theorem dX10_project_72 : decode cX10_project 72 = .ok (.ireturn, 1) := by decide +kernel
theorem dX10_project_73 : decode cX10_project 73 = .ok (.aload_n 0, 1) := by decide +kernel
theorem dX10_project_74 : decode cX10_project 74 = .ok (.getfield 23, 3) := by decide +kernel
theorem dX10_project_77 : decode cX10_project 77 = .ok (.getfield 104, 3) := by decide +kernel
theorem dX10_project_80 : decode cX10_project 80 = .ok (.getfield 147, 3) := by decide +kernel
theorem dX10_project_83 : decode cX10_project 83 = .ok (.iload_n 1, 1) := by decide +kernel
theorem dX10_project_84 : decode cX10_project 84 = .ok (.bipush 6, 2) := by decide +kernel
theorem dX10_project_86 : decode cX10_project 86 = .ok (.imul, 1) := by decide +kernel
theorem dX10_project_87 : decode cX10_project 87 = .ok (.iload_n 2, 1) := by decide +kernel
theorem dX10_project_88 : decode cX10_project 88 = .ok (.iadd, 1) := by decide +kernel
theorem dX10_project_89 : decode cX10_project 89 = .ok (.iconst 3, 1) := by decide +kernel
theorem dX10_project_90 : decode cX10_project 90 = .ok (.isub, 1) := by decide +kernel
theorem dX10_project_91 : decode cX10_project 91 = .ok (.iaload, 1) := by decide +kernel
theorem dX10_project_92 : decode cX10_project 92 = .ok (.ireturn, 1) := by decide +kernel
def fX10_project (Y : XS) (n : Nat) (S : PS) (a0 : Nat) (x1_ : Int32) (x2_ : Int32) : Option ((Int32 × PS) ⊕ (Nat × PS)) :=
  kc (fX10_needProject Y n S a0 x1_) (fun q2 => ks q2 (fun p2 => kc (fX10_needWhat Y n p2 x2_ (8 : Int32)) (fun q8 => ks q8 (fun p8 => (if x2_ = (0 : Int32) then kgr p8 a0 2 (fun b41 => kgr p8 b41 0 (fun b44 => kgr p8 b44 4 (fun b47 => kai Y p8 b47 x1_ (fun x51 => some (.inl (x51, p8)))))) else (if x2_ = (1 : Int32) then kgr p8 a0 2 (fun b54 => kgr p8 b54 1 (fun b57 => kai Y p8 b57 x1_ (fun x61 => some (.inl (x61, p8))))) else (if x2_ = (2 : Int32) then kgr p8 a0 2 (fun b64 => kgr p8 b64 2 (fun b67 => kai Y p8 b67 x1_ (fun x71 => some (.inl (x71, p8))))) else kgr p8 a0 2 (fun b74 => kgr p8 b74 0 (fun b77 => kgr p8 b77 5 (fun b80 => kai Y p8 b80 (((x1_ * (6 : Int32)) + x2_) - (3 : Int32)) (fun x91 => some (.inl (x91, p8)))))))))) (fun e8 => some (.inr e8)))) (fun e2 => some (.inr e2)))
theorem wX10_project {C : CT} {ρ : Nat → Nat} {Y : XS} (hC : CK C RX10 cX10_project 3 (some .int) 7) (n : Nat) (S : PS) (a0 : Nat) (x1_ : Int32) (x2_ : Int32) (hTa0 : Ty Y a0 10) {o : (Int32 × PS) ⊕ (Nat × PS)} (hf : fX10_project Y n S a0 x1_ x2_ = some o) (hB : XB C (ρ, Y, 0, 0) 8 48) (hR : RtX C ρ Y cX10_project (some .int) 8 48 (mrI o)) (hTo : ThO C ρ Y cX10_project 8 48 (mrI o)) (hTp : ThP C ρ Y 8 48 (mrI o)) : UW C (ρ, Y, 0, 0) S 0 [(0, .ref (ρ a0)), (1, .int x1_), (2, .int x2_)] [] := by
  unfold fX10_project at hf
  refine u_aload_n hC dX10_project_0 0 rfl rfl ?_
  refine u_iload_n hC dX10_project_1 1 rfl rfl ?_
  obtain ⟨q2, hq2, hf⟩ := kc_some hf
  refine u_callVX hC (ctX10_needProject (cL C) hC.tr (cG C) ρ Y n S a0 x1_ hTa0 hq2) (hB.at (Nat.le_of_ble_eq_true rfl) (Nat.le_of_ble_eq_true rfl)) lk_X10_134 rfl hTa0 (by decide) rfl (by decide) (by decide) rfl rfl (Nat.le_of_ble_eq_true rfl) dX10_project_2 (fun v' S' he => ?_) (fun k' S' he => ?_)
  · rcases q2 with p2 | e2
    · have he : (Sum.inl (none, p2) : MR) = .inl (v', S') := he
      obtain ⟨hv9, hS9⟩ : none = v' ∧ p2 = S' := by cases he; exact ⟨rfl, rfl⟩
      subst hv9
      subst hS9
      have hf := ks_l hf
      refine u_iload_n hC dX10_project_5 2 rfl rfl ?_
      refine u_bipush (v := (8 : Int32)) hC dX10_project_6 (by decide) ?_
      obtain ⟨q8, hq8, hf⟩ := kc_some hf
      refine u_callSX hC (ctX10_needWhat (cL C) hC.tr (cG C) ρ Y n p2 x2_ (8 : Int32)  hq8) (hB.at (Nat.le_of_ble_eq_true rfl) (Nat.le_of_ble_eq_true rfl)) lk_X10_117 (by decide) (by decide) rfl rfl (Nat.le_of_ble_eq_true rfl) dX10_project_8 (fun v' S' he => ?_) (fun k' S' he => ?_)
      · rcases q8 with p8 | e8
        · have he : (Sum.inl (none, p8) : MR) = .inl (v', S') := he
          obtain ⟨hv9, hS9⟩ : none = v' ∧ p8 = S' := by cases he; exact ⟨rfl, rfl⟩
          subst hv9
          subst hS9
          have hf := ks_l hf
          refine u_iload_n hC dX10_project_11 2 rfl rfl ?_
          by_cases hs12_0 : x2_ = (0 : Int32)
          · rw [if_pos hs12_0] at hf
            refine u_tin (tgt := 40) hC dX10_project_12 (by rw [hs12_0]; decide) (by rw [hs12_0]; decide) (by rw [hs12_0]; rfl) (by decide) ?_
            refine u_aload_n hC dX10_project_40 0 rfl rfl ?_
            refine u_gr hC lf_X10_23 rfl hTa0 dX10_project_41 hf (fun b41 hTb41 hf => ?_)
            refine u_gr hC lf_X10_104 rfl hTb41 dX10_project_44 hf (fun b44 hTb44 hf => ?_)
            refine u_gr hC lf_X10_137 rfl hTb44 dX10_project_47 hf (fun b47 hTb47 hf => ?_)
            refine u_iload_n hC dX10_project_50 1 rfl rfl ?_
            refine u_ai hC hTb47 dX10_project_51 hf (fun x51 hf => ?_)
            cases hf
            exact hR _ _ rfl _ _ (Nat.le_of_ble_eq_true rfl) (Nat.le_of_ble_eq_true rfl) _ _ dX10_project_52 trivial
          rw [if_neg hs12_0] at hf
          by_cases hs12_1 : x2_ = (1 : Int32)
          · rw [if_pos hs12_1] at hf
            refine u_tin (tgt := 53) hC dX10_project_12 (by rw [hs12_1]; decide) (by rw [hs12_1]; decide) (by rw [hs12_1]; rfl) (by decide) ?_
            refine u_aload_n hC dX10_project_53 0 rfl rfl ?_
            refine u_gr hC lf_X10_23 rfl hTa0 dX10_project_54 hf (fun b54 hTb54 hf => ?_)
            refine u_gr hC lf_X10_141 rfl hTb54 dX10_project_57 hf (fun b57 hTb57 hf => ?_)
            refine u_iload_n hC dX10_project_60 1 rfl rfl ?_
            refine u_ai hC hTb57 dX10_project_61 hf (fun x61 hf => ?_)
            cases hf
            exact hR _ _ rfl _ _ (Nat.le_of_ble_eq_true rfl) (Nat.le_of_ble_eq_true rfl) _ _ dX10_project_62 trivial
          rw [if_neg hs12_1] at hf
          by_cases hs12_2 : x2_ = (2 : Int32)
          · rw [if_pos hs12_2] at hf
            refine u_tin (tgt := 63) hC dX10_project_12 (by rw [hs12_2]; decide) (by rw [hs12_2]; decide) (by rw [hs12_2]; rfl) (by decide) ?_
            refine u_aload_n hC dX10_project_63 0 rfl rfl ?_
            refine u_gr hC lf_X10_23 rfl hTa0 dX10_project_64 hf (fun b64 hTb64 hf => ?_)
            refine u_gr hC lf_X10_144 rfl hTb64 dX10_project_67 hf (fun b67 hTb67 hf => ?_)
            refine u_iload_n hC dX10_project_70 1 rfl rfl ?_
            refine u_ai hC hTb67 dX10_project_71 hf (fun x71 hf => ?_)
            cases hf
            exact hR _ _ rfl _ _ (Nat.le_of_ble_eq_true rfl) (Nat.le_of_ble_eq_true rfl) _ _ dX10_project_72 trivial
          rw [if_neg hs12_2] at hf
          have hz12_0 := lv_neT (a := 0) hs12_0 (by decide)
          have hz12_1 := lv_neT (a := 1) hs12_1 (by decide)
          have hz12_2 := lv_neT (a := 2) hs12_2 (by decide)
          refine u_tout (tgt := 73) hC dX10_project_12 (by omega) (by decide) ?_
          refine u_aload_n hC dX10_project_73 0 rfl rfl ?_
          refine u_gr hC lf_X10_23 rfl hTa0 dX10_project_74 hf (fun b74 hTb74 hf => ?_)
          refine u_gr hC lf_X10_104 rfl hTb74 dX10_project_77 hf (fun b77 hTb77 hf => ?_)
          refine u_gr hC lf_X10_147 rfl hTb77 dX10_project_80 hf (fun b80 hTb80 hf => ?_)
          refine u_iload_n hC dX10_project_83 1 rfl rfl ?_
          refine u_bipush (v := (6 : Int32)) hC dX10_project_84 (by decide) ?_
          refine u_imul hC dX10_project_86 ?_
          refine u_iload_n hC dX10_project_87 2 rfl rfl ?_
          refine u_iadd hC dX10_project_88 ?_
          refine u_iconst (v := (3 : Int32)) hC dX10_project_89 (by decide) ?_
          refine u_isub hC dX10_project_90 ?_
          refine u_ai hC hTb80 dX10_project_91 hf (fun x91 hf => ?_)
          cases hf
          exact hR _ _ rfl _ _ (Nat.le_of_ble_eq_true rfl) (Nat.le_of_ble_eq_true rfl) _ _ dX10_project_92 trivial
        · have he : (Sum.inr e8 : MR) = .inl (v', S') := he
          cases he
      · rcases q8 with p8 | e8
        · have he : (Sum.inl (none, p8) : MR) = .inr (k', S') := he
          cases he
        · have he : (Sum.inr e8 : MR) = .inr (k', S') := he
          cases he
          have hf := ks_r hf
          cases hf
          exact hTp _ _ rfl _ _ (Nat.le_of_ble_eq_true rfl) (Nat.le_of_ble_eq_true rfl)
    · have he : (Sum.inr e2 : MR) = .inl (v', S') := he
      cases he
  · rcases q2 with p2 | e2
    · have he : (Sum.inl (none, p2) : MR) = .inr (k', S') := he
      cases he
    · have he : (Sum.inr e2 : MR) = .inr (k', S') := he
      cases he
      have hf := ks_r hf
      cases hf
      exact hTp _ _ rfl _ _ (Nat.le_of_ble_eq_true rfl) (Nat.le_of_ble_eq_true rfl)
theorem ctX10_project (l : Launch) (hl : l.stackTraces = false) (G : GT) (ρ : Nat → Nat) (Y : XS) (n : Nat) (S : PS) (a0 : Nat) (x1_ : Int32) (x2_ : Int32) (hTa0 : Ty Y a0 10) {o : (Int32 × PS) ⊕ (Nat × PS)} (hf : fX10_project Y n S a0 x1_ x2_ = some o) : Mx l G yX10_project cX10_project 3 (some .int) 7 8 48 ρ Y [.ref (ρ a0), .int x1_, .int x2_] S (mrI o) :=
  Mx_of hl (by decide) rfl (by decide) (Nat.le_of_ble_eq_true rfl) (fun C _ _ hC hB hR hTo hTp => wX10_project hC n S a0 x1_ x2_ hTa0 hf hB hR hTo hTp)
-- X10_needVoter
theorem dX10_needVoter_0 : decode cX10_needVoter 0 = .ok (.iload_n 1, 1) := by decide +kernel
theorem dX10_needVoter_1 : decode cX10_needVoter 1 = .ok (.ifCond .lt 17, 3) := by decide +kernel
theorem dX10_needVoter_4 : decode cX10_needVoter 4 = .ok (.iload_n 1, 1) := by decide +kernel
theorem dX10_needVoter_5 : decode cX10_needVoter 5 = .ok (.aload_n 0, 1) := by decide +kernel
theorem dX10_needVoter_6 : decode cX10_needVoter 6 = .ok (.getfield 23, 3) := by decide +kernel
theorem dX10_needVoter_9 : decode cX10_needVoter 9 = .ok (.getfield 104, 3) := by decide +kernel
theorem dX10_needVoter_12 : decode cX10_needVoter 12 = .ok (.getfield 121, 3) := by decide +kernel
theorem dX10_needVoter_15 : decode cX10_needVoter 15 = .ok (.if_icmp .lt 14, 3) := by decide +kernel
theorem dX10_needVoter_18 : decode cX10_needVoter 18 = .ok (.new 185, 3) := by decide +kernel
theorem dX10_needVoter_21 : decode cX10_needVoter 21 = .ok (.dup, 1) := by decide +kernel
theorem dX10_needVoter_22 : decode cX10_needVoter 22 = .ok (.ldc_w 319, 3) := by decide +kernel
theorem dX10_needVoter_25 : decode cX10_needVoter 25 = .ok (.invokespecial 189, 3) := by decide +kernel
theorem dX10_needVoter_28 : decode cX10_needVoter 28 = .ok (.athrow, 1) := by decide +kernel
theorem dX10_needVoter_29 : decode cX10_needVoter 29 = .ok (.return_, 1) := by decide +kernel
def jX10_needVoter_18 (Y : XS) (n : Nat) (S : PS)  : Option ((PS) ⊕ (Nat × PS)) :=
  some (.inr (1, S))
def fX10_needVoter (Y : XS) (n : Nat) (S : PS) (a0 : Nat) (x1_ : Int32) : Option ((PS) ⊕ (Nat × PS)) :=
  (if x1_ < 0 then jX10_needVoter_18 Y n S  else kgr S a0 2 (fun b6 => kgr S b6 0 (fun b9 => kgi S b9 2 (fun x12 => (if x1_ < x12 then some (.inl S) else jX10_needVoter_18 Y n S )))))
theorem wjX10_needVoter_18 {C : CT} {ρ : Nat → Nat} {Y : XS} (hC : CK C RX10 cX10_needVoter 2 none 6) (n : Nat) (S : PS)    {o : (PS) ⊕ (Nat × PS)} (hf : jX10_needVoter_18 Y n S  = some o) (hB : XB C (ρ, Y, 0, 0) 1 6) (hR : RtX C ρ Y cX10_needVoter none 1 6 (mrV o)) (hTo : ThO C ρ Y cX10_needVoter 1 6 (mrV o)) (hTp : ThP C ρ Y 1 6 (mrV o)) : UW C (ρ, Y, 0, 0) S 18 [] [] := by
  unfold jX10_needVoter_18 at hf
  cases hf
  exact hTo _ _ rfl (by decide) _ _ (Nat.le_of_ble_eq_true rfl) (Nat.le_of_ble_eq_true rfl) _ _ 11 ⟨by decide, rfl, dX10_needVoter_18, dX10_needVoter_21, Or.inr ⟨dX10_needVoter_22, dX10_needVoter_25, dX10_needVoter_28⟩⟩
theorem wX10_needVoter {C : CT} {ρ : Nat → Nat} {Y : XS} (hC : CK C RX10 cX10_needVoter 2 none 6) (n : Nat) (S : PS) (a0 : Nat) (x1_ : Int32) (hTa0 : Ty Y a0 10) {o : (PS) ⊕ (Nat × PS)} (hf : fX10_needVoter Y n S a0 x1_ = some o) (hB : XB C (ρ, Y, 0, 0) 1 6) (hR : RtX C ρ Y cX10_needVoter none 1 6 (mrV o)) (hTo : ThO C ρ Y cX10_needVoter 1 6 (mrV o)) (hTp : ThP C ρ Y 1 6 (mrV o)) : UW C (ρ, Y, 0, 0) S 0 [(0, .ref (ρ a0)), (1, .int x1_)] [] := by
  unfold fX10_needVoter at hf
  refine u_iload_n hC dX10_needVoter_0 1 rfl rfl ?_
  refine u_if_lt (tgt := 18) hC dX10_needVoter_1 (by decide) hf (fun h1 hf => ?_) (fun h1 hf => ?_)
  · refine u_sub (lv' := []) [] rfl ?_
    exact wjX10_needVoter_18 hC n S    hf hB hR hTo hTp
  · refine u_iload_n hC dX10_needVoter_4 1 rfl rfl ?_
    refine u_aload_n hC dX10_needVoter_5 0 rfl rfl ?_
    refine u_gr hC lf_X10_23 rfl hTa0 dX10_needVoter_6 hf (fun b6 hTb6 hf => ?_)
    refine u_gr hC lf_X10_104 rfl hTb6 dX10_needVoter_9 hf (fun b9 hTb9 hf => ?_)
    refine u_gi hC lf_X10_121 rfl hTb9 dX10_needVoter_12 hf (fun x12 hf => ?_)
    refine u_icmp_lt (tgt := 29) hC dX10_needVoter_15 (by decide) hf (fun h15 hf => ?_) (fun h15 hf => ?_)
    · cases hf
      exact hR _ _ rfl _ _ (Nat.le_of_ble_eq_true rfl) (Nat.le_of_ble_eq_true rfl) _ _ dX10_needVoter_29 trivial
    · refine u_sub (lv' := []) [] rfl ?_
      exact wjX10_needVoter_18 hC n S    hf hB hR hTo hTp
theorem ctX10_needVoter (l : Launch) (hl : l.stackTraces = false) (G : GT) (ρ : Nat → Nat) (Y : XS) (n : Nat) (S : PS) (a0 : Nat) (x1_ : Int32) (hTa0 : Ty Y a0 10) {o : (PS) ⊕ (Nat × PS)} (hf : fX10_needVoter Y n S a0 x1_ = some o) : Mx l G yX10_needVoter cX10_needVoter 2 none 6 1 6 ρ Y [.ref (ρ a0), .int x1_] S (mrV o) :=
  Mx_of hl (by decide) rfl (by decide) (Nat.le_of_ble_eq_true rfl) (fun C _ _ hC hB hR hTo hTp => wX10_needVoter hC n S a0 x1_ hTa0 hf hB hR hTo hTp)
-- X10_vote
theorem dX10_vote_0 : decode cX10_vote 0 = .ok (.aload_n 0, 1) := by decide +kernel
theorem dX10_vote_1 : decode cX10_vote 1 = .ok (.iload_n 1, 1) := by decide +kernel
theorem dX10_vote_2 : decode cX10_vote 2 = .ok (.invokevirtual 150, 3) := by decide +kernel
theorem dX10_vote_5 : decode cX10_vote 5 = .ok (.aload_n 0, 1) := by decide +kernel
theorem dX10_vote_6 : decode cX10_vote 6 = .ok (.iload_n 2, 1) := by decide +kernel
theorem dX10_vote_7 : decode cX10_vote 7 = .ok (.invokevirtual 134, 3) := by decide +kernel
theorem dX10_vote_10 : decode cX10_vote 10 = .ok (.iload_n 2, 1) := by decide +kernel
theorem dX10_vote_11 : decode cX10_vote 11 = .ok (.bipush 24, 2) := by decide +kernel
theorem dX10_vote_13 : decode cX10_vote 13 = .ok (.imul, 1) := by decide +kernel
theorem dX10_vote_14 : decode cX10_vote 14 = .ok (.iload_n 1, 1) := by decide +kernel
theorem dX10_vote_15 : decode cX10_vote 15 = .ok (.iadd, 1) := by decide +kernel
theorem dX10_vote_16 : decode cX10_vote 16 = .ok (.istore 4, 2) := by decide +kernel
theorem dX10_vote_18 : decode cX10_vote 18 = .ok (.iload_n 3, 1) := by decide +kernel
theorem dX10_vote_19 : decode cX10_vote 19 = .ok (.ifCond .eq 16, 3) := by decide +kernel
theorem dX10_vote_22 : decode cX10_vote 22 = .ok (.aload_n 0, 1) := by decide +kernel
theorem dX10_vote_23 : decode cX10_vote 23 = .ok (.getfield 23, 3) := by decide +kernel
theorem dX10_vote_26 : decode cX10_vote 26 = .ok (.getfield 153, 3) := by decide +kernel
theorem dX10_vote_29 : decode cX10_vote 29 = .ok (.iload 4, 2) := by decide +kernel
theorem dX10_vote_31 : decode cX10_vote 31 = .ok (.iaload, 1) := by decide +kernel
theorem dX10_vote_32 : decode cX10_vote 32 = .ok (.goto 16, 3) := by decide +kernel
theorem dX10_vote_35 : decode cX10_vote 35 = .ok (.aload_n 0, 1) := by decide +kernel
theorem dX10_vote_36 : decode cX10_vote 36 = .ok (.getfield 23, 3) := by decide +kernel
theorem dX10_vote_39 : decode cX10_vote 39 = .ok (.getfield 104, 3) := by decide +kernel
theorem dX10_vote_42 : decode cX10_vote 42 = .ok (.getfield 156, 3) := by decide +kernel
theorem dX10_vote_45 : decode cX10_vote 45 = .ok (.iload 4, 2) := by decide +kernel
theorem dX10_vote_47 : decode cX10_vote 47 = .ok (.iaload, 1) := by decide +kernel
theorem dX10_vote_48 : decode cX10_vote 48 = .ok (.ireturn, 1) := by decide +kernel
def jX10_vote_48 (Y : XS) (n : Nat) (S : PS) (t0 : Int32) : Option ((Int32 × PS) ⊕ (Nat × PS)) :=
  some (.inl (t0, S))
def fX10_vote (Y : XS) (n : Nat) (S : PS) (a0 : Nat) (x1_ : Int32) (x2_ : Int32) (x3_ : Int32) : Option ((Int32 × PS) ⊕ (Nat × PS)) :=
  kc (fX10_needVoter Y n S a0 x1_) (fun q2 => ks q2 (fun p2 => kc (fX10_needProject Y n p2 a0 x2_) (fun q7 => ks q7 (fun p7 => (if x3_ = 0 then kgr p7 a0 2 (fun b36 => kgr p7 b36 0 (fun b39 => kgr p7 b39 6 (fun b42 => kai Y p7 b42 ((x2_ * (24 : Int32)) + x1_) (fun x47 => jX10_vote_48 Y n p7 x47)))) else kgr p7 a0 2 (fun b23 => kgr p7 b23 4 (fun b26 => kai Y p7 b26 ((x2_ * (24 : Int32)) + x1_) (fun x31 => jX10_vote_48 Y n p7 x31))))) (fun e7 => some (.inr e7)))) (fun e2 => some (.inr e2)))
theorem wjX10_vote_48 {C : CT} {ρ : Nat → Nat} {Y : XS} (hC : CK C RX10 cX10_vote 5 (some .int) 7) (n : Nat) (S : PS) (t0 : Int32)   {o : (Int32 × PS) ⊕ (Nat × PS)} (hf : jX10_vote_48 Y n S t0 = some o) (hB : XB C (ρ, Y, 0, 0) 8 48) (hR : RtX C ρ Y cX10_vote (some .int) 8 48 (mrI o)) (hTo : ThO C ρ Y cX10_vote 8 48 (mrI o)) (hTp : ThP C ρ Y 8 48 (mrI o)) : UW C (ρ, Y, 0 + 1 + 1, 0 + 6 + 6) S 48 [] [.int t0] := by
  unfold jX10_vote_48 at hf
  cases hf
  exact hR _ _ rfl _ _ (Nat.le_of_ble_eq_true rfl) (Nat.le_of_ble_eq_true rfl) _ _ dX10_vote_48 trivial
theorem wX10_vote {C : CT} {ρ : Nat → Nat} {Y : XS} (hC : CK C RX10 cX10_vote 5 (some .int) 7) (n : Nat) (S : PS) (a0 : Nat) (x1_ : Int32) (x2_ : Int32) (x3_ : Int32) (hTa0 : Ty Y a0 10) {o : (Int32 × PS) ⊕ (Nat × PS)} (hf : fX10_vote Y n S a0 x1_ x2_ x3_ = some o) (hB : XB C (ρ, Y, 0, 0) 8 48) (hR : RtX C ρ Y cX10_vote (some .int) 8 48 (mrI o)) (hTo : ThO C ρ Y cX10_vote 8 48 (mrI o)) (hTp : ThP C ρ Y 8 48 (mrI o)) : UW C (ρ, Y, 0, 0) S 0 [(0, .ref (ρ a0)), (1, .int x1_), (2, .int x2_), (3, .int x3_)] [] := by
  unfold fX10_vote at hf
  refine u_aload_n hC dX10_vote_0 0 rfl rfl ?_
  refine u_iload_n hC dX10_vote_1 1 rfl rfl ?_
  obtain ⟨q2, hq2, hf⟩ := kc_some hf
  refine u_callVX hC (ctX10_needVoter (cL C) hC.tr (cG C) ρ Y n S a0 x1_ hTa0 hq2) (hB.at (Nat.le_of_ble_eq_true rfl) (Nat.le_of_ble_eq_true rfl)) lk_X10_150 rfl hTa0 (by decide) rfl (by decide) (by decide) rfl rfl (Nat.le_of_ble_eq_true rfl) dX10_vote_2 (fun v' S' he => ?_) (fun k' S' he => ?_)
  · rcases q2 with p2 | e2
    · have he : (Sum.inl (none, p2) : MR) = .inl (v', S') := he
      obtain ⟨hv9, hS9⟩ : none = v' ∧ p2 = S' := by cases he; exact ⟨rfl, rfl⟩
      subst hv9
      subst hS9
      have hf := ks_l hf
      refine u_aload_n hC dX10_vote_5 0 rfl rfl ?_
      refine u_iload_n hC dX10_vote_6 2 rfl rfl ?_
      obtain ⟨q7, hq7, hf⟩ := kc_some hf
      refine u_callVX hC (ctX10_needProject (cL C) hC.tr (cG C) ρ Y n p2 a0 x2_ hTa0 hq7) (hB.at (Nat.le_of_ble_eq_true rfl) (Nat.le_of_ble_eq_true rfl)) lk_X10_134 rfl hTa0 (by decide) rfl (by decide) (by decide) rfl rfl (Nat.le_of_ble_eq_true rfl) dX10_vote_7 (fun v' S' he => ?_) (fun k' S' he => ?_)
      · rcases q7 with p7 | e7
        · have he : (Sum.inl (none, p7) : MR) = .inl (v', S') := he
          obtain ⟨hv9, hS9⟩ : none = v' ∧ p7 = S' := by cases he; exact ⟨rfl, rfl⟩
          subst hv9
          subst hS9
          have hf := ks_l hf
          refine u_iload_n hC dX10_vote_10 2 rfl rfl ?_
          refine u_bipush (v := (24 : Int32)) hC dX10_vote_11 (by decide) ?_
          refine u_imul hC dX10_vote_13 ?_
          refine u_iload_n hC dX10_vote_14 1 rfl rfl ?_
          refine u_iadd hC dX10_vote_15 ?_
          refine u_istore (lv' := [(4, .int ((x2_ * (24 : Int32)) + x1_)), (0, .ref (ρ a0)), (1, .int x1_), (2, .int x2_), (3, .int x3_)]) hC dX10_vote_16 (by decide) rfl ?_
          refine u_iload_n hC dX10_vote_18 4 rfl rfl ?_
          refine u_if_eq (tgt := 35) hC dX10_vote_19 (by decide) hf (fun h19 hf => ?_) (fun h19 hf => ?_)
          · refine u_aload_n hC dX10_vote_35 1 rfl rfl ?_
            refine u_gr hC lf_X10_23 rfl hTa0 dX10_vote_36 hf (fun b36 hTb36 hf => ?_)
            refine u_gr hC lf_X10_104 rfl hTb36 dX10_vote_39 hf (fun b39 hTb39 hf => ?_)
            refine u_gr hC lf_X10_156 rfl hTb39 dX10_vote_42 hf (fun b42 hTb42 hf => ?_)
            refine u_iload hC dX10_vote_45 0 rfl ?_
            refine u_ai hC hTb42 dX10_vote_47 hf (fun x47 hf => ?_)
            refine u_sub (lv' := []) [] rfl ?_
            exact wjX10_vote_48 hC n p7 x47   hf hB hR hTo hTp
          · refine u_aload_n hC dX10_vote_22 1 rfl rfl ?_
            refine u_gr hC lf_X10_23 rfl hTa0 dX10_vote_23 hf (fun b23 hTb23 hf => ?_)
            refine u_gr hC lf_X10_153 rfl hTb23 dX10_vote_26 hf (fun b26 hTb26 hf => ?_)
            refine u_iload hC dX10_vote_29 0 rfl ?_
            refine u_ai hC hTb26 dX10_vote_31 hf (fun x31 hf => ?_)
            refine u_goto (tgt := 48) hC dX10_vote_32 (by decide) ?_
            refine u_sub (lv' := []) [] rfl ?_
            exact wjX10_vote_48 hC n p7 x31   hf hB hR hTo hTp
        · have he : (Sum.inr e7 : MR) = .inl (v', S') := he
          cases he
      · rcases q7 with p7 | e7
        · have he : (Sum.inl (none, p7) : MR) = .inr (k', S') := he
          cases he
        · have he : (Sum.inr e7 : MR) = .inr (k', S') := he
          cases he
          have hf := ks_r hf
          cases hf
          exact hTp _ _ rfl _ _ (Nat.le_of_ble_eq_true rfl) (Nat.le_of_ble_eq_true rfl)
    · have he : (Sum.inr e2 : MR) = .inl (v', S') := he
      cases he
  · rcases q2 with p2 | e2
    · have he : (Sum.inl (none, p2) : MR) = .inr (k', S') := he
      cases he
    · have he : (Sum.inr e2 : MR) = .inr (k', S') := he
      cases he
      have hf := ks_r hf
      cases hf
      exact hTp _ _ rfl _ _ (Nat.le_of_ble_eq_true rfl) (Nat.le_of_ble_eq_true rfl)
theorem ctX10_vote (l : Launch) (hl : l.stackTraces = false) (G : GT) (ρ : Nat → Nat) (Y : XS) (n : Nat) (S : PS) (a0 : Nat) (x1_ : Int32) (x2_ : Int32) (x3_ : Int32) (hTa0 : Ty Y a0 10) {o : (Int32 × PS) ⊕ (Nat × PS)} (hf : fX10_vote Y n S a0 x1_ x2_ x3_ = some o) : Mx l G yX10_vote cX10_vote 5 (some .int) 7 8 48 ρ Y [.ref (ρ a0), .int x1_, .int x2_, .int x3_] S (mrI o) :=
  Mx_of hl (by decide) rfl (by decide) (Nat.le_of_ble_eq_true rfl) (fun C _ _ hC hB hR hTo hTp => wX10_vote hC n S a0 x1_ x2_ x3_ hTa0 hf hB hR hTo hTp)
-- X10_needRule
theorem dX10_needRule_0 : decode cX10_needRule 0 = .ok (.iload_n 0, 1) := by decide +kernel
theorem dX10_needRule_1 : decode cX10_needRule 1 = .ok (.ifCond .lt 9, 3) := by decide +kernel
theorem dX10_needRule_4 : decode cX10_needRule 4 = .ok (.iload_n 0, 1) := by decide +kernel
theorem dX10_needRule_5 : decode cX10_needRule 5 = .ok (.bipush 9, 2) := by decide +kernel
theorem dX10_needRule_7 : decode cX10_needRule 7 = .ok (.if_icmp .lt 14, 3) := by decide +kernel
theorem dX10_needRule_10 : decode cX10_needRule 10 = .ok (.new 185, 3) := by decide +kernel
theorem dX10_needRule_13 : decode cX10_needRule 13 = .ok (.dup, 1) := by decide +kernel
theorem dX10_needRule_14 : decode cX10_needRule 14 = .ok (.ldc_w 315, 3) := by decide +kernel
theorem dX10_needRule_17 : decode cX10_needRule 17 = .ok (.invokespecial 189, 3) := by decide +kernel
theorem dX10_needRule_20 : decode cX10_needRule 20 = .ok (.athrow, 1) := by decide +kernel
theorem dX10_needRule_21 : decode cX10_needRule 21 = .ok (.return_, 1) := by decide +kernel
def jX10_needRule_10 (Y : XS) (n : Nat) (S : PS)  : Option ((PS) ⊕ (Nat × PS)) :=
  some (.inr (1, S))
def fX10_needRule (Y : XS) (n : Nat) (S : PS) (x0_ : Int32) : Option ((PS) ⊕ (Nat × PS)) :=
  (if x0_ < 0 then jX10_needRule_10 Y n S  else (if x0_ < (9 : Int32) then some (.inl S) else jX10_needRule_10 Y n S ))
theorem wjX10_needRule_10 {C : CT} {ρ : Nat → Nat} {Y : XS} (hC : CK C RX10 cX10_needRule 1 none 6) (n : Nat) (S : PS)    {o : (PS) ⊕ (Nat × PS)} (hf : jX10_needRule_10 Y n S  = some o) (hB : XB C (ρ, Y, 0, 0) 1 6) (hR : RtX C ρ Y cX10_needRule none 1 6 (mrV o)) (hTo : ThO C ρ Y cX10_needRule 1 6 (mrV o)) (hTp : ThP C ρ Y 1 6 (mrV o)) : UW C (ρ, Y, 0, 0) S 10 [] [] := by
  unfold jX10_needRule_10 at hf
  cases hf
  exact hTo _ _ rfl (by decide) _ _ (Nat.le_of_ble_eq_true rfl) (Nat.le_of_ble_eq_true rfl) _ _ 12 ⟨by decide, rfl, dX10_needRule_10, dX10_needRule_13, Or.inr ⟨dX10_needRule_14, dX10_needRule_17, dX10_needRule_20⟩⟩
theorem wX10_needRule {C : CT} {ρ : Nat → Nat} {Y : XS} (hC : CK C RX10 cX10_needRule 1 none 6) (n : Nat) (S : PS) (x0_ : Int32)  {o : (PS) ⊕ (Nat × PS)} (hf : fX10_needRule Y n S x0_ = some o) (hB : XB C (ρ, Y, 0, 0) 1 6) (hR : RtX C ρ Y cX10_needRule none 1 6 (mrV o)) (hTo : ThO C ρ Y cX10_needRule 1 6 (mrV o)) (hTp : ThP C ρ Y 1 6 (mrV o)) : UW C (ρ, Y, 0, 0) S 0 [(0, .int x0_)] [] := by
  unfold fX10_needRule at hf
  refine u_iload_n hC dX10_needRule_0 0 rfl rfl ?_
  refine u_if_lt (tgt := 10) hC dX10_needRule_1 (by decide) hf (fun h1 hf => ?_) (fun h1 hf => ?_)
  · refine u_sub (lv' := []) [] rfl ?_
    exact wjX10_needRule_10 hC n S    hf hB hR hTo hTp
  · refine u_iload_n hC dX10_needRule_4 0 rfl rfl ?_
    refine u_bipush (v := (9 : Int32)) hC dX10_needRule_5 (by decide) ?_
    refine u_icmp_lt (tgt := 21) hC dX10_needRule_7 (by decide) hf (fun h7 hf => ?_) (fun h7 hf => ?_)
    · cases hf
      exact hR _ _ rfl _ _ (Nat.le_of_ble_eq_true rfl) (Nat.le_of_ble_eq_true rfl) _ _ dX10_needRule_21 trivial
    · refine u_sub (lv' := []) [] rfl ?_
      exact wjX10_needRule_10 hC n S    hf hB hR hTo hTp
theorem ctX10_needRule (l : Launch) (hl : l.stackTraces = false) (G : GT) (ρ : Nat → Nat) (Y : XS) (n : Nat) (S : PS) (x0_ : Int32)  {o : (PS) ⊕ (Nat × PS)} (hf : fX10_needRule Y n S x0_ = some o) : Mx l G yX10_needRule cX10_needRule 1 none 6 1 6 ρ Y [.int x0_] S (mrV o) :=
  Mx_of hl (by decide) rfl (by decide) (Nat.le_of_ble_eq_true rfl) (fun C _ _ hC hB hR hTo hTp => wX10_needRule hC n S x0_  hf hB hR hTo hTp)
-- X10_isKnown
theorem dX10_isKnown_0 : decode cX10_isKnown 0 = .ok (.aload_n 0, 1) := by decide +kernel
theorem dX10_isKnown_1 : decode cX10_isKnown 1 = .ok (.getfield 33, 3) := by decide +kernel
theorem dX10_isKnown_4 : decode cX10_isKnown 4 = .ok (.iload_n 1, 1) := by decide +kernel
theorem dX10_isKnown_5 : decode cX10_isKnown 5 = .ok (.ishr, 1) := by decide +kernel
theorem dX10_isKnown_6 : decode cX10_isKnown 6 = .ok (.iconst 1, 1) := by decide +kernel
theorem dX10_isKnown_7 : decode cX10_isKnown 7 = .ok (.iand, 1) := by decide +kernel
theorem dX10_isKnown_8 : decode cX10_isKnown 8 = .ok (.ifCond .eq 7, 3) := by decide +kernel
theorem dX10_isKnown_11 : decode cX10_isKnown 11 = .ok (.iconst 1, 1) := by decide +kernel
theorem dX10_isKnown_12 : decode cX10_isKnown 12 = .ok (.goto 4, 3) := by decide +kernel
theorem dX10_isKnown_15 : decode cX10_isKnown 15 = .ok (.iconst 0, 1) := by decide +kernel
theorem dX10_isKnown_16 : decode cX10_isKnown 16 = .ok (.ireturn, 1) := by decide +kernel
def jX10_isKnown_16 (Y : XS) (n : Nat) (S : PS) (t0 : Int32) : Option (Int32) :=
  kzr t0 (some t0)
def fX10_isKnown (Y : XS) (n : Nat) (S : PS) (a0 : Nat) (x1_ : Int32) : Option (Int32) :=
  kgi S a0 4 (fun x1 => (if ((x1 >>> (x1_ &&& 31)) &&& (1 : Int32)) = 0 then jX10_isKnown_16 Y n S (0 : Int32) else jX10_isKnown_16 Y n S (1 : Int32)))
theorem wjX10_isKnown_16 {C : CT} {X : XT} (hC : CK C RX10 cX10_isKnown 2 (some .boolean) 1) (n : Nat) (S : PS) (t0 : Int32)   {o : Int32} (hf : jX10_isKnown_16 X.2.1 n S t0 = some o) (hR : Rt C X cX10_isKnown (some .boolean) (some (.int o)) S) : UW C X S 16 [] [.int t0] := by
  unfold jX10_isKnown_16 at hf
  obtain ⟨hz, hf⟩ := kzr_some hf
  cases hf
  exact hR _ _ dX10_isKnown_16 hz
theorem wX10_isKnown {C : CT} {X : XT} (hC : CK C RX10 cX10_isKnown 2 (some .boolean) 1) (n : Nat) (S : PS) (a0 : Nat) (x1_ : Int32) (hTa0 : Ty X.2.1 a0 10) {o : Int32} (hf : fX10_isKnown X.2.1 n S a0 x1_ = some o) (hR : Rt C X cX10_isKnown (some .boolean) (some (.int o)) S) : UW C X S 0 [(0, .ref (X.1 a0)), (1, .int x1_)] [] := by
  unfold fX10_isKnown at hf
  refine u_aload_n hC dX10_isKnown_0 0 rfl rfl ?_
  refine u_gi hC lf_X10_33 rfl hTa0 dX10_isKnown_1 hf (fun x1 hf => ?_)
  refine u_iload_n hC dX10_isKnown_4 1 rfl rfl ?_
  refine u_ishr hC dX10_isKnown_5 ?_
  refine u_iconst (v := (1 : Int32)) hC dX10_isKnown_6 (by decide) ?_
  refine u_iand hC dX10_isKnown_7 ?_
  refine u_if_eq (tgt := 15) hC dX10_isKnown_8 (by decide) hf (fun h8 hf => ?_) (fun h8 hf => ?_)
  · refine u_iconst (v := (0 : Int32)) hC dX10_isKnown_15 (by decide) ?_
    refine u_sub (lv' := []) [] rfl ?_
    exact wjX10_isKnown_16 hC n S (0 : Int32)   hf hR
  · refine u_iconst (v := (1 : Int32)) hC dX10_isKnown_11 (by decide) ?_
    refine u_goto (tgt := 16) hC dX10_isKnown_12 (by decide) ?_
    refine u_sub (lv' := []) [] rfl ?_
    exact wjX10_isKnown_16 hC n S (1 : Int32)   hf hR
theorem ctX10_isKnown (l : Launch) (hl : l.stackTraces = false) (G : GT) (ρ : Nat → Nat) (Y : XS) (n : Nat) (S : PS) (a0 : Nat) (x1_ : Int32) (hTa0 : Ty Y a0 10) {o : Int32} (hf : fX10_isKnown Y n S a0 x1_ = some o) : Mt l G yX10_isKnown cX10_isKnown 2 (some .boolean) 1 ρ Y [.ref (ρ a0), .int x1_] S (some (.int o)) S :=
  Mt_of hl (by decide) (Nat.le_of_ble_eq_true rfl) (fun C _ _ hC hR => wX10_isKnown (X := (ρ, Y, 0, 0)) hC n S a0 x1_ hTa0 hf hR)
-- X10_result
theorem dX10_result_0 : decode cX10_result 0 = .ok (.aload_n 0, 1) := by decide +kernel
theorem dX10_result_1 : decode cX10_result 1 = .ok (.getfield 29, 3) := by decide +kernel
theorem dX10_result_4 : decode cX10_result 4 = .ok (.iload_n 1, 1) := by decide +kernel
theorem dX10_result_5 : decode cX10_result 5 = .ok (.aaload, 1) := by decide +kernel
theorem dX10_result_6 : decode cX10_result 6 = .ok (.astore_n 2, 1) := by decide +kernel
theorem dX10_result_7 : decode cX10_result 7 = .ok (.iload_n 1, 1) := by decide +kernel
theorem dX10_result_8 : decode cX10_result 8 = .ok (.iconst 1, 1) := by decide +kernel
theorem dX10_result_9 : decode cX10_result 9 = .ok (.if_icmp .eq 8, 3) := by decide +kernel
theorem dX10_result_12 : decode cX10_result 12 = .ok (.iload_n 1, 1) := by decide +kernel
theorem dX10_result_13 : decode cX10_result 13 = .ok (.iconst 3, 1) := by decide +kernel
theorem dX10_result_14 : decode cX10_result 14 = .ok (.if_icmp .ne 9, 3) := by decide +kernel
theorem dX10_result_17 : decode cX10_result 17 = .ok (.iload_n 1, 1) := by decide +kernel
theorem dX10_result_18 : decode cX10_result 18 = .ok (.iconst 1, 1) := by decide +kernel
theorem dX10_result_19 : decode cX10_result 19 = .ok (.isub, 1) := by decide +kernel
theorem dX10_result_20 : decode cX10_result 20 = .ok (.goto 4, 3) := by decide +kernel
theorem dX10_result_23 : decode cX10_result 23 = .ok (.iload_n 1, 1) := by decide +kernel
theorem dX10_result_24 : decode cX10_result 24 = .ok (.istore_n 3, 1) := by decide +kernel
theorem dX10_result_25 : decode cX10_result 25 = .ok (.aload_n 0, 1) := by decide +kernel
theorem dX10_result_26 : decode cX10_result 26 = .ok (.iload_n 3, 1) := by decide +kernel
theorem dX10_result_27 : decode cX10_result 27 = .ok (.invokevirtual 303, 3) := by decide +kernel
theorem dX10_result_30 : decode cX10_result 30 = .ok (.ifCond .ne 33, 3) := by decide +kernel
theorem dX10_result_33 : decode cX10_result 33 = .ok (.aload_n 0, 1) := by decide +kernel
theorem dX10_result_34 : decode cX10_result 34 = .ok (.getfield 47, 3) := by decide +kernel
theorem dX10_result_37 : decode cX10_result 37 = .ok (.iload_n 3, 1) := by decide +kernel
theorem dX10_result_38 : decode cX10_result 38 = .ok (.aload_n 0, 1) := by decide +kernel
theorem dX10_result_39 : decode cX10_result 39 = .ok (.getfield 23, 3) := by decide +kernel
theorem dX10_result_42 : decode cX10_result 42 = .ok (.aload_n 0, 1) := by decide +kernel
theorem dX10_result_43 : decode cX10_result 43 = .ok (.getfield 29, 3) := by decide +kernel
theorem dX10_result_46 : decode cX10_result 46 = .ok (.iload_n 3, 1) := by decide +kernel
theorem dX10_result_47 : decode cX10_result 47 = .ok (.aaload, 1) := by decide +kernel
theorem dX10_result_48 : decode cX10_result 48 = .ok (.invokevirtual 287, 3) := by decide +kernel
theorem dX10_result_51 : decode cX10_result 51 = .ok (.aload_n 0, 1) := by decide +kernel
theorem dX10_result_52 : decode cX10_result 52 = .ok (.dup, 1) := by decide +kernel
theorem dX10_result_53 : decode cX10_result 53 = .ok (.getfield 33, 3) := by decide +kernel
theorem dX10_result_56 : decode cX10_result 56 = .ok (.iconst 1, 1) := by decide +kernel
theorem dX10_result_57 : decode cX10_result 57 = .ok (.iload_n 3, 1) := by decide +kernel
theorem dX10_result_58 : decode cX10_result 58 = .ok (.ishl, 1) := by decide +kernel
theorem dX10_result_59 : decode cX10_result 59 = .ok (.ior, 1) := by decide +kernel
theorem dX10_result_60 : decode cX10_result 60 = .ok (.putfield 33, 3) := by decide +kernel
theorem dX10_result_63 : decode cX10_result 63 = .ok (.aload_n 0, 1) := by decide +kernel
theorem dX10_result_64 : decode cX10_result 64 = .ok (.iload_n 1, 1) := by decide +kernel
theorem dX10_result_65 : decode cX10_result 65 = .ok (.invokevirtual 303, 3) := by decide +kernel
theorem dX10_result_68 : decode cX10_result 68 = .ok (.ifCond .ne 38, 3) := by decide +kernel
theorem dX10_result_71 : decode cX10_result 71 = .ok (.aload_n 2, 1) := by decide +kernel
theorem dX10_result_72 : decode cX10_result 72 = .ok (.aload_n 0, 1) := by decide +kernel
theorem dX10_result_73 : decode cX10_result 73 = .ok (.getfield 29, 3) := by decide +kernel
theorem dX10_result_76 : decode cX10_result 76 = .ok (.iload_n 3, 1) := by decide +kernel
theorem dX10_result_77 : decode cX10_result 77 = .ok (.aaload, 1) := by decide +kernel
theorem dX10_result_78 : decode cX10_result 78 = .ok (.invokevirtual 306, 3) := by decide +kernel
theorem dX10_result_81 : decode cX10_result 81 = .ok (.aload_n 0, 1) := by decide +kernel
theorem dX10_result_82 : decode cX10_result 82 = .ok (.getfield 47, 3) := by decide +kernel
theorem dX10_result_85 : decode cX10_result 85 = .ok (.aload_n 0, 1) := by decide +kernel
theorem dX10_result_86 : decode cX10_result 86 = .ok (.getfield 23, 3) := by decide +kernel
theorem dX10_result_89 : decode cX10_result 89 = .ok (.aload_n 2, 1) := by decide +kernel
theorem dX10_result_90 : decode cX10_result 90 = .ok (.iconst 0, 1) := by decide +kernel
theorem dX10_result_91 : decode cX10_result 91 = .ok (.invokevirtual 309, 3) := by decide +kernel
theorem dX10_result_94 : decode cX10_result 94 = .ok (.aload_n 0, 1) := by decide +kernel
theorem dX10_result_95 : decode cX10_result 95 = .ok (.dup, 1) := by decide +kernel
theorem dX10_result_96 : decode cX10_result 96 = .ok (.getfield 33, 3) := by decide +kernel
theorem dX10_result_99 : decode cX10_result 99 = .ok (.iconst 1, 1) := by decide +kernel
theorem dX10_result_100 : decode cX10_result 100 = .ok (.iload_n 1, 1) := by decide +kernel
theorem dX10_result_101 : decode cX10_result 101 = .ok (.ishl, 1) := by decide +kernel
theorem dX10_result_102 : decode cX10_result 102 = .ok (.ior, 1) := by decide +kernel
theorem dX10_result_103 : decode cX10_result 103 = .ok (.putfield 33, 3) := by decide +kernel
theorem dX10_result_106 : decode cX10_result 106 = .ok (.aload_n 2, 1) := by decide +kernel
theorem dX10_result_107 : decode cX10_result 107 = .ok (.areturn, 1) := by decide +kernel
def jX10_result_106 (Y : XS) (n : Nat) (S : PS) (v2 : Nat) : Option (Nat × PS) :=
  some (v2, S)
def jX10_result_63 (Y : XS) (n : Nat) (S : PS) (v0 : Nat) (v1 : Int32) (v2 : Nat) (v3 : Int32) : Option (Nat × PS) :=
  kc (fX10_isKnown Y n S v0 v1) (fun q65 => (if q65 = 0 then kgr S v0 3 (fun b73 => kar Y S b73 v3 (fun b77 => kc (fX5_copyFrom Y n S v2 b77) (fun q78 => kgr q78 v0 7 (fun b82 => kgr q78 v0 2 (fun b86 => kc (fX0_fillUp Y n q78 b82 b86 v2 (0 : Int32)) (fun q91 => kgi q91 v0 4 (fun x96 => kpi q91 v0 4 (x96 ||| ((1 : Int32) <<< (v1 &&& 31))) (fun S103 => jX10_result_106 Y n S103 v2)))))))) else jX10_result_106 Y n S v2))
def jX10_result_24 (Y : XS) (n : Nat) (S : PS) (v0 : Nat) (v1 : Int32) (v2 : Nat) (t0 : Int32) : Option (Nat × PS) :=
  kc (fX10_isKnown Y n S v0 t0) (fun q27 => (if q27 = 0 then kgr S v0 7 (fun b34 => kgr S v0 2 (fun b39 => kgr S v0 3 (fun b43 => kar Y S b43 t0 (fun b47 => kc (fX0_choose Y n S b34 t0 b39 b47) (fun q48 => kgi q48 v0 4 (fun x53 => kpi q48 v0 4 (x53 ||| ((1 : Int32) <<< (t0 &&& 31))) (fun S60 => jX10_result_63 Y n S60 v0 v1 v2 t0))))))) else jX10_result_63 Y n S v0 v1 v2 t0))
def jX10_result_17 (Y : XS) (n : Nat) (S : PS) (v0 : Nat) (v1 : Int32) (v2 : Nat) : Option (Nat × PS) :=
  jX10_result_24 Y n S v0 v1 v2 (v1 - (1 : Int32))
def fX10_result (Y : XS) (n : Nat) (S : PS) (a0 : Nat) (x1_ : Int32) : Option (Nat × PS) :=
  kgr S a0 3 (fun b1 => kar Y S b1 x1_ (fun b5 => (if x1_ = (1 : Int32) then jX10_result_17 Y n S a0 x1_ b5 else (if x1_ = (3 : Int32) then jX10_result_17 Y n S a0 x1_ b5 else jX10_result_24 Y n S a0 x1_ b5 x1_))))
theorem wjX10_result_106 {C : CT} {X : XT} (hC : CK C RX10 cX10_result 4 (some (.object "SharedPurse$Outcome")) 6) (n : Nat) (S : PS) (v2 : Nat)  (hTv2 : Ty X.2.1 v2 5) {o : Nat × PS} (hf : jX10_result_106 X.2.1 n S v2 = some o) (hR : Rt C X cX10_result (some (.object "SharedPurse$Outcome")) (some (.ref (X.1 o.1))) o.2) : UW C X S 106 [(2, .ref (X.1 v2))] [] := by
  unfold jX10_result_106 at hf
  refine u_aload_n hC dX10_result_106 0 rfl rfl ?_
  cases hf
  exact hR _ _ dX10_result_107 trivial
theorem wjX10_result_63 {C : CT} {X : XT} (hC : CK C RX10 cX10_result 4 (some (.object "SharedPurse$Outcome")) 6) (n : Nat) (S : PS) (v0 : Nat) (v1 : Int32) (v2 : Nat) (v3 : Int32)  (hTv0 : Ty X.2.1 v0 10) (hTv2 : Ty X.2.1 v2 5) {o : Nat × PS} (hf : jX10_result_63 X.2.1 n S v0 v1 v2 v3 = some o) (hR : Rt C X cX10_result (some (.object "SharedPurse$Outcome")) (some (.ref (X.1 o.1))) o.2) : UW C X S 63 [(0, .ref (X.1 v0)), (1, .int v1), (2, .ref (X.1 v2)), (3, .int v3)] [] := by
  unfold jX10_result_63 at hf
  refine u_aload_n hC dX10_result_63 0 rfl rfl ?_
  refine u_iload_n hC dX10_result_64 1 rfl rfl ?_
  obtain ⟨q65, hq65, hf⟩ := kc_some hf
  refine u_callV hC (ctX10_isKnown (cL C) hC.tr (cG C) X.1 X.2.1 n S v0 v1 hTv0 hq65) lk_X10_303 rfl hTv0 (by decide) rfl (by decide) (by decide) rfl rfl (Nat.le_of_ble_eq_true rfl) dX10_result_65 ?_
  refine u_if_ne (tgt := 106) hC dX10_result_68 (by decide) hf (fun h68 hf => ?_) (fun h68 hf => ?_)
  · refine u_sub (lv' := [(2, .ref (X.1 v2))]) [2] rfl ?_
    exact wjX10_result_106 hC n S v2  hTv2 hf hR
  · refine u_aload_n hC dX10_result_71 2 rfl rfl ?_
    refine u_aload_n hC dX10_result_72 0 rfl rfl ?_
    refine u_gr hC lf_X10_29 rfl hTv0 dX10_result_73 hf (fun b73 hTb73 hf => ?_)
    refine u_iload_n hC dX10_result_76 3 rfl rfl ?_
    refine u_ar hC (Or.inr ⟨rfl, rfl⟩) hTb73 dX10_result_77 hf (fun b77 hTb77 hf => ?_)
    obtain ⟨q78, hq78, hf⟩ := kc_some hf
    refine u_callV hC (ctX5_copyFrom (cL C) hC.tr (cG C) X.1 X.2.1 n S v2 b77 hTv2 hTb77 hq78) lk_X10_306 rfl hTv2 (by decide) rfl (by decide) (by decide) rfl rfl (Nat.le_of_ble_eq_true rfl) dX10_result_78 ?_
    refine u_aload_n hC dX10_result_81 0 rfl rfl ?_
    refine u_gr hC lf_X10_47 rfl hTv0 dX10_result_82 hf (fun b82 hTb82 hf => ?_)
    refine u_aload_n hC dX10_result_85 0 rfl rfl ?_
    refine u_gr hC lf_X10_23 rfl hTv0 dX10_result_86 hf (fun b86 hTb86 hf => ?_)
    refine u_aload_n hC dX10_result_89 2 rfl rfl ?_
    refine u_iconst (v := (0 : Int32)) hC dX10_result_90 (by decide) ?_
    obtain ⟨q91, hq91, hf⟩ := kc_some hf
    refine u_callV hC (ctX0_fillUp (cL C) hC.tr (cG C) X.1 X.2.1 n q78 b82 b86 v2 (0 : Int32) hTb82 hTb86 hTv2 hq91) lk_X10_309 rfl hTb82 (by decide) rfl (by decide) (by decide) rfl rfl (Nat.le_of_ble_eq_true rfl) dX10_result_91 ?_
    refine u_aload_n hC dX10_result_94 0 rfl rfl ?_
    refine u_dup hC dX10_result_95 rfl ?_
    refine u_gi hC lf_X10_33 rfl hTv0 dX10_result_96 hf (fun x96 hf => ?_)
    refine u_iconst (v := (1 : Int32)) hC dX10_result_99 (by decide) ?_
    refine u_iload_n hC dX10_result_100 1 rfl rfl ?_
    refine u_ishl hC dX10_result_101 ?_
    refine u_ior hC dX10_result_102 ?_
    refine u_pi hC lf_X10_33 rfl rfl rfl hTv0 dX10_result_103 hf (fun S103 hf => ?_)
    refine u_sub (lv' := [(2, .ref (X.1 v2))]) [2] rfl ?_
    exact wjX10_result_106 hC n S103 v2  hTv2 hf hR
theorem wjX10_result_24 {C : CT} {X : XT} (hC : CK C RX10 cX10_result 4 (some (.object "SharedPurse$Outcome")) 6) (n : Nat) (S : PS) (v0 : Nat) (v1 : Int32) (v2 : Nat) (t0 : Int32)  (hTv0 : Ty X.2.1 v0 10) (hTv2 : Ty X.2.1 v2 5) {o : Nat × PS} (hf : jX10_result_24 X.2.1 n S v0 v1 v2 t0 = some o) (hR : Rt C X cX10_result (some (.object "SharedPurse$Outcome")) (some (.ref (X.1 o.1))) o.2) : UW C X S 24 [(0, .ref (X.1 v0)), (1, .int v1), (2, .ref (X.1 v2))] [.int t0] := by
  unfold jX10_result_24 at hf
  refine u_istore_n (lv' := [(3, .int t0), (0, .ref (X.1 v0)), (1, .int v1), (2, .ref (X.1 v2))]) hC dX10_result_24 rfl (by decide) rfl ?_
  refine u_aload_n hC dX10_result_25 1 rfl rfl ?_
  refine u_iload_n hC dX10_result_26 0 rfl rfl ?_
  obtain ⟨q27, hq27, hf⟩ := kc_some hf
  refine u_callV hC (ctX10_isKnown (cL C) hC.tr (cG C) X.1 X.2.1 n S v0 t0 hTv0 hq27) lk_X10_303 rfl hTv0 (by decide) rfl (by decide) (by decide) rfl rfl (Nat.le_of_ble_eq_true rfl) dX10_result_27 ?_
  refine u_if_ne (tgt := 63) hC dX10_result_30 (by decide) hf (fun h30 hf => ?_) (fun h30 hf => ?_)
  · refine u_sub (lv' := [(0, .ref (X.1 v0)), (1, .int v1), (2, .ref (X.1 v2)), (3, .int t0)]) [1, 2, 3, 0] rfl ?_
    exact wjX10_result_63 hC n S v0 v1 v2 t0  hTv0 hTv2 hf hR
  · refine u_aload_n hC dX10_result_33 1 rfl rfl ?_
    refine u_gr hC lf_X10_47 rfl hTv0 dX10_result_34 hf (fun b34 hTb34 hf => ?_)
    refine u_iload_n hC dX10_result_37 0 rfl rfl ?_
    refine u_aload_n hC dX10_result_38 1 rfl rfl ?_
    refine u_gr hC lf_X10_23 rfl hTv0 dX10_result_39 hf (fun b39 hTb39 hf => ?_)
    refine u_aload_n hC dX10_result_42 1 rfl rfl ?_
    refine u_gr hC lf_X10_29 rfl hTv0 dX10_result_43 hf (fun b43 hTb43 hf => ?_)
    refine u_iload_n hC dX10_result_46 0 rfl rfl ?_
    refine u_ar hC (Or.inr ⟨rfl, rfl⟩) hTb43 dX10_result_47 hf (fun b47 hTb47 hf => ?_)
    obtain ⟨q48, hq48, hf⟩ := kc_some hf
    refine u_callV hC (ctX0_choose (cL C) hC.tr (cG C) X.1 X.2.1 n S b34 t0 b39 b47 hTb34 hTb39 hTb47 hq48) lk_X10_287 rfl hTb34 (by decide) rfl (by decide) (by decide) rfl rfl (Nat.le_of_ble_eq_true rfl) dX10_result_48 ?_
    refine u_aload_n hC dX10_result_51 1 rfl rfl ?_
    refine u_dup hC dX10_result_52 rfl ?_
    refine u_gi hC lf_X10_33 rfl hTv0 dX10_result_53 hf (fun x53 hf => ?_)
    refine u_iconst (v := (1 : Int32)) hC dX10_result_56 (by decide) ?_
    refine u_iload_n hC dX10_result_57 0 rfl rfl ?_
    refine u_ishl hC dX10_result_58 ?_
    refine u_ior hC dX10_result_59 ?_
    refine u_pi hC lf_X10_33 rfl rfl rfl hTv0 dX10_result_60 hf (fun S60 hf => ?_)
    refine u_sub (lv' := [(0, .ref (X.1 v0)), (1, .int v1), (2, .ref (X.1 v2)), (3, .int t0)]) [1, 2, 3, 0] rfl ?_
    exact wjX10_result_63 hC n S60 v0 v1 v2 t0  hTv0 hTv2 hf hR
theorem wjX10_result_17 {C : CT} {X : XT} (hC : CK C RX10 cX10_result 4 (some (.object "SharedPurse$Outcome")) 6) (n : Nat) (S : PS) (v0 : Nat) (v1 : Int32) (v2 : Nat)  (hTv0 : Ty X.2.1 v0 10) (hTv2 : Ty X.2.1 v2 5) {o : Nat × PS} (hf : jX10_result_17 X.2.1 n S v0 v1 v2 = some o) (hR : Rt C X cX10_result (some (.object "SharedPurse$Outcome")) (some (.ref (X.1 o.1))) o.2) : UW C X S 17 [(0, .ref (X.1 v0)), (1, .int v1), (2, .ref (X.1 v2))] [] := by
  unfold jX10_result_17 at hf
  refine u_iload_n hC dX10_result_17 1 rfl rfl ?_
  refine u_iconst (v := (1 : Int32)) hC dX10_result_18 (by decide) ?_
  refine u_isub hC dX10_result_19 ?_
  refine u_goto (tgt := 24) hC dX10_result_20 (by decide) ?_
  exact wjX10_result_24 hC n S v0 v1 v2 (v1 - (1 : Int32))  hTv0 hTv2 hf hR
theorem wX10_result {C : CT} {X : XT} (hC : CK C RX10 cX10_result 4 (some (.object "SharedPurse$Outcome")) 6) (n : Nat) (S : PS) (a0 : Nat) (x1_ : Int32) (hTa0 : Ty X.2.1 a0 10) {o : Nat × PS} (hf : fX10_result X.2.1 n S a0 x1_ = some o) (hR : Rt C X cX10_result (some (.object "SharedPurse$Outcome")) (some (.ref (X.1 o.1))) o.2) : UW C X S 0 [(0, .ref (X.1 a0)), (1, .int x1_)] [] := by
  unfold fX10_result at hf
  refine u_aload_n hC dX10_result_0 0 rfl rfl ?_
  refine u_gr hC lf_X10_29 rfl hTa0 dX10_result_1 hf (fun b1 hTb1 hf => ?_)
  refine u_iload_n hC dX10_result_4 1 rfl rfl ?_
  refine u_ar hC (Or.inr ⟨rfl, rfl⟩) hTb1 dX10_result_5 hf (fun b5 hTb5 hf => ?_)
  refine u_astore_n (lv' := [(2, .ref (X.1 b5)), (0, .ref (X.1 a0)), (1, .int x1_)]) hC dX10_result_6 rfl (by decide) rfl ?_
  refine u_iload_n hC dX10_result_7 2 rfl rfl ?_
  refine u_iconst (v := (1 : Int32)) hC dX10_result_8 (by decide) ?_
  refine u_icmp_eq (tgt := 17) hC dX10_result_9 (by decide) hf (fun h9 hf => ?_) (fun h9 hf => ?_)
  · refine u_sub (lv' := [(0, .ref (X.1 a0)), (1, .int x1_), (2, .ref (X.1 b5))]) [1, 2, 0] rfl ?_
    exact wjX10_result_17 hC n S a0 x1_ b5  hTa0 hTb5 hf hR
  · refine u_iload_n hC dX10_result_12 2 rfl rfl ?_
    refine u_iconst (v := (3 : Int32)) hC dX10_result_13 (by decide) ?_
    refine u_icmp_ne (tgt := 23) hC dX10_result_14 (by decide) hf (fun h14 hf => ?_) (fun h14 hf => ?_)
    · refine u_iload_n hC dX10_result_23 2 rfl rfl ?_
      refine u_sub (lv' := [(0, .ref (X.1 a0)), (1, .int x1_), (2, .ref (X.1 b5))]) [1, 2, 0] rfl ?_
      exact wjX10_result_24 hC n S a0 x1_ b5 x1_  hTa0 hTb5 hf hR
    · refine u_sub (lv' := [(0, .ref (X.1 a0)), (1, .int x1_), (2, .ref (X.1 b5))]) [1, 2, 0] rfl ?_
      exact wjX10_result_17 hC n S a0 x1_ b5  hTa0 hTb5 hf hR
theorem ctX10_result (l : Launch) (hl : l.stackTraces = false) (G : GT) (ρ : Nat → Nat) (Y : XS) (n : Nat) (S : PS) (a0 : Nat) (x1_ : Int32) (hTa0 : Ty Y a0 10) {o : Nat × PS} (hf : fX10_result Y n S a0 x1_ = some o) : Mt l G yX10_result cX10_result 4 (some (.object "SharedPurse$Outcome")) 6 ρ Y [.ref (ρ a0), .int x1_] S (some (.ref (ρ o.1))) o.2 :=
  Mt_of hl (by decide) (Nat.le_of_ble_eq_true rfl) (fun C _ _ hC hR => wX10_result (X := (ρ, Y, 0, 0)) hC n S a0 x1_ hTa0 hf hR)
-- X10_outcome
theorem dX10_outcome_0 : decode cX10_outcome 0 = .ok (.iload_n 1, 1) := by decide +kernel
theorem dX10_outcome_1 : decode cX10_outcome 1 = .ok (.invokestatic 159, 3) := by decide +kernel
theorem dX10_outcome_4 : decode cX10_outcome 4 = .ok (.iload_n 2, 1) := by decide +kernel
theorem dX10_outcome_5 : decode cX10_outcome 5 = .ok (.bipush 6, 2) := by decide +kernel
theorem dX10_outcome_7 : decode cX10_outcome 7 = .ok (.invokestatic 117, 3) := by decide +kernel
theorem dX10_outcome_10 : decode cX10_outcome 10 = .ok (.aload_n 0, 1) := by decide +kernel
theorem dX10_outcome_11 : decode cX10_outcome 11 = .ok (.iload_n 1, 1) := by decide +kernel
theorem dX10_outcome_12 : decode cX10_outcome 12 = .ok (.invokevirtual 162, 3) := by decide +kernel
theorem dX10_outcome_15 : decode cX10_outcome 15 = .ok (.astore_n 3, 1) := by decide +kernel
theorem dX10_outcome_16 : decode cX10_outcome 16 = .ok (.iload_n 2, 1) := by decide +kernel
theorem dX10_outcome_17 : decode cX10_outcome 17 = .ok (.tableswitch 90 0 5 #[39, 44, 49, 54, 66, 78], 39) := by decide +kernel
theorem dX10_outcome_56 : decode cX10_outcome 56 = .ok (.aload_n 3, 1) := by decide +kernel
theorem dX10_outcome_57 : decode cX10_outcome 57 = .ok (.getfield 166, 3) := by decide +kernel
theorem dX10_outcome_60 : decode cX10_outcome 60 = .ok (.ireturn, 1) := by decide +kernel
theorem dX10_outcome_61 : decode cX10_outcome 61 = .ok (.aload_n 3, 1) := by decide +kernel
theorem dX10_outcome_62 : decode cX10_outcome 62 = .ok (.getfield 169, 3) := by decide +kernel
theorem dX10_outcome_65 : decode cX10_outcome 65 = .ok (.ireturn, 1) := by decide +kernel
theorem dX10_outcome_66 : decode cX10_outcome 66 = .ok (.aload_n 3, 1) := by decide +kernel
theorem dX10_outcome_67 : decode cX10_outcome 67 = .ok (.getfield 170, 3) := by decide +kernel
theorem dX10_outcome_70 : decode cX10_outcome 70 = .ok (.ireturn, 1) := by decide +kernel
theorem dX10_outcome_71 : decode cX10_outcome 71 = .ok (.aload_n 0, 1) := by decide +kernel
theorem dX10_outcome_72 : decode cX10_outcome 72 = .ok (.getfield 23, 3) := by decide +kernel
theorem dX10_outcome_75 : decode cX10_outcome 75 = .ok (.aload_n 3, 1) := by decide +kernel
theorem dX10_outcome_76 : decode cX10_outcome 76 = .ok (.getfield 166, 3) := by decide +kernel
theorem dX10_outcome_79 : decode cX10_outcome 79 = .ok (.invokevirtual 173, 3) := by decide +kernel
theorem dX10_outcome_82 : decode cX10_outcome 82 = .ok (.ireturn, 1) := by decide +kernel
theorem dX10_outcome_83 : decode cX10_outcome 83 = .ok (.aload_n 0, 1) := by decide +kernel
theorem dX10_outcome_84 : decode cX10_outcome 84 = .ok (.getfield 23, 3) := by decide +kernel
theorem dX10_outcome_87 : decode cX10_outcome 87 = .ok (.aload_n 3, 1) := by decide +kernel
theorem dX10_outcome_88 : decode cX10_outcome 88 = .ok (.getfield 166, 3) := by decide +kernel
theorem dX10_outcome_91 : decode cX10_outcome 91 = .ok (.invokevirtual 176, 3) := by decide +kernel
theorem dX10_outcome_94 : decode cX10_outcome 94 = .ok (.ireturn, 1) := by decide +kernel
theorem dX10_outcome_95 : decode cX10_outcome 95 = .ok (.aload_n 0, 1) := by decide +kernel
theorem dX10_outcome_96 : decode cX10_outcome 96 = .ok (.getfield 23, 3) := by decide +kernel
theorem dX10_outcome_99 : decode cX10_outcome 99 = .ok (.aload_n 3, 1) := by decide +kernel
theorem dX10_outcome_100 : decode cX10_outcome 100 = .ok (.getfield 166, 3) := by decide +kernel
theorem dX10_outcome_103 : decode cX10_outcome 103 = .ok (.invokevirtual 179, 3) := by decide +kernel
theorem dX10_outcome_106 : decode cX10_outcome 106 = .ok (.ireturn, 1) := by decide +kernel
theorem dX10_outcome_107 : decode cX10_outcome 107 = .ok (.aload_n 3, 1) := by decide +kernel
theorem dX10_outcome_108 : decode cX10_outcome 108 = .ok (.getfield 182, 3) := by decide +kernel
theorem dX10_outcome_111 : decode cX10_outcome 111 = .ok (.ireturn, 1) := by decide +kernel
def fX10_outcome (Y : XS) (n : Nat) (S : PS) (a0 : Nat) (x1_ : Int32) (x2_ : Int32) : Option ((Int32 × PS) ⊕ (Nat × PS)) :=
  kc (fX10_needRule Y n S x1_) (fun q1 => ks q1 (fun p1 => kc (fX10_needWhat Y n p1 x2_ (6 : Int32)) (fun q7 => ks q7 (fun p7 => kc (fX10_result Y n p7 a0 x1_) (fun q12 => kty Y q12.1 5 ((if x2_ = (0 : Int32) then kgi q12.2 q12.1 2 (fun x57 => some (.inl (x57, q12.2))) else (if x2_ = (1 : Int32) then kgi q12.2 q12.1 1 (fun x62 => some (.inl (x62, q12.2))) else (if x2_ = (2 : Int32) then kgi q12.2 q12.1 3 (fun x67 => some (.inl (x67, q12.2))) else (if x2_ = (3 : Int32) then kgr q12.2 a0 2 (fun b72 => kgi q12.2 q12.1 2 (fun x76 => kc (fX6_worthToAll Y n q12.2 b72 x76) (fun q79 => some (.inl (q79, q12.2))))) else (if x2_ = (4 : Int32) then kgr q12.2 a0 2 (fun b84 => kgi q12.2 q12.1 2 (fun x88 => kc (fX6_worthToWorst Y n q12.2 b84 x88) (fun q91 => some (.inl (q91, q12.2))))) else (if x2_ = (5 : Int32) then kgr q12.2 a0 2 (fun b96 => kgi q12.2 q12.1 2 (fun x100 => kc (fX6_unserved Y n q12.2 b96 x100) (fun q103 => some (.inl (q103, q12.2))))) else kgi q12.2 q12.1 4 (fun x108 => some (.inl (x108, q12.2)))))))))))) (fun e7 => some (.inr e7)))) (fun e1 => some (.inr e1)))
theorem wX10_outcome {C : CT} {ρ : Nat → Nat} {Y : XS} (hC : CK C RX10 cX10_outcome 4 (some .int) 7) (n : Nat) (S : PS) (a0 : Nat) (x1_ : Int32) (x2_ : Int32) (hTa0 : Ty Y a0 10) {o : (Int32 × PS) ⊕ (Nat × PS)} (hf : fX10_outcome Y n S a0 x1_ x2_ = some o) (hB : XB C (ρ, Y, 0, 0) 8 48) (hR : RtX C ρ Y cX10_outcome (some .int) 8 48 (mrI o)) (hTo : ThO C ρ Y cX10_outcome 8 48 (mrI o)) (hTp : ThP C ρ Y 8 48 (mrI o)) : UW C (ρ, Y, 0, 0) S 0 [(0, .ref (ρ a0)), (1, .int x1_), (2, .int x2_)] [] := by
  unfold fX10_outcome at hf
  refine u_iload_n hC dX10_outcome_0 1 rfl rfl ?_
  obtain ⟨q1, hq1, hf⟩ := kc_some hf
  refine u_callSX hC (ctX10_needRule (cL C) hC.tr (cG C) ρ Y n S x1_  hq1) (hB.at (Nat.le_of_ble_eq_true rfl) (Nat.le_of_ble_eq_true rfl)) lk_X10_159 (by decide) (by decide) rfl rfl (Nat.le_of_ble_eq_true rfl) dX10_outcome_1 (fun v' S' he => ?_) (fun k' S' he => ?_)
  · rcases q1 with p1 | e1
    · have he : (Sum.inl (none, p1) : MR) = .inl (v', S') := he
      obtain ⟨hv9, hS9⟩ : none = v' ∧ p1 = S' := by cases he; exact ⟨rfl, rfl⟩
      subst hv9
      subst hS9
      have hf := ks_l hf
      refine u_iload_n hC dX10_outcome_4 2 rfl rfl ?_
      refine u_bipush (v := (6 : Int32)) hC dX10_outcome_5 (by decide) ?_
      obtain ⟨q7, hq7, hf⟩ := kc_some hf
      refine u_callSX hC (ctX10_needWhat (cL C) hC.tr (cG C) ρ Y n p1 x2_ (6 : Int32)  hq7) (hB.at (Nat.le_of_ble_eq_true rfl) (Nat.le_of_ble_eq_true rfl)) lk_X10_117 (by decide) (by decide) rfl rfl (Nat.le_of_ble_eq_true rfl) dX10_outcome_7 (fun v' S' he => ?_) (fun k' S' he => ?_)
      · rcases q7 with p7 | e7
        · have he : (Sum.inl (none, p7) : MR) = .inl (v', S') := he
          obtain ⟨hv9, hS9⟩ : none = v' ∧ p7 = S' := by cases he; exact ⟨rfl, rfl⟩
          subst hv9
          subst hS9
          have hf := ks_l hf
          refine u_aload_n hC dX10_outcome_10 0 rfl rfl ?_
          refine u_iload_n hC dX10_outcome_11 1 rfl rfl ?_
          obtain ⟨q12, hq12, hf⟩ := kc_some hf
          refine u_callV hC (ctX10_result (cL C) hC.tr (cG C) ρ Y n p7 a0 x1_ hTa0 hq12) lk_X10_162 rfl hTa0 (by decide) rfl (by decide) (by decide) rfl rfl (Nat.le_of_ble_eq_true rfl) dX10_outcome_12 ?_
          obtain ⟨hq12T, hf⟩ := kty_some hf
          refine u_astore_n (lv' := [(3, .ref (ρ q12.1)), (0, .ref (ρ a0)), (1, .int x1_), (2, .int x2_)]) hC dX10_outcome_15 rfl (by decide) rfl ?_
          refine u_iload_n hC dX10_outcome_16 3 rfl rfl ?_
          by_cases hs17_0 : x2_ = (0 : Int32)
          · rw [if_pos hs17_0] at hf
            refine u_tin (tgt := 56) hC dX10_outcome_17 (by rw [hs17_0]; decide) (by rw [hs17_0]; decide) (by rw [hs17_0]; rfl) (by decide) ?_
            refine u_aload_n hC dX10_outcome_56 0 rfl rfl ?_
            refine u_gi hC lf_X10_166 rfl hq12T dX10_outcome_57 hf (fun x57 hf => ?_)
            cases hf
            exact hR _ _ rfl _ _ (Nat.le_of_ble_eq_true rfl) (Nat.le_of_ble_eq_true rfl) _ _ dX10_outcome_60 trivial
          rw [if_neg hs17_0] at hf
          by_cases hs17_1 : x2_ = (1 : Int32)
          · rw [if_pos hs17_1] at hf
            refine u_tin (tgt := 61) hC dX10_outcome_17 (by rw [hs17_1]; decide) (by rw [hs17_1]; decide) (by rw [hs17_1]; rfl) (by decide) ?_
            refine u_aload_n hC dX10_outcome_61 0 rfl rfl ?_
            refine u_gi hC lf_X10_169 rfl hq12T dX10_outcome_62 hf (fun x62 hf => ?_)
            cases hf
            exact hR _ _ rfl _ _ (Nat.le_of_ble_eq_true rfl) (Nat.le_of_ble_eq_true rfl) _ _ dX10_outcome_65 trivial
          rw [if_neg hs17_1] at hf
          by_cases hs17_2 : x2_ = (2 : Int32)
          · rw [if_pos hs17_2] at hf
            refine u_tin (tgt := 66) hC dX10_outcome_17 (by rw [hs17_2]; decide) (by rw [hs17_2]; decide) (by rw [hs17_2]; rfl) (by decide) ?_
            refine u_aload_n hC dX10_outcome_66 0 rfl rfl ?_
            refine u_gi hC lf_X10_170 rfl hq12T dX10_outcome_67 hf (fun x67 hf => ?_)
            cases hf
            exact hR _ _ rfl _ _ (Nat.le_of_ble_eq_true rfl) (Nat.le_of_ble_eq_true rfl) _ _ dX10_outcome_70 trivial
          rw [if_neg hs17_2] at hf
          by_cases hs17_3 : x2_ = (3 : Int32)
          · rw [if_pos hs17_3] at hf
            refine u_tin (tgt := 71) hC dX10_outcome_17 (by rw [hs17_3]; decide) (by rw [hs17_3]; decide) (by rw [hs17_3]; rfl) (by decide) ?_
            refine u_aload_n hC dX10_outcome_71 1 rfl rfl ?_
            refine u_gr hC lf_X10_23 rfl hTa0 dX10_outcome_72 hf (fun b72 hTb72 hf => ?_)
            refine u_aload_n hC dX10_outcome_75 0 rfl rfl ?_
            refine u_gi hC lf_X10_166 rfl hq12T dX10_outcome_76 hf (fun x76 hf => ?_)
            obtain ⟨q79, hq79, hf⟩ := kc_some hf
            refine u_callV hC (ctX6_worthToAll (cL C) hC.tr (cG C) ρ Y n q12.2 b72 x76 hTb72 hq79) lk_X10_173 rfl hTb72 (by decide) rfl (by decide) (by decide) rfl rfl (Nat.le_of_ble_eq_true rfl) dX10_outcome_79 ?_
            cases hf
            exact hR _ _ rfl _ _ (Nat.le_of_ble_eq_true rfl) (Nat.le_of_ble_eq_true rfl) _ _ dX10_outcome_82 trivial
          rw [if_neg hs17_3] at hf
          by_cases hs17_4 : x2_ = (4 : Int32)
          · rw [if_pos hs17_4] at hf
            refine u_tin (tgt := 83) hC dX10_outcome_17 (by rw [hs17_4]; decide) (by rw [hs17_4]; decide) (by rw [hs17_4]; rfl) (by decide) ?_
            refine u_aload_n hC dX10_outcome_83 1 rfl rfl ?_
            refine u_gr hC lf_X10_23 rfl hTa0 dX10_outcome_84 hf (fun b84 hTb84 hf => ?_)
            refine u_aload_n hC dX10_outcome_87 0 rfl rfl ?_
            refine u_gi hC lf_X10_166 rfl hq12T dX10_outcome_88 hf (fun x88 hf => ?_)
            obtain ⟨q91, hq91, hf⟩ := kc_some hf
            refine u_callV hC (ctX6_worthToWorst (cL C) hC.tr (cG C) ρ Y n q12.2 b84 x88 hTb84 hq91) lk_X10_176 rfl hTb84 (by decide) rfl (by decide) (by decide) rfl rfl (Nat.le_of_ble_eq_true rfl) dX10_outcome_91 ?_
            cases hf
            exact hR _ _ rfl _ _ (Nat.le_of_ble_eq_true rfl) (Nat.le_of_ble_eq_true rfl) _ _ dX10_outcome_94 trivial
          rw [if_neg hs17_4] at hf
          by_cases hs17_5 : x2_ = (5 : Int32)
          · rw [if_pos hs17_5] at hf
            refine u_tin (tgt := 95) hC dX10_outcome_17 (by rw [hs17_5]; decide) (by rw [hs17_5]; decide) (by rw [hs17_5]; rfl) (by decide) ?_
            refine u_aload_n hC dX10_outcome_95 1 rfl rfl ?_
            refine u_gr hC lf_X10_23 rfl hTa0 dX10_outcome_96 hf (fun b96 hTb96 hf => ?_)
            refine u_aload_n hC dX10_outcome_99 0 rfl rfl ?_
            refine u_gi hC lf_X10_166 rfl hq12T dX10_outcome_100 hf (fun x100 hf => ?_)
            obtain ⟨q103, hq103, hf⟩ := kc_some hf
            refine u_callV hC (ctX6_unserved (cL C) hC.tr (cG C) ρ Y n q12.2 b96 x100 hTb96 hq103) lk_X10_179 rfl hTb96 (by decide) rfl (by decide) (by decide) rfl rfl (Nat.le_of_ble_eq_true rfl) dX10_outcome_103 ?_
            cases hf
            exact hR _ _ rfl _ _ (Nat.le_of_ble_eq_true rfl) (Nat.le_of_ble_eq_true rfl) _ _ dX10_outcome_106 trivial
          rw [if_neg hs17_5] at hf
          have hz17_0 := lv_neT (a := 0) hs17_0 (by decide)
          have hz17_1 := lv_neT (a := 1) hs17_1 (by decide)
          have hz17_2 := lv_neT (a := 2) hs17_2 (by decide)
          have hz17_3 := lv_neT (a := 3) hs17_3 (by decide)
          have hz17_4 := lv_neT (a := 4) hs17_4 (by decide)
          have hz17_5 := lv_neT (a := 5) hs17_5 (by decide)
          refine u_tout (tgt := 107) hC dX10_outcome_17 (by omega) (by decide) ?_
          refine u_aload_n hC dX10_outcome_107 0 rfl rfl ?_
          refine u_gi hC lf_X10_182 rfl hq12T dX10_outcome_108 hf (fun x108 hf => ?_)
          cases hf
          exact hR _ _ rfl _ _ (Nat.le_of_ble_eq_true rfl) (Nat.le_of_ble_eq_true rfl) _ _ dX10_outcome_111 trivial
        · have he : (Sum.inr e7 : MR) = .inl (v', S') := he
          cases he
      · rcases q7 with p7 | e7
        · have he : (Sum.inl (none, p7) : MR) = .inr (k', S') := he
          cases he
        · have he : (Sum.inr e7 : MR) = .inr (k', S') := he
          cases he
          have hf := ks_r hf
          cases hf
          exact hTp _ _ rfl _ _ (Nat.le_of_ble_eq_true rfl) (Nat.le_of_ble_eq_true rfl)
    · have he : (Sum.inr e1 : MR) = .inl (v', S') := he
      cases he
  · rcases q1 with p1 | e1
    · have he : (Sum.inl (none, p1) : MR) = .inr (k', S') := he
      cases he
    · have he : (Sum.inr e1 : MR) = .inr (k', S') := he
      cases he
      have hf := ks_r hf
      cases hf
      exact hTp _ _ rfl _ _ (Nat.le_of_ble_eq_true rfl) (Nat.le_of_ble_eq_true rfl)
theorem ctX10_outcome (l : Launch) (hl : l.stackTraces = false) (G : GT) (ρ : Nat → Nat) (Y : XS) (n : Nat) (S : PS) (a0 : Nat) (x1_ : Int32) (x2_ : Int32) (hTa0 : Ty Y a0 10) {o : (Int32 × PS) ⊕ (Nat × PS)} (hf : fX10_outcome Y n S a0 x1_ x2_ = some o) : Mx l G yX10_outcome cX10_outcome 4 (some .int) 7 8 48 ρ Y [.ref (ρ a0), .int x1_, .int x2_] S (mrI o) :=
  Mx_of hl (by decide) rfl (by decide) (Nat.le_of_ble_eq_true rfl) (fun C _ _ hC hB hR hTo hTp => wX10_outcome hC n S a0 x1_ x2_ hTa0 hf hB hR hTo hTp)
-- X10_chosen
theorem dX10_chosen_0 : decode cX10_chosen 0 = .ok (.iload_n 1, 1) := by decide +kernel
theorem dX10_chosen_1 : decode cX10_chosen 1 = .ok (.invokestatic 159, 3) := by decide +kernel
theorem dX10_chosen_4 : decode cX10_chosen 4 = .ok (.aload_n 0, 1) := by decide +kernel
theorem dX10_chosen_5 : decode cX10_chosen 5 = .ok (.iload_n 1, 1) := by decide +kernel
theorem dX10_chosen_6 : decode cX10_chosen 6 = .ok (.invokevirtual 162, 3) := by decide +kernel
theorem dX10_chosen_9 : decode cX10_chosen 9 = .ok (.astore_n 3, 1) := by decide +kernel
theorem dX10_chosen_10 : decode cX10_chosen 10 = .ok (.iload_n 2, 1) := by decide +kernel
theorem dX10_chosen_11 : decode cX10_chosen 11 = .ok (.ifCond .lt 11, 3) := by decide +kernel
theorem dX10_chosen_14 : decode cX10_chosen 14 = .ok (.iload_n 2, 1) := by decide +kernel
theorem dX10_chosen_15 : decode cX10_chosen 15 = .ok (.aload_n 3, 1) := by decide +kernel
theorem dX10_chosen_16 : decode cX10_chosen 16 = .ok (.getfield 169, 3) := by decide +kernel
theorem dX10_chosen_19 : decode cX10_chosen 19 = .ok (.if_icmp .lt 13, 3) := by decide +kernel
theorem dX10_chosen_22 : decode cX10_chosen 22 = .ok (.new 185, 3) := by decide +kernel
theorem dX10_chosen_25 : decode cX10_chosen 25 = .ok (.dup, 1) := by decide +kernel
theorem dX10_chosen_26 : decode cX10_chosen 26 = .ok (.ldc 187, 2) := by decide +kernel
theorem dX10_chosen_28 : decode cX10_chosen 28 = .ok (.invokespecial 189, 3) := by decide +kernel
theorem dX10_chosen_31 : decode cX10_chosen 31 = .ok (.athrow, 1) := by decide +kernel
theorem dX10_chosen_32 : decode cX10_chosen 32 = .ok (.aload_n 3, 1) := by decide +kernel
theorem dX10_chosen_33 : decode cX10_chosen 33 = .ok (.getfield 190, 3) := by decide +kernel
theorem dX10_chosen_36 : decode cX10_chosen 36 = .ok (.iload_n 2, 1) := by decide +kernel
theorem dX10_chosen_37 : decode cX10_chosen 37 = .ok (.iaload, 1) := by decide +kernel
theorem dX10_chosen_38 : decode cX10_chosen 38 = .ok (.ireturn, 1) := by decide +kernel
def jX10_chosen_22 (Y : XS) (n : Nat) (S : PS)  : Option ((Int32 × PS) ⊕ (Nat × PS)) :=
  some (.inr (1, S))
def fX10_chosen (Y : XS) (n : Nat) (S : PS) (a0 : Nat) (x1_ : Int32) (x2_ : Int32) : Option ((Int32 × PS) ⊕ (Nat × PS)) :=
  kc (fX10_needRule Y n S x1_) (fun q1 => ks q1 (fun p1 => kc (fX10_result Y n p1 a0 x1_) (fun q6 => kty Y q6.1 5 ((if x2_ < 0 then jX10_chosen_22 Y n q6.2  else kgi q6.2 q6.1 1 (fun x16 => (if x2_ < x16 then kgr q6.2 q6.1 0 (fun b33 => kai Y q6.2 b33 x2_ (fun x37 => some (.inl (x37, q6.2)))) else jX10_chosen_22 Y n q6.2 )))))) (fun e1 => some (.inr e1)))
theorem wjX10_chosen_22 {C : CT} {ρ : Nat → Nat} {Y : XS} (hC : CK C RX10 cX10_chosen 4 (some .int) 7) (n : Nat) (S : PS)    {o : (Int32 × PS) ⊕ (Nat × PS)} (hf : jX10_chosen_22 Y n S  = some o) (hB : XB C (ρ, Y, 0, 0) 8 48) (hR : RtX C ρ Y cX10_chosen (some .int) 8 48 (mrI o)) (hTo : ThO C ρ Y cX10_chosen 8 48 (mrI o)) (hTp : ThP C ρ Y 8 48 (mrI o)) : UW C (ρ, Y, 0 + 1, 0 + 6) S 22 [] [] := by
  unfold jX10_chosen_22 at hf
  cases hf
  exact hTo _ _ rfl (by decide) _ _ (Nat.le_of_ble_eq_true rfl) (Nat.le_of_ble_eq_true rfl) _ _ 13 ⟨by decide, rfl, dX10_chosen_22, dX10_chosen_25, Or.inl ⟨dX10_chosen_26, dX10_chosen_28, dX10_chosen_31⟩⟩
theorem wX10_chosen {C : CT} {ρ : Nat → Nat} {Y : XS} (hC : CK C RX10 cX10_chosen 4 (some .int) 7) (n : Nat) (S : PS) (a0 : Nat) (x1_ : Int32) (x2_ : Int32) (hTa0 : Ty Y a0 10) {o : (Int32 × PS) ⊕ (Nat × PS)} (hf : fX10_chosen Y n S a0 x1_ x2_ = some o) (hB : XB C (ρ, Y, 0, 0) 8 48) (hR : RtX C ρ Y cX10_chosen (some .int) 8 48 (mrI o)) (hTo : ThO C ρ Y cX10_chosen 8 48 (mrI o)) (hTp : ThP C ρ Y 8 48 (mrI o)) : UW C (ρ, Y, 0, 0) S 0 [(0, .ref (ρ a0)), (1, .int x1_), (2, .int x2_)] [] := by
  unfold fX10_chosen at hf
  refine u_iload_n hC dX10_chosen_0 1 rfl rfl ?_
  obtain ⟨q1, hq1, hf⟩ := kc_some hf
  refine u_callSX hC (ctX10_needRule (cL C) hC.tr (cG C) ρ Y n S x1_  hq1) (hB.at (Nat.le_of_ble_eq_true rfl) (Nat.le_of_ble_eq_true rfl)) lk_X10_159 (by decide) (by decide) rfl rfl (Nat.le_of_ble_eq_true rfl) dX10_chosen_1 (fun v' S' he => ?_) (fun k' S' he => ?_)
  · rcases q1 with p1 | e1
    · have he : (Sum.inl (none, p1) : MR) = .inl (v', S') := he
      obtain ⟨hv9, hS9⟩ : none = v' ∧ p1 = S' := by cases he; exact ⟨rfl, rfl⟩
      subst hv9
      subst hS9
      have hf := ks_l hf
      refine u_aload_n hC dX10_chosen_4 0 rfl rfl ?_
      refine u_iload_n hC dX10_chosen_5 1 rfl rfl ?_
      obtain ⟨q6, hq6, hf⟩ := kc_some hf
      refine u_callV hC (ctX10_result (cL C) hC.tr (cG C) ρ Y n p1 a0 x1_ hTa0 hq6) lk_X10_162 rfl hTa0 (by decide) rfl (by decide) (by decide) rfl rfl (Nat.le_of_ble_eq_true rfl) dX10_chosen_6 ?_
      obtain ⟨hq6T, hf⟩ := kty_some hf
      refine u_astore_n (lv' := [(3, .ref (ρ q6.1)), (0, .ref (ρ a0)), (1, .int x1_), (2, .int x2_)]) hC dX10_chosen_9 rfl (by decide) rfl ?_
      refine u_iload_n hC dX10_chosen_10 3 rfl rfl ?_
      refine u_if_lt (tgt := 22) hC dX10_chosen_11 (by decide) hf (fun h11 hf => ?_) (fun h11 hf => ?_)
      · refine u_sub (lv' := []) [] rfl ?_
        exact wjX10_chosen_22 hC n q6.2    hf hB hR hTo hTp
      · refine u_iload_n hC dX10_chosen_14 3 rfl rfl ?_
        refine u_aload_n hC dX10_chosen_15 0 rfl rfl ?_
        refine u_gi hC lf_X10_169 rfl hq6T dX10_chosen_16 hf (fun x16 hf => ?_)
        refine u_icmp_lt (tgt := 32) hC dX10_chosen_19 (by decide) hf (fun h19 hf => ?_) (fun h19 hf => ?_)
        · refine u_aload_n hC dX10_chosen_32 0 rfl rfl ?_
          refine u_gr hC lf_X10_190 rfl hq6T dX10_chosen_33 hf (fun b33 hTb33 hf => ?_)
          refine u_iload_n hC dX10_chosen_36 3 rfl rfl ?_
          refine u_ai hC hTb33 dX10_chosen_37 hf (fun x37 hf => ?_)
          cases hf
          exact hR _ _ rfl _ _ (Nat.le_of_ble_eq_true rfl) (Nat.le_of_ble_eq_true rfl) _ _ dX10_chosen_38 trivial
        · refine u_sub (lv' := []) [] rfl ?_
          exact wjX10_chosen_22 hC n q6.2    hf hB hR hTo hTp
    · have he : (Sum.inr e1 : MR) = .inl (v', S') := he
      cases he
  · rcases q1 with p1 | e1
    · have he : (Sum.inl (none, p1) : MR) = .inr (k', S') := he
      cases he
    · have he : (Sum.inr e1 : MR) = .inr (k', S') := he
      cases he
      have hf := ks_r hf
      cases hf
      exact hTp _ _ rfl _ _ (Nat.le_of_ble_eq_true rfl) (Nat.le_of_ble_eq_true rfl)
theorem ctX10_chosen (l : Launch) (hl : l.stackTraces = false) (G : GT) (ρ : Nat → Nat) (Y : XS) (n : Nat) (S : PS) (a0 : Nat) (x1_ : Int32) (x2_ : Int32) (hTa0 : Ty Y a0 10) {o : (Int32 × PS) ⊕ (Nat × PS)} (hf : fX10_chosen Y n S a0 x1_ x2_ = some o) : Mx l G yX10_chosen cX10_chosen 4 (some .int) 7 8 48 ρ Y [.ref (ρ a0), .int x1_, .int x2_] S (mrI o) :=
  Mx_of hl (by decide) rfl (by decide) (Nat.le_of_ble_eq_true rfl) (fun C _ _ hC hB hR hTo hTp => wX10_chosen hC n S a0 x1_ x2_ hTa0 hf hB hR hTo hTp)
-- X10_served
theorem dX10_served_0 : decode cX10_served 0 = .ok (.iload_n 1, 1) := by decide +kernel
theorem dX10_served_1 : decode cX10_served 1 = .ok (.invokestatic 159, 3) := by decide +kernel
theorem dX10_served_4 : decode cX10_served 4 = .ok (.aload_n 0, 1) := by decide +kernel
theorem dX10_served_5 : decode cX10_served 5 = .ok (.iload_n 2, 1) := by decide +kernel
theorem dX10_served_6 : decode cX10_served 6 = .ok (.invokevirtual 150, 3) := by decide +kernel
theorem dX10_served_9 : decode cX10_served 9 = .ok (.aload_n 0, 1) := by decide +kernel
theorem dX10_served_10 : decode cX10_served 10 = .ok (.getfield 23, 3) := by decide +kernel
theorem dX10_served_13 : decode cX10_served 13 = .ok (.iload_n 2, 1) := by decide +kernel
theorem dX10_served_14 : decode cX10_served 14 = .ok (.aload_n 0, 1) := by decide +kernel
theorem dX10_served_15 : decode cX10_served 15 = .ok (.iload_n 1, 1) := by decide +kernel
theorem dX10_served_16 : decode cX10_served 16 = .ok (.invokevirtual 162, 3) := by decide +kernel
theorem dX10_served_19 : decode cX10_served 19 = .ok (.getfield 166, 3) := by decide +kernel
theorem dX10_served_22 : decode cX10_served 22 = .ok (.invokevirtual 193, 3) := by decide +kernel
theorem dX10_served_25 : decode cX10_served 25 = .ok (.ireturn, 1) := by decide +kernel
def fX10_served (Y : XS) (n : Nat) (S : PS) (a0 : Nat) (x1_ : Int32) (x2_ : Int32) : Option ((Int32 × PS) ⊕ (Nat × PS)) :=
  kc (fX10_needRule Y n S x1_) (fun q1 => ks q1 (fun p1 => kc (fX10_needVoter Y n p1 a0 x2_) (fun q6 => ks q6 (fun p6 => kgr p6 a0 2 (fun b10 => kc (fX10_result Y n p6 a0 x1_) (fun q16 => kty Y q16.1 5 (kgi q16.2 q16.1 2 (fun x19 => kc (fX6_worthTo Y n q16.2 b10 x2_ x19) (fun q22 => some (.inl (q22, q16.2)))))))) (fun e6 => some (.inr e6)))) (fun e1 => some (.inr e1)))
theorem wX10_served {C : CT} {ρ : Nat → Nat} {Y : XS} (hC : CK C RX10 cX10_served 3 (some .int) 7) (n : Nat) (S : PS) (a0 : Nat) (x1_ : Int32) (x2_ : Int32) (hTa0 : Ty Y a0 10) {o : (Int32 × PS) ⊕ (Nat × PS)} (hf : fX10_served Y n S a0 x1_ x2_ = some o) (hB : XB C (ρ, Y, 0, 0) 8 48) (hR : RtX C ρ Y cX10_served (some .int) 8 48 (mrI o)) (hTo : ThO C ρ Y cX10_served 8 48 (mrI o)) (hTp : ThP C ρ Y 8 48 (mrI o)) : UW C (ρ, Y, 0, 0) S 0 [(0, .ref (ρ a0)), (1, .int x1_), (2, .int x2_)] [] := by
  unfold fX10_served at hf
  refine u_iload_n hC dX10_served_0 1 rfl rfl ?_
  obtain ⟨q1, hq1, hf⟩ := kc_some hf
  refine u_callSX hC (ctX10_needRule (cL C) hC.tr (cG C) ρ Y n S x1_  hq1) (hB.at (Nat.le_of_ble_eq_true rfl) (Nat.le_of_ble_eq_true rfl)) lk_X10_159 (by decide) (by decide) rfl rfl (Nat.le_of_ble_eq_true rfl) dX10_served_1 (fun v' S' he => ?_) (fun k' S' he => ?_)
  · rcases q1 with p1 | e1
    · have he : (Sum.inl (none, p1) : MR) = .inl (v', S') := he
      obtain ⟨hv9, hS9⟩ : none = v' ∧ p1 = S' := by cases he; exact ⟨rfl, rfl⟩
      subst hv9
      subst hS9
      have hf := ks_l hf
      refine u_aload_n hC dX10_served_4 0 rfl rfl ?_
      refine u_iload_n hC dX10_served_5 2 rfl rfl ?_
      obtain ⟨q6, hq6, hf⟩ := kc_some hf
      refine u_callVX hC (ctX10_needVoter (cL C) hC.tr (cG C) ρ Y n p1 a0 x2_ hTa0 hq6) (hB.at (Nat.le_of_ble_eq_true rfl) (Nat.le_of_ble_eq_true rfl)) lk_X10_150 rfl hTa0 (by decide) rfl (by decide) (by decide) rfl rfl (Nat.le_of_ble_eq_true rfl) dX10_served_6 (fun v' S' he => ?_) (fun k' S' he => ?_)
      · rcases q6 with p6 | e6
        · have he : (Sum.inl (none, p6) : MR) = .inl (v', S') := he
          obtain ⟨hv9, hS9⟩ : none = v' ∧ p6 = S' := by cases he; exact ⟨rfl, rfl⟩
          subst hv9
          subst hS9
          have hf := ks_l hf
          refine u_aload_n hC dX10_served_9 0 rfl rfl ?_
          refine u_gr hC lf_X10_23 rfl hTa0 dX10_served_10 hf (fun b10 hTb10 hf => ?_)
          refine u_iload_n hC dX10_served_13 2 rfl rfl ?_
          refine u_aload_n hC dX10_served_14 0 rfl rfl ?_
          refine u_iload_n hC dX10_served_15 1 rfl rfl ?_
          obtain ⟨q16, hq16, hf⟩ := kc_some hf
          refine u_callV hC (ctX10_result (cL C) hC.tr (cG C) ρ Y n p6 a0 x1_ hTa0 hq16) lk_X10_162 rfl hTa0 (by decide) rfl (by decide) (by decide) rfl rfl (Nat.le_of_ble_eq_true rfl) dX10_served_16 ?_
          obtain ⟨hq16T, hf⟩ := kty_some hf
          refine u_gi hC lf_X10_166 rfl hq16T dX10_served_19 hf (fun x19 hf => ?_)
          obtain ⟨q22, hq22, hf⟩ := kc_some hf
          refine u_callV hC (ctX6_worthTo (cL C) hC.tr (cG C) ρ Y n q16.2 b10 x2_ x19 hTb10 hq22) lk_X10_193 rfl hTb10 (by decide) rfl (by decide) (by decide) rfl rfl (Nat.le_of_ble_eq_true rfl) dX10_served_22 ?_
          cases hf
          exact hR _ _ rfl _ _ (Nat.le_of_ble_eq_true rfl) (Nat.le_of_ble_eq_true rfl) _ _ dX10_served_25 trivial
        · have he : (Sum.inr e6 : MR) = .inl (v', S') := he
          cases he
      · rcases q6 with p6 | e6
        · have he : (Sum.inl (none, p6) : MR) = .inr (k', S') := he
          cases he
        · have he : (Sum.inr e6 : MR) = .inr (k', S') := he
          cases he
          have hf := ks_r hf
          cases hf
          exact hTp _ _ rfl _ _ (Nat.le_of_ble_eq_true rfl) (Nat.le_of_ble_eq_true rfl)
    · have he : (Sum.inr e1 : MR) = .inl (v', S') := he
      cases he
  · rcases q1 with p1 | e1
    · have he : (Sum.inl (none, p1) : MR) = .inr (k', S') := he
      cases he
    · have he : (Sum.inr e1 : MR) = .inr (k', S') := he
      cases he
      have hf := ks_r hf
      cases hf
      exact hTp _ _ rfl _ _ (Nat.le_of_ble_eq_true rfl) (Nat.le_of_ble_eq_true rfl)
theorem ctX10_served (l : Launch) (hl : l.stackTraces = false) (G : GT) (ρ : Nat → Nat) (Y : XS) (n : Nat) (S : PS) (a0 : Nat) (x1_ : Int32) (x2_ : Int32) (hTa0 : Ty Y a0 10) {o : (Int32 × PS) ⊕ (Nat × PS)} (hf : fX10_served Y n S a0 x1_ x2_ = some o) : Mx l G yX10_served cX10_served 3 (some .int) 7 8 48 ρ Y [.ref (ρ a0), .int x1_, .int x2_] S (mrI o) :=
  Mx_of hl (by decide) rfl (by decide) (Nat.le_of_ble_eq_true rfl) (fun C _ _ hC hB hR hTo hTp => wX10_served hC n S a0 x1_ x2_ hTa0 hf hB hR hTo hTp)
-- X10_needPayingRule
theorem dX10_needPayingRule_0 : decode cX10_needPayingRule 0 = .ok (.iload_n 0, 1) := by decide +kernel
theorem dX10_needPayingRule_1 : decode cX10_needPayingRule 1 = .ok (.ifCond .lt 8, 3) := by decide +kernel
theorem dX10_needPayingRule_4 : decode cX10_needPayingRule 4 = .ok (.iload_n 0, 1) := by decide +kernel
theorem dX10_needPayingRule_5 : decode cX10_needPayingRule 5 = .ok (.iconst 4, 1) := by decide +kernel
theorem dX10_needPayingRule_6 : decode cX10_needPayingRule 6 = .ok (.if_icmp .lt 14, 3) := by decide +kernel
theorem dX10_needPayingRule_9 : decode cX10_needPayingRule 9 = .ok (.new 185, 3) := by decide +kernel
theorem dX10_needPayingRule_12 : decode cX10_needPayingRule 12 = .ok (.dup, 1) := by decide +kernel
theorem dX10_needPayingRule_13 : decode cX10_needPayingRule 13 = .ok (.ldc_w 315, 3) := by decide +kernel
theorem dX10_needPayingRule_16 : decode cX10_needPayingRule 16 = .ok (.invokespecial 189, 3) := by decide +kernel
theorem dX10_needPayingRule_19 : decode cX10_needPayingRule 19 = .ok (.athrow, 1) := by decide +kernel
theorem dX10_needPayingRule_20 : decode cX10_needPayingRule 20 = .ok (.return_, 1) := by decide +kernel
def jX10_needPayingRule_9 (Y : XS) (n : Nat) (S : PS)  : Option ((PS) ⊕ (Nat × PS)) :=
  some (.inr (1, S))
def fX10_needPayingRule (Y : XS) (n : Nat) (S : PS) (x0_ : Int32) : Option ((PS) ⊕ (Nat × PS)) :=
  (if x0_ < 0 then jX10_needPayingRule_9 Y n S  else (if x0_ < (4 : Int32) then some (.inl S) else jX10_needPayingRule_9 Y n S ))
theorem wjX10_needPayingRule_9 {C : CT} {ρ : Nat → Nat} {Y : XS} (hC : CK C RX10 cX10_needPayingRule 1 none 6) (n : Nat) (S : PS)    {o : (PS) ⊕ (Nat × PS)} (hf : jX10_needPayingRule_9 Y n S  = some o) (hB : XB C (ρ, Y, 0, 0) 1 6) (hR : RtX C ρ Y cX10_needPayingRule none 1 6 (mrV o)) (hTo : ThO C ρ Y cX10_needPayingRule 1 6 (mrV o)) (hTp : ThP C ρ Y 1 6 (mrV o)) : UW C (ρ, Y, 0, 0) S 9 [] [] := by
  unfold jX10_needPayingRule_9 at hf
  cases hf
  exact hTo _ _ rfl (by decide) _ _ (Nat.le_of_ble_eq_true rfl) (Nat.le_of_ble_eq_true rfl) _ _ 12 ⟨by decide, rfl, dX10_needPayingRule_9, dX10_needPayingRule_12, Or.inr ⟨dX10_needPayingRule_13, dX10_needPayingRule_16, dX10_needPayingRule_19⟩⟩
theorem wX10_needPayingRule {C : CT} {ρ : Nat → Nat} {Y : XS} (hC : CK C RX10 cX10_needPayingRule 1 none 6) (n : Nat) (S : PS) (x0_ : Int32)  {o : (PS) ⊕ (Nat × PS)} (hf : fX10_needPayingRule Y n S x0_ = some o) (hB : XB C (ρ, Y, 0, 0) 1 6) (hR : RtX C ρ Y cX10_needPayingRule none 1 6 (mrV o)) (hTo : ThO C ρ Y cX10_needPayingRule 1 6 (mrV o)) (hTp : ThP C ρ Y 1 6 (mrV o)) : UW C (ρ, Y, 0, 0) S 0 [(0, .int x0_)] [] := by
  unfold fX10_needPayingRule at hf
  refine u_iload_n hC dX10_needPayingRule_0 0 rfl rfl ?_
  refine u_if_lt (tgt := 9) hC dX10_needPayingRule_1 (by decide) hf (fun h1 hf => ?_) (fun h1 hf => ?_)
  · refine u_sub (lv' := []) [] rfl ?_
    exact wjX10_needPayingRule_9 hC n S    hf hB hR hTo hTp
  · refine u_iload_n hC dX10_needPayingRule_4 0 rfl rfl ?_
    refine u_iconst (v := (4 : Int32)) hC dX10_needPayingRule_5 (by decide) ?_
    refine u_icmp_lt (tgt := 20) hC dX10_needPayingRule_6 (by decide) hf (fun h6 hf => ?_) (fun h6 hf => ?_)
    · cases hf
      exact hR _ _ rfl _ _ (Nat.le_of_ble_eq_true rfl) (Nat.le_of_ble_eq_true rfl) _ _ dX10_needPayingRule_20 trivial
    · refine u_sub (lv' := []) [] rfl ?_
      exact wjX10_needPayingRule_9 hC n S    hf hB hR hTo hTp
theorem ctX10_needPayingRule (l : Launch) (hl : l.stackTraces = false) (G : GT) (ρ : Nat → Nat) (Y : XS) (n : Nat) (S : PS) (x0_ : Int32)  {o : (PS) ⊕ (Nat × PS)} (hf : fX10_needPayingRule Y n S x0_ = some o) : Mx l G yX10_needPayingRule cX10_needPayingRule 1 none 6 1 6 ρ Y [.int x0_] S (mrV o) :=
  Mx_of hl (by decide) rfl (by decide) (Nat.le_of_ble_eq_true rfl) (fun C _ _ hC hB hR hTo hTp => wX10_needPayingRule hC n S x0_  hf hB hR hTo hTp)
-- X10_paid
theorem dX10_paid_0 : decode cX10_paid 0 = .ok (.iload_n 1, 1) := by decide +kernel
theorem dX10_paid_1 : decode cX10_paid 1 = .ok (.invokestatic 197, 3) := by decide +kernel
theorem dX10_paid_4 : decode cX10_paid 4 = .ok (.aload_n 0, 1) := by decide +kernel
theorem dX10_paid_5 : decode cX10_paid 5 = .ok (.iload_n 2, 1) := by decide +kernel
theorem dX10_paid_6 : decode cX10_paid 6 = .ok (.invokevirtual 150, 3) := by decide +kernel
theorem dX10_paid_9 : decode cX10_paid 9 = .ok (.aload_n 0, 1) := by decide +kernel
theorem dX10_paid_10 : decode cX10_paid 10 = .ok (.iload_n 1, 1) := by decide +kernel
theorem dX10_paid_11 : decode cX10_paid 11 = .ok (.invokevirtual 162, 3) := by decide +kernel
theorem dX10_paid_14 : decode cX10_paid 14 = .ok (.astore 4, 2) := by decide +kernel
theorem dX10_paid_16 : decode cX10_paid 16 = .ok (.iload_n 3, 1) := by decide +kernel
theorem dX10_paid_17 : decode cX10_paid 17 = .ok (.iconst (-1), 1) := by decide +kernel
theorem dX10_paid_18 : decode cX10_paid 18 = .ok (.if_icmp .eq 16, 3) := by decide +kernel
theorem dX10_paid_21 : decode cX10_paid 21 = .ok (.aload_n 0, 1) := by decide +kernel
theorem dX10_paid_22 : decode cX10_paid 22 = .ok (.iload_n 3, 1) := by decide +kernel
theorem dX10_paid_23 : decode cX10_paid 23 = .ok (.invokevirtual 134, 3) := by decide +kernel
theorem dX10_paid_26 : decode cX10_paid 26 = .ok (.aload 4, 2) := by decide +kernel
theorem dX10_paid_28 : decode cX10_paid 28 = .ok (.iload_n 2, 1) := by decide +kernel
theorem dX10_paid_29 : decode cX10_paid 29 = .ok (.iload_n 3, 1) := by decide +kernel
theorem dX10_paid_30 : decode cX10_paid 30 = .ok (.invokevirtual 200, 3) := by decide +kernel
theorem dX10_paid_33 : decode cX10_paid 33 = .ok (.ireturn, 1) := by decide +kernel
theorem dX10_paid_34 : decode cX10_paid 34 = .ok (.iconst 0, 1) := by decide +kernel
theorem dX10_paid_35 : decode cX10_paid 35 = .ok (.istore 5, 2) := by decide +kernel
theorem dX10_paid_37 : decode cX10_paid 37 = .ok (.iconst 0, 1) := by decide +kernel
theorem dX10_paid_38 : decode cX10_paid 38 = .ok (.istore 6, 2) := by decide +kernel
theorem dX10_paid_40 : decode cX10_paid 40 = .ok (.iload 6, 2) := by decide +kernel
theorem dX10_paid_42 : decode cX10_paid 42 = .ok (.aload_n 0, 1) := by decide +kernel
theorem dX10_paid_43 : decode cX10_paid 43 = .ok (.getfield 23, 3) := by decide +kernel
theorem dX10_paid_46 : decode cX10_paid 46 = .ok (.getfield 104, 3) := by decide +kernel
theorem dX10_paid_49 : decode cX10_paid 49 = .ok (.getfield 105, 3) := by decide +kernel
theorem dX10_paid_52 : decode cX10_paid 52 = .ok (.if_icmp .ge 22, 3) := by decide +kernel
theorem dX10_paid_55 : decode cX10_paid 55 = .ok (.iload 5, 2) := by decide +kernel
theorem dX10_paid_57 : decode cX10_paid 57 = .ok (.aload 4, 2) := by decide +kernel
theorem dX10_paid_59 : decode cX10_paid 59 = .ok (.iload_n 2, 1) := by decide +kernel
theorem dX10_paid_60 : decode cX10_paid 60 = .ok (.iload 6, 2) := by decide +kernel
theorem dX10_paid_62 : decode cX10_paid 62 = .ok (.invokevirtual 200, 3) := by decide +kernel
theorem dX10_paid_65 : decode cX10_paid 65 = .ok (.iadd, 1) := by decide +kernel
theorem dX10_paid_66 : decode cX10_paid 66 = .ok (.istore 5, 2) := by decide +kernel
theorem dX10_paid_68 : decode cX10_paid 68 = .ok (.iinc 6 1, 3) := by decide +kernel
theorem dX10_paid_71 : decode cX10_paid 71 = .ok (.goto (-31), 3) := by decide +kernel
theorem dX10_paid_74 : decode cX10_paid 74 = .ok (.iload 5, 2) := by decide +kernel
theorem dX10_paid_76 : decode cX10_paid 76 = .ok (.ireturn, 1) := by decide +kernel
def bX10_paid_40 (Y : XS) (n : Nat) (S : PS) (v0 : Nat) (v2 : Int32) (v4 : Nat) (s40 : (Int32 × Int32)) : Option ((Int32 × Int32) ⊕ Int32) :=
  kgr S v0 2 (fun b43 => kgr S b43 0 (fun b46 => kgi S b46 1 (fun x49 => (if x49 ≤ s40.2 then some (.inr s40.1) else kc (fX5_paidBy Y n S v4 v2 s40.2) (fun q62 => some (.inl (s40.1 + q62, s40.2 + (1 : Int32))))))))
def fX10_paid (Y : XS) (n : Nat) (S : PS) (a0 : Nat) (x1_ : Int32) (x2_ : Int32) (x3_ : Int32) : Option ((Int32 × PS) ⊕ (Nat × PS)) :=
  kc (fX10_needPayingRule Y n S x1_) (fun q1 => ks q1 (fun p1 => kc (fX10_needVoter Y n p1 a0 x2_) (fun q6 => ks q6 (fun p6 => kc (fX10_result Y n p6 a0 x1_) (fun q11 => kty Y q11.1 5 ((if x3_ = (-1 : Int32) then kc (iter (bX10_paid_40 Y n q11.2 a0 x2_ q11.1) n ((0 : Int32), (0 : Int32))) (fun r40 => some (.inl (r40, q11.2))) else kc (fX10_needProject Y n q11.2 a0 x3_) (fun q23 => ks q23 (fun p23 => kc (fX5_paidBy Y n p23 q11.1 x2_ x3_) (fun q30 => some (.inl (q30, p23)))) (fun e23 => some (.inr e23))))))) (fun e6 => some (.inr e6)))) (fun e1 => some (.inr e1)))
theorem wbX10_paid_40 {C : CT} {X : XT} (hC : CK C RX10 cX10_paid 7 (some .int) 7) (n : Nat) (S : PS) (v0 : Nat) (v2 : Int32) (v4 : Nat) (hTv0 : Ty X.2.1 v0 10) (hTv4 : Ty X.2.1 v4 5) (s40 : (Int32 × Int32)) {o : (Int32 × Int32) ⊕ Int32} (hf : bX10_paid_40 X.2.1 n S v0 v2 v4 s40 = some o) (hN : ∀ s', o = .inl s' → UW C X S 40 [(0, .ref (X.1 v0)), (2, .int v2), (4, .ref (X.1 v4)), (5, .int s'.1), (6, .int s'.2)] []) (hO0 : ∀ p', o = .inr p' → UW C X S 74 [(5, .int p')] []) : UW C X S 40 [(0, .ref (X.1 v0)), (2, .int v2), (4, .ref (X.1 v4)), (5, .int s40.1), (6, .int s40.2)] [] := by
  unfold bX10_paid_40 at hf
  refine u_iload hC dX10_paid_40 4 rfl ?_
  refine u_aload_n hC dX10_paid_42 0 rfl rfl ?_
  refine u_gr hC lf_X10_23 rfl hTv0 dX10_paid_43 hf (fun b43 hTb43 hf => ?_)
  refine u_gr hC lf_X10_104 rfl hTb43 dX10_paid_46 hf (fun b46 hTb46 hf => ?_)
  refine u_gi hC lf_X10_105 rfl hTb46 dX10_paid_49 hf (fun x49 hf => ?_)
  refine u_icmp_ge (tgt := 74) hC dX10_paid_52 (by decide) hf (fun h52 hf => ?_) (fun h52 hf => ?_)
  · refine u_sub (lv' := [(5, .int s40.1)]) [3] rfl ?_
    exact hO0 _ (Option.some.inj hf).symm
  · refine u_iload hC dX10_paid_55 3 rfl ?_
    refine u_aload hC dX10_paid_57 2 rfl ?_
    refine u_iload_n hC dX10_paid_59 1 rfl rfl ?_
    refine u_iload hC dX10_paid_60 4 rfl ?_
    obtain ⟨q62, hq62, hf⟩ := kc_some hf
    refine u_callV hC (ctX5_paidBy (cL C) hC.tr (cG C) X.1 X.2.1 n S v4 v2 s40.2 hTv4 hq62) lk_X10_200 rfl hTv4 (by decide) rfl (by decide) (by decide) rfl rfl (Nat.le_of_ble_eq_true rfl) dX10_paid_62 ?_
    refine u_iadd hC dX10_paid_65 ?_
    refine u_istore (lv' := [(5, .int (s40.1 + q62)), (0, .ref (X.1 v0)), (2, .int v2), (4, .ref (X.1 v4)), (6, .int s40.2)]) hC dX10_paid_66 (by decide) rfl ?_
    refine u_iinc (v := s40.2 + (1 : Int32)) (lv' := [(6, .int (s40.2 + (1 : Int32))), (5, .int (s40.1 + q62)), (0, .ref (X.1 v0)), (2, .int v2), (4, .ref (X.1 v4))]) hC dX10_paid_68 4 rfl rfl (by decide) rfl ?_
    refine u_goto (tgt := 40) hC dX10_paid_71 (by decide) ?_
    refine u_sub (lv' := [(0, .ref (X.1 v0)), (2, .int v2), (4, .ref (X.1 v4)), (5, .int (s40.1 + q62)), (6, .int (s40.2 + (1 : Int32)))]) [2, 3, 4, 1, 0] rfl ?_
    exact hN _ (Option.some.inj hf).symm
theorem wX10_paid {C : CT} {ρ : Nat → Nat} {Y : XS} (hC : CK C RX10 cX10_paid 7 (some .int) 7) (n : Nat) (S : PS) (a0 : Nat) (x1_ : Int32) (x2_ : Int32) (x3_ : Int32) (hTa0 : Ty Y a0 10) {o : (Int32 × PS) ⊕ (Nat × PS)} (hf : fX10_paid Y n S a0 x1_ x2_ x3_ = some o) (hB : XB C (ρ, Y, 0, 0) 8 48) (hR : RtX C ρ Y cX10_paid (some .int) 8 48 (mrI o)) (hTo : ThO C ρ Y cX10_paid 8 48 (mrI o)) (hTp : ThP C ρ Y 8 48 (mrI o)) : UW C (ρ, Y, 0, 0) S 0 [(0, .ref (ρ a0)), (1, .int x1_), (2, .int x2_), (3, .int x3_)] [] := by
  unfold fX10_paid at hf
  refine u_iload_n hC dX10_paid_0 1 rfl rfl ?_
  obtain ⟨q1, hq1, hf⟩ := kc_some hf
  refine u_callSX hC (ctX10_needPayingRule (cL C) hC.tr (cG C) ρ Y n S x1_  hq1) (hB.at (Nat.le_of_ble_eq_true rfl) (Nat.le_of_ble_eq_true rfl)) lk_X10_197 (by decide) (by decide) rfl rfl (Nat.le_of_ble_eq_true rfl) dX10_paid_1 (fun v' S' he => ?_) (fun k' S' he => ?_)
  · rcases q1 with p1 | e1
    · have he : (Sum.inl (none, p1) : MR) = .inl (v', S') := he
      obtain ⟨hv9, hS9⟩ : none = v' ∧ p1 = S' := by cases he; exact ⟨rfl, rfl⟩
      subst hv9
      subst hS9
      have hf := ks_l hf
      refine u_aload_n hC dX10_paid_4 0 rfl rfl ?_
      refine u_iload_n hC dX10_paid_5 2 rfl rfl ?_
      obtain ⟨q6, hq6, hf⟩ := kc_some hf
      refine u_callVX hC (ctX10_needVoter (cL C) hC.tr (cG C) ρ Y n p1 a0 x2_ hTa0 hq6) (hB.at (Nat.le_of_ble_eq_true rfl) (Nat.le_of_ble_eq_true rfl)) lk_X10_150 rfl hTa0 (by decide) rfl (by decide) (by decide) rfl rfl (Nat.le_of_ble_eq_true rfl) dX10_paid_6 (fun v' S' he => ?_) (fun k' S' he => ?_)
      · rcases q6 with p6 | e6
        · have he : (Sum.inl (none, p6) : MR) = .inl (v', S') := he
          obtain ⟨hv9, hS9⟩ : none = v' ∧ p6 = S' := by cases he; exact ⟨rfl, rfl⟩
          subst hv9
          subst hS9
          have hf := ks_l hf
          refine u_aload_n hC dX10_paid_9 0 rfl rfl ?_
          refine u_iload_n hC dX10_paid_10 1 rfl rfl ?_
          obtain ⟨q11, hq11, hf⟩ := kc_some hf
          refine u_callV hC (ctX10_result (cL C) hC.tr (cG C) ρ Y n p6 a0 x1_ hTa0 hq11) lk_X10_162 rfl hTa0 (by decide) rfl (by decide) (by decide) rfl rfl (Nat.le_of_ble_eq_true rfl) dX10_paid_11 ?_
          obtain ⟨hq11T, hf⟩ := kty_some hf
          refine u_astore (lv' := [(4, .ref (ρ q11.1)), (0, .ref (ρ a0)), (1, .int x1_), (2, .int x2_), (3, .int x3_)]) hC dX10_paid_14 (by decide) rfl ?_
          refine u_iload_n hC dX10_paid_16 4 rfl rfl ?_
          refine u_iconst (v := (-1 : Int32)) hC dX10_paid_17 (by decide) ?_
          refine u_icmp_eq (tgt := 34) hC dX10_paid_18 (by decide) hf (fun h18 hf => ?_) (fun h18 hf => ?_)
          · refine u_iconst (v := (0 : Int32)) hC dX10_paid_34 (by decide) ?_
            refine u_istore (lv' := [(5, .int (0 : Int32)), (4, .ref (ρ q11.1)), (0, .ref (ρ a0)), (1, .int x1_), (2, .int x2_), (3, .int x3_)]) hC dX10_paid_35 (by decide) rfl ?_
            refine u_iconst (v := (0 : Int32)) hC dX10_paid_37 (by decide) ?_
            refine u_istore (lv' := [(6, .int (0 : Int32)), (5, .int (0 : Int32)), (4, .ref (ρ q11.1)), (0, .ref (ρ a0)), (1, .int x1_), (2, .int x2_), (3, .int x3_)]) hC dX10_paid_38 (by decide) rfl ?_
            obtain ⟨r40, hr40, hf⟩ := kc_some hf
            have hk40 : UW C (ρ, Y, 0 + 1 + 1, 0 + 6 + 6) q11.2 74 [(5, .int r40)] [] := by
              refine u_iload hC dX10_paid_74 0 rfl ?_
              cases hf
              exact hR _ _ rfl _ _ (Nat.le_of_ble_eq_true rfl) (Nat.le_of_ble_eq_true rfl) _ _ dX10_paid_76 trivial
            refine u_sub (lv' := [(0, .ref (ρ a0)), (2, .int x2_), (4, .ref (ρ q11.1)), (5, .int (0 : Int32)), (6, .int (0 : Int32))]) [3, 5, 2, 1, 0] rfl ?_
            refine iter_ind (P := fun s40 => UW C (ρ, Y, 0 + 1 + 1, 0 + 6 + 6) q11.2 40 [(0, .ref (ρ a0)), (2, .int x2_), (4, .ref (ρ q11.1)), (5, .int s40.1), (6, .int s40.2)] []) (fun s40 o' hb hin hout => ?_) n ((0 : Int32), (0 : Int32)) hr40
            exact wbX10_paid_40 hC n q11.2 a0 x2_ q11.1 hTa0 hq11T s40 hb hin (fun p e => by rw [hout p e]; exact hk40)
          · refine u_aload_n hC dX10_paid_21 1 rfl rfl ?_
            refine u_iload_n hC dX10_paid_22 4 rfl rfl ?_
            obtain ⟨q23, hq23, hf⟩ := kc_some hf
            refine u_callVX hC (ctX10_needProject (cL C) hC.tr (cG C) ρ Y n q11.2 a0 x3_ hTa0 hq23) (hB.at (Nat.le_of_ble_eq_true rfl) (Nat.le_of_ble_eq_true rfl)) lk_X10_134 rfl hTa0 (by decide) rfl (by decide) (by decide) rfl rfl (Nat.le_of_ble_eq_true rfl) dX10_paid_23 (fun v' S' he => ?_) (fun k' S' he => ?_)
            · rcases q23 with p23 | e23
              · have he : (Sum.inl (none, p23) : MR) = .inl (v', S') := he
                obtain ⟨hv9, hS9⟩ : none = v' ∧ p23 = S' := by cases he; exact ⟨rfl, rfl⟩
                subst hv9
                subst hS9
                have hf := ks_l hf
                refine u_aload hC dX10_paid_26 0 rfl ?_
                refine u_iload_n hC dX10_paid_28 3 rfl rfl ?_
                refine u_iload_n hC dX10_paid_29 4 rfl rfl ?_
                obtain ⟨q30, hq30, hf⟩ := kc_some hf
                refine u_callV hC (ctX5_paidBy (cL C) hC.tr (cG C) ρ Y n p23 q11.1 x2_ x3_ hq11T hq30) lk_X10_200 rfl hq11T (by decide) rfl (by decide) (by decide) rfl rfl (Nat.le_of_ble_eq_true rfl) dX10_paid_30 ?_
                cases hf
                exact hR _ _ rfl _ _ (Nat.le_of_ble_eq_true rfl) (Nat.le_of_ble_eq_true rfl) _ _ dX10_paid_33 trivial
              · have he : (Sum.inr e23 : MR) = .inl (v', S') := he
                cases he
            · rcases q23 with p23 | e23
              · have he : (Sum.inl (none, p23) : MR) = .inr (k', S') := he
                cases he
              · have he : (Sum.inr e23 : MR) = .inr (k', S') := he
                cases he
                have hf := ks_r hf
                cases hf
                exact hTp _ _ rfl _ _ (Nat.le_of_ble_eq_true rfl) (Nat.le_of_ble_eq_true rfl)
        · have he : (Sum.inr e6 : MR) = .inl (v', S') := he
          cases he
      · rcases q6 with p6 | e6
        · have he : (Sum.inl (none, p6) : MR) = .inr (k', S') := he
          cases he
        · have he : (Sum.inr e6 : MR) = .inr (k', S') := he
          cases he
          have hf := ks_r hf
          cases hf
          exact hTp _ _ rfl _ _ (Nat.le_of_ble_eq_true rfl) (Nat.le_of_ble_eq_true rfl)
    · have he : (Sum.inr e1 : MR) = .inl (v', S') := he
      cases he
  · rcases q1 with p1 | e1
    · have he : (Sum.inl (none, p1) : MR) = .inr (k', S') := he
      cases he
    · have he : (Sum.inr e1 : MR) = .inr (k', S') := he
      cases he
      have hf := ks_r hf
      cases hf
      exact hTp _ _ rfl _ _ (Nat.le_of_ble_eq_true rfl) (Nat.le_of_ble_eq_true rfl)
theorem ctX10_paid (l : Launch) (hl : l.stackTraces = false) (G : GT) (ρ : Nat → Nat) (Y : XS) (n : Nat) (S : PS) (a0 : Nat) (x1_ : Int32) (x2_ : Int32) (x3_ : Int32) (hTa0 : Ty Y a0 10) {o : (Int32 × PS) ⊕ (Nat × PS)} (hf : fX10_paid Y n S a0 x1_ x2_ x3_ = some o) : Mx l G yX10_paid cX10_paid 7 (some .int) 7 8 48 ρ Y [.ref (ρ a0), .int x1_, .int x2_, .int x3_] S (mrI o) :=
  Mx_of hl (by decide) rfl (by decide) (Nat.le_of_ble_eq_true rfl) (fun C _ _ hC hB hR hTo hTp => wX10_paid hC n S a0 x1_ x2_ x3_ hTa0 hf hB hR hTo hTp)
-- X10_left
theorem dX10_left_0 : decode cX10_left 0 = .ok (.iload_n 1, 1) := by decide +kernel
theorem dX10_left_1 : decode cX10_left 1 = .ok (.invokestatic 197, 3) := by decide +kernel
theorem dX10_left_4 : decode cX10_left 4 = .ok (.aload_n 0, 1) := by decide +kernel
theorem dX10_left_5 : decode cX10_left 5 = .ok (.iload_n 1, 1) := by decide +kernel
theorem dX10_left_6 : decode cX10_left 6 = .ok (.invokevirtual 162, 3) := by decide +kernel
theorem dX10_left_9 : decode cX10_left 9 = .ok (.astore_n 3, 1) := by decide +kernel
theorem dX10_left_10 : decode cX10_left 10 = .ok (.iload_n 2, 1) := by decide +kernel
theorem dX10_left_11 : decode cX10_left 11 = .ok (.iconst (-1), 1) := by decide +kernel
theorem dX10_left_12 : decode cX10_left 12 = .ok (.if_icmp .eq 15, 3) := by decide +kernel
theorem dX10_left_15 : decode cX10_left 15 = .ok (.aload_n 0, 1) := by decide +kernel
theorem dX10_left_16 : decode cX10_left 16 = .ok (.iload_n 2, 1) := by decide +kernel
theorem dX10_left_17 : decode cX10_left 17 = .ok (.invokevirtual 150, 3) := by decide +kernel
theorem dX10_left_20 : decode cX10_left 20 = .ok (.aload_n 3, 1) := by decide +kernel
theorem dX10_left_21 : decode cX10_left 21 = .ok (.getfield 203, 3) := by decide +kernel
theorem dX10_left_24 : decode cX10_left 24 = .ok (.iload_n 2, 1) := by decide +kernel
theorem dX10_left_25 : decode cX10_left 25 = .ok (.iaload, 1) := by decide +kernel
theorem dX10_left_26 : decode cX10_left 26 = .ok (.ireturn, 1) := by decide +kernel
theorem dX10_left_27 : decode cX10_left 27 = .ok (.iconst 0, 1) := by decide +kernel
theorem dX10_left_28 : decode cX10_left 28 = .ok (.istore 4, 2) := by decide +kernel
theorem dX10_left_30 : decode cX10_left 30 = .ok (.iconst 0, 1) := by decide +kernel
theorem dX10_left_31 : decode cX10_left 31 = .ok (.istore 5, 2) := by decide +kernel
theorem dX10_left_33 : decode cX10_left 33 = .ok (.iload 5, 2) := by decide +kernel
theorem dX10_left_35 : decode cX10_left 35 = .ok (.aload_n 0, 1) := by decide +kernel
theorem dX10_left_36 : decode cX10_left 36 = .ok (.getfield 23, 3) := by decide +kernel
theorem dX10_left_39 : decode cX10_left 39 = .ok (.getfield 104, 3) := by decide +kernel
theorem dX10_left_42 : decode cX10_left 42 = .ok (.getfield 121, 3) := by decide +kernel
theorem dX10_left_45 : decode cX10_left 45 = .ok (.if_icmp .ge 21, 3) := by decide +kernel
theorem dX10_left_48 : decode cX10_left 48 = .ok (.iload 4, 2) := by decide +kernel
theorem dX10_left_50 : decode cX10_left 50 = .ok (.aload_n 3, 1) := by decide +kernel
theorem dX10_left_51 : decode cX10_left 51 = .ok (.getfield 203, 3) := by decide +kernel
theorem dX10_left_54 : decode cX10_left 54 = .ok (.iload 5, 2) := by decide +kernel
theorem dX10_left_56 : decode cX10_left 56 = .ok (.iaload, 1) := by decide +kernel
theorem dX10_left_57 : decode cX10_left 57 = .ok (.iadd, 1) := by decide +kernel
theorem dX10_left_58 : decode cX10_left 58 = .ok (.istore 4, 2) := by decide +kernel
theorem dX10_left_60 : decode cX10_left 60 = .ok (.iinc 5 1, 3) := by decide +kernel
theorem dX10_left_63 : decode cX10_left 63 = .ok (.goto (-30), 3) := by decide +kernel
theorem dX10_left_66 : decode cX10_left 66 = .ok (.iload 4, 2) := by decide +kernel
theorem dX10_left_68 : decode cX10_left 68 = .ok (.ireturn, 1) := by decide +kernel
def bX10_left_33 (Y : XS) (n : Nat) (S : PS) (v0 : Nat) (v3 : Nat) (s33 : (Int32 × Int32)) : Option ((Int32 × Int32) ⊕ Int32) :=
  kgr S v0 2 (fun b36 => kgr S b36 0 (fun b39 => kgi S b39 2 (fun x42 => (if x42 ≤ s33.2 then some (.inr s33.1) else kgr S v3 7 (fun b51 => kai Y S b51 s33.2 (fun x56 => some (.inl (s33.1 + x56, s33.2 + (1 : Int32)))))))))
def fX10_left (Y : XS) (n : Nat) (S : PS) (a0 : Nat) (x1_ : Int32) (x2_ : Int32) : Option ((Int32 × PS) ⊕ (Nat × PS)) :=
  kc (fX10_needPayingRule Y n S x1_) (fun q1 => ks q1 (fun p1 => kc (fX10_result Y n p1 a0 x1_) (fun q6 => kty Y q6.1 5 ((if x2_ = (-1 : Int32) then kc (iter (bX10_left_33 Y n q6.2 a0 q6.1) n ((0 : Int32), (0 : Int32))) (fun r33 => some (.inl (r33, q6.2))) else kc (fX10_needVoter Y n q6.2 a0 x2_) (fun q17 => ks q17 (fun p17 => kgr p17 q6.1 7 (fun b21 => kai Y p17 b21 x2_ (fun x25 => some (.inl (x25, p17))))) (fun e17 => some (.inr e17))))))) (fun e1 => some (.inr e1)))
theorem wbX10_left_33 {C : CT} {X : XT} (hC : CK C RX10 cX10_left 6 (some .int) 7) (n : Nat) (S : PS) (v0 : Nat) (v3 : Nat) (hTv0 : Ty X.2.1 v0 10) (hTv3 : Ty X.2.1 v3 5) (s33 : (Int32 × Int32)) {o : (Int32 × Int32) ⊕ Int32} (hf : bX10_left_33 X.2.1 n S v0 v3 s33 = some o) (hN : ∀ s', o = .inl s' → UW C X S 33 [(0, .ref (X.1 v0)), (3, .ref (X.1 v3)), (4, .int s'.1), (5, .int s'.2)] []) (hO0 : ∀ p', o = .inr p' → UW C X S 66 [(4, .int p')] []) : UW C X S 33 [(0, .ref (X.1 v0)), (3, .ref (X.1 v3)), (4, .int s33.1), (5, .int s33.2)] [] := by
  unfold bX10_left_33 at hf
  refine u_iload hC dX10_left_33 3 rfl ?_
  refine u_aload_n hC dX10_left_35 0 rfl rfl ?_
  refine u_gr hC lf_X10_23 rfl hTv0 dX10_left_36 hf (fun b36 hTb36 hf => ?_)
  refine u_gr hC lf_X10_104 rfl hTb36 dX10_left_39 hf (fun b39 hTb39 hf => ?_)
  refine u_gi hC lf_X10_121 rfl hTb39 dX10_left_42 hf (fun x42 hf => ?_)
  refine u_icmp_ge (tgt := 66) hC dX10_left_45 (by decide) hf (fun h45 hf => ?_) (fun h45 hf => ?_)
  · refine u_sub (lv' := [(4, .int s33.1)]) [2] rfl ?_
    exact hO0 _ (Option.some.inj hf).symm
  · refine u_iload hC dX10_left_48 2 rfl ?_
    refine u_aload_n hC dX10_left_50 1 rfl rfl ?_
    refine u_gr hC lf_X10_203 rfl hTv3 dX10_left_51 hf (fun b51 hTb51 hf => ?_)
    refine u_iload hC dX10_left_54 3 rfl ?_
    refine u_ai hC hTb51 dX10_left_56 hf (fun x56 hf => ?_)
    refine u_iadd hC dX10_left_57 ?_
    refine u_istore (lv' := [(4, .int (s33.1 + x56)), (0, .ref (X.1 v0)), (3, .ref (X.1 v3)), (5, .int s33.2)]) hC dX10_left_58 (by decide) rfl ?_
    refine u_iinc (v := s33.2 + (1 : Int32)) (lv' := [(5, .int (s33.2 + (1 : Int32))), (4, .int (s33.1 + x56)), (0, .ref (X.1 v0)), (3, .ref (X.1 v3))]) hC dX10_left_60 3 rfl rfl (by decide) rfl ?_
    refine u_goto (tgt := 33) hC dX10_left_63 (by decide) ?_
    refine u_sub (lv' := [(0, .ref (X.1 v0)), (3, .ref (X.1 v3)), (4, .int (s33.1 + x56)), (5, .int (s33.2 + (1 : Int32)))]) [2, 3, 1, 0] rfl ?_
    exact hN _ (Option.some.inj hf).symm
theorem wX10_left {C : CT} {ρ : Nat → Nat} {Y : XS} (hC : CK C RX10 cX10_left 6 (some .int) 7) (n : Nat) (S : PS) (a0 : Nat) (x1_ : Int32) (x2_ : Int32) (hTa0 : Ty Y a0 10) {o : (Int32 × PS) ⊕ (Nat × PS)} (hf : fX10_left Y n S a0 x1_ x2_ = some o) (hB : XB C (ρ, Y, 0, 0) 8 48) (hR : RtX C ρ Y cX10_left (some .int) 8 48 (mrI o)) (hTo : ThO C ρ Y cX10_left 8 48 (mrI o)) (hTp : ThP C ρ Y 8 48 (mrI o)) : UW C (ρ, Y, 0, 0) S 0 [(0, .ref (ρ a0)), (1, .int x1_), (2, .int x2_)] [] := by
  unfold fX10_left at hf
  refine u_iload_n hC dX10_left_0 1 rfl rfl ?_
  obtain ⟨q1, hq1, hf⟩ := kc_some hf
  refine u_callSX hC (ctX10_needPayingRule (cL C) hC.tr (cG C) ρ Y n S x1_  hq1) (hB.at (Nat.le_of_ble_eq_true rfl) (Nat.le_of_ble_eq_true rfl)) lk_X10_197 (by decide) (by decide) rfl rfl (Nat.le_of_ble_eq_true rfl) dX10_left_1 (fun v' S' he => ?_) (fun k' S' he => ?_)
  · rcases q1 with p1 | e1
    · have he : (Sum.inl (none, p1) : MR) = .inl (v', S') := he
      obtain ⟨hv9, hS9⟩ : none = v' ∧ p1 = S' := by cases he; exact ⟨rfl, rfl⟩
      subst hv9
      subst hS9
      have hf := ks_l hf
      refine u_aload_n hC dX10_left_4 0 rfl rfl ?_
      refine u_iload_n hC dX10_left_5 1 rfl rfl ?_
      obtain ⟨q6, hq6, hf⟩ := kc_some hf
      refine u_callV hC (ctX10_result (cL C) hC.tr (cG C) ρ Y n p1 a0 x1_ hTa0 hq6) lk_X10_162 rfl hTa0 (by decide) rfl (by decide) (by decide) rfl rfl (Nat.le_of_ble_eq_true rfl) dX10_left_6 ?_
      obtain ⟨hq6T, hf⟩ := kty_some hf
      refine u_astore_n (lv' := [(3, .ref (ρ q6.1)), (0, .ref (ρ a0)), (1, .int x1_), (2, .int x2_)]) hC dX10_left_9 rfl (by decide) rfl ?_
      refine u_iload_n hC dX10_left_10 3 rfl rfl ?_
      refine u_iconst (v := (-1 : Int32)) hC dX10_left_11 (by decide) ?_
      refine u_icmp_eq (tgt := 27) hC dX10_left_12 (by decide) hf (fun h12 hf => ?_) (fun h12 hf => ?_)
      · refine u_iconst (v := (0 : Int32)) hC dX10_left_27 (by decide) ?_
        refine u_istore (lv' := [(4, .int (0 : Int32)), (3, .ref (ρ q6.1)), (0, .ref (ρ a0)), (1, .int x1_), (2, .int x2_)]) hC dX10_left_28 (by decide) rfl ?_
        refine u_iconst (v := (0 : Int32)) hC dX10_left_30 (by decide) ?_
        refine u_istore (lv' := [(5, .int (0 : Int32)), (4, .int (0 : Int32)), (3, .ref (ρ q6.1)), (0, .ref (ρ a0)), (1, .int x1_), (2, .int x2_)]) hC dX10_left_31 (by decide) rfl ?_
        obtain ⟨r33, hr33, hf⟩ := kc_some hf
        have hk33 : UW C (ρ, Y, 0 + 1, 0 + 6) q6.2 66 [(4, .int r33)] [] := by
          refine u_iload hC dX10_left_66 0 rfl ?_
          cases hf
          exact hR _ _ rfl _ _ (Nat.le_of_ble_eq_true rfl) (Nat.le_of_ble_eq_true rfl) _ _ dX10_left_68 trivial
        refine u_sub (lv' := [(0, .ref (ρ a0)), (3, .ref (ρ q6.1)), (4, .int (0 : Int32)), (5, .int (0 : Int32))]) [3, 2, 1, 0] rfl ?_
        refine iter_ind (P := fun s33 => UW C (ρ, Y, 0 + 1, 0 + 6) q6.2 33 [(0, .ref (ρ a0)), (3, .ref (ρ q6.1)), (4, .int s33.1), (5, .int s33.2)] []) (fun s33 o' hb hin hout => ?_) n ((0 : Int32), (0 : Int32)) hr33
        exact wbX10_left_33 hC n q6.2 a0 q6.1 hTa0 hq6T s33 hb hin (fun p e => by rw [hout p e]; exact hk33)
      · refine u_aload_n hC dX10_left_15 1 rfl rfl ?_
        refine u_iload_n hC dX10_left_16 3 rfl rfl ?_
        obtain ⟨q17, hq17, hf⟩ := kc_some hf
        refine u_callVX hC (ctX10_needVoter (cL C) hC.tr (cG C) ρ Y n q6.2 a0 x2_ hTa0 hq17) (hB.at (Nat.le_of_ble_eq_true rfl) (Nat.le_of_ble_eq_true rfl)) lk_X10_150 rfl hTa0 (by decide) rfl (by decide) (by decide) rfl rfl (Nat.le_of_ble_eq_true rfl) dX10_left_17 (fun v' S' he => ?_) (fun k' S' he => ?_)
        · rcases q17 with p17 | e17
          · have he : (Sum.inl (none, p17) : MR) = .inl (v', S') := he
            obtain ⟨hv9, hS9⟩ : none = v' ∧ p17 = S' := by cases he; exact ⟨rfl, rfl⟩
            subst hv9
            subst hS9
            have hf := ks_l hf
            refine u_aload_n hC dX10_left_20 0 rfl rfl ?_
            refine u_gr hC lf_X10_203 rfl hq6T dX10_left_21 hf (fun b21 hTb21 hf => ?_)
            refine u_iload_n hC dX10_left_24 3 rfl rfl ?_
            refine u_ai hC hTb21 dX10_left_25 hf (fun x25 hf => ?_)
            cases hf
            exact hR _ _ rfl _ _ (Nat.le_of_ble_eq_true rfl) (Nat.le_of_ble_eq_true rfl) _ _ dX10_left_26 trivial
          · have he : (Sum.inr e17 : MR) = .inl (v', S') := he
            cases he
        · rcases q17 with p17 | e17
          · have he : (Sum.inl (none, p17) : MR) = .inr (k', S') := he
            cases he
          · have he : (Sum.inr e17 : MR) = .inr (k', S') := he
            cases he
            have hf := ks_r hf
            cases hf
            exact hTp _ _ rfl _ _ (Nat.le_of_ble_eq_true rfl) (Nat.le_of_ble_eq_true rfl)
    · have he : (Sum.inr e1 : MR) = .inl (v', S') := he
      cases he
  · rcases q1 with p1 | e1
    · have he : (Sum.inl (none, p1) : MR) = .inr (k', S') := he
      cases he
    · have he : (Sum.inr e1 : MR) = .inr (k', S') := he
      cases he
      have hf := ks_r hf
      cases hf
      exact hTp _ _ rfl _ _ (Nat.le_of_ble_eq_true rfl) (Nat.le_of_ble_eq_true rfl)
theorem ctX10_left (l : Launch) (hl : l.stackTraces = false) (G : GT) (ρ : Nat → Nat) (Y : XS) (n : Nat) (S : PS) (a0 : Nat) (x1_ : Int32) (x2_ : Int32) (hTa0 : Ty Y a0 10) {o : (Int32 × PS) ⊕ (Nat × PS)} (hf : fX10_left Y n S a0 x1_ x2_ = some o) : Mx l G yX10_left cX10_left 6 (some .int) 7 8 48 ρ Y [.ref (ρ a0), .int x1_, .int x2_] S (mrI o) :=
  Mx_of hl (by decide) rfl (by decide) (Nat.le_of_ble_eq_true rfl) (fun C _ _ hC hB hR hTo hTp => wX10_left hC n S a0 x1_ x2_ hTa0 hf hB hR hTo hTp)
-- X10_step
theorem dX10_step_0 : decode cX10_step 0 = .ok (.aload_n 0, 1) := by decide +kernel
theorem dX10_step_1 : decode cX10_step 1 = .ok (.iconst 0, 1) := by decide +kernel
theorem dX10_step_2 : decode cX10_step 2 = .ok (.invokevirtual 162, 3) := by decide +kernel
theorem dX10_step_5 : decode cX10_step 5 = .ok (.astore_n 3, 1) := by decide +kernel
theorem dX10_step_6 : decode cX10_step 6 = .ok (.iload_n 1, 1) := by decide +kernel
theorem dX10_step_7 : decode cX10_step 7 = .ok (.ifCond .lt 11, 3) := by decide +kernel
theorem dX10_step_10 : decode cX10_step 10 = .ok (.iload_n 1, 1) := by decide +kernel
theorem dX10_step_11 : decode cX10_step 11 = .ok (.aload_n 3, 1) := by decide +kernel
theorem dX10_step_12 : decode cX10_step 12 = .ok (.getfield 169, 3) := by decide +kernel
theorem dX10_step_15 : decode cX10_step 15 = .ok (.if_icmp .lt 13, 3) := by decide +kernel
theorem dX10_step_18 : decode cX10_step 18 = .ok (.new 185, 3) := by decide +kernel
theorem dX10_step_21 : decode cX10_step 21 = .ok (.dup, 1) := by decide +kernel
theorem dX10_step_22 : decode cX10_step 22 = .ok (.ldc 187, 2) := by decide +kernel
theorem dX10_step_24 : decode cX10_step 24 = .ok (.invokespecial 189, 3) := by decide +kernel
theorem dX10_step_27 : decode cX10_step 27 = .ok (.athrow, 1) := by decide +kernel
theorem dX10_step_28 : decode cX10_step 28 = .ok (.iload_n 2, 1) := by decide +kernel
theorem dX10_step_29 : decode cX10_step 29 = .ok (.iconst 2, 1) := by decide +kernel
theorem dX10_step_30 : decode cX10_step 30 = .ok (.invokestatic 117, 3) := by decide +kernel
theorem dX10_step_33 : decode cX10_step 33 = .ok (.iload_n 2, 1) := by decide +kernel
theorem dX10_step_34 : decode cX10_step 34 = .ok (.lookupswitch 40 #[(0, 26), (1, 33)], 26) := by decide +kernel
theorem dX10_step_60 : decode cX10_step 60 = .ok (.aload_n 3, 1) := by decide +kernel
theorem dX10_step_61 : decode cX10_step 61 = .ok (.getfield 206, 3) := by decide +kernel
theorem dX10_step_64 : decode cX10_step 64 = .ok (.iload_n 1, 1) := by decide +kernel
theorem dX10_step_65 : decode cX10_step 65 = .ok (.iaload, 1) := by decide +kernel
theorem dX10_step_66 : decode cX10_step 66 = .ok (.ireturn, 1) := by decide +kernel
theorem dX10_step_67 : decode cX10_step 67 = .ok (.aload_n 3, 1) := by decide +kernel
theorem dX10_step_68 : decode cX10_step 68 = .ok (.getfield 209, 3) := by decide +kernel
theorem dX10_step_71 : decode cX10_step 71 = .ok (.iload_n 1, 1) := by decide +kernel
theorem dX10_step_72 : decode cX10_step 72 = .ok (.iaload, 1) := by decide +kernel
theorem dX10_step_73 : decode cX10_step 73 = .ok (.ireturn, 1) := by decide +kernel
theorem dX10_step_74 : decode cX10_step 74 = .ok (.aload_n 3, 1) := by decide +kernel
theorem dX10_step_75 : decode cX10_step 75 = .ok (.getfield 212, 3) := by decide +kernel
theorem dX10_step_78 : decode cX10_step 78 = .ok (.iload_n 1, 1) := by decide +kernel
theorem dX10_step_79 : decode cX10_step 79 = .ok (.iaload, 1) := by decide +kernel
theorem dX10_step_80 : decode cX10_step 80 = .ok (.ireturn, 1) := by decide +kernel
def jX10_step_18 (Y : XS) (n : Nat) (S : PS)  : Option ((Int32 × PS) ⊕ (Nat × PS)) :=
  some (.inr (1, S))
def fX10_step (Y : XS) (n : Nat) (S : PS) (a0 : Nat) (x1_ : Int32) (x2_ : Int32) : Option ((Int32 × PS) ⊕ (Nat × PS)) :=
  kc (fX10_result Y n S a0 (0 : Int32)) (fun q2 => kty Y q2.1 5 ((if x1_ < 0 then jX10_step_18 Y n q2.2  else kgi q2.2 q2.1 1 (fun x12 => (if x1_ < x12 then kc (fX10_needWhat Y n q2.2 x2_ (2 : Int32)) (fun q30 => ks q30 (fun p30 => (if x2_ = (0 : Int32) then kgr p30 q2.1 8 (fun b61 => kai Y p30 b61 x1_ (fun x65 => some (.inl (x65, p30)))) else (if x2_ = (1 : Int32) then kgr p30 q2.1 9 (fun b68 => kai Y p30 b68 x1_ (fun x72 => some (.inl (x72, p30)))) else kgr p30 q2.1 10 (fun b75 => kai Y p30 b75 x1_ (fun x79 => some (.inl (x79, p30))))))) (fun e30 => some (.inr e30))) else jX10_step_18 Y n q2.2 )))))
theorem wjX10_step_18 {C : CT} {ρ : Nat → Nat} {Y : XS} (hC : CK C RX10 cX10_step 4 (some .int) 7) (n : Nat) (S : PS)    {o : (Int32 × PS) ⊕ (Nat × PS)} (hf : jX10_step_18 Y n S  = some o) (hB : XB C (ρ, Y, 0, 0) 8 48) (hR : RtX C ρ Y cX10_step (some .int) 8 48 (mrI o)) (hTo : ThO C ρ Y cX10_step 8 48 (mrI o)) (hTp : ThP C ρ Y 8 48 (mrI o)) : UW C (ρ, Y, 0, 0) S 18 [] [] := by
  unfold jX10_step_18 at hf
  cases hf
  exact hTo _ _ rfl (by decide) _ _ (Nat.le_of_ble_eq_true rfl) (Nat.le_of_ble_eq_true rfl) _ _ 13 ⟨by decide, rfl, dX10_step_18, dX10_step_21, Or.inl ⟨dX10_step_22, dX10_step_24, dX10_step_27⟩⟩
theorem wX10_step {C : CT} {ρ : Nat → Nat} {Y : XS} (hC : CK C RX10 cX10_step 4 (some .int) 7) (n : Nat) (S : PS) (a0 : Nat) (x1_ : Int32) (x2_ : Int32) (hTa0 : Ty Y a0 10) {o : (Int32 × PS) ⊕ (Nat × PS)} (hf : fX10_step Y n S a0 x1_ x2_ = some o) (hB : XB C (ρ, Y, 0, 0) 8 48) (hR : RtX C ρ Y cX10_step (some .int) 8 48 (mrI o)) (hTo : ThO C ρ Y cX10_step 8 48 (mrI o)) (hTp : ThP C ρ Y 8 48 (mrI o)) : UW C (ρ, Y, 0, 0) S 0 [(0, .ref (ρ a0)), (1, .int x1_), (2, .int x2_)] [] := by
  unfold fX10_step at hf
  refine u_aload_n hC dX10_step_0 0 rfl rfl ?_
  refine u_iconst (v := (0 : Int32)) hC dX10_step_1 (by decide) ?_
  obtain ⟨q2, hq2, hf⟩ := kc_some hf
  refine u_callV hC (ctX10_result (cL C) hC.tr (cG C) ρ Y n S a0 (0 : Int32) hTa0 hq2) lk_X10_162 rfl hTa0 (by decide) rfl (by decide) (by decide) rfl rfl (Nat.le_of_ble_eq_true rfl) dX10_step_2 ?_
  obtain ⟨hq2T, hf⟩ := kty_some hf
  refine u_astore_n (lv' := [(3, .ref (ρ q2.1)), (0, .ref (ρ a0)), (1, .int x1_), (2, .int x2_)]) hC dX10_step_5 rfl (by decide) rfl ?_
  refine u_iload_n hC dX10_step_6 2 rfl rfl ?_
  refine u_if_lt (tgt := 18) hC dX10_step_7 (by decide) hf (fun h7 hf => ?_) (fun h7 hf => ?_)
  · refine u_sub (lv' := []) [] rfl ?_
    exact wjX10_step_18 hC n q2.2    hf hB hR hTo hTp
  · refine u_iload_n hC dX10_step_10 2 rfl rfl ?_
    refine u_aload_n hC dX10_step_11 0 rfl rfl ?_
    refine u_gi hC lf_X10_169 rfl hq2T dX10_step_12 hf (fun x12 hf => ?_)
    refine u_icmp_lt (tgt := 28) hC dX10_step_15 (by decide) hf (fun h15 hf => ?_) (fun h15 hf => ?_)
    · refine u_iload_n hC dX10_step_28 3 rfl rfl ?_
      refine u_iconst (v := (2 : Int32)) hC dX10_step_29 (by decide) ?_
      obtain ⟨q30, hq30, hf⟩ := kc_some hf
      refine u_callSX hC (ctX10_needWhat (cL C) hC.tr (cG C) ρ Y n q2.2 x2_ (2 : Int32)  hq30) (hB.at (Nat.le_of_ble_eq_true rfl) (Nat.le_of_ble_eq_true rfl)) lk_X10_117 (by decide) (by decide) rfl rfl (Nat.le_of_ble_eq_true rfl) dX10_step_30 (fun v' S' he => ?_) (fun k' S' he => ?_)
      · rcases q30 with p30 | e30
        · have he : (Sum.inl (none, p30) : MR) = .inl (v', S') := he
          obtain ⟨hv9, hS9⟩ : none = v' ∧ p30 = S' := by cases he; exact ⟨rfl, rfl⟩
          subst hv9
          subst hS9
          have hf := ks_l hf
          refine u_iload_n hC dX10_step_33 3 rfl rfl ?_
          by_cases hs34_0 : x2_ = (0 : Int32)
          · rw [if_pos hs34_0] at hf
            refine u_look (off := 26) (tgt := 60) hC dX10_step_34 (by decide) (by rw [hs34_0]; try rfl) (by decide) ?_
            refine u_aload_n hC dX10_step_60 0 rfl rfl ?_
            refine u_gr hC lf_X10_206 rfl hq2T dX10_step_61 hf (fun b61 hTb61 hf => ?_)
            refine u_iload_n hC dX10_step_64 2 rfl rfl ?_
            refine u_ai hC hTb61 dX10_step_65 hf (fun x65 hf => ?_)
            cases hf
            exact hR _ _ rfl _ _ (Nat.le_of_ble_eq_true rfl) (Nat.le_of_ble_eq_true rfl) _ _ dX10_step_66 trivial
          rw [if_neg hs34_0] at hf
          by_cases hs34_1 : x2_ = (1 : Int32)
          · rw [if_pos hs34_1] at hf
            refine u_look (off := 33) (tgt := 67) hC dX10_step_34 (by decide) (by rw [hs34_1]; try rfl) (by decide) ?_
            refine u_aload_n hC dX10_step_67 0 rfl rfl ?_
            refine u_gr hC lf_X10_209 rfl hq2T dX10_step_68 hf (fun b68 hTb68 hf => ?_)
            refine u_iload_n hC dX10_step_71 2 rfl rfl ?_
            refine u_ai hC hTb68 dX10_step_72 hf (fun x72 hf => ?_)
            cases hf
            exact hR _ _ rfl _ _ (Nat.le_of_ble_eq_true rfl) (Nat.le_of_ble_eq_true rfl) _ _ dX10_step_73 trivial
          rw [if_neg hs34_1] at hf
          refine u_look (off := 40) (tgt := 74) hC dX10_step_34 (by decide) (by show Op.lookupswitch.offset [(0, 26), (1, 33)] 40 (Int32.toInt x2_) = 40; rw [lv_osw hs34_0 (by decide), lv_osw hs34_1 (by decide)]; rfl) (by decide) ?_
          refine u_aload_n hC dX10_step_74 0 rfl rfl ?_
          refine u_gr hC lf_X10_212 rfl hq2T dX10_step_75 hf (fun b75 hTb75 hf => ?_)
          refine u_iload_n hC dX10_step_78 2 rfl rfl ?_
          refine u_ai hC hTb75 dX10_step_79 hf (fun x79 hf => ?_)
          cases hf
          exact hR _ _ rfl _ _ (Nat.le_of_ble_eq_true rfl) (Nat.le_of_ble_eq_true rfl) _ _ dX10_step_80 trivial
        · have he : (Sum.inr e30 : MR) = .inl (v', S') := he
          cases he
      · rcases q30 with p30 | e30
        · have he : (Sum.inl (none, p30) : MR) = .inr (k', S') := he
          cases he
        · have he : (Sum.inr e30 : MR) = .inr (k', S') := he
          cases he
          have hf := ks_r hf
          cases hf
          exact hTp _ _ rfl _ _ (Nat.le_of_ble_eq_true rfl) (Nat.le_of_ble_eq_true rfl)
    · refine u_sub (lv' := []) [] rfl ?_
      exact wjX10_step_18 hC n q2.2    hf hB hR hTo hTp
theorem ctX10_step (l : Launch) (hl : l.stackTraces = false) (G : GT) (ρ : Nat → Nat) (Y : XS) (n : Nat) (S : PS) (a0 : Nat) (x1_ : Int32) (x2_ : Int32) (hTa0 : Ty Y a0 10) {o : (Int32 × PS) ⊕ (Nat × PS)} (hf : fX10_step Y n S a0 x1_ x2_ = some o) : Mx l G yX10_step cX10_step 4 (some .int) 7 8 48 ρ Y [.ref (ρ a0), .int x1_, .int x2_] S (mrI o) :=
  Mx_of hl (by decide) rfl (by decide) (Nat.le_of_ble_eq_true rfl) (fun C _ _ hC hB hR hTo hTp => wX10_step hC n S a0 x1_ x2_ hTa0 hf hB hR hTo hTp)
-- X10_price
theorem dX10_price_0 : decode cX10_price 0 = .ok (.aload_n 0, 1) := by decide +kernel
theorem dX10_price_1 : decode cX10_price 1 = .ok (.iload_n 1, 1) := by decide +kernel
theorem dX10_price_2 : decode cX10_price 2 = .ok (.invokevirtual 134, 3) := by decide +kernel
theorem dX10_price_5 : decode cX10_price 5 = .ok (.aload_n 0, 1) := by decide +kernel
theorem dX10_price_6 : decode cX10_price 6 = .ok (.iconst 0, 1) := by decide +kernel
theorem dX10_price_7 : decode cX10_price 7 = .ok (.invokevirtual 162, 3) := by decide +kernel
theorem dX10_price_10 : decode cX10_price 10 = .ok (.astore_n 3, 1) := by decide +kernel
theorem dX10_price_11 : decode cX10_price 11 = .ok (.iload_n 2, 1) := by decide +kernel
theorem dX10_price_12 : decode cX10_price 12 = .ok (.ifCond .lt 11, 3) := by decide +kernel
theorem dX10_price_15 : decode cX10_price 15 = .ok (.iload_n 2, 1) := by decide +kernel
theorem dX10_price_16 : decode cX10_price 16 = .ok (.aload_n 3, 1) := by decide +kernel
theorem dX10_price_17 : decode cX10_price 17 = .ok (.getfield 169, 3) := by decide +kernel
theorem dX10_price_20 : decode cX10_price 20 = .ok (.if_icmp .le 13, 3) := by decide +kernel
theorem dX10_price_23 : decode cX10_price 23 = .ok (.new 185, 3) := by decide +kernel
theorem dX10_price_26 : decode cX10_price 26 = .ok (.dup, 1) := by decide +kernel
theorem dX10_price_27 : decode cX10_price 27 = .ok (.ldc 187, 2) := by decide +kernel
theorem dX10_price_29 : decode cX10_price 29 = .ok (.invokespecial 189, 3) := by decide +kernel
theorem dX10_price_32 : decode cX10_price 32 = .ok (.athrow, 1) := by decide +kernel
theorem dX10_price_33 : decode cX10_price 33 = .ok (.aload_n 0, 1) := by decide +kernel
theorem dX10_price_34 : decode cX10_price 34 = .ok (.getfield 47, 3) := by decide +kernel
theorem dX10_price_37 : decode cX10_price 37 = .ok (.getfield 215, 3) := by decide +kernel
theorem dX10_price_40 : decode cX10_price 40 = .ok (.aload_n 0, 1) := by decide +kernel
theorem dX10_price_41 : decode cX10_price 41 = .ok (.getfield 23, 3) := by decide +kernel
theorem dX10_price_44 : decode cX10_price 44 = .ok (.aload_n 3, 1) := by decide +kernel
theorem dX10_price_45 : decode cX10_price 45 = .ok (.iload_n 1, 1) := by decide +kernel
theorem dX10_price_46 : decode cX10_price 46 = .ok (.iload_n 2, 1) := by decide +kernel
theorem dX10_price_47 : decode cX10_price 47 = .ok (.invokevirtual 219, 3) := by decide +kernel
theorem dX10_price_50 : decode cX10_price 50 = .ok (.ireturn, 1) := by decide +kernel
def jX10_price_23 (Y : XS) (n : Nat) (S : PS)  : Option ((Int32 × PS) ⊕ (Nat × PS)) :=
  some (.inr (1, S))
def fX10_price (Y : XS) (n : Nat) (S : PS) (a0 : Nat) (x1_ : Int32) (x2_ : Int32) : Option ((Int32 × PS) ⊕ (Nat × PS)) :=
  kc (fX10_needProject Y n S a0 x1_) (fun q2 => ks q2 (fun p2 => kc (fX10_result Y n p2 a0 (0 : Int32)) (fun q7 => kty Y q7.1 5 ((if x2_ < 0 then jX10_price_23 Y n q7.2  else kgi q7.2 q7.1 1 (fun x17 => (if x2_ ≤ x17 then kgr q7.2 a0 7 (fun b34 => kgr q7.2 b34 0 (fun b37 => kgr q7.2 a0 2 (fun b41 => kc (fX9_priceBehind Y n q7.2 b37 b41 q7.1 x1_ x2_) (fun q47 => some (.inl (q47.1, q47.2)))))) else jX10_price_23 Y n q7.2 )))))) (fun e2 => some (.inr e2)))
theorem wjX10_price_23 {C : CT} {ρ : Nat → Nat} {Y : XS} (hC : CK C RX10 cX10_price 4 (some .int) 7) (n : Nat) (S : PS)    {o : (Int32 × PS) ⊕ (Nat × PS)} (hf : jX10_price_23 Y n S  = some o) (hB : XB C (ρ, Y, 0, 0) 8 48) (hR : RtX C ρ Y cX10_price (some .int) 8 48 (mrI o)) (hTo : ThO C ρ Y cX10_price 8 48 (mrI o)) (hTp : ThP C ρ Y 8 48 (mrI o)) : UW C (ρ, Y, 0 + 1, 0 + 6) S 23 [] [] := by
  unfold jX10_price_23 at hf
  cases hf
  exact hTo _ _ rfl (by decide) _ _ (Nat.le_of_ble_eq_true rfl) (Nat.le_of_ble_eq_true rfl) _ _ 13 ⟨by decide, rfl, dX10_price_23, dX10_price_26, Or.inl ⟨dX10_price_27, dX10_price_29, dX10_price_32⟩⟩
theorem wX10_price {C : CT} {ρ : Nat → Nat} {Y : XS} (hC : CK C RX10 cX10_price 4 (some .int) 7) (n : Nat) (S : PS) (a0 : Nat) (x1_ : Int32) (x2_ : Int32) (hTa0 : Ty Y a0 10) {o : (Int32 × PS) ⊕ (Nat × PS)} (hf : fX10_price Y n S a0 x1_ x2_ = some o) (hB : XB C (ρ, Y, 0, 0) 8 48) (hR : RtX C ρ Y cX10_price (some .int) 8 48 (mrI o)) (hTo : ThO C ρ Y cX10_price 8 48 (mrI o)) (hTp : ThP C ρ Y 8 48 (mrI o)) : UW C (ρ, Y, 0, 0) S 0 [(0, .ref (ρ a0)), (1, .int x1_), (2, .int x2_)] [] := by
  unfold fX10_price at hf
  refine u_aload_n hC dX10_price_0 0 rfl rfl ?_
  refine u_iload_n hC dX10_price_1 1 rfl rfl ?_
  obtain ⟨q2, hq2, hf⟩ := kc_some hf
  refine u_callVX hC (ctX10_needProject (cL C) hC.tr (cG C) ρ Y n S a0 x1_ hTa0 hq2) (hB.at (Nat.le_of_ble_eq_true rfl) (Nat.le_of_ble_eq_true rfl)) lk_X10_134 rfl hTa0 (by decide) rfl (by decide) (by decide) rfl rfl (Nat.le_of_ble_eq_true rfl) dX10_price_2 (fun v' S' he => ?_) (fun k' S' he => ?_)
  · rcases q2 with p2 | e2
    · have he : (Sum.inl (none, p2) : MR) = .inl (v', S') := he
      obtain ⟨hv9, hS9⟩ : none = v' ∧ p2 = S' := by cases he; exact ⟨rfl, rfl⟩
      subst hv9
      subst hS9
      have hf := ks_l hf
      refine u_aload_n hC dX10_price_5 0 rfl rfl ?_
      refine u_iconst (v := (0 : Int32)) hC dX10_price_6 (by decide) ?_
      obtain ⟨q7, hq7, hf⟩ := kc_some hf
      refine u_callV hC (ctX10_result (cL C) hC.tr (cG C) ρ Y n p2 a0 (0 : Int32) hTa0 hq7) lk_X10_162 rfl hTa0 (by decide) rfl (by decide) (by decide) rfl rfl (Nat.le_of_ble_eq_true rfl) dX10_price_7 ?_
      obtain ⟨hq7T, hf⟩ := kty_some hf
      refine u_astore_n (lv' := [(3, .ref (ρ q7.1)), (0, .ref (ρ a0)), (1, .int x1_), (2, .int x2_)]) hC dX10_price_10 rfl (by decide) rfl ?_
      refine u_iload_n hC dX10_price_11 3 rfl rfl ?_
      refine u_if_lt (tgt := 23) hC dX10_price_12 (by decide) hf (fun h12 hf => ?_) (fun h12 hf => ?_)
      · refine u_sub (lv' := []) [] rfl ?_
        exact wjX10_price_23 hC n q7.2    hf hB hR hTo hTp
      · refine u_iload_n hC dX10_price_15 3 rfl rfl ?_
        refine u_aload_n hC dX10_price_16 0 rfl rfl ?_
        refine u_gi hC lf_X10_169 rfl hq7T dX10_price_17 hf (fun x17 hf => ?_)
        refine u_icmp_le (tgt := 33) hC dX10_price_20 (by decide) hf (fun h20 hf => ?_) (fun h20 hf => ?_)
        · refine u_aload_n hC dX10_price_33 1 rfl rfl ?_
          refine u_gr hC lf_X10_47 rfl hTa0 dX10_price_34 hf (fun b34 hTb34 hf => ?_)
          refine u_gr hC lf_X10_215 rfl hTb34 dX10_price_37 hf (fun b37 hTb37 hf => ?_)
          refine u_aload_n hC dX10_price_40 1 rfl rfl ?_
          refine u_gr hC lf_X10_23 rfl hTa0 dX10_price_41 hf (fun b41 hTb41 hf => ?_)
          refine u_aload_n hC dX10_price_44 0 rfl rfl ?_
          refine u_iload_n hC dX10_price_45 2 rfl rfl ?_
          refine u_iload_n hC dX10_price_46 3 rfl rfl ?_
          obtain ⟨q47, hq47, hf⟩ := kc_some hf
          refine u_callV hC (ctX9_priceBehind (cL C) hC.tr (cG C) ρ Y n q7.2 b37 b41 q7.1 x1_ x2_ hTb37 hTb41 hq7T hq47) lk_X10_219 rfl hTb37 (by decide) rfl (by decide) (by decide) rfl rfl (Nat.le_of_ble_eq_true rfl) dX10_price_47 ?_
          cases hf
          exact hR _ _ rfl _ _ (Nat.le_of_ble_eq_true rfl) (Nat.le_of_ble_eq_true rfl) _ _ dX10_price_50 trivial
        · refine u_sub (lv' := []) [] rfl ?_
          exact wjX10_price_23 hC n q7.2    hf hB hR hTo hTp
    · have he : (Sum.inr e2 : MR) = .inl (v', S') := he
      cases he
  · rcases q2 with p2 | e2
    · have he : (Sum.inl (none, p2) : MR) = .inr (k', S') := he
      cases he
    · have he : (Sum.inr e2 : MR) = .inr (k', S') := he
      cases he
      have hf := ks_r hf
      cases hf
      exact hTp _ _ rfl _ _ (Nat.le_of_ble_eq_true rfl) (Nat.le_of_ble_eq_true rfl)
theorem ctX10_price (l : Launch) (hl : l.stackTraces = false) (G : GT) (ρ : Nat → Nat) (Y : XS) (n : Nat) (S : PS) (a0 : Nat) (x1_ : Int32) (x2_ : Int32) (hTa0 : Ty Y a0 10) {o : (Int32 × PS) ⊕ (Nat × PS)} (hf : fX10_price Y n S a0 x1_ x2_ = some o) : Mx l G yX10_price cX10_price 4 (some .int) 7 8 48 ρ Y [.ref (ρ a0), .int x1_, .int x2_] S (mrI o) :=
  Mx_of hl (by decide) rfl (by decide) (Nat.le_of_ble_eq_true rfl) (fun C _ _ hC hB hR hTo hTp => wX10_price hC n S a0 x1_ x2_ hTa0 hf hB hR hTo hTp)
-- X10_needGroup
theorem dX10_needGroup_0 : decode cX10_needGroup 0 = .ok (.iload_n 1, 1) := by decide +kernel
theorem dX10_needGroup_1 : decode cX10_needGroup 1 = .ok (.iconst 1, 1) := by decide +kernel
theorem dX10_needGroup_2 : decode cX10_needGroup 2 = .ok (.if_icmp .lt 19, 3) := by decide +kernel
theorem dX10_needGroup_5 : decode cX10_needGroup 5 = .ok (.iload_n 1, 1) := by decide +kernel
theorem dX10_needGroup_6 : decode cX10_needGroup 6 = .ok (.iconst 1, 1) := by decide +kernel
theorem dX10_needGroup_7 : decode cX10_needGroup 7 = .ok (.aload_n 0, 1) := by decide +kernel
theorem dX10_needGroup_8 : decode cX10_needGroup 8 = .ok (.getfield 23, 3) := by decide +kernel
theorem dX10_needGroup_11 : decode cX10_needGroup 11 = .ok (.getfield 104, 3) := by decide +kernel
theorem dX10_needGroup_14 : decode cX10_needGroup 14 = .ok (.getfield 105, 3) := by decide +kernel
theorem dX10_needGroup_17 : decode cX10_needGroup 17 = .ok (.ishl, 1) := by decide +kernel
theorem dX10_needGroup_18 : decode cX10_needGroup 18 = .ok (.if_icmp .lt 14, 3) := by decide +kernel
theorem dX10_needGroup_21 : decode cX10_needGroup 21 = .ok (.new 185, 3) := by decide +kernel
theorem dX10_needGroup_24 : decode cX10_needGroup 24 = .ok (.dup, 1) := by decide +kernel
theorem dX10_needGroup_25 : decode cX10_needGroup 25 = .ok (.ldc_w 321, 3) := by decide +kernel
theorem dX10_needGroup_28 : decode cX10_needGroup 28 = .ok (.invokespecial 189, 3) := by decide +kernel
theorem dX10_needGroup_31 : decode cX10_needGroup 31 = .ok (.athrow, 1) := by decide +kernel
theorem dX10_needGroup_32 : decode cX10_needGroup 32 = .ok (.return_, 1) := by decide +kernel
def jX10_needGroup_21 (Y : XS) (n : Nat) (S : PS)  : Option ((PS) ⊕ (Nat × PS)) :=
  some (.inr (1, S))
def fX10_needGroup (Y : XS) (n : Nat) (S : PS) (a0 : Nat) (x1_ : Int32) : Option ((PS) ⊕ (Nat × PS)) :=
  (if x1_ < (1 : Int32) then jX10_needGroup_21 Y n S  else kgr S a0 2 (fun b8 => kgr S b8 0 (fun b11 => kgi S b11 1 (fun x14 => (if x1_ < ((1 : Int32) <<< (x14 &&& 31)) then some (.inl S) else jX10_needGroup_21 Y n S )))))
theorem wjX10_needGroup_21 {C : CT} {ρ : Nat → Nat} {Y : XS} (hC : CK C RX10 cX10_needGroup 2 none 6) (n : Nat) (S : PS)    {o : (PS) ⊕ (Nat × PS)} (hf : jX10_needGroup_21 Y n S  = some o) (hB : XB C (ρ, Y, 0, 0) 1 6) (hR : RtX C ρ Y cX10_needGroup none 1 6 (mrV o)) (hTo : ThO C ρ Y cX10_needGroup 1 6 (mrV o)) (hTp : ThP C ρ Y 1 6 (mrV o)) : UW C (ρ, Y, 0, 0) S 21 [] [] := by
  unfold jX10_needGroup_21 at hf
  cases hf
  exact hTo _ _ rfl (by decide) _ _ (Nat.le_of_ble_eq_true rfl) (Nat.le_of_ble_eq_true rfl) _ _ 14 ⟨by decide, rfl, dX10_needGroup_21, dX10_needGroup_24, Or.inr ⟨dX10_needGroup_25, dX10_needGroup_28, dX10_needGroup_31⟩⟩
theorem wX10_needGroup {C : CT} {ρ : Nat → Nat} {Y : XS} (hC : CK C RX10 cX10_needGroup 2 none 6) (n : Nat) (S : PS) (a0 : Nat) (x1_ : Int32) (hTa0 : Ty Y a0 10) {o : (PS) ⊕ (Nat × PS)} (hf : fX10_needGroup Y n S a0 x1_ = some o) (hB : XB C (ρ, Y, 0, 0) 1 6) (hR : RtX C ρ Y cX10_needGroup none 1 6 (mrV o)) (hTo : ThO C ρ Y cX10_needGroup 1 6 (mrV o)) (hTp : ThP C ρ Y 1 6 (mrV o)) : UW C (ρ, Y, 0, 0) S 0 [(0, .ref (ρ a0)), (1, .int x1_)] [] := by
  unfold fX10_needGroup at hf
  refine u_iload_n hC dX10_needGroup_0 1 rfl rfl ?_
  refine u_iconst (v := (1 : Int32)) hC dX10_needGroup_1 (by decide) ?_
  refine u_icmp_lt (tgt := 21) hC dX10_needGroup_2 (by decide) hf (fun h2 hf => ?_) (fun h2 hf => ?_)
  · refine u_sub (lv' := []) [] rfl ?_
    exact wjX10_needGroup_21 hC n S    hf hB hR hTo hTp
  · refine u_iload_n hC dX10_needGroup_5 1 rfl rfl ?_
    refine u_iconst (v := (1 : Int32)) hC dX10_needGroup_6 (by decide) ?_
    refine u_aload_n hC dX10_needGroup_7 0 rfl rfl ?_
    refine u_gr hC lf_X10_23 rfl hTa0 dX10_needGroup_8 hf (fun b8 hTb8 hf => ?_)
    refine u_gr hC lf_X10_104 rfl hTb8 dX10_needGroup_11 hf (fun b11 hTb11 hf => ?_)
    refine u_gi hC lf_X10_105 rfl hTb11 dX10_needGroup_14 hf (fun x14 hf => ?_)
    refine u_ishl hC dX10_needGroup_17 ?_
    refine u_icmp_lt (tgt := 32) hC dX10_needGroup_18 (by decide) hf (fun h18 hf => ?_) (fun h18 hf => ?_)
    · cases hf
      exact hR _ _ rfl _ _ (Nat.le_of_ble_eq_true rfl) (Nat.le_of_ble_eq_true rfl) _ _ dX10_needGroup_32 trivial
    · refine u_sub (lv' := []) [] rfl ?_
      exact wjX10_needGroup_21 hC n S    hf hB hR hTo hTp
theorem ctX10_needGroup (l : Launch) (hl : l.stackTraces = false) (G : GT) (ρ : Nat → Nat) (Y : XS) (n : Nat) (S : PS) (a0 : Nat) (x1_ : Int32) (hTa0 : Ty Y a0 10) {o : (PS) ⊕ (Nat × PS)} (hf : fX10_needGroup Y n S a0 x1_ = some o) : Mx l G yX10_needGroup cX10_needGroup 2 none 6 1 6 ρ Y [.ref (ρ a0), .int x1_] S (mrV o) :=
  Mx_of hl (by decide) rfl (by decide) (Nat.le_of_ble_eq_true rfl) (fun C _ _ hC hB hR hTo hTp => wX10_needGroup hC n S a0 x1_ hTa0 hf hB hR hTo hTp)
-- X10_group
theorem dX10_group_0 : decode cX10_group 0 = .ok (.aload_n 0, 1) := by decide +kernel
theorem dX10_group_1 : decode cX10_group 1 = .ok (.iload_n 1, 1) := by decide +kernel
theorem dX10_group_2 : decode cX10_group 2 = .ok (.invokevirtual 225, 3) := by decide +kernel
theorem dX10_group_5 : decode cX10_group 5 = .ok (.iload_n 2, 1) := by decide +kernel
theorem dX10_group_6 : decode cX10_group 6 = .ok (.iconst 3, 1) := by decide +kernel
theorem dX10_group_7 : decode cX10_group 7 = .ok (.invokestatic 117, 3) := by decide +kernel
theorem dX10_group_10 : decode cX10_group 10 = .ok (.aload_n 0, 1) := by decide +kernel
theorem dX10_group_11 : decode cX10_group 11 = .ok (.getfield 23, 3) := by decide +kernel
theorem dX10_group_14 : decode cX10_group 14 = .ok (.iload_n 1, 1) := by decide +kernel
theorem dX10_group_15 : decode cX10_group 15 = .ok (.invokevirtual 228, 3) := by decide +kernel
theorem dX10_group_18 : decode cX10_group 18 = .ok (.istore_n 3, 1) := by decide +kernel
theorem dX10_group_19 : decode cX10_group 19 = .ok (.iload_n 2, 1) := by decide +kernel
theorem dX10_group_20 : decode cX10_group 20 = .ok (.tableswitch 47 0 2 #[28, 30, 35], 28) := by decide +kernel
theorem dX10_group_48 : decode cX10_group 48 = .ok (.iload_n 3, 1) := by decide +kernel
theorem dX10_group_49 : decode cX10_group 49 = .ok (.ireturn, 1) := by decide +kernel
theorem dX10_group_50 : decode cX10_group 50 = .ok (.iload_n 3, 1) := by decide +kernel
theorem dX10_group_51 : decode cX10_group 51 = .ok (.invokestatic 231, 3) := by decide +kernel
theorem dX10_group_54 : decode cX10_group 54 = .ok (.ireturn, 1) := by decide +kernel
theorem dX10_group_55 : decode cX10_group 55 = .ok (.aload_n 0, 1) := by decide +kernel
theorem dX10_group_56 : decode cX10_group 56 = .ok (.getfield 23, 3) := by decide +kernel
theorem dX10_group_59 : decode cX10_group 59 = .ok (.getfield 104, 3) := by decide +kernel
theorem dX10_group_62 : decode cX10_group 62 = .ok (.iload_n 1, 1) := by decide +kernel
theorem dX10_group_63 : decode cX10_group 63 = .ok (.invokevirtual 127, 3) := by decide +kernel
theorem dX10_group_66 : decode cX10_group 66 = .ok (.ireturn, 1) := by decide +kernel
theorem dX10_group_67 : decode cX10_group 67 = .ok (.aload_n 0, 1) := by decide +kernel
theorem dX10_group_68 : decode cX10_group 68 = .ok (.getfield 23, 3) := by decide +kernel
theorem dX10_group_71 : decode cX10_group 71 = .ok (.iload_n 3, 1) := by decide +kernel
theorem dX10_group_72 : decode cX10_group 72 = .ok (.aload_n 0, 1) := by decide +kernel
theorem dX10_group_73 : decode cX10_group 73 = .ok (.getfield 23, 3) := by decide +kernel
theorem dX10_group_76 : decode cX10_group 76 = .ok (.getfield 104, 3) := by decide +kernel
theorem dX10_group_79 : decode cX10_group 79 = .ok (.iload_n 1, 1) := by decide +kernel
theorem dX10_group_80 : decode cX10_group 80 = .ok (.invokevirtual 127, 3) := by decide +kernel
theorem dX10_group_83 : decode cX10_group 83 = .ok (.invokevirtual 236, 3) := by decide +kernel
theorem dX10_group_86 : decode cX10_group 86 = .ok (.ifCond .eq 7, 3) := by decide +kernel
theorem dX10_group_89 : decode cX10_group 89 = .ok (.iconst 1, 1) := by decide +kernel
theorem dX10_group_90 : decode cX10_group 90 = .ok (.goto 4, 3) := by decide +kernel
theorem dX10_group_93 : decode cX10_group 93 = .ok (.iconst 0, 1) := by decide +kernel
theorem dX10_group_94 : decode cX10_group 94 = .ok (.ireturn, 1) := by decide +kernel
def jX10_group_94 (Y : XS) (n : Nat) (S : PS) (t0 : Int32) : Option ((Int32 × PS) ⊕ (Nat × PS)) :=
  some (.inl (t0, S))
def fX10_group (Y : XS) (n : Nat) (S : PS) (a0 : Nat) (x1_ : Int32) (x2_ : Int32) : Option ((Int32 × PS) ⊕ (Nat × PS)) :=
  kc (fX10_needGroup Y n S a0 x1_) (fun q2 => ks q2 (fun p2 => kc (fX10_needWhat Y n p2 x2_ (3 : Int32)) (fun q7 => ks q7 (fun p7 => kgr p7 a0 2 (fun b11 => kc (fX6_members Y n p7 b11 x1_) (fun q15 => (if x2_ = (0 : Int32) then some (.inl (q15, p7)) else (if x2_ = (1 : Int32) then kc (fJ6_bitCount_0f7a4 Y n p7 q15) (fun q51 => some (.inl (q51, p7))) else (if x2_ = (2 : Int32) then kgr p7 a0 2 (fun b56 => kgr p7 b56 0 (fun b59 => kc (fX1_costOf Y n p7 b59 x1_) (fun q63 => some (.inl (q63, p7))))) else kgr p7 a0 2 (fun b68 => kgr p7 a0 2 (fun b73 => kgr p7 b73 0 (fun b76 => kc (fX1_costOf Y n p7 b76 x1_) (fun q80 => kc (fX6_isDue Y n p7 b68 q15 q80) (fun q83 => (if q83 = 0 then jX10_group_94 Y n p7 (0 : Int32) else jX10_group_94 Y n p7 (1 : Int32))))))))))))) (fun e7 => some (.inr e7)))) (fun e2 => some (.inr e2)))
theorem wjX10_group_94 {C : CT} {ρ : Nat → Nat} {Y : XS} (hC : CK C RX10 cX10_group 4 (some .int) 7) (n : Nat) (S : PS) (t0 : Int32)   {o : (Int32 × PS) ⊕ (Nat × PS)} (hf : jX10_group_94 Y n S t0 = some o) (hB : XB C (ρ, Y, 0, 0) 8 48) (hR : RtX C ρ Y cX10_group (some .int) 8 48 (mrI o)) (hTo : ThO C ρ Y cX10_group 8 48 (mrI o)) (hTp : ThP C ρ Y 8 48 (mrI o)) : UW C (ρ, Y, 0 + 1 + 1, 0 + 6 + 6) S 94 [] [.int t0] := by
  unfold jX10_group_94 at hf
  cases hf
  exact hR _ _ rfl _ _ (Nat.le_of_ble_eq_true rfl) (Nat.le_of_ble_eq_true rfl) _ _ dX10_group_94 trivial
theorem wX10_group {C : CT} {ρ : Nat → Nat} {Y : XS} (hC : CK C RX10 cX10_group 4 (some .int) 7) (n : Nat) (S : PS) (a0 : Nat) (x1_ : Int32) (x2_ : Int32) (hTa0 : Ty Y a0 10) {o : (Int32 × PS) ⊕ (Nat × PS)} (hf : fX10_group Y n S a0 x1_ x2_ = some o) (hB : XB C (ρ, Y, 0, 0) 8 48) (hR : RtX C ρ Y cX10_group (some .int) 8 48 (mrI o)) (hTo : ThO C ρ Y cX10_group 8 48 (mrI o)) (hTp : ThP C ρ Y 8 48 (mrI o)) : UW C (ρ, Y, 0, 0) S 0 [(0, .ref (ρ a0)), (1, .int x1_), (2, .int x2_)] [] := by
  unfold fX10_group at hf
  refine u_aload_n hC dX10_group_0 0 rfl rfl ?_
  refine u_iload_n hC dX10_group_1 1 rfl rfl ?_
  obtain ⟨q2, hq2, hf⟩ := kc_some hf
  refine u_callVX hC (ctX10_needGroup (cL C) hC.tr (cG C) ρ Y n S a0 x1_ hTa0 hq2) (hB.at (Nat.le_of_ble_eq_true rfl) (Nat.le_of_ble_eq_true rfl)) lk_X10_225 rfl hTa0 (by decide) rfl (by decide) (by decide) rfl rfl (Nat.le_of_ble_eq_true rfl) dX10_group_2 (fun v' S' he => ?_) (fun k' S' he => ?_)
  · rcases q2 with p2 | e2
    · have he : (Sum.inl (none, p2) : MR) = .inl (v', S') := he
      obtain ⟨hv9, hS9⟩ : none = v' ∧ p2 = S' := by cases he; exact ⟨rfl, rfl⟩
      subst hv9
      subst hS9
      have hf := ks_l hf
      refine u_iload_n hC dX10_group_5 2 rfl rfl ?_
      refine u_iconst (v := (3 : Int32)) hC dX10_group_6 (by decide) ?_
      obtain ⟨q7, hq7, hf⟩ := kc_some hf
      refine u_callSX hC (ctX10_needWhat (cL C) hC.tr (cG C) ρ Y n p2 x2_ (3 : Int32)  hq7) (hB.at (Nat.le_of_ble_eq_true rfl) (Nat.le_of_ble_eq_true rfl)) lk_X10_117 (by decide) (by decide) rfl rfl (Nat.le_of_ble_eq_true rfl) dX10_group_7 (fun v' S' he => ?_) (fun k' S' he => ?_)
      · rcases q7 with p7 | e7
        · have he : (Sum.inl (none, p7) : MR) = .inl (v', S') := he
          obtain ⟨hv9, hS9⟩ : none = v' ∧ p7 = S' := by cases he; exact ⟨rfl, rfl⟩
          subst hv9
          subst hS9
          have hf := ks_l hf
          refine u_aload_n hC dX10_group_10 0 rfl rfl ?_
          refine u_gr hC lf_X10_23 rfl hTa0 dX10_group_11 hf (fun b11 hTb11 hf => ?_)
          refine u_iload_n hC dX10_group_14 1 rfl rfl ?_
          obtain ⟨q15, hq15, hf⟩ := kc_some hf
          refine u_callV hC (ctX6_members (cL C) hC.tr (cG C) ρ Y n p7 b11 x1_ hTb11 hq15) lk_X10_228 rfl hTb11 (by decide) rfl (by decide) (by decide) rfl rfl (Nat.le_of_ble_eq_true rfl) dX10_group_15 ?_
          refine u_istore_n (lv' := [(3, .int q15), (0, .ref (ρ a0)), (1, .int x1_), (2, .int x2_)]) hC dX10_group_18 rfl (by decide) rfl ?_
          refine u_iload_n hC dX10_group_19 3 rfl rfl ?_
          by_cases hs20_0 : x2_ = (0 : Int32)
          · rw [if_pos hs20_0] at hf
            refine u_tin (tgt := 48) hC dX10_group_20 (by rw [hs20_0]; decide) (by rw [hs20_0]; decide) (by rw [hs20_0]; rfl) (by decide) ?_
            refine u_iload_n hC dX10_group_48 0 rfl rfl ?_
            cases hf
            exact hR _ _ rfl _ _ (Nat.le_of_ble_eq_true rfl) (Nat.le_of_ble_eq_true rfl) _ _ dX10_group_49 trivial
          rw [if_neg hs20_0] at hf
          by_cases hs20_1 : x2_ = (1 : Int32)
          · rw [if_pos hs20_1] at hf
            refine u_tin (tgt := 50) hC dX10_group_20 (by rw [hs20_1]; decide) (by rw [hs20_1]; decide) (by rw [hs20_1]; rfl) (by decide) ?_
            refine u_iload_n hC dX10_group_50 0 rfl rfl ?_
            obtain ⟨q51, hq51, hf⟩ := kc_some hf
            refine u_callS hC (ctJ6_bitCount_0f7a4 (cL C) hC.tr (cG C) ρ Y n p7 q15  hq51) lk_X10_231 (by decide) (by decide) rfl rfl (Nat.le_of_ble_eq_true rfl) dX10_group_51 ?_
            cases hf
            exact hR _ _ rfl _ _ (Nat.le_of_ble_eq_true rfl) (Nat.le_of_ble_eq_true rfl) _ _ dX10_group_54 trivial
          rw [if_neg hs20_1] at hf
          by_cases hs20_2 : x2_ = (2 : Int32)
          · rw [if_pos hs20_2] at hf
            refine u_tin (tgt := 55) hC dX10_group_20 (by rw [hs20_2]; decide) (by rw [hs20_2]; decide) (by rw [hs20_2]; rfl) (by decide) ?_
            refine u_aload_n hC dX10_group_55 1 rfl rfl ?_
            refine u_gr hC lf_X10_23 rfl hTa0 dX10_group_56 hf (fun b56 hTb56 hf => ?_)
            refine u_gr hC lf_X10_104 rfl hTb56 dX10_group_59 hf (fun b59 hTb59 hf => ?_)
            refine u_iload_n hC dX10_group_62 2 rfl rfl ?_
            obtain ⟨q63, hq63, hf⟩ := kc_some hf
            refine u_callV hC (ctX1_costOf (cL C) hC.tr (cG C) ρ Y n p7 b59 x1_ hTb59 hq63) lk_X10_127 rfl hTb59 (by decide) rfl (by decide) (by decide) rfl rfl (Nat.le_of_ble_eq_true rfl) dX10_group_63 ?_
            cases hf
            exact hR _ _ rfl _ _ (Nat.le_of_ble_eq_true rfl) (Nat.le_of_ble_eq_true rfl) _ _ dX10_group_66 trivial
          rw [if_neg hs20_2] at hf
          have hz20_0 := lv_neT (a := 0) hs20_0 (by decide)
          have hz20_1 := lv_neT (a := 1) hs20_1 (by decide)
          have hz20_2 := lv_neT (a := 2) hs20_2 (by decide)
          refine u_tout (tgt := 67) hC dX10_group_20 (by omega) (by decide) ?_
          refine u_aload_n hC dX10_group_67 1 rfl rfl ?_
          refine u_gr hC lf_X10_23 rfl hTa0 dX10_group_68 hf (fun b68 hTb68 hf => ?_)
          refine u_iload_n hC dX10_group_71 0 rfl rfl ?_
          refine u_aload_n hC dX10_group_72 1 rfl rfl ?_
          refine u_gr hC lf_X10_23 rfl hTa0 dX10_group_73 hf (fun b73 hTb73 hf => ?_)
          refine u_gr hC lf_X10_104 rfl hTb73 dX10_group_76 hf (fun b76 hTb76 hf => ?_)
          refine u_iload_n hC dX10_group_79 2 rfl rfl ?_
          obtain ⟨q80, hq80, hf⟩ := kc_some hf
          refine u_callV hC (ctX1_costOf (cL C) hC.tr (cG C) ρ Y n p7 b76 x1_ hTb76 hq80) lk_X10_127 rfl hTb76 (by decide) rfl (by decide) (by decide) rfl rfl (Nat.le_of_ble_eq_true rfl) dX10_group_80 ?_
          obtain ⟨q83, hq83, hf⟩ := kc_some hf
          refine u_callV hC (ctX6_isDue (cL C) hC.tr (cG C) ρ Y n p7 b68 q15 q80 hTb68 hq83) lk_X10_236 rfl hTb68 (by decide) rfl (by decide) (by decide) rfl rfl (Nat.le_of_ble_eq_true rfl) dX10_group_83 ?_
          refine u_if_eq (tgt := 93) hC dX10_group_86 (by decide) hf (fun h86 hf => ?_) (fun h86 hf => ?_)
          · refine u_iconst (v := (0 : Int32)) hC dX10_group_93 (by decide) ?_
            refine u_sub (lv' := []) [] rfl ?_
            exact wjX10_group_94 hC n p7 (0 : Int32)   hf hB hR hTo hTp
          · refine u_iconst (v := (1 : Int32)) hC dX10_group_89 (by decide) ?_
            refine u_goto (tgt := 94) hC dX10_group_90 (by decide) ?_
            refine u_sub (lv' := []) [] rfl ?_
            exact wjX10_group_94 hC n p7 (1 : Int32)   hf hB hR hTo hTp
        · have he : (Sum.inr e7 : MR) = .inl (v', S') := he
          cases he
      · rcases q7 with p7 | e7
        · have he : (Sum.inl (none, p7) : MR) = .inr (k', S') := he
          cases he
        · have he : (Sum.inr e7 : MR) = .inr (k', S') := he
          cases he
          have hf := ks_r hf
          cases hf
          exact hTp _ _ rfl _ _ (Nat.le_of_ble_eq_true rfl) (Nat.le_of_ble_eq_true rfl)
    · have he : (Sum.inr e2 : MR) = .inl (v', S') := he
      cases he
  · rcases q2 with p2 | e2
    · have he : (Sum.inl (none, p2) : MR) = .inr (k', S') := he
      cases he
    · have he : (Sum.inr e2 : MR) = .inr (k', S') := he
      cases he
      have hf := ks_r hf
      cases hf
      exact hTp _ _ rfl _ _ (Nat.le_of_ble_eq_true rfl) (Nat.le_of_ble_eq_true rfl)
theorem ctX10_group (l : Launch) (hl : l.stackTraces = false) (G : GT) (ρ : Nat → Nat) (Y : XS) (n : Nat) (S : PS) (a0 : Nat) (x1_ : Int32) (x2_ : Int32) (hTa0 : Ty Y a0 10) {o : (Int32 × PS) ⊕ (Nat × PS)} (hf : fX10_group Y n S a0 x1_ x2_ = some o) : Mx l G yX10_group cX10_group 4 (some .int) 7 8 48 ρ Y [.ref (ρ a0), .int x1_, .int x2_] S (mrI o) :=
  Mx_of hl (by decide) rfl (by decide) (Nat.le_of_ble_eq_true rfl) (fun C _ _ hC hB hR hTo hTp => wX10_group hC n S a0 x1_ x2_ hTa0 hf hB hR hTo hTp)
-- X10_isServed
theorem dX10_isServed_0 : decode cX10_isServed 0 = .ok (.aload_n 0, 1) := by decide +kernel
theorem dX10_isServed_1 : decode cX10_isServed 1 = .ok (.iload_n 1, 1) := by decide +kernel
theorem dX10_isServed_2 : decode cX10_isServed 2 = .ok (.invokevirtual 225, 3) := by decide +kernel
theorem dX10_isServed_5 : decode cX10_isServed 5 = .ok (.iload_n 2, 1) := by decide +kernel
theorem dX10_isServed_6 : decode cX10_isServed 6 = .ok (.invokestatic 159, 3) := by decide +kernel
theorem dX10_isServed_9 : decode cX10_isServed 9 = .ok (.aload_n 0, 1) := by decide +kernel
theorem dX10_isServed_10 : decode cX10_isServed 10 = .ok (.getfield 54, 3) := by decide +kernel
theorem dX10_isServed_13 : decode cX10_isServed 13 = .ok (.aload_n 0, 1) := by decide +kernel
theorem dX10_isServed_14 : decode cX10_isServed 14 = .ok (.getfield 23, 3) := by decide +kernel
theorem dX10_isServed_17 : decode cX10_isServed 17 = .ok (.aload_n 0, 1) := by decide +kernel
theorem dX10_isServed_18 : decode cX10_isServed 18 = .ok (.iload_n 2, 1) := by decide +kernel
theorem dX10_isServed_19 : decode cX10_isServed 19 = .ok (.invokevirtual 162, 3) := by decide +kernel
theorem dX10_isServed_22 : decode cX10_isServed 22 = .ok (.getfield 166, 3) := by decide +kernel
theorem dX10_isServed_25 : decode cX10_isServed 25 = .ok (.iload_n 1, 1) := by decide +kernel
theorem dX10_isServed_26 : decode cX10_isServed 26 = .ok (.iload_n 3, 1) := by decide +kernel
theorem dX10_isServed_27 : decode cX10_isServed 27 = .ok (.invokevirtual 240, 3) := by decide +kernel
theorem dX10_isServed_30 : decode cX10_isServed 30 = .ok (.ireturn, 1) := by decide +kernel
def fX10_isServed (Y : XS) (n : Nat) (S : PS) (a0 : Nat) (x1_ : Int32) (x2_ : Int32) (x3_ : Int32) : Option ((Int32 × PS) ⊕ (Nat × PS)) :=
  kc (fX10_needGroup Y n S a0 x1_) (fun q2 => ks q2 (fun p2 => kc (fX10_needRule Y n p2 x2_) (fun q6 => ks q6 (fun p6 => kgr p6 a0 8 (fun b10 => kgr p6 a0 2 (fun b14 => kc (fX10_result Y n p6 a0 x2_) (fun q19 => kty Y q19.1 5 (kgi q19.2 q19.1 2 (fun x22 => kc (fX2_serves Y n q19.2 b10 b14 x22 x1_ x3_) (fun q27 => kzr q27 (some (.inl (q27, q19.2)))))))))) (fun e6 => some (.inr e6)))) (fun e2 => some (.inr e2)))
theorem wX10_isServed {C : CT} {ρ : Nat → Nat} {Y : XS} (hC : CK C RX10 cX10_isServed 4 (some .boolean) 7) (n : Nat) (S : PS) (a0 : Nat) (x1_ : Int32) (x2_ : Int32) (x3_ : Int32) (hTa0 : Ty Y a0 10) {o : (Int32 × PS) ⊕ (Nat × PS)} (hf : fX10_isServed Y n S a0 x1_ x2_ x3_ = some o) (hB : XB C (ρ, Y, 0, 0) 8 48) (hR : RtX C ρ Y cX10_isServed (some .boolean) 8 48 (mrI o)) (hTo : ThO C ρ Y cX10_isServed 8 48 (mrI o)) (hTp : ThP C ρ Y 8 48 (mrI o)) : UW C (ρ, Y, 0, 0) S 0 [(0, .ref (ρ a0)), (1, .int x1_), (2, .int x2_), (3, .int x3_)] [] := by
  unfold fX10_isServed at hf
  refine u_aload_n hC dX10_isServed_0 0 rfl rfl ?_
  refine u_iload_n hC dX10_isServed_1 1 rfl rfl ?_
  obtain ⟨q2, hq2, hf⟩ := kc_some hf
  refine u_callVX hC (ctX10_needGroup (cL C) hC.tr (cG C) ρ Y n S a0 x1_ hTa0 hq2) (hB.at (Nat.le_of_ble_eq_true rfl) (Nat.le_of_ble_eq_true rfl)) lk_X10_225 rfl hTa0 (by decide) rfl (by decide) (by decide) rfl rfl (Nat.le_of_ble_eq_true rfl) dX10_isServed_2 (fun v' S' he => ?_) (fun k' S' he => ?_)
  · rcases q2 with p2 | e2
    · have he : (Sum.inl (none, p2) : MR) = .inl (v', S') := he
      obtain ⟨hv9, hS9⟩ : none = v' ∧ p2 = S' := by cases he; exact ⟨rfl, rfl⟩
      subst hv9
      subst hS9
      have hf := ks_l hf
      refine u_iload_n hC dX10_isServed_5 2 rfl rfl ?_
      obtain ⟨q6, hq6, hf⟩ := kc_some hf
      refine u_callSX hC (ctX10_needRule (cL C) hC.tr (cG C) ρ Y n p2 x2_  hq6) (hB.at (Nat.le_of_ble_eq_true rfl) (Nat.le_of_ble_eq_true rfl)) lk_X10_159 (by decide) (by decide) rfl rfl (Nat.le_of_ble_eq_true rfl) dX10_isServed_6 (fun v' S' he => ?_) (fun k' S' he => ?_)
      · rcases q6 with p6 | e6
        · have he : (Sum.inl (none, p6) : MR) = .inl (v', S') := he
          obtain ⟨hv9, hS9⟩ : none = v' ∧ p6 = S' := by cases he; exact ⟨rfl, rfl⟩
          subst hv9
          subst hS9
          have hf := ks_l hf
          refine u_aload_n hC dX10_isServed_9 0 rfl rfl ?_
          refine u_gr hC lf_X10_54 rfl hTa0 dX10_isServed_10 hf (fun b10 hTb10 hf => ?_)
          refine u_aload_n hC dX10_isServed_13 0 rfl rfl ?_
          refine u_gr hC lf_X10_23 rfl hTa0 dX10_isServed_14 hf (fun b14 hTb14 hf => ?_)
          refine u_aload_n hC dX10_isServed_17 0 rfl rfl ?_
          refine u_iload_n hC dX10_isServed_18 2 rfl rfl ?_
          obtain ⟨q19, hq19, hf⟩ := kc_some hf
          refine u_callV hC (ctX10_result (cL C) hC.tr (cG C) ρ Y n p6 a0 x2_ hTa0 hq19) lk_X10_162 rfl hTa0 (by decide) rfl (by decide) (by decide) rfl rfl (Nat.le_of_ble_eq_true rfl) dX10_isServed_19 ?_
          obtain ⟨hq19T, hf⟩ := kty_some hf
          refine u_gi hC lf_X10_166 rfl hq19T dX10_isServed_22 hf (fun x22 hf => ?_)
          refine u_iload_n hC dX10_isServed_25 1 rfl rfl ?_
          refine u_iload_n hC dX10_isServed_26 3 rfl rfl ?_
          obtain ⟨q27, hq27, hf⟩ := kc_some hf
          refine u_callV hC (ctX2_serves (cL C) hC.tr (cG C) ρ Y n q19.2 b10 b14 x22 x1_ x3_ hTb10 hTb14 hq27) lk_X10_240 rfl hTb10 (by decide) rfl (by decide) (by decide) rfl rfl (Nat.le_of_ble_eq_true rfl) dX10_isServed_27 ?_
          obtain ⟨hz, hf⟩ := kzr_some hf
          cases hf
          exact hR _ _ rfl _ _ (Nat.le_of_ble_eq_true rfl) (Nat.le_of_ble_eq_true rfl) _ _ dX10_isServed_30 hz
        · have he : (Sum.inr e6 : MR) = .inl (v', S') := he
          cases he
      · rcases q6 with p6 | e6
        · have he : (Sum.inl (none, p6) : MR) = .inr (k', S') := he
          cases he
        · have he : (Sum.inr e6 : MR) = .inr (k', S') := he
          cases he
          have hf := ks_r hf
          cases hf
          exact hTp _ _ rfl _ _ (Nat.le_of_ble_eq_true rfl) (Nat.le_of_ble_eq_true rfl)
    · have he : (Sum.inr e2 : MR) = .inl (v', S') := he
      cases he
  · rcases q2 with p2 | e2
    · have he : (Sum.inl (none, p2) : MR) = .inr (k', S') := he
      cases he
    · have he : (Sum.inr e2 : MR) = .inr (k', S') := he
      cases he
      have hf := ks_r hf
      cases hf
      exact hTp _ _ rfl _ _ (Nat.le_of_ble_eq_true rfl) (Nat.le_of_ble_eq_true rfl)
theorem ctX10_isServed (l : Launch) (hl : l.stackTraces = false) (G : GT) (ρ : Nat → Nat) (Y : XS) (n : Nat) (S : PS) (a0 : Nat) (x1_ : Int32) (x2_ : Int32) (x3_ : Int32) (hTa0 : Ty Y a0 10) {o : (Int32 × PS) ⊕ (Nat × PS)} (hf : fX10_isServed Y n S a0 x1_ x2_ x3_ = some o) : Mx l G yX10_isServed cX10_isServed 4 (some .boolean) 7 8 48 ρ Y [.ref (ρ a0), .int x1_, .int x2_, .int x3_] S (mrI o) :=
  Mx_of hl (by decide) rfl (by decide) (Nat.le_of_ble_eq_true rfl) (fun C _ _ hC hB hR hTo hTp => wX10_isServed hC n S a0 x1_ x2_ x3_ hTa0 hf hB hR hTo hTp)
-- X10_groups
theorem dX10_groups_0 : decode cX10_groups 0 = .ok (.iload_n 1, 1) := by decide +kernel
theorem dX10_groups_1 : decode cX10_groups 1 = .ok (.invokestatic 159, 3) := by decide +kernel
theorem dX10_groups_4 : decode cX10_groups 4 = .ok (.iload_n 2, 1) := by decide +kernel
theorem dX10_groups_5 : decode cX10_groups 5 = .ok (.iconst 4, 1) := by decide +kernel
theorem dX10_groups_6 : decode cX10_groups 6 = .ok (.invokestatic 117, 3) := by decide +kernel
theorem dX10_groups_9 : decode cX10_groups 9 = .ok (.aload_n 0, 1) := by decide +kernel
theorem dX10_groups_10 : decode cX10_groups 10 = .ok (.iload_n 1, 1) := by decide +kernel
theorem dX10_groups_11 : decode cX10_groups 11 = .ok (.invokevirtual 162, 3) := by decide +kernel
theorem dX10_groups_14 : decode cX10_groups 14 = .ok (.astore_n 3, 1) := by decide +kernel
theorem dX10_groups_15 : decode cX10_groups 15 = .ok (.aload_n 3, 1) := by decide +kernel
theorem dX10_groups_16 : decode cX10_groups 16 = .ok (.getfield 244, 3) := by decide +kernel
theorem dX10_groups_19 : decode cX10_groups 19 = .ok (.ifCond .ne 15, 3) := by decide +kernel
theorem dX10_groups_22 : decode cX10_groups 22 = .ok (.aload_n 0, 1) := by decide +kernel
theorem dX10_groups_23 : decode cX10_groups 23 = .ok (.getfield 54, 3) := by decide +kernel
theorem dX10_groups_26 : decode cX10_groups 26 = .ok (.aload_n 0, 1) := by decide +kernel
theorem dX10_groups_27 : decode cX10_groups 27 = .ok (.getfield 23, 3) := by decide +kernel
theorem dX10_groups_30 : decode cX10_groups 30 = .ok (.aload_n 3, 1) := by decide +kernel
theorem dX10_groups_31 : decode cX10_groups 31 = .ok (.invokevirtual 247, 3) := by decide +kernel
theorem dX10_groups_34 : decode cX10_groups 34 = .ok (.aload_n 3, 1) := by decide +kernel
theorem dX10_groups_35 : decode cX10_groups 35 = .ok (.getfield 251, 3) := by decide +kernel
theorem dX10_groups_38 : decode cX10_groups 38 = .ok (.iload_n 2, 1) := by decide +kernel
theorem dX10_groups_39 : decode cX10_groups 39 = .ok (.iaload, 1) := by decide +kernel
theorem dX10_groups_40 : decode cX10_groups 40 = .ok (.ireturn, 1) := by decide +kernel
def jX10_groups_34 (Y : XS) (n : Nat) (S : PS) (v2 : Int32) (v3 : Nat) : Option ((Int32 × PS) ⊕ (Nat × PS)) :=
  kgr S v3 12 (fun b35 => kai Y S b35 v2 (fun x39 => some (.inl (x39, S))))
def fX10_groups (Y : XS) (n : Nat) (S : PS) (a0 : Nat) (x1_ : Int32) (x2_ : Int32) : Option ((Int32 × PS) ⊕ (Nat × PS)) :=
  kc (fX10_needRule Y n S x1_) (fun q1 => ks q1 (fun p1 => kc (fX10_needWhat Y n p1 x2_ (4 : Int32)) (fun q6 => ks q6 (fun p6 => kc (fX10_result Y n p6 a0 x1_) (fun q11 => kty Y q11.1 5 (kgi q11.2 q11.1 11 (fun x16 => (if x16 = 0 then kgr q11.2 a0 8 (fun b23 => kgr q11.2 a0 2 (fun b27 => kc (fX2_lookAt Y n q11.2 b23 b27 q11.1) (fun q31 => jX10_groups_34 Y n q31 x2_ q11.1))) else jX10_groups_34 Y n q11.2 x2_ q11.1))))) (fun e6 => some (.inr e6)))) (fun e1 => some (.inr e1)))
theorem wjX10_groups_34 {C : CT} {ρ : Nat → Nat} {Y : XS} (hC : CK C RX10 cX10_groups 4 (some .int) 7) (n : Nat) (S : PS) (v2 : Int32) (v3 : Nat)  (hTv3 : Ty Y v3 5) {o : (Int32 × PS) ⊕ (Nat × PS)} (hf : jX10_groups_34 Y n S v2 v3 = some o) (hB : XB C (ρ, Y, 0, 0) 8 48) (hR : RtX C ρ Y cX10_groups (some .int) 8 48 (mrI o)) (hTo : ThO C ρ Y cX10_groups 8 48 (mrI o)) (hTp : ThP C ρ Y 8 48 (mrI o)) : UW C (ρ, Y, 0 + 1 + 1, 0 + 6 + 6) S 34 [(2, .int v2), (3, .ref (ρ v3))] [] := by
  unfold jX10_groups_34 at hf
  refine u_aload_n hC dX10_groups_34 1 rfl rfl ?_
  refine u_gr hC lf_X10_251 rfl hTv3 dX10_groups_35 hf (fun b35 hTb35 hf => ?_)
  refine u_iload_n hC dX10_groups_38 0 rfl rfl ?_
  refine u_ai hC hTb35 dX10_groups_39 hf (fun x39 hf => ?_)
  cases hf
  exact hR _ _ rfl _ _ (Nat.le_of_ble_eq_true rfl) (Nat.le_of_ble_eq_true rfl) _ _ dX10_groups_40 trivial
theorem wX10_groups {C : CT} {ρ : Nat → Nat} {Y : XS} (hC : CK C RX10 cX10_groups 4 (some .int) 7) (n : Nat) (S : PS) (a0 : Nat) (x1_ : Int32) (x2_ : Int32) (hTa0 : Ty Y a0 10) {o : (Int32 × PS) ⊕ (Nat × PS)} (hf : fX10_groups Y n S a0 x1_ x2_ = some o) (hB : XB C (ρ, Y, 0, 0) 8 48) (hR : RtX C ρ Y cX10_groups (some .int) 8 48 (mrI o)) (hTo : ThO C ρ Y cX10_groups 8 48 (mrI o)) (hTp : ThP C ρ Y 8 48 (mrI o)) : UW C (ρ, Y, 0, 0) S 0 [(0, .ref (ρ a0)), (1, .int x1_), (2, .int x2_)] [] := by
  unfold fX10_groups at hf
  refine u_iload_n hC dX10_groups_0 1 rfl rfl ?_
  obtain ⟨q1, hq1, hf⟩ := kc_some hf
  refine u_callSX hC (ctX10_needRule (cL C) hC.tr (cG C) ρ Y n S x1_  hq1) (hB.at (Nat.le_of_ble_eq_true rfl) (Nat.le_of_ble_eq_true rfl)) lk_X10_159 (by decide) (by decide) rfl rfl (Nat.le_of_ble_eq_true rfl) dX10_groups_1 (fun v' S' he => ?_) (fun k' S' he => ?_)
  · rcases q1 with p1 | e1
    · have he : (Sum.inl (none, p1) : MR) = .inl (v', S') := he
      obtain ⟨hv9, hS9⟩ : none = v' ∧ p1 = S' := by cases he; exact ⟨rfl, rfl⟩
      subst hv9
      subst hS9
      have hf := ks_l hf
      refine u_iload_n hC dX10_groups_4 2 rfl rfl ?_
      refine u_iconst (v := (4 : Int32)) hC dX10_groups_5 (by decide) ?_
      obtain ⟨q6, hq6, hf⟩ := kc_some hf
      refine u_callSX hC (ctX10_needWhat (cL C) hC.tr (cG C) ρ Y n p1 x2_ (4 : Int32)  hq6) (hB.at (Nat.le_of_ble_eq_true rfl) (Nat.le_of_ble_eq_true rfl)) lk_X10_117 (by decide) (by decide) rfl rfl (Nat.le_of_ble_eq_true rfl) dX10_groups_6 (fun v' S' he => ?_) (fun k' S' he => ?_)
      · rcases q6 with p6 | e6
        · have he : (Sum.inl (none, p6) : MR) = .inl (v', S') := he
          obtain ⟨hv9, hS9⟩ : none = v' ∧ p6 = S' := by cases he; exact ⟨rfl, rfl⟩
          subst hv9
          subst hS9
          have hf := ks_l hf
          refine u_aload_n hC dX10_groups_9 0 rfl rfl ?_
          refine u_iload_n hC dX10_groups_10 1 rfl rfl ?_
          obtain ⟨q11, hq11, hf⟩ := kc_some hf
          refine u_callV hC (ctX10_result (cL C) hC.tr (cG C) ρ Y n p6 a0 x1_ hTa0 hq11) lk_X10_162 rfl hTa0 (by decide) rfl (by decide) (by decide) rfl rfl (Nat.le_of_ble_eq_true rfl) dX10_groups_11 ?_
          obtain ⟨hq11T, hf⟩ := kty_some hf
          refine u_astore_n (lv' := [(3, .ref (ρ q11.1)), (0, .ref (ρ a0)), (1, .int x1_), (2, .int x2_)]) hC dX10_groups_14 rfl (by decide) rfl ?_
          refine u_aload_n hC dX10_groups_15 0 rfl rfl ?_
          refine u_gi hC lf_X10_244 rfl hq11T dX10_groups_16 hf (fun x16 hf => ?_)
          refine u_if_ne (tgt := 34) hC dX10_groups_19 (by decide) hf (fun h19 hf => ?_) (fun h19 hf => ?_)
          · refine u_sub (lv' := [(2, .int x2_), (3, .ref (ρ q11.1))]) [3, 0] rfl ?_
            exact wjX10_groups_34 hC n q11.2 x2_ q11.1  hq11T hf hB hR hTo hTp
          · refine u_aload_n hC dX10_groups_22 1 rfl rfl ?_
            refine u_gr hC lf_X10_54 rfl hTa0 dX10_groups_23 hf (fun b23 hTb23 hf => ?_)
            refine u_aload_n hC dX10_groups_26 1 rfl rfl ?_
            refine u_gr hC lf_X10_23 rfl hTa0 dX10_groups_27 hf (fun b27 hTb27 hf => ?_)
            refine u_aload_n hC dX10_groups_30 0 rfl rfl ?_
            obtain ⟨q31, hq31, hf⟩ := kc_some hf
            refine u_callV hC (ctX2_lookAt (cL C) hC.tr (cG C) ρ Y n q11.2 b23 b27 q11.1 hTb23 hTb27 hq11T hq31) lk_X10_247 rfl hTb23 (by decide) rfl (by decide) (by decide) rfl rfl (Nat.le_of_ble_eq_true rfl) dX10_groups_31 ?_
            refine u_sub (lv' := [(2, .int x2_), (3, .ref (ρ q11.1))]) [3, 0] rfl ?_
            exact wjX10_groups_34 hC n q31 x2_ q11.1  hq11T hf hB hR hTo hTp
        · have he : (Sum.inr e6 : MR) = .inl (v', S') := he
          cases he
      · rcases q6 with p6 | e6
        · have he : (Sum.inl (none, p6) : MR) = .inr (k', S') := he
          cases he
        · have he : (Sum.inr e6 : MR) = .inr (k', S') := he
          cases he
          have hf := ks_r hf
          cases hf
          exact hTp _ _ rfl _ _ (Nat.le_of_ble_eq_true rfl) (Nat.le_of_ble_eq_true rfl)
    · have he : (Sum.inr e1 : MR) = .inl (v', S') := he
      cases he
  · rcases q1 with p1 | e1
    · have he : (Sum.inl (none, p1) : MR) = .inr (k', S') := he
      cases he
    · have he : (Sum.inr e1 : MR) = .inr (k', S') := he
      cases he
      have hf := ks_r hf
      cases hf
      exact hTp _ _ rfl _ _ (Nat.le_of_ble_eq_true rfl) (Nat.le_of_ble_eq_true rfl)
theorem ctX10_groups (l : Launch) (hl : l.stackTraces = false) (G : GT) (ρ : Nat → Nat) (Y : XS) (n : Nat) (S : PS) (a0 : Nat) (x1_ : Int32) (x2_ : Int32) (hTa0 : Ty Y a0 10) {o : (Int32 × PS) ⊕ (Nat × PS)} (hf : fX10_groups Y n S a0 x1_ x2_ = some o) : Mx l G yX10_groups cX10_groups 4 (some .int) 7 8 48 ρ Y [.ref (ρ a0), .int x1_, .int x2_] S (mrI o) :=
  Mx_of hl (by decide) rfl (by decide) (Nat.le_of_ble_eq_true rfl) (fun C _ _ hC hB hR hTo hTp => wX10_groups hC n S a0 x1_ x2_ hTa0 hf hB hR hTo hTp)
-- X10_tried
theorem dX10_tried_0 : decode cX10_tried 0 = .ok (.aload_n 0, 1) := by decide +kernel
theorem dX10_tried_1 : decode cX10_tried 1 = .ok (.getfield 47, 3) := by decide +kernel
theorem dX10_tried_4 : decode cX10_tried 4 = .ok (.iload_n 1, 1) := by decide +kernel
theorem dX10_tried_5 : decode cX10_tried 5 = .ok (.aload_n 0, 1) := by decide +kernel
theorem dX10_tried_6 : decode cX10_tried 6 = .ok (.getfield 36, 3) := by decide +kernel
theorem dX10_tried_9 : decode cX10_tried 9 = .ok (.aload_n 0, 1) := by decide +kernel
theorem dX10_tried_10 : decode cX10_tried 10 = .ok (.getfield 40, 3) := by decide +kernel
theorem dX10_tried_13 : decode cX10_tried 13 = .ok (.invokevirtual 287, 3) := by decide +kernel
theorem dX10_tried_16 : decode cX10_tried 16 = .ok (.aload_n 0, 1) := by decide +kernel
theorem dX10_tried_17 : decode cX10_tried 17 = .ok (.getfield 40, 3) := by decide +kernel
theorem dX10_tried_20 : decode cX10_tried 20 = .ok (.getfield 166, 3) := by decide +kernel
theorem dX10_tried_23 : decode cX10_tried 23 = .ok (.ireturn, 1) := by decide +kernel
def fX10_tried (Y : XS) (n : Nat) (S : PS) (a0 : Nat) (x1_ : Int32) : Option (Int32 × PS) :=
  kgr S a0 7 (fun b1 => kgr S a0 5 (fun b6 => kgr S a0 6 (fun b10 => kc (fX0_choose Y n S b1 x1_ b6 b10) (fun q13 => kgr q13 a0 6 (fun b17 => kgi q13 b17 2 (fun x20 => some (x20, q13)))))))
theorem wX10_tried {C : CT} {X : XT} (hC : CK C RX10 cX10_tried 2 (some .int) 6) (n : Nat) (S : PS) (a0 : Nat) (x1_ : Int32) (hTa0 : Ty X.2.1 a0 10) {o : Int32 × PS} (hf : fX10_tried X.2.1 n S a0 x1_ = some o) (hR : Rt C X cX10_tried (some .int) (some (.int o.1)) o.2) : UW C X S 0 [(0, .ref (X.1 a0)), (1, .int x1_)] [] := by
  unfold fX10_tried at hf
  refine u_aload_n hC dX10_tried_0 0 rfl rfl ?_
  refine u_gr hC lf_X10_47 rfl hTa0 dX10_tried_1 hf (fun b1 hTb1 hf => ?_)
  refine u_iload_n hC dX10_tried_4 1 rfl rfl ?_
  refine u_aload_n hC dX10_tried_5 0 rfl rfl ?_
  refine u_gr hC lf_X10_36 rfl hTa0 dX10_tried_6 hf (fun b6 hTb6 hf => ?_)
  refine u_aload_n hC dX10_tried_9 0 rfl rfl ?_
  refine u_gr hC lf_X10_40 rfl hTa0 dX10_tried_10 hf (fun b10 hTb10 hf => ?_)
  obtain ⟨q13, hq13, hf⟩ := kc_some hf
  refine u_callV hC (ctX0_choose (cL C) hC.tr (cG C) X.1 X.2.1 n S b1 x1_ b6 b10 hTb1 hTb6 hTb10 hq13) lk_X10_287 rfl hTb1 (by decide) rfl (by decide) (by decide) rfl rfl (Nat.le_of_ble_eq_true rfl) dX10_tried_13 ?_
  refine u_aload_n hC dX10_tried_16 0 rfl rfl ?_
  refine u_gr hC lf_X10_40 rfl hTa0 dX10_tried_17 hf (fun b17 hTb17 hf => ?_)
  refine u_gi hC lf_X10_166 rfl hTb17 dX10_tried_20 hf (fun x20 hf => ?_)
  cases hf
  exact hR _ _ dX10_tried_23 trivial
theorem ctX10_tried (l : Launch) (hl : l.stackTraces = false) (G : GT) (ρ : Nat → Nat) (Y : XS) (n : Nat) (S : PS) (a0 : Nat) (x1_ : Int32) (hTa0 : Ty Y a0 10) {o : Int32 × PS} (hf : fX10_tried Y n S a0 x1_ = some o) : Mt l G yX10_tried cX10_tried 2 (some .int) 6 ρ Y [.ref (ρ a0), .int x1_] S (some (.int o.1)) o.2 :=
  Mt_of hl (by decide) (Nat.le_of_ble_eq_true rfl) (fun C _ _ hC hR => wX10_tried (X := (ρ, Y, 0, 0)) hC n S a0 x1_ hTa0 hf hR)
-- X10_away
theorem dX10_away_0 : decode cX10_away 0 = .ok (.iload_n 1, 1) := by decide +kernel
theorem dX10_away_1 : decode cX10_away 1 = .ok (.invokestatic 159, 3) := by decide +kernel
theorem dX10_away_4 : decode cX10_away 4 = .ok (.aload_n 0, 1) := by decide +kernel
theorem dX10_away_5 : decode cX10_away 5 = .ok (.iload_n 2, 1) := by decide +kernel
theorem dX10_away_6 : decode cX10_away 6 = .ok (.invokevirtual 150, 3) := by decide +kernel
theorem dX10_away_9 : decode cX10_away 9 = .ok (.aload_n 0, 1) := by decide +kernel
theorem dX10_away_10 : decode cX10_away 10 = .ok (.getfield 36, 3) := by decide +kernel
theorem dX10_away_13 : decode cX10_away 13 = .ok (.aload_n 0, 1) := by decide +kernel
theorem dX10_away_14 : decode cX10_away 14 = .ok (.getfield 23, 3) := by decide +kernel
theorem dX10_away_17 : decode cX10_away 17 = .ok (.invokevirtual 254, 3) := by decide +kernel
theorem dX10_away_20 : decode cX10_away 20 = .ok (.aload_n 0, 1) := by decide +kernel
theorem dX10_away_21 : decode cX10_away 21 = .ok (.getfield 36, 3) := by decide +kernel
theorem dX10_away_24 : decode cX10_away 24 = .ok (.getfield 104, 3) := by decide +kernel
theorem dX10_away_27 : decode cX10_away 27 = .ok (.iload_n 2, 1) := by decide +kernel
theorem dX10_away_28 : decode cX10_away 28 = .ok (.invokevirtual 257, 3) := by decide +kernel
theorem dX10_away_31 : decode cX10_away 31 = .ok (.aload_n 0, 1) := by decide +kernel
theorem dX10_away_32 : decode cX10_away 32 = .ok (.getfield 36, 3) := by decide +kernel
theorem dX10_away_35 : decode cX10_away 35 = .ok (.invokevirtual 114, 3) := by decide +kernel
theorem dX10_away_38 : decode cX10_away 38 = .ok (.aload_n 0, 1) := by decide +kernel
theorem dX10_away_39 : decode cX10_away 39 = .ok (.iload_n 1, 1) := by decide +kernel
theorem dX10_away_40 : decode cX10_away 40 = .ok (.invokevirtual 260, 3) := by decide +kernel
theorem dX10_away_43 : decode cX10_away 43 = .ok (.ireturn, 1) := by decide +kernel
def fX10_away (Y : XS) (n : Nat) (S : PS) (a0 : Nat) (x1_ : Int32) (x2_ : Int32) : Option ((Int32 × PS) ⊕ (Nat × PS)) :=
  kc (fX10_needRule Y n S x1_) (fun q1 => ks q1 (fun p1 => kc (fX10_needVoter Y n p1 a0 x2_) (fun q6 => ks q6 (fun p6 => kgr p6 a0 5 (fun b10 => kgr p6 a0 2 (fun b14 => kc (fX6_copyFrom Y n p6 b10 b14) (fun q17 => kgr q17 a0 5 (fun b21 => kgr q17 b21 0 (fun b24 => kc (fX1_dropVoter Y n q17 b24 x2_) (fun q28 => kgr q28 a0 5 (fun b32 => kc (fX6_tally Y n q28 b32) (fun q35 => kc (fX10_tried Y n q35 a0 x1_) (fun q40 => some (.inl (q40.1, q40.2)))))))))))) (fun e6 => some (.inr e6)))) (fun e1 => some (.inr e1)))
theorem wX10_away {C : CT} {ρ : Nat → Nat} {Y : XS} (hC : CK C RX10 cX10_away 3 (some .int) 7) (n : Nat) (S : PS) (a0 : Nat) (x1_ : Int32) (x2_ : Int32) (hTa0 : Ty Y a0 10) {o : (Int32 × PS) ⊕ (Nat × PS)} (hf : fX10_away Y n S a0 x1_ x2_ = some o) (hB : XB C (ρ, Y, 0, 0) 8 48) (hR : RtX C ρ Y cX10_away (some .int) 8 48 (mrI o)) (hTo : ThO C ρ Y cX10_away 8 48 (mrI o)) (hTp : ThP C ρ Y 8 48 (mrI o)) : UW C (ρ, Y, 0, 0) S 0 [(0, .ref (ρ a0)), (1, .int x1_), (2, .int x2_)] [] := by
  unfold fX10_away at hf
  refine u_iload_n hC dX10_away_0 1 rfl rfl ?_
  obtain ⟨q1, hq1, hf⟩ := kc_some hf
  refine u_callSX hC (ctX10_needRule (cL C) hC.tr (cG C) ρ Y n S x1_  hq1) (hB.at (Nat.le_of_ble_eq_true rfl) (Nat.le_of_ble_eq_true rfl)) lk_X10_159 (by decide) (by decide) rfl rfl (Nat.le_of_ble_eq_true rfl) dX10_away_1 (fun v' S' he => ?_) (fun k' S' he => ?_)
  · rcases q1 with p1 | e1
    · have he : (Sum.inl (none, p1) : MR) = .inl (v', S') := he
      obtain ⟨hv9, hS9⟩ : none = v' ∧ p1 = S' := by cases he; exact ⟨rfl, rfl⟩
      subst hv9
      subst hS9
      have hf := ks_l hf
      refine u_aload_n hC dX10_away_4 0 rfl rfl ?_
      refine u_iload_n hC dX10_away_5 2 rfl rfl ?_
      obtain ⟨q6, hq6, hf⟩ := kc_some hf
      refine u_callVX hC (ctX10_needVoter (cL C) hC.tr (cG C) ρ Y n p1 a0 x2_ hTa0 hq6) (hB.at (Nat.le_of_ble_eq_true rfl) (Nat.le_of_ble_eq_true rfl)) lk_X10_150 rfl hTa0 (by decide) rfl (by decide) (by decide) rfl rfl (Nat.le_of_ble_eq_true rfl) dX10_away_6 (fun v' S' he => ?_) (fun k' S' he => ?_)
      · rcases q6 with p6 | e6
        · have he : (Sum.inl (none, p6) : MR) = .inl (v', S') := he
          obtain ⟨hv9, hS9⟩ : none = v' ∧ p6 = S' := by cases he; exact ⟨rfl, rfl⟩
          subst hv9
          subst hS9
          have hf := ks_l hf
          refine u_aload_n hC dX10_away_9 0 rfl rfl ?_
          refine u_gr hC lf_X10_36 rfl hTa0 dX10_away_10 hf (fun b10 hTb10 hf => ?_)
          refine u_aload_n hC dX10_away_13 0 rfl rfl ?_
          refine u_gr hC lf_X10_23 rfl hTa0 dX10_away_14 hf (fun b14 hTb14 hf => ?_)
          obtain ⟨q17, hq17, hf⟩ := kc_some hf
          refine u_callV hC (ctX6_copyFrom (cL C) hC.tr (cG C) ρ Y n p6 b10 b14 hTb10 hTb14 hq17) lk_X10_254 rfl hTb10 (by decide) rfl (by decide) (by decide) rfl rfl (Nat.le_of_ble_eq_true rfl) dX10_away_17 ?_
          refine u_aload_n hC dX10_away_20 0 rfl rfl ?_
          refine u_gr hC lf_X10_36 rfl hTa0 dX10_away_21 hf (fun b21 hTb21 hf => ?_)
          refine u_gr hC lf_X10_104 rfl hTb21 dX10_away_24 hf (fun b24 hTb24 hf => ?_)
          refine u_iload_n hC dX10_away_27 2 rfl rfl ?_
          obtain ⟨q28, hq28, hf⟩ := kc_some hf
          refine u_callV hC (ctX1_dropVoter (cL C) hC.tr (cG C) ρ Y n q17 b24 x2_ hTb24 hq28) lk_X10_257 rfl hTb24 (by decide) rfl (by decide) (by decide) rfl rfl (Nat.le_of_ble_eq_true rfl) dX10_away_28 ?_
          refine u_aload_n hC dX10_away_31 0 rfl rfl ?_
          refine u_gr hC lf_X10_36 rfl hTa0 dX10_away_32 hf (fun b32 hTb32 hf => ?_)
          obtain ⟨q35, hq35, hf⟩ := kc_some hf
          refine u_callV hC (ctX6_tally (cL C) hC.tr (cG C) ρ Y n q28 b32 hTb32 hq35) lk_X10_114 rfl hTb32 (by decide) rfl (by decide) (by decide) rfl rfl (Nat.le_of_ble_eq_true rfl) dX10_away_35 ?_
          refine u_aload_n hC dX10_away_38 0 rfl rfl ?_
          refine u_iload_n hC dX10_away_39 1 rfl rfl ?_
          obtain ⟨q40, hq40, hf⟩ := kc_some hf
          refine u_callV hC (ctX10_tried (cL C) hC.tr (cG C) ρ Y n q35 a0 x1_ hTa0 hq40) lk_X10_260 rfl hTa0 (by decide) rfl (by decide) (by decide) rfl rfl (Nat.le_of_ble_eq_true rfl) dX10_away_40 ?_
          cases hf
          exact hR _ _ rfl _ _ (Nat.le_of_ble_eq_true rfl) (Nat.le_of_ble_eq_true rfl) _ _ dX10_away_43 trivial
        · have he : (Sum.inr e6 : MR) = .inl (v', S') := he
          cases he
      · rcases q6 with p6 | e6
        · have he : (Sum.inl (none, p6) : MR) = .inr (k', S') := he
          cases he
        · have he : (Sum.inr e6 : MR) = .inr (k', S') := he
          cases he
          have hf := ks_r hf
          cases hf
          exact hTp _ _ rfl _ _ (Nat.le_of_ble_eq_true rfl) (Nat.le_of_ble_eq_true rfl)
    · have he : (Sum.inr e1 : MR) = .inl (v', S') := he
      cases he
  · rcases q1 with p1 | e1
    · have he : (Sum.inl (none, p1) : MR) = .inr (k', S') := he
      cases he
    · have he : (Sum.inr e1 : MR) = .inr (k', S') := he
      cases he
      have hf := ks_r hf
      cases hf
      exact hTp _ _ rfl _ _ (Nat.le_of_ble_eq_true rfl) (Nat.le_of_ble_eq_true rfl)
theorem ctX10_away (l : Launch) (hl : l.stackTraces = false) (G : GT) (ρ : Nat → Nat) (Y : XS) (n : Nat) (S : PS) (a0 : Nat) (x1_ : Int32) (x2_ : Int32) (hTa0 : Ty Y a0 10) {o : (Int32 × PS) ⊕ (Nat × PS)} (hf : fX10_away Y n S a0 x1_ x2_ = some o) : Mx l G yX10_away cX10_away 3 (some .int) 7 8 48 ρ Y [.ref (ρ a0), .int x1_, .int x2_] S (mrI o) :=
  Mx_of hl (by decide) rfl (by decide) (Nat.le_of_ble_eq_true rfl) (fun C _ _ hC hB hR hTo hTp => wX10_away hC n S a0 x1_ x2_ hTa0 hf hB hR hTo hTp)
-- X10_allow
theorem dX10_allow_0 : decode cX10_allow 0 = .ok (.iload_n 0, 1) := by decide +kernel
theorem dX10_allow_1 : decode cX10_allow 1 = .ok (.iload_n 1, 1) := by decide +kernel
theorem dX10_allow_2 : decode cX10_allow 2 = .ok (.if_icmp .lt 8, 3) := by decide +kernel
theorem dX10_allow_5 : decode cX10_allow 5 = .ok (.iload_n 0, 1) := by decide +kernel
theorem dX10_allow_6 : decode cX10_allow 6 = .ok (.iload_n 2, 1) := by decide +kernel
theorem dX10_allow_7 : decode cX10_allow 7 = .ok (.if_icmp .le 14, 3) := by decide +kernel
theorem dX10_allow_10 : decode cX10_allow 10 = .ok (.new 83, 3) := by decide +kernel
theorem dX10_allow_13 : decode cX10_allow 13 = .ok (.dup, 1) := by decide +kernel
theorem dX10_allow_14 : decode cX10_allow 14 = .ok (.ldc_w 323, 3) := by decide +kernel
theorem dX10_allow_17 : decode cX10_allow 17 = .ok (.invokespecial 87, 3) := by decide +kernel
theorem dX10_allow_20 : decode cX10_allow 20 = .ok (.athrow, 1) := by decide +kernel
theorem dX10_allow_21 : decode cX10_allow 21 = .ok (.return_, 1) := by decide +kernel
def jX10_allow_10 (Y : XS) (n : Nat) (S : PS)  : Option ((PS) ⊕ (Nat × PS)) :=
  some (.inr (2, S))
def fX10_allow (Y : XS) (n : Nat) (S : PS) (x0_ : Int32) (x1_ : Int32) (x2_ : Int32) : Option ((PS) ⊕ (Nat × PS)) :=
  (if x0_ < x1_ then jX10_allow_10 Y n S  else (if x0_ ≤ x2_ then some (.inl S) else jX10_allow_10 Y n S ))
theorem wjX10_allow_10 {C : CT} {ρ : Nat → Nat} {Y : XS} (hC : CK C RX10 cX10_allow 3 none 6) (n : Nat) (S : PS)    {o : (PS) ⊕ (Nat × PS)} (hf : jX10_allow_10 Y n S  = some o) (hB : XB C (ρ, Y, 0, 0) 1 6) (hR : RtX C ρ Y cX10_allow none 1 6 (mrV o)) (hTo : ThO C ρ Y cX10_allow 1 6 (mrV o)) (hTp : ThP C ρ Y 1 6 (mrV o)) : UW C (ρ, Y, 0, 0) S 10 [] [] := by
  unfold jX10_allow_10 at hf
  cases hf
  exact hTo _ _ rfl (by decide) _ _ (Nat.le_of_ble_eq_true rfl) (Nat.le_of_ble_eq_true rfl) _ _ 15 ⟨by decide, rfl, dX10_allow_10, dX10_allow_13, Or.inr ⟨dX10_allow_14, dX10_allow_17, dX10_allow_20⟩⟩
theorem wX10_allow {C : CT} {ρ : Nat → Nat} {Y : XS} (hC : CK C RX10 cX10_allow 3 none 6) (n : Nat) (S : PS) (x0_ : Int32) (x1_ : Int32) (x2_ : Int32)  {o : (PS) ⊕ (Nat × PS)} (hf : fX10_allow Y n S x0_ x1_ x2_ = some o) (hB : XB C (ρ, Y, 0, 0) 1 6) (hR : RtX C ρ Y cX10_allow none 1 6 (mrV o)) (hTo : ThO C ρ Y cX10_allow 1 6 (mrV o)) (hTp : ThP C ρ Y 1 6 (mrV o)) : UW C (ρ, Y, 0, 0) S 0 [(0, .int x0_), (1, .int x1_), (2, .int x2_)] [] := by
  unfold fX10_allow at hf
  refine u_iload_n hC dX10_allow_0 0 rfl rfl ?_
  refine u_iload_n hC dX10_allow_1 1 rfl rfl ?_
  refine u_icmp_lt (tgt := 10) hC dX10_allow_2 (by decide) hf (fun h2 hf => ?_) (fun h2 hf => ?_)
  · refine u_sub (lv' := []) [] rfl ?_
    exact wjX10_allow_10 hC n S    hf hB hR hTo hTp
  · refine u_iload_n hC dX10_allow_5 0 rfl rfl ?_
    refine u_iload_n hC dX10_allow_6 2 rfl rfl ?_
    refine u_icmp_le (tgt := 21) hC dX10_allow_7 (by decide) hf (fun h7 hf => ?_) (fun h7 hf => ?_)
    · cases hf
      exact hR _ _ rfl _ _ (Nat.le_of_ble_eq_true rfl) (Nat.le_of_ble_eq_true rfl) _ _ dX10_allow_21 trivial
    · refine u_sub (lv' := []) [] rfl ?_
      exact wjX10_allow_10 hC n S    hf hB hR hTo hTp
theorem ctX10_allow (l : Launch) (hl : l.stackTraces = false) (G : GT) (ρ : Nat → Nat) (Y : XS) (n : Nat) (S : PS) (x0_ : Int32) (x1_ : Int32) (x2_ : Int32)  {o : (PS) ⊕ (Nat × PS)} (hf : fX10_allow Y n S x0_ x1_ x2_ = some o) : Mx l G yX10_allow cX10_allow 3 none 6 1 6 ρ Y [.int x0_, .int x1_, .int x2_] S (mrV o) :=
  Mx_of hl (by decide) rfl (by decide) (Nat.le_of_ble_eq_true rfl) (fun C _ _ hC hB hR hTo hTp => wX10_allow hC n S x0_ x1_ x2_  hf hB hR hTo hTp)
-- X10_with
theorem dX10_with_0 : decode cX10_with 0 = .ok (.iload_n 1, 1) := by decide +kernel
theorem dX10_with_1 : decode cX10_with 1 = .ok (.invokestatic 159, 3) := by decide +kernel
theorem dX10_with_4 : decode cX10_with 4 = .ok (.iload_n 2, 1) := by decide +kernel
theorem dX10_with_5 : decode cX10_with 5 = .ok (.iconst 0, 1) := by decide +kernel
theorem dX10_with_6 : decode cX10_with 6 = .ok (.ldc_w 263, 3) := by decide +kernel
theorem dX10_with_9 : decode cX10_with 9 = .ok (.invokestatic 264, 3) := by decide +kernel
theorem dX10_with_12 : decode cX10_with 12 = .ok (.aload_n 0, 1) := by decide +kernel
theorem dX10_with_13 : decode cX10_with 13 = .ok (.getfield 36, 3) := by decide +kernel
theorem dX10_with_16 : decode cX10_with 16 = .ok (.aload_n 0, 1) := by decide +kernel
theorem dX10_with_17 : decode cX10_with 17 = .ok (.getfield 23, 3) := by decide +kernel
theorem dX10_with_20 : decode cX10_with 20 = .ok (.invokevirtual 254, 3) := by decide +kernel
theorem dX10_with_23 : decode cX10_with 23 = .ok (.aload_n 0, 1) := by decide +kernel
theorem dX10_with_24 : decode cX10_with 24 = .ok (.getfield 36, 3) := by decide +kernel
theorem dX10_with_27 : decode cX10_with 27 = .ok (.getfield 104, 3) := by decide +kernel
theorem dX10_with_30 : decode cX10_with 30 = .ok (.iload_n 2, 1) := by decide +kernel
theorem dX10_with_31 : decode cX10_with 31 = .ok (.putfield 124, 3) := by decide +kernel
theorem dX10_with_34 : decode cX10_with 34 = .ok (.aload_n 0, 1) := by decide +kernel
theorem dX10_with_35 : decode cX10_with 35 = .ok (.iload_n 1, 1) := by decide +kernel
theorem dX10_with_36 : decode cX10_with 36 = .ok (.invokevirtual 260, 3) := by decide +kernel
theorem dX10_with_39 : decode cX10_with 39 = .ok (.ireturn, 1) := by decide +kernel
def fX10_with (Y : XS) (n : Nat) (S : PS) (a0 : Nat) (x1_ : Int32) (x2_ : Int32) : Option ((Int32 × PS) ⊕ (Nat × PS)) :=
  kc (fX10_needRule Y n S x1_) (fun q1 => ks q1 (fun p1 => kc (fX10_allow Y n p1 x2_ (0 : Int32) (99999 : Int32)) (fun q9 => ks q9 (fun p9 => kgr p9 a0 5 (fun b13 => kgr p9 a0 2 (fun b17 => kc (fX6_copyFrom Y n p9 b13 b17) (fun q20 => kgr q20 a0 5 (fun b24 => kgr q20 b24 0 (fun b27 => kpi q20 b27 0 x2_ (fun S31 => kc (fX10_tried Y n S31 a0 x1_) (fun q36 => some (.inl (q36.1, q36.2)))))))))) (fun e9 => some (.inr e9)))) (fun e1 => some (.inr e1)))
theorem wX10_with {C : CT} {ρ : Nat → Nat} {Y : XS} (hC : CK C RX10 cX10_with 3 (some .int) 7) (n : Nat) (S : PS) (a0 : Nat) (x1_ : Int32) (x2_ : Int32) (hTa0 : Ty Y a0 10) {o : (Int32 × PS) ⊕ (Nat × PS)} (hf : fX10_with Y n S a0 x1_ x2_ = some o) (hB : XB C (ρ, Y, 0, 0) 8 48) (hR : RtX C ρ Y cX10_with (some .int) 8 48 (mrI o)) (hTo : ThO C ρ Y cX10_with 8 48 (mrI o)) (hTp : ThP C ρ Y 8 48 (mrI o)) : UW C (ρ, Y, 0, 0) S 0 [(0, .ref (ρ a0)), (1, .int x1_), (2, .int x2_)] [] := by
  unfold fX10_with at hf
  refine u_iload_n hC dX10_with_0 1 rfl rfl ?_
  obtain ⟨q1, hq1, hf⟩ := kc_some hf
  refine u_callSX hC (ctX10_needRule (cL C) hC.tr (cG C) ρ Y n S x1_  hq1) (hB.at (Nat.le_of_ble_eq_true rfl) (Nat.le_of_ble_eq_true rfl)) lk_X10_159 (by decide) (by decide) rfl rfl (Nat.le_of_ble_eq_true rfl) dX10_with_1 (fun v' S' he => ?_) (fun k' S' he => ?_)
  · rcases q1 with p1 | e1
    · have he : (Sum.inl (none, p1) : MR) = .inl (v', S') := he
      obtain ⟨hv9, hS9⟩ : none = v' ∧ p1 = S' := by cases he; exact ⟨rfl, rfl⟩
      subst hv9
      subst hS9
      have hf := ks_l hf
      refine u_iload_n hC dX10_with_4 2 rfl rfl ?_
      refine u_iconst (v := (0 : Int32)) hC dX10_with_5 (by decide) ?_
      refine u_ldcw (v := (99999 : Int32)) hC dX10_with_6 (tb_5 182 rfl rfl) ?_
      obtain ⟨q9, hq9, hf⟩ := kc_some hf
      refine u_callSX hC (ctX10_allow (cL C) hC.tr (cG C) ρ Y n p1 x2_ (0 : Int32) (99999 : Int32)  hq9) (hB.at (Nat.le_of_ble_eq_true rfl) (Nat.le_of_ble_eq_true rfl)) lk_X10_264 (by decide) (by decide) rfl rfl (Nat.le_of_ble_eq_true rfl) dX10_with_9 (fun v' S' he => ?_) (fun k' S' he => ?_)
      · rcases q9 with p9 | e9
        · have he : (Sum.inl (none, p9) : MR) = .inl (v', S') := he
          obtain ⟨hv9, hS9⟩ : none = v' ∧ p9 = S' := by cases he; exact ⟨rfl, rfl⟩
          subst hv9
          subst hS9
          have hf := ks_l hf
          refine u_aload_n hC dX10_with_12 0 rfl rfl ?_
          refine u_gr hC lf_X10_36 rfl hTa0 dX10_with_13 hf (fun b13 hTb13 hf => ?_)
          refine u_aload_n hC dX10_with_16 0 rfl rfl ?_
          refine u_gr hC lf_X10_23 rfl hTa0 dX10_with_17 hf (fun b17 hTb17 hf => ?_)
          obtain ⟨q20, hq20, hf⟩ := kc_some hf
          refine u_callV hC (ctX6_copyFrom (cL C) hC.tr (cG C) ρ Y n p9 b13 b17 hTb13 hTb17 hq20) lk_X10_254 rfl hTb13 (by decide) rfl (by decide) (by decide) rfl rfl (Nat.le_of_ble_eq_true rfl) dX10_with_20 ?_
          refine u_aload_n hC dX10_with_23 0 rfl rfl ?_
          refine u_gr hC lf_X10_36 rfl hTa0 dX10_with_24 hf (fun b24 hTb24 hf => ?_)
          refine u_gr hC lf_X10_104 rfl hTb24 dX10_with_27 hf (fun b27 hTb27 hf => ?_)
          refine u_iload_n hC dX10_with_30 2 rfl rfl ?_
          refine u_pi hC lf_X10_124 rfl rfl rfl hTb27 dX10_with_31 hf (fun S31 hf => ?_)
          refine u_aload_n hC dX10_with_34 0 rfl rfl ?_
          refine u_iload_n hC dX10_with_35 1 rfl rfl ?_
          obtain ⟨q36, hq36, hf⟩ := kc_some hf
          refine u_callV hC (ctX10_tried (cL C) hC.tr (cG C) ρ Y n S31 a0 x1_ hTa0 hq36) lk_X10_260 rfl hTa0 (by decide) rfl (by decide) (by decide) rfl rfl (Nat.le_of_ble_eq_true rfl) dX10_with_36 ?_
          cases hf
          exact hR _ _ rfl _ _ (Nat.le_of_ble_eq_true rfl) (Nat.le_of_ble_eq_true rfl) _ _ dX10_with_39 trivial
        · have he : (Sum.inr e9 : MR) = .inl (v', S') := he
          cases he
      · rcases q9 with p9 | e9
        · have he : (Sum.inl (none, p9) : MR) = .inr (k', S') := he
          cases he
        · have he : (Sum.inr e9 : MR) = .inr (k', S') := he
          cases he
          have hf := ks_r hf
          cases hf
          exact hTp _ _ rfl _ _ (Nat.le_of_ble_eq_true rfl) (Nat.le_of_ble_eq_true rfl)
    · have he : (Sum.inr e1 : MR) = .inl (v', S') := he
      cases he
  · rcases q1 with p1 | e1
    · have he : (Sum.inl (none, p1) : MR) = .inr (k', S') := he
      cases he
    · have he : (Sum.inr e1 : MR) = .inr (k', S') := he
      cases he
      have hf := ks_r hf
      cases hf
      exact hTp _ _ rfl _ _ (Nat.le_of_ble_eq_true rfl) (Nat.le_of_ble_eq_true rfl)
theorem ctX10_with (l : Launch) (hl : l.stackTraces = false) (G : GT) (ρ : Nat → Nat) (Y : XS) (n : Nat) (S : PS) (a0 : Nat) (x1_ : Int32) (x2_ : Int32) (hTa0 : Ty Y a0 10) {o : (Int32 × PS) ⊕ (Nat × PS)} (hf : fX10_with Y n S a0 x1_ x2_ = some o) : Mx l G yX10_with cX10_with 3 (some .int) 7 8 48 ρ Y [.ref (ρ a0), .int x1_, .int x2_] S (mrI o) :=
  Mx_of hl (by decide) rfl (by decide) (Nat.le_of_ble_eq_true rfl) (fun C _ _ hC hB hR hTo hTp => wX10_with hC n S a0 x1_ x2_ hTa0 hf hB hR hTo hTp)
-- X10_triedScore
theorem dX10_triedScore_0 : decode cX10_triedScore 0 = .ok (.aload_n 0, 1) := by decide +kernel
theorem dX10_triedScore_1 : decode cX10_triedScore 1 = .ok (.getfield 36, 3) := by decide +kernel
theorem dX10_triedScore_4 : decode cX10_triedScore 4 = .ok (.aload_n 0, 1) := by decide +kernel
theorem dX10_triedScore_5 : decode cX10_triedScore 5 = .ok (.getfield 23, 3) := by decide +kernel
theorem dX10_triedScore_8 : decode cX10_triedScore 8 = .ok (.invokevirtual 254, 3) := by decide +kernel
theorem dX10_triedScore_11 : decode cX10_triedScore 11 = .ok (.aload_n 0, 1) := by decide +kernel
theorem dX10_triedScore_12 : decode cX10_triedScore 12 = .ok (.getfield 36, 3) := by decide +kernel
theorem dX10_triedScore_15 : decode cX10_triedScore 15 = .ok (.getfield 104, 3) := by decide +kernel
theorem dX10_triedScore_18 : decode cX10_triedScore 18 = .ok (.getfield 156, 3) := by decide +kernel
theorem dX10_triedScore_21 : decode cX10_triedScore 21 = .ok (.iload_n 3, 1) := by decide +kernel
theorem dX10_triedScore_22 : decode cX10_triedScore 22 = .ok (.bipush 24, 2) := by decide +kernel
theorem dX10_triedScore_24 : decode cX10_triedScore 24 = .ok (.imul, 1) := by decide +kernel
theorem dX10_triedScore_25 : decode cX10_triedScore 25 = .ok (.iload_n 2, 1) := by decide +kernel
theorem dX10_triedScore_26 : decode cX10_triedScore 26 = .ok (.iadd, 1) := by decide +kernel
theorem dX10_triedScore_27 : decode cX10_triedScore 27 = .ok (.iload 4, 2) := by decide +kernel
theorem dX10_triedScore_29 : decode cX10_triedScore 29 = .ok (.iastore, 1) := by decide +kernel
theorem dX10_triedScore_30 : decode cX10_triedScore 30 = .ok (.aload_n 0, 1) := by decide +kernel
theorem dX10_triedScore_31 : decode cX10_triedScore 31 = .ok (.getfield 36, 3) := by decide +kernel
theorem dX10_triedScore_34 : decode cX10_triedScore 34 = .ok (.iload_n 3, 1) := by decide +kernel
theorem dX10_triedScore_35 : decode cX10_triedScore 35 = .ok (.invokevirtual 276, 3) := by decide +kernel
theorem dX10_triedScore_38 : decode cX10_triedScore 38 = .ok (.aload_n 0, 1) := by decide +kernel
theorem dX10_triedScore_39 : decode cX10_triedScore 39 = .ok (.getfield 47, 3) := by decide +kernel
theorem dX10_triedScore_42 : decode cX10_triedScore 42 = .ok (.iload_n 1, 1) := by decide +kernel
theorem dX10_triedScore_43 : decode cX10_triedScore 43 = .ok (.aload_n 0, 1) := by decide +kernel
theorem dX10_triedScore_44 : decode cX10_triedScore 44 = .ok (.getfield 36, 3) := by decide +kernel
theorem dX10_triedScore_47 : decode cX10_triedScore 47 = .ok (.aload_n 0, 1) := by decide +kernel
theorem dX10_triedScore_48 : decode cX10_triedScore 48 = .ok (.getfield 40, 3) := by decide +kernel
theorem dX10_triedScore_51 : decode cX10_triedScore 51 = .ok (.invokevirtual 287, 3) := by decide +kernel
theorem dX10_triedScore_54 : decode cX10_triedScore 54 = .ok (.aload_n 0, 1) := by decide +kernel
theorem dX10_triedScore_55 : decode cX10_triedScore 55 = .ok (.getfield 40, 3) := by decide +kernel
theorem dX10_triedScore_58 : decode cX10_triedScore 58 = .ok (.getfield 166, 3) := by decide +kernel
theorem dX10_triedScore_61 : decode cX10_triedScore 61 = .ok (.ireturn, 1) := by decide +kernel
def fX10_triedScore (Y : XS) (n : Nat) (S : PS) (a0 : Nat) (x1_ : Int32) (x2_ : Int32) (x3_ : Int32) (x4_ : Int32) : Option (Int32 × PS) :=
  kgr S a0 5 (fun b1 => kgr S a0 2 (fun b5 => kc (fX6_copyFrom Y n S b1 b5) (fun q8 => kgr q8 a0 5 (fun b12 => kgr q8 b12 0 (fun b15 => kgr q8 b15 6 (fun b18 => kwi Y q8 b18 ((x3_ * (24 : Int32)) + x2_) x4_ (fun S29 => kgr S29 a0 5 (fun b31 => kc (fX6_tallyOne Y n S29 b31 x3_) (fun q35 => kgr q35 a0 7 (fun b39 => kgr q35 a0 5 (fun b44 => kgr q35 a0 6 (fun b48 => kc (fX0_choose Y n q35 b39 x1_ b44 b48) (fun q51 => kgr q51 a0 6 (fun b55 => kgi q51 b55 2 (fun x58 => some (x58, q51))))))))))))))))
theorem wX10_triedScore {C : CT} {X : XT} (hC : CK C RX10 cX10_triedScore 5 (some .int) 6) (n : Nat) (S : PS) (a0 : Nat) (x1_ : Int32) (x2_ : Int32) (x3_ : Int32) (x4_ : Int32) (hTa0 : Ty X.2.1 a0 10) {o : Int32 × PS} (hf : fX10_triedScore X.2.1 n S a0 x1_ x2_ x3_ x4_ = some o) (hR : Rt C X cX10_triedScore (some .int) (some (.int o.1)) o.2) : UW C X S 0 [(0, .ref (X.1 a0)), (1, .int x1_), (2, .int x2_), (3, .int x3_), (4, .int x4_)] [] := by
  unfold fX10_triedScore at hf
  refine u_aload_n hC dX10_triedScore_0 0 rfl rfl ?_
  refine u_gr hC lf_X10_36 rfl hTa0 dX10_triedScore_1 hf (fun b1 hTb1 hf => ?_)
  refine u_aload_n hC dX10_triedScore_4 0 rfl rfl ?_
  refine u_gr hC lf_X10_23 rfl hTa0 dX10_triedScore_5 hf (fun b5 hTb5 hf => ?_)
  obtain ⟨q8, hq8, hf⟩ := kc_some hf
  refine u_callV hC (ctX6_copyFrom (cL C) hC.tr (cG C) X.1 X.2.1 n S b1 b5 hTb1 hTb5 hq8) lk_X10_254 rfl hTb1 (by decide) rfl (by decide) (by decide) rfl rfl (Nat.le_of_ble_eq_true rfl) dX10_triedScore_8 ?_
  refine u_aload_n hC dX10_triedScore_11 0 rfl rfl ?_
  refine u_gr hC lf_X10_36 rfl hTa0 dX10_triedScore_12 hf (fun b12 hTb12 hf => ?_)
  refine u_gr hC lf_X10_104 rfl hTb12 dX10_triedScore_15 hf (fun b15 hTb15 hf => ?_)
  refine u_gr hC lf_X10_156 rfl hTb15 dX10_triedScore_18 hf (fun b18 hTb18 hf => ?_)
  refine u_iload_n hC dX10_triedScore_21 3 rfl rfl ?_
  refine u_bipush (v := (24 : Int32)) hC dX10_triedScore_22 (by decide) ?_
  refine u_imul hC dX10_triedScore_24 ?_
  refine u_iload_n hC dX10_triedScore_25 2 rfl rfl ?_
  refine u_iadd hC dX10_triedScore_26 ?_
  refine u_iload hC dX10_triedScore_27 4 rfl ?_
  refine u_wi hC hTb18 dX10_triedScore_29 hf (fun S29 hf => ?_)
  refine u_aload_n hC dX10_triedScore_30 0 rfl rfl ?_
  refine u_gr hC lf_X10_36 rfl hTa0 dX10_triedScore_31 hf (fun b31 hTb31 hf => ?_)
  refine u_iload_n hC dX10_triedScore_34 3 rfl rfl ?_
  obtain ⟨q35, hq35, hf⟩ := kc_some hf
  refine u_callV hC (ctX6_tallyOne (cL C) hC.tr (cG C) X.1 X.2.1 n S29 b31 x3_ hTb31 hq35) lk_X10_276 rfl hTb31 (by decide) rfl (by decide) (by decide) rfl rfl (Nat.le_of_ble_eq_true rfl) dX10_triedScore_35 ?_
  refine u_aload_n hC dX10_triedScore_38 0 rfl rfl ?_
  refine u_gr hC lf_X10_47 rfl hTa0 dX10_triedScore_39 hf (fun b39 hTb39 hf => ?_)
  refine u_iload_n hC dX10_triedScore_42 1 rfl rfl ?_
  refine u_aload_n hC dX10_triedScore_43 0 rfl rfl ?_
  refine u_gr hC lf_X10_36 rfl hTa0 dX10_triedScore_44 hf (fun b44 hTb44 hf => ?_)
  refine u_aload_n hC dX10_triedScore_47 0 rfl rfl ?_
  refine u_gr hC lf_X10_40 rfl hTa0 dX10_triedScore_48 hf (fun b48 hTb48 hf => ?_)
  obtain ⟨q51, hq51, hf⟩ := kc_some hf
  refine u_callV hC (ctX0_choose (cL C) hC.tr (cG C) X.1 X.2.1 n q35 b39 x1_ b44 b48 hTb39 hTb44 hTb48 hq51) lk_X10_287 rfl hTb39 (by decide) rfl (by decide) (by decide) rfl rfl (Nat.le_of_ble_eq_true rfl) dX10_triedScore_51 ?_
  refine u_aload_n hC dX10_triedScore_54 0 rfl rfl ?_
  refine u_gr hC lf_X10_40 rfl hTa0 dX10_triedScore_55 hf (fun b55 hTb55 hf => ?_)
  refine u_gi hC lf_X10_166 rfl hTb55 dX10_triedScore_58 hf (fun x58 hf => ?_)
  cases hf
  exact hR _ _ dX10_triedScore_61 trivial
theorem ctX10_triedScore (l : Launch) (hl : l.stackTraces = false) (G : GT) (ρ : Nat → Nat) (Y : XS) (n : Nat) (S : PS) (a0 : Nat) (x1_ : Int32) (x2_ : Int32) (x3_ : Int32) (x4_ : Int32) (hTa0 : Ty Y a0 10) {o : Int32 × PS} (hf : fX10_triedScore Y n S a0 x1_ x2_ x3_ x4_ = some o) : Mt l G yX10_triedScore cX10_triedScore 5 (some .int) 6 ρ Y [.ref (ρ a0), .int x1_, .int x2_, .int x3_, .int x4_] S (some (.int o.1)) o.2 :=
  Mt_of hl (by decide) (Nat.le_of_ble_eq_true rfl) (fun C _ _ hC hR => wX10_triedScore (X := (ρ, Y, 0, 0)) hC n S a0 x1_ x2_ x3_ x4_ hTa0 hf hR)
-- X10_voting
theorem dX10_voting_0 : decode cX10_voting 0 = .ok (.iload_n 1, 1) := by decide +kernel
theorem dX10_voting_1 : decode cX10_voting 1 = .ok (.invokestatic 159, 3) := by decide +kernel
theorem dX10_voting_4 : decode cX10_voting 4 = .ok (.aload_n 0, 1) := by decide +kernel
theorem dX10_voting_5 : decode cX10_voting 5 = .ok (.iload_n 2, 1) := by decide +kernel
theorem dX10_voting_6 : decode cX10_voting 6 = .ok (.invokevirtual 150, 3) := by decide +kernel
theorem dX10_voting_9 : decode cX10_voting 9 = .ok (.aload_n 0, 1) := by decide +kernel
theorem dX10_voting_10 : decode cX10_voting 10 = .ok (.iload_n 3, 1) := by decide +kernel
theorem dX10_voting_11 : decode cX10_voting 11 = .ok (.invokevirtual 134, 3) := by decide +kernel
theorem dX10_voting_14 : decode cX10_voting 14 = .ok (.iload 4, 2) := by decide +kernel
theorem dX10_voting_16 : decode cX10_voting 16 = .ok (.iconst 0, 1) := by decide +kernel
theorem dX10_voting_17 : decode cX10_voting 17 = .ok (.bipush 9, 2) := by decide +kernel
theorem dX10_voting_19 : decode cX10_voting 19 = .ok (.invokestatic 264, 3) := by decide +kernel
theorem dX10_voting_22 : decode cX10_voting 22 = .ok (.aload_n 0, 1) := by decide +kernel
theorem dX10_voting_23 : decode cX10_voting 23 = .ok (.iload_n 1, 1) := by decide +kernel
theorem dX10_voting_24 : decode cX10_voting 24 = .ok (.iload_n 2, 1) := by decide +kernel
theorem dX10_voting_25 : decode cX10_voting 25 = .ok (.iload_n 3, 1) := by decide +kernel
theorem dX10_voting_26 : decode cX10_voting 26 = .ok (.iload 4, 2) := by decide +kernel
theorem dX10_voting_28 : decode cX10_voting 28 = .ok (.invokevirtual 268, 3) := by decide +kernel
theorem dX10_voting_31 : decode cX10_voting 31 = .ok (.ireturn, 1) := by decide +kernel
def fX10_voting (Y : XS) (n : Nat) (S : PS) (a0 : Nat) (x1_ : Int32) (x2_ : Int32) (x3_ : Int32) (x4_ : Int32) : Option ((Int32 × PS) ⊕ (Nat × PS)) :=
  kc (fX10_needRule Y n S x1_) (fun q1 => ks q1 (fun p1 => kc (fX10_needVoter Y n p1 a0 x2_) (fun q6 => ks q6 (fun p6 => kc (fX10_needProject Y n p6 a0 x3_) (fun q11 => ks q11 (fun p11 => kc (fX10_allow Y n p11 x4_ (0 : Int32) (9 : Int32)) (fun q19 => ks q19 (fun p19 => kc (fX10_triedScore Y n p19 a0 x1_ x2_ x3_ x4_) (fun q28 => some (.inl (q28.1, q28.2)))) (fun e19 => some (.inr e19)))) (fun e11 => some (.inr e11)))) (fun e6 => some (.inr e6)))) (fun e1 => some (.inr e1)))
theorem wX10_voting {C : CT} {ρ : Nat → Nat} {Y : XS} (hC : CK C RX10 cX10_voting 5 (some .int) 7) (n : Nat) (S : PS) (a0 : Nat) (x1_ : Int32) (x2_ : Int32) (x3_ : Int32) (x4_ : Int32) (hTa0 : Ty Y a0 10) {o : (Int32 × PS) ⊕ (Nat × PS)} (hf : fX10_voting Y n S a0 x1_ x2_ x3_ x4_ = some o) (hB : XB C (ρ, Y, 0, 0) 8 48) (hR : RtX C ρ Y cX10_voting (some .int) 8 48 (mrI o)) (hTo : ThO C ρ Y cX10_voting 8 48 (mrI o)) (hTp : ThP C ρ Y 8 48 (mrI o)) : UW C (ρ, Y, 0, 0) S 0 [(0, .ref (ρ a0)), (1, .int x1_), (2, .int x2_), (3, .int x3_), (4, .int x4_)] [] := by
  unfold fX10_voting at hf
  refine u_iload_n hC dX10_voting_0 1 rfl rfl ?_
  obtain ⟨q1, hq1, hf⟩ := kc_some hf
  refine u_callSX hC (ctX10_needRule (cL C) hC.tr (cG C) ρ Y n S x1_  hq1) (hB.at (Nat.le_of_ble_eq_true rfl) (Nat.le_of_ble_eq_true rfl)) lk_X10_159 (by decide) (by decide) rfl rfl (Nat.le_of_ble_eq_true rfl) dX10_voting_1 (fun v' S' he => ?_) (fun k' S' he => ?_)
  · rcases q1 with p1 | e1
    · have he : (Sum.inl (none, p1) : MR) = .inl (v', S') := he
      obtain ⟨hv9, hS9⟩ : none = v' ∧ p1 = S' := by cases he; exact ⟨rfl, rfl⟩
      subst hv9
      subst hS9
      have hf := ks_l hf
      refine u_aload_n hC dX10_voting_4 0 rfl rfl ?_
      refine u_iload_n hC dX10_voting_5 2 rfl rfl ?_
      obtain ⟨q6, hq6, hf⟩ := kc_some hf
      refine u_callVX hC (ctX10_needVoter (cL C) hC.tr (cG C) ρ Y n p1 a0 x2_ hTa0 hq6) (hB.at (Nat.le_of_ble_eq_true rfl) (Nat.le_of_ble_eq_true rfl)) lk_X10_150 rfl hTa0 (by decide) rfl (by decide) (by decide) rfl rfl (Nat.le_of_ble_eq_true rfl) dX10_voting_6 (fun v' S' he => ?_) (fun k' S' he => ?_)
      · rcases q6 with p6 | e6
        · have he : (Sum.inl (none, p6) : MR) = .inl (v', S') := he
          obtain ⟨hv9, hS9⟩ : none = v' ∧ p6 = S' := by cases he; exact ⟨rfl, rfl⟩
          subst hv9
          subst hS9
          have hf := ks_l hf
          refine u_aload_n hC dX10_voting_9 0 rfl rfl ?_
          refine u_iload_n hC dX10_voting_10 3 rfl rfl ?_
          obtain ⟨q11, hq11, hf⟩ := kc_some hf
          refine u_callVX hC (ctX10_needProject (cL C) hC.tr (cG C) ρ Y n p6 a0 x3_ hTa0 hq11) (hB.at (Nat.le_of_ble_eq_true rfl) (Nat.le_of_ble_eq_true rfl)) lk_X10_134 rfl hTa0 (by decide) rfl (by decide) (by decide) rfl rfl (Nat.le_of_ble_eq_true rfl) dX10_voting_11 (fun v' S' he => ?_) (fun k' S' he => ?_)
          · rcases q11 with p11 | e11
            · have he : (Sum.inl (none, p11) : MR) = .inl (v', S') := he
              obtain ⟨hv9, hS9⟩ : none = v' ∧ p11 = S' := by cases he; exact ⟨rfl, rfl⟩
              subst hv9
              subst hS9
              have hf := ks_l hf
              refine u_iload hC dX10_voting_14 4 rfl ?_
              refine u_iconst (v := (0 : Int32)) hC dX10_voting_16 (by decide) ?_
              refine u_bipush (v := (9 : Int32)) hC dX10_voting_17 (by decide) ?_
              obtain ⟨q19, hq19, hf⟩ := kc_some hf
              refine u_callSX hC (ctX10_allow (cL C) hC.tr (cG C) ρ Y n p11 x4_ (0 : Int32) (9 : Int32)  hq19) (hB.at (Nat.le_of_ble_eq_true rfl) (Nat.le_of_ble_eq_true rfl)) lk_X10_264 (by decide) (by decide) rfl rfl (Nat.le_of_ble_eq_true rfl) dX10_voting_19 (fun v' S' he => ?_) (fun k' S' he => ?_)
              · rcases q19 with p19 | e19
                · have he : (Sum.inl (none, p19) : MR) = .inl (v', S') := he
                  obtain ⟨hv9, hS9⟩ : none = v' ∧ p19 = S' := by cases he; exact ⟨rfl, rfl⟩
                  subst hv9
                  subst hS9
                  have hf := ks_l hf
                  refine u_aload_n hC dX10_voting_22 0 rfl rfl ?_
                  refine u_iload_n hC dX10_voting_23 1 rfl rfl ?_
                  refine u_iload_n hC dX10_voting_24 2 rfl rfl ?_
                  refine u_iload_n hC dX10_voting_25 3 rfl rfl ?_
                  refine u_iload hC dX10_voting_26 4 rfl ?_
                  obtain ⟨q28, hq28, hf⟩ := kc_some hf
                  refine u_callV hC (ctX10_triedScore (cL C) hC.tr (cG C) ρ Y n p19 a0 x1_ x2_ x3_ x4_ hTa0 hq28) lk_X10_268 rfl hTa0 (by decide) rfl (by decide) (by decide) rfl rfl (Nat.le_of_ble_eq_true rfl) dX10_voting_28 ?_
                  cases hf
                  exact hR _ _ rfl _ _ (Nat.le_of_ble_eq_true rfl) (Nat.le_of_ble_eq_true rfl) _ _ dX10_voting_31 trivial
                · have he : (Sum.inr e19 : MR) = .inl (v', S') := he
                  cases he
              · rcases q19 with p19 | e19
                · have he : (Sum.inl (none, p19) : MR) = .inr (k', S') := he
                  cases he
                · have he : (Sum.inr e19 : MR) = .inr (k', S') := he
                  cases he
                  have hf := ks_r hf
                  cases hf
                  exact hTp _ _ rfl _ _ (Nat.le_of_ble_eq_true rfl) (Nat.le_of_ble_eq_true rfl)
            · have he : (Sum.inr e11 : MR) = .inl (v', S') := he
              cases he
          · rcases q11 with p11 | e11
            · have he : (Sum.inl (none, p11) : MR) = .inr (k', S') := he
              cases he
            · have he : (Sum.inr e11 : MR) = .inr (k', S') := he
              cases he
              have hf := ks_r hf
              cases hf
              exact hTp _ _ rfl _ _ (Nat.le_of_ble_eq_true rfl) (Nat.le_of_ble_eq_true rfl)
        · have he : (Sum.inr e6 : MR) = .inl (v', S') := he
          cases he
      · rcases q6 with p6 | e6
        · have he : (Sum.inl (none, p6) : MR) = .inr (k', S') := he
          cases he
        · have he : (Sum.inr e6 : MR) = .inr (k', S') := he
          cases he
          have hf := ks_r hf
          cases hf
          exact hTp _ _ rfl _ _ (Nat.le_of_ble_eq_true rfl) (Nat.le_of_ble_eq_true rfl)
    · have he : (Sum.inr e1 : MR) = .inl (v', S') := he
      cases he
  · rcases q1 with p1 | e1
    · have he : (Sum.inl (none, p1) : MR) = .inr (k', S') := he
      cases he
    · have he : (Sum.inr e1 : MR) = .inr (k', S') := he
      cases he
      have hf := ks_r hf
      cases hf
      exact hTp _ _ rfl _ _ (Nat.le_of_ble_eq_true rfl) (Nat.le_of_ble_eq_true rfl)
theorem ctX10_voting (l : Launch) (hl : l.stackTraces = false) (G : GT) (ρ : Nat → Nat) (Y : XS) (n : Nat) (S : PS) (a0 : Nat) (x1_ : Int32) (x2_ : Int32) (x3_ : Int32) (x4_ : Int32) (hTa0 : Ty Y a0 10) {o : (Int32 × PS) ⊕ (Nat × PS)} (hf : fX10_voting Y n S a0 x1_ x2_ x3_ x4_ = some o) : Mx l G yX10_voting cX10_voting 5 (some .int) 7 8 48 ρ Y [.ref (ρ a0), .int x1_, .int x2_, .int x3_, .int x4_] S (mrI o) :=
  Mx_of hl (by decide) rfl (by decide) (Nat.le_of_ble_eq_true rfl) (fun C _ _ hC hB hR hTo hTp => wX10_voting hC n S a0 x1_ x2_ x3_ x4_ hTa0 hf hB hR hTo hTp)
-- X10_ride
theorem dX10_ride_0 : decode cX10_ride 0 = .ok (.iload_n 1, 1) := by decide +kernel
theorem dX10_ride_1 : decode cX10_ride 1 = .ok (.invokestatic 159, 3) := by decide +kernel
theorem dX10_ride_4 : decode cX10_ride 4 = .ok (.aload_n 0, 1) := by decide +kernel
theorem dX10_ride_5 : decode cX10_ride 5 = .ok (.iload_n 2, 1) := by decide +kernel
theorem dX10_ride_6 : decode cX10_ride 6 = .ok (.invokevirtual 150, 3) := by decide +kernel
theorem dX10_ride_9 : decode cX10_ride 9 = .ok (.iload_n 3, 1) := by decide +kernel
theorem dX10_ride_10 : decode cX10_ride 10 = .ok (.iconst 1, 1) := by decide +kernel
theorem dX10_ride_11 : decode cX10_ride 11 = .ok (.invokestatic 117, 3) := by decide +kernel
theorem dX10_ride_14 : decode cX10_ride 14 = .ok (.aload_n 0, 1) := by decide +kernel
theorem dX10_ride_15 : decode cX10_ride 15 = .ok (.getfield 23, 3) := by decide +kernel
theorem dX10_ride_18 : decode cX10_ride 18 = .ok (.iload_n 2, 1) := by decide +kernel
theorem dX10_ride_19 : decode cX10_ride 19 = .ok (.aload_n 0, 1) := by decide +kernel
theorem dX10_ride_20 : decode cX10_ride 20 = .ok (.iload_n 1, 1) := by decide +kernel
theorem dX10_ride_21 : decode cX10_ride 21 = .ok (.invokevirtual 162, 3) := by decide +kernel
theorem dX10_ride_24 : decode cX10_ride 24 = .ok (.getfield 166, 3) := by decide +kernel
theorem dX10_ride_27 : decode cX10_ride 27 = .ok (.invokevirtual 193, 3) := by decide +kernel
theorem dX10_ride_30 : decode cX10_ride 30 = .ok (.istore 4, 2) := by decide +kernel
theorem dX10_ride_32 : decode cX10_ride 32 = .ok (.iconst 0, 1) := by decide +kernel
theorem dX10_ride_33 : decode cX10_ride 33 = .ok (.istore 5, 2) := by decide +kernel
theorem dX10_ride_35 : decode cX10_ride 35 = .ok (.iconst (-1), 1) := by decide +kernel
theorem dX10_ride_36 : decode cX10_ride 36 = .ok (.istore 6, 2) := by decide +kernel
theorem dX10_ride_38 : decode cX10_ride 38 = .ok (.iconst 0, 1) := by decide +kernel
theorem dX10_ride_39 : decode cX10_ride 39 = .ok (.istore 7, 2) := by decide +kernel
theorem dX10_ride_41 : decode cX10_ride 41 = .ok (.iload 7, 2) := by decide +kernel
theorem dX10_ride_43 : decode cX10_ride 43 = .ok (.aload_n 0, 1) := by decide +kernel
theorem dX10_ride_44 : decode cX10_ride 44 = .ok (.getfield 23, 3) := by decide +kernel
theorem dX10_ride_47 : decode cX10_ride 47 = .ok (.getfield 104, 3) := by decide +kernel
theorem dX10_ride_50 : decode cX10_ride 50 = .ok (.getfield 105, 3) := by decide +kernel
theorem dX10_ride_53 : decode cX10_ride 53 = .ok (.if_icmp .ge 67, 3) := by decide +kernel
theorem dX10_ride_56 : decode cX10_ride 56 = .ok (.aload_n 0, 1) := by decide +kernel
theorem dX10_ride_57 : decode cX10_ride 57 = .ok (.getfield 23, 3) := by decide +kernel
theorem dX10_ride_60 : decode cX10_ride 60 = .ok (.getfield 104, 3) := by decide +kernel
theorem dX10_ride_63 : decode cX10_ride 63 = .ok (.getfield 156, 3) := by decide +kernel
theorem dX10_ride_66 : decode cX10_ride 66 = .ok (.iload 7, 2) := by decide +kernel
theorem dX10_ride_68 : decode cX10_ride 68 = .ok (.bipush 24, 2) := by decide +kernel
theorem dX10_ride_70 : decode cX10_ride 70 = .ok (.imul, 1) := by decide +kernel
theorem dX10_ride_71 : decode cX10_ride 71 = .ok (.iload_n 2, 1) := by decide +kernel
theorem dX10_ride_72 : decode cX10_ride 72 = .ok (.iadd, 1) := by decide +kernel
theorem dX10_ride_73 : decode cX10_ride 73 = .ok (.iaload, 1) := by decide +kernel
theorem dX10_ride_74 : decode cX10_ride 74 = .ok (.ifCond .le 40, 3) := by decide +kernel
theorem dX10_ride_77 : decode cX10_ride 77 = .ok (.aload_n 0, 1) := by decide +kernel
theorem dX10_ride_78 : decode cX10_ride 78 = .ok (.getfield 23, 3) := by decide +kernel
theorem dX10_ride_81 : decode cX10_ride 81 = .ok (.iload_n 2, 1) := by decide +kernel
theorem dX10_ride_82 : decode cX10_ride 82 = .ok (.aload_n 0, 1) := by decide +kernel
theorem dX10_ride_83 : decode cX10_ride 83 = .ok (.iload_n 1, 1) := by decide +kernel
theorem dX10_ride_84 : decode cX10_ride 84 = .ok (.iload_n 2, 1) := by decide +kernel
theorem dX10_ride_85 : decode cX10_ride 85 = .ok (.iload 7, 2) := by decide +kernel
theorem dX10_ride_87 : decode cX10_ride 87 = .ok (.iconst 0, 1) := by decide +kernel
theorem dX10_ride_88 : decode cX10_ride 88 = .ok (.invokevirtual 268, 3) := by decide +kernel
theorem dX10_ride_91 : decode cX10_ride 91 = .ok (.invokevirtual 193, 3) := by decide +kernel
theorem dX10_ride_94 : decode cX10_ride 94 = .ok (.iload 4, 2) := by decide +kernel
theorem dX10_ride_96 : decode cX10_ride 96 = .ok (.isub, 1) := by decide +kernel
theorem dX10_ride_97 : decode cX10_ride 97 = .ok (.istore 8, 2) := by decide +kernel
theorem dX10_ride_99 : decode cX10_ride 99 = .ok (.iload 8, 2) := by decide +kernel
theorem dX10_ride_101 : decode cX10_ride 101 = .ok (.iload 5, 2) := by decide +kernel
theorem dX10_ride_103 : decode cX10_ride 103 = .ok (.if_icmp .le 11, 3) := by decide +kernel
theorem dX10_ride_106 : decode cX10_ride 106 = .ok (.iload 8, 2) := by decide +kernel
theorem dX10_ride_108 : decode cX10_ride 108 = .ok (.istore 5, 2) := by decide +kernel
theorem dX10_ride_110 : decode cX10_ride 110 = .ok (.iload 7, 2) := by decide +kernel
theorem dX10_ride_112 : decode cX10_ride 112 = .ok (.istore 6, 2) := by decide +kernel
theorem dX10_ride_114 : decode cX10_ride 114 = .ok (.iinc 7 1, 3) := by decide +kernel
theorem dX10_ride_117 : decode cX10_ride 117 = .ok (.goto (-76), 3) := by decide +kernel
theorem dX10_ride_120 : decode cX10_ride 120 = .ok (.iload_n 3, 1) := by decide +kernel
theorem dX10_ride_121 : decode cX10_ride 121 = .ok (.ifCond .ne 8, 3) := by decide +kernel
theorem dX10_ride_124 : decode cX10_ride 124 = .ok (.iload 5, 2) := by decide +kernel
theorem dX10_ride_126 : decode cX10_ride 126 = .ok (.goto 5, 3) := by decide +kernel
theorem dX10_ride_129 : decode cX10_ride 129 = .ok (.iload 6, 2) := by decide +kernel
theorem dX10_ride_131 : decode cX10_ride 131 = .ok (.ireturn, 1) := by decide +kernel
def jX10_ride_114_41 (Y : XS) (n : Nat) (S : PS) (v0 : Nat) (v1 : Int32) (v2 : Int32) (v3 : Int32) (v4 : Int32) (v5 : Int32) (v6 : Int32) (v7 : Int32) : Option ((Int32 × Int32 × Int32 × PS) ⊕ (Int32 × Int32 × PS)) :=
  some (.inl (v5, v6, v7 + (1 : Int32), S))
def bX10_ride_41 (Y : XS) (n : Nat) (v0 : Nat) (v1 : Int32) (v2 : Int32) (v3 : Int32) (v4 : Int32) (s41 : (Int32 × Int32 × Int32 × PS)) : Option ((Int32 × Int32 × Int32 × PS) ⊕ (Int32 × Int32 × PS)) :=
  kgr s41.2.2.2 v0 2 (fun b44 => kgr s41.2.2.2 b44 0 (fun b47 => kgi s41.2.2.2 b47 1 (fun x50 => (if x50 ≤ s41.2.2.1 then some (.inr (s41.1, s41.2.1, s41.2.2.2)) else kgr s41.2.2.2 v0 2 (fun b57 => kgr s41.2.2.2 b57 0 (fun b60 => kgr s41.2.2.2 b60 6 (fun b63 => kai Y s41.2.2.2 b63 ((s41.2.2.1 * (24 : Int32)) + v2) (fun x73 => (if x73 ≤ 0 then jX10_ride_114_41 Y n s41.2.2.2 v0 v1 v2 v3 v4 s41.1 s41.2.1 s41.2.2.1 else kgr s41.2.2.2 v0 2 (fun b78 => kc (fX10_triedScore Y n s41.2.2.2 v0 v1 v2 s41.2.2.1 (0 : Int32)) (fun q88 => kc (fX6_worthTo Y n q88.2 b78 v2 q88.1) (fun q91 => (if (q91 - v4) ≤ s41.1 then jX10_ride_114_41 Y n q88.2 v0 v1 v2 v3 v4 s41.1 s41.2.1 s41.2.2.1 else jX10_ride_114_41 Y n q88.2 v0 v1 v2 v3 v4 (q91 - v4) s41.2.2.1 s41.2.2.1)))))))))))))
def jX10_ride_131 (Y : XS) (n : Nat) (S : PS) (t0 : Int32) : Option ((Int32 × PS) ⊕ (Nat × PS)) :=
  some (.inl (t0, S))
def fX10_ride (Y : XS) (n : Nat) (S : PS) (a0 : Nat) (x1_ : Int32) (x2_ : Int32) (x3_ : Int32) : Option ((Int32 × PS) ⊕ (Nat × PS)) :=
  kc (fX10_needRule Y n S x1_) (fun q1 => ks q1 (fun p1 => kc (fX10_needVoter Y n p1 a0 x2_) (fun q6 => ks q6 (fun p6 => kc (fX10_needWhat Y n p6 x3_ (1 : Int32)) (fun q11 => ks q11 (fun p11 => kgr p11 a0 2 (fun b15 => kc (fX10_result Y n p11 a0 x1_) (fun q21 => kty Y q21.1 5 (kgi q21.2 q21.1 2 (fun x24 => kc (fX6_worthTo Y n q21.2 b15 x2_ x24) (fun q27 => kc (iter (bX10_ride_41 Y n a0 x1_ x2_ x3_ q27) n ((0 : Int32), (-1 : Int32), (0 : Int32), q21.2)) (fun r41 => (if x3_ = 0 then jX10_ride_131 Y n r41.2.2 r41.1 else jX10_ride_131 Y n r41.2.2 r41.2.1)))))))) (fun e11 => some (.inr e11)))) (fun e6 => some (.inr e6)))) (fun e1 => some (.inr e1)))
theorem wjX10_ride_114_41 {C : CT} {X : XT} (hC : CK C RX10 cX10_ride 9 (some .int) 7) (n : Nat) (S : PS) (v0 : Nat) (v1 : Int32) (v2 : Int32) (v3 : Int32) (v4 : Int32) (v5 : Int32) (v6 : Int32) (v7 : Int32)  (hTv0 : Ty X.2.1 v0 10) {o : (Int32 × Int32 × Int32 × PS) ⊕ (Int32 × Int32 × PS)} (hf : jX10_ride_114_41 X.2.1 n S v0 v1 v2 v3 v4 v5 v6 v7 = some o) (hN : ∀ s', o = .inl s' → UW C X s'.2.2.2 41 [(0, .ref (X.1 v0)), (1, .int v1), (2, .int v2), (3, .int v3), (4, .int v4), (5, .int s'.1), (6, .int s'.2.1), (7, .int s'.2.2.1)] []) (hO0 : ∀ p', o = .inr p' → UW C X p'.2.2 120 [(3, .int v3), (5, .int p'.1), (6, .int p'.2.1)] []) : UW C X S 114 [(0, .ref (X.1 v0)), (1, .int v1), (2, .int v2), (3, .int v3), (4, .int v4), (5, .int v5), (6, .int v6), (7, .int v7)] [] := by
  unfold jX10_ride_114_41 at hf
  refine u_iinc (v := v7 + (1 : Int32)) (lv' := [(7, .int (v7 + (1 : Int32))), (0, .ref (X.1 v0)), (1, .int v1), (2, .int v2), (3, .int v3), (4, .int v4), (5, .int v5), (6, .int v6)]) hC dX10_ride_114 7 rfl rfl (by decide) rfl ?_
  refine u_goto (tgt := 41) hC dX10_ride_117 (by decide) ?_
  refine u_sub (lv' := [(0, .ref (X.1 v0)), (1, .int v1), (2, .int v2), (3, .int v3), (4, .int v4), (5, .int v5), (6, .int v6), (7, .int (v7 + (1 : Int32)))]) [1, 2, 3, 4, 5, 6, 7, 0] rfl ?_
  exact hN _ (Option.some.inj hf).symm
theorem wbX10_ride_41 {C : CT} {X : XT} (hC : CK C RX10 cX10_ride 9 (some .int) 7) (n : Nat) (v0 : Nat) (v1 : Int32) (v2 : Int32) (v3 : Int32) (v4 : Int32) (hTv0 : Ty X.2.1 v0 10) (s41 : (Int32 × Int32 × Int32 × PS)) {o : (Int32 × Int32 × Int32 × PS) ⊕ (Int32 × Int32 × PS)} (hf : bX10_ride_41 X.2.1 n v0 v1 v2 v3 v4 s41 = some o) (hN : ∀ s', o = .inl s' → UW C X s'.2.2.2 41 [(0, .ref (X.1 v0)), (1, .int v1), (2, .int v2), (3, .int v3), (4, .int v4), (5, .int s'.1), (6, .int s'.2.1), (7, .int s'.2.2.1)] []) (hO0 : ∀ p', o = .inr p' → UW C X p'.2.2 120 [(3, .int v3), (5, .int p'.1), (6, .int p'.2.1)] []) : UW C X s41.2.2.2 41 [(0, .ref (X.1 v0)), (1, .int v1), (2, .int v2), (3, .int v3), (4, .int v4), (5, .int s41.1), (6, .int s41.2.1), (7, .int s41.2.2.1)] [] := by
  unfold bX10_ride_41 at hf
  refine u_iload hC dX10_ride_41 7 rfl ?_
  refine u_aload_n hC dX10_ride_43 0 rfl rfl ?_
  refine u_gr hC lf_X10_23 rfl hTv0 dX10_ride_44 hf (fun b44 hTb44 hf => ?_)
  refine u_gr hC lf_X10_104 rfl hTb44 dX10_ride_47 hf (fun b47 hTb47 hf => ?_)
  refine u_gi hC lf_X10_105 rfl hTb47 dX10_ride_50 hf (fun x50 hf => ?_)
  refine u_icmp_ge (tgt := 120) hC dX10_ride_53 (by decide) hf (fun h53 hf => ?_) (fun h53 hf => ?_)
  · refine u_sub (lv' := [(3, .int v3), (5, .int s41.1), (6, .int s41.2.1)]) [3, 5, 6] rfl ?_
    exact hO0 _ (Option.some.inj hf).symm
  · refine u_aload_n hC dX10_ride_56 0 rfl rfl ?_
    refine u_gr hC lf_X10_23 rfl hTv0 dX10_ride_57 hf (fun b57 hTb57 hf => ?_)
    refine u_gr hC lf_X10_104 rfl hTb57 dX10_ride_60 hf (fun b60 hTb60 hf => ?_)
    refine u_gr hC lf_X10_156 rfl hTb60 dX10_ride_63 hf (fun b63 hTb63 hf => ?_)
    refine u_iload hC dX10_ride_66 7 rfl ?_
    refine u_bipush (v := (24 : Int32)) hC dX10_ride_68 (by decide) ?_
    refine u_imul hC dX10_ride_70 ?_
    refine u_iload_n hC dX10_ride_71 2 rfl rfl ?_
    refine u_iadd hC dX10_ride_72 ?_
    refine u_ai hC hTb63 dX10_ride_73 hf (fun x73 hf => ?_)
    refine u_if_le (tgt := 114) hC dX10_ride_74 (by decide) hf (fun h74 hf => ?_) (fun h74 hf => ?_)
    · exact wjX10_ride_114_41 hC n s41.2.2.2 v0 v1 v2 v3 v4 s41.1 s41.2.1 s41.2.2.1  hTv0 hf hN hO0
    · refine u_aload_n hC dX10_ride_77 0 rfl rfl ?_
      refine u_gr hC lf_X10_23 rfl hTv0 dX10_ride_78 hf (fun b78 hTb78 hf => ?_)
      refine u_iload_n hC dX10_ride_81 2 rfl rfl ?_
      refine u_aload_n hC dX10_ride_82 0 rfl rfl ?_
      refine u_iload_n hC dX10_ride_83 1 rfl rfl ?_
      refine u_iload_n hC dX10_ride_84 2 rfl rfl ?_
      refine u_iload hC dX10_ride_85 7 rfl ?_
      refine u_iconst (v := (0 : Int32)) hC dX10_ride_87 (by decide) ?_
      obtain ⟨q88, hq88, hf⟩ := kc_some hf
      refine u_callV hC (ctX10_triedScore (cL C) hC.tr (cG C) X.1 X.2.1 n s41.2.2.2 v0 v1 v2 s41.2.2.1 (0 : Int32) hTv0 hq88) lk_X10_268 rfl hTv0 (by decide) rfl (by decide) (by decide) rfl rfl (Nat.le_of_ble_eq_true rfl) dX10_ride_88 ?_
      obtain ⟨q91, hq91, hf⟩ := kc_some hf
      refine u_callV hC (ctX6_worthTo (cL C) hC.tr (cG C) X.1 X.2.1 n q88.2 b78 v2 q88.1 hTb78 hq91) lk_X10_193 rfl hTb78 (by decide) rfl (by decide) (by decide) rfl rfl (Nat.le_of_ble_eq_true rfl) dX10_ride_91 ?_
      refine u_iload hC dX10_ride_94 4 rfl ?_
      refine u_isub hC dX10_ride_96 ?_
      refine u_istore (lv' := [(8, .int (q91 - v4)), (0, .ref (X.1 v0)), (1, .int v1), (2, .int v2), (3, .int v3), (4, .int v4), (5, .int s41.1), (6, .int s41.2.1), (7, .int s41.2.2.1)]) hC dX10_ride_97 (by decide) rfl ?_
      refine u_iload hC dX10_ride_99 0 rfl ?_
      refine u_iload hC dX10_ride_101 6 rfl ?_
      refine u_icmp_le (tgt := 114) hC dX10_ride_103 (by decide) hf (fun h103 hf => ?_) (fun h103 hf => ?_)
      · refine u_sub (lv' := [(0, .ref (X.1 v0)), (1, .int v1), (2, .int v2), (3, .int v3), (4, .int v4), (5, .int s41.1), (6, .int s41.2.1), (7, .int s41.2.2.1)]) [1, 2, 3, 4, 5, 6, 7, 8] rfl ?_
        exact wjX10_ride_114_41 hC n q88.2 v0 v1 v2 v3 v4 s41.1 s41.2.1 s41.2.2.1  hTv0 hf hN hO0
      · refine u_iload hC dX10_ride_106 0 rfl ?_
        refine u_istore (lv' := [(5, .int (q91 - v4)), (8, .int (q91 - v4)), (0, .ref (X.1 v0)), (1, .int v1), (2, .int v2), (3, .int v3), (4, .int v4), (6, .int s41.2.1), (7, .int s41.2.2.1)]) hC dX10_ride_108 (by decide) rfl ?_
        refine u_iload hC dX10_ride_110 8 rfl ?_
        refine u_istore (lv' := [(6, .int s41.2.2.1), (5, .int (q91 - v4)), (8, .int (q91 - v4)), (0, .ref (X.1 v0)), (1, .int v1), (2, .int v2), (3, .int v3), (4, .int v4), (7, .int s41.2.2.1)]) hC dX10_ride_112 (by decide) rfl ?_
        refine u_sub (lv' := [(0, .ref (X.1 v0)), (1, .int v1), (2, .int v2), (3, .int v3), (4, .int v4), (5, .int (q91 - v4)), (6, .int s41.2.2.1), (7, .int s41.2.2.1)]) [3, 4, 5, 6, 7, 1, 0, 8] rfl ?_
        exact wjX10_ride_114_41 hC n q88.2 v0 v1 v2 v3 v4 (q91 - v4) s41.2.2.1 s41.2.2.1  hTv0 hf hN hO0
theorem wjX10_ride_131 {C : CT} {ρ : Nat → Nat} {Y : XS} (hC : CK C RX10 cX10_ride 9 (some .int) 7) (n : Nat) (S : PS) (t0 : Int32)   {o : (Int32 × PS) ⊕ (Nat × PS)} (hf : jX10_ride_131 Y n S t0 = some o) (hB : XB C (ρ, Y, 0, 0) 8 48) (hR : RtX C ρ Y cX10_ride (some .int) 8 48 (mrI o)) (hTo : ThO C ρ Y cX10_ride 8 48 (mrI o)) (hTp : ThP C ρ Y 8 48 (mrI o)) : UW C (ρ, Y, 0 + 1 + 1 + 1, 0 + 6 + 6 + 6) S 131 [] [.int t0] := by
  unfold jX10_ride_131 at hf
  cases hf
  exact hR _ _ rfl _ _ (Nat.le_of_ble_eq_true rfl) (Nat.le_of_ble_eq_true rfl) _ _ dX10_ride_131 trivial
theorem wX10_ride {C : CT} {ρ : Nat → Nat} {Y : XS} (hC : CK C RX10 cX10_ride 9 (some .int) 7) (n : Nat) (S : PS) (a0 : Nat) (x1_ : Int32) (x2_ : Int32) (x3_ : Int32) (hTa0 : Ty Y a0 10) {o : (Int32 × PS) ⊕ (Nat × PS)} (hf : fX10_ride Y n S a0 x1_ x2_ x3_ = some o) (hB : XB C (ρ, Y, 0, 0) 8 48) (hR : RtX C ρ Y cX10_ride (some .int) 8 48 (mrI o)) (hTo : ThO C ρ Y cX10_ride 8 48 (mrI o)) (hTp : ThP C ρ Y 8 48 (mrI o)) : UW C (ρ, Y, 0, 0) S 0 [(0, .ref (ρ a0)), (1, .int x1_), (2, .int x2_), (3, .int x3_)] [] := by
  unfold fX10_ride at hf
  refine u_iload_n hC dX10_ride_0 1 rfl rfl ?_
  obtain ⟨q1, hq1, hf⟩ := kc_some hf
  refine u_callSX hC (ctX10_needRule (cL C) hC.tr (cG C) ρ Y n S x1_  hq1) (hB.at (Nat.le_of_ble_eq_true rfl) (Nat.le_of_ble_eq_true rfl)) lk_X10_159 (by decide) (by decide) rfl rfl (Nat.le_of_ble_eq_true rfl) dX10_ride_1 (fun v' S' he => ?_) (fun k' S' he => ?_)
  · rcases q1 with p1 | e1
    · have he : (Sum.inl (none, p1) : MR) = .inl (v', S') := he
      obtain ⟨hv9, hS9⟩ : none = v' ∧ p1 = S' := by cases he; exact ⟨rfl, rfl⟩
      subst hv9
      subst hS9
      have hf := ks_l hf
      refine u_aload_n hC dX10_ride_4 0 rfl rfl ?_
      refine u_iload_n hC dX10_ride_5 2 rfl rfl ?_
      obtain ⟨q6, hq6, hf⟩ := kc_some hf
      refine u_callVX hC (ctX10_needVoter (cL C) hC.tr (cG C) ρ Y n p1 a0 x2_ hTa0 hq6) (hB.at (Nat.le_of_ble_eq_true rfl) (Nat.le_of_ble_eq_true rfl)) lk_X10_150 rfl hTa0 (by decide) rfl (by decide) (by decide) rfl rfl (Nat.le_of_ble_eq_true rfl) dX10_ride_6 (fun v' S' he => ?_) (fun k' S' he => ?_)
      · rcases q6 with p6 | e6
        · have he : (Sum.inl (none, p6) : MR) = .inl (v', S') := he
          obtain ⟨hv9, hS9⟩ : none = v' ∧ p6 = S' := by cases he; exact ⟨rfl, rfl⟩
          subst hv9
          subst hS9
          have hf := ks_l hf
          refine u_iload_n hC dX10_ride_9 3 rfl rfl ?_
          refine u_iconst (v := (1 : Int32)) hC dX10_ride_10 (by decide) ?_
          obtain ⟨q11, hq11, hf⟩ := kc_some hf
          refine u_callSX hC (ctX10_needWhat (cL C) hC.tr (cG C) ρ Y n p6 x3_ (1 : Int32)  hq11) (hB.at (Nat.le_of_ble_eq_true rfl) (Nat.le_of_ble_eq_true rfl)) lk_X10_117 (by decide) (by decide) rfl rfl (Nat.le_of_ble_eq_true rfl) dX10_ride_11 (fun v' S' he => ?_) (fun k' S' he => ?_)
          · rcases q11 with p11 | e11
            · have he : (Sum.inl (none, p11) : MR) = .inl (v', S') := he
              obtain ⟨hv9, hS9⟩ : none = v' ∧ p11 = S' := by cases he; exact ⟨rfl, rfl⟩
              subst hv9
              subst hS9
              have hf := ks_l hf
              refine u_aload_n hC dX10_ride_14 0 rfl rfl ?_
              refine u_gr hC lf_X10_23 rfl hTa0 dX10_ride_15 hf (fun b15 hTb15 hf => ?_)
              refine u_iload_n hC dX10_ride_18 2 rfl rfl ?_
              refine u_aload_n hC dX10_ride_19 0 rfl rfl ?_
              refine u_iload_n hC dX10_ride_20 1 rfl rfl ?_
              obtain ⟨q21, hq21, hf⟩ := kc_some hf
              refine u_callV hC (ctX10_result (cL C) hC.tr (cG C) ρ Y n p11 a0 x1_ hTa0 hq21) lk_X10_162 rfl hTa0 (by decide) rfl (by decide) (by decide) rfl rfl (Nat.le_of_ble_eq_true rfl) dX10_ride_21 ?_
              obtain ⟨hq21T, hf⟩ := kty_some hf
              refine u_gi hC lf_X10_166 rfl hq21T dX10_ride_24 hf (fun x24 hf => ?_)
              obtain ⟨q27, hq27, hf⟩ := kc_some hf
              refine u_callV hC (ctX6_worthTo (cL C) hC.tr (cG C) ρ Y n q21.2 b15 x2_ x24 hTb15 hq27) lk_X10_193 rfl hTb15 (by decide) rfl (by decide) (by decide) rfl rfl (Nat.le_of_ble_eq_true rfl) dX10_ride_27 ?_
              refine u_istore (lv' := [(4, .int q27), (0, .ref (ρ a0)), (1, .int x1_), (2, .int x2_), (3, .int x3_)]) hC dX10_ride_30 (by decide) rfl ?_
              refine u_iconst (v := (0 : Int32)) hC dX10_ride_32 (by decide) ?_
              refine u_istore (lv' := [(5, .int (0 : Int32)), (4, .int q27), (0, .ref (ρ a0)), (1, .int x1_), (2, .int x2_), (3, .int x3_)]) hC dX10_ride_33 (by decide) rfl ?_
              refine u_iconst (v := (-1 : Int32)) hC dX10_ride_35 (by decide) ?_
              refine u_istore (lv' := [(6, .int (-1 : Int32)), (5, .int (0 : Int32)), (4, .int q27), (0, .ref (ρ a0)), (1, .int x1_), (2, .int x2_), (3, .int x3_)]) hC dX10_ride_36 (by decide) rfl ?_
              refine u_iconst (v := (0 : Int32)) hC dX10_ride_38 (by decide) ?_
              refine u_istore (lv' := [(7, .int (0 : Int32)), (6, .int (-1 : Int32)), (5, .int (0 : Int32)), (4, .int q27), (0, .ref (ρ a0)), (1, .int x1_), (2, .int x2_), (3, .int x3_)]) hC dX10_ride_39 (by decide) rfl ?_
              obtain ⟨r41, hr41, hf⟩ := kc_some hf
              have hk41 : UW C (ρ, Y, 0 + 1 + 1 + 1, 0 + 6 + 6 + 6) r41.2.2 120 [(3, .int x3_), (5, .int r41.1), (6, .int r41.2.1)] [] := by
                refine u_iload_n hC dX10_ride_120 0 rfl rfl ?_
                refine u_if_ne (tgt := 129) hC dX10_ride_121 (by decide) hf (fun h121 hf => ?_) (fun h121 hf => ?_)
                · refine u_iload hC dX10_ride_129 2 rfl ?_
                  refine u_sub (lv' := []) [] rfl ?_
                  exact wjX10_ride_131 hC n r41.2.2 r41.2.1   hf hB hR hTo hTp
                · refine u_iload hC dX10_ride_124 1 rfl ?_
                  refine u_goto (tgt := 131) hC dX10_ride_126 (by decide) ?_
                  refine u_sub (lv' := []) [] rfl ?_
                  exact wjX10_ride_131 hC n r41.2.2 r41.1   hf hB hR hTo hTp
              refine u_sub (lv' := [(0, .ref (ρ a0)), (1, .int x1_), (2, .int x2_), (3, .int x3_), (4, .int q27), (5, .int (0 : Int32)), (6, .int (-1 : Int32)), (7, .int (0 : Int32))]) [4, 5, 6, 7, 3, 2, 1, 0] rfl ?_
              refine iter_ind (P := fun s41 => UW C (ρ, Y, 0 + 1 + 1 + 1, 0 + 6 + 6 + 6) s41.2.2.2 41 [(0, .ref (ρ a0)), (1, .int x1_), (2, .int x2_), (3, .int x3_), (4, .int q27), (5, .int s41.1), (6, .int s41.2.1), (7, .int s41.2.2.1)] []) (fun s41 o' hb hin hout => ?_) n ((0 : Int32), (-1 : Int32), (0 : Int32), q21.2) hr41
              exact wbX10_ride_41 hC n a0 x1_ x2_ x3_ q27 hTa0 s41 hb hin (fun p e => by rw [hout p e]; exact hk41)
            · have he : (Sum.inr e11 : MR) = .inl (v', S') := he
              cases he
          · rcases q11 with p11 | e11
            · have he : (Sum.inl (none, p11) : MR) = .inr (k', S') := he
              cases he
            · have he : (Sum.inr e11 : MR) = .inr (k', S') := he
              cases he
              have hf := ks_r hf
              cases hf
              exact hTp _ _ rfl _ _ (Nat.le_of_ble_eq_true rfl) (Nat.le_of_ble_eq_true rfl)
        · have he : (Sum.inr e6 : MR) = .inl (v', S') := he
          cases he
      · rcases q6 with p6 | e6
        · have he : (Sum.inl (none, p6) : MR) = .inr (k', S') := he
          cases he
        · have he : (Sum.inr e6 : MR) = .inr (k', S') := he
          cases he
          have hf := ks_r hf
          cases hf
          exact hTp _ _ rfl _ _ (Nat.le_of_ble_eq_true rfl) (Nat.le_of_ble_eq_true rfl)
    · have he : (Sum.inr e1 : MR) = .inl (v', S') := he
      cases he
  · rcases q1 with p1 | e1
    · have he : (Sum.inl (none, p1) : MR) = .inr (k', S') := he
      cases he
    · have he : (Sum.inr e1 : MR) = .inr (k', S') := he
      cases he
      have hf := ks_r hf
      cases hf
      exact hTp _ _ rfl _ _ (Nat.le_of_ble_eq_true rfl) (Nat.le_of_ble_eq_true rfl)
theorem ctX10_ride (l : Launch) (hl : l.stackTraces = false) (G : GT) (ρ : Nat → Nat) (Y : XS) (n : Nat) (S : PS) (a0 : Nat) (x1_ : Int32) (x2_ : Int32) (x3_ : Int32) (hTa0 : Ty Y a0 10) {o : (Int32 × PS) ⊕ (Nat × PS)} (hf : fX10_ride Y n S a0 x1_ x2_ x3_ = some o) : Mx l G yX10_ride cX10_ride 9 (some .int) 7 8 48 ρ Y [.ref (ρ a0), .int x1_, .int x2_, .int x3_] S (mrI o) :=
  Mx_of hl (by decide) rfl (by decide) (Nat.le_of_ble_eq_true rfl) (fun C _ _ hC hB hR hTo hTp => wX10_ride hC n S a0 x1_ x2_ x3_ hTa0 hf hB hR hTo hTp)
-- X10_push
theorem dX10_push_0 : decode cX10_push 0 = .ok (.iload_n 1, 1) := by decide +kernel
theorem dX10_push_1 : decode cX10_push 1 = .ok (.invokestatic 159, 3) := by decide +kernel
theorem dX10_push_4 : decode cX10_push 4 = .ok (.aload_n 0, 1) := by decide +kernel
theorem dX10_push_5 : decode cX10_push 5 = .ok (.iload_n 2, 1) := by decide +kernel
theorem dX10_push_6 : decode cX10_push 6 = .ok (.invokevirtual 134, 3) := by decide +kernel
theorem dX10_push_9 : decode cX10_push 9 = .ok (.aload_n 0, 1) := by decide +kernel
theorem dX10_push_10 : decode cX10_push 10 = .ok (.iload_n 1, 1) := by decide +kernel
theorem dX10_push_11 : decode cX10_push 11 = .ok (.invokevirtual 162, 3) := by decide +kernel
theorem dX10_push_14 : decode cX10_push 14 = .ok (.iload_n 2, 1) := by decide +kernel
theorem dX10_push_15 : decode cX10_push 15 = .ok (.invokevirtual 272, 3) := by decide +kernel
theorem dX10_push_18 : decode cX10_push 18 = .ok (.ifCond .eq 5, 3) := by decide +kernel
theorem dX10_push_21 : decode cX10_push 21 = .ok (.iconst 0, 1) := by decide +kernel
theorem dX10_push_22 : decode cX10_push 22 = .ok (.ireturn, 1) := by decide +kernel
theorem dX10_push_23 : decode cX10_push 23 = .ok (.aload_n 0, 1) := by decide +kernel
theorem dX10_push_24 : decode cX10_push 24 = .ok (.getfield 36, 3) := by decide +kernel
theorem dX10_push_27 : decode cX10_push 27 = .ok (.aload_n 0, 1) := by decide +kernel
theorem dX10_push_28 : decode cX10_push 28 = .ok (.getfield 23, 3) := by decide +kernel
theorem dX10_push_31 : decode cX10_push 31 = .ok (.invokevirtual 254, 3) := by decide +kernel
theorem dX10_push_34 : decode cX10_push 34 = .ok (.iconst 0, 1) := by decide +kernel
theorem dX10_push_35 : decode cX10_push 35 = .ok (.istore_n 3, 1) := by decide +kernel
theorem dX10_push_36 : decode cX10_push 36 = .ok (.iconst 0, 1) := by decide +kernel
theorem dX10_push_37 : decode cX10_push 37 = .ok (.istore 4, 2) := by decide +kernel
theorem dX10_push_39 : decode cX10_push 39 = .ok (.iload 4, 2) := by decide +kernel
theorem dX10_push_41 : decode cX10_push 41 = .ok (.aload_n 0, 1) := by decide +kernel
theorem dX10_push_42 : decode cX10_push 42 = .ok (.getfield 23, 3) := by decide +kernel
theorem dX10_push_45 : decode cX10_push 45 = .ok (.getfield 104, 3) := by decide +kernel
theorem dX10_push_48 : decode cX10_push 48 = .ok (.getfield 121, 3) := by decide +kernel
theorem dX10_push_51 : decode cX10_push 51 = .ok (.if_icmp .ge 75, 3) := by decide +kernel
theorem dX10_push_54 : decode cX10_push 54 = .ok (.aload_n 0, 1) := by decide +kernel
theorem dX10_push_55 : decode cX10_push 55 = .ok (.getfield 23, 3) := by decide +kernel
theorem dX10_push_58 : decode cX10_push 58 = .ok (.getfield 104, 3) := by decide +kernel
theorem dX10_push_61 : decode cX10_push 61 = .ok (.getfield 156, 3) := by decide +kernel
theorem dX10_push_64 : decode cX10_push 64 = .ok (.iload_n 2, 1) := by decide +kernel
theorem dX10_push_65 : decode cX10_push 65 = .ok (.bipush 24, 2) := by decide +kernel
theorem dX10_push_67 : decode cX10_push 67 = .ok (.imul, 1) := by decide +kernel
theorem dX10_push_68 : decode cX10_push 68 = .ok (.iload 4, 2) := by decide +kernel
theorem dX10_push_70 : decode cX10_push 70 = .ok (.iadd, 1) := by decide +kernel
theorem dX10_push_71 : decode cX10_push 71 = .ok (.iaload, 1) := by decide +kernel
theorem dX10_push_72 : decode cX10_push 72 = .ok (.ifCond .ne 48, 3) := by decide +kernel
theorem dX10_push_75 : decode cX10_push 75 = .ok (.aload_n 0, 1) := by decide +kernel
theorem dX10_push_76 : decode cX10_push 76 = .ok (.getfield 36, 3) := by decide +kernel
theorem dX10_push_79 : decode cX10_push 79 = .ok (.getfield 104, 3) := by decide +kernel
theorem dX10_push_82 : decode cX10_push 82 = .ok (.getfield 156, 3) := by decide +kernel
theorem dX10_push_85 : decode cX10_push 85 = .ok (.iload_n 2, 1) := by decide +kernel
theorem dX10_push_86 : decode cX10_push 86 = .ok (.bipush 24, 2) := by decide +kernel
theorem dX10_push_88 : decode cX10_push 88 = .ok (.imul, 1) := by decide +kernel
theorem dX10_push_89 : decode cX10_push 89 = .ok (.iload 4, 2) := by decide +kernel
theorem dX10_push_91 : decode cX10_push 91 = .ok (.iadd, 1) := by decide +kernel
theorem dX10_push_92 : decode cX10_push 92 = .ok (.bipush 9, 2) := by decide +kernel
theorem dX10_push_94 : decode cX10_push 94 = .ok (.iastore, 1) := by decide +kernel
theorem dX10_push_95 : decode cX10_push 95 = .ok (.aload_n 0, 1) := by decide +kernel
theorem dX10_push_96 : decode cX10_push 96 = .ok (.getfield 36, 3) := by decide +kernel
theorem dX10_push_99 : decode cX10_push 99 = .ok (.iload_n 2, 1) := by decide +kernel
theorem dX10_push_100 : decode cX10_push 100 = .ok (.invokevirtual 276, 3) := by decide +kernel
theorem dX10_push_103 : decode cX10_push 103 = .ok (.iinc 3 1, 3) := by decide +kernel
theorem dX10_push_106 : decode cX10_push 106 = .ok (.iload_n 2, 1) := by decide +kernel
theorem dX10_push_107 : decode cX10_push 107 = .ok (.aload_n 0, 1) := by decide +kernel
theorem dX10_push_108 : decode cX10_push 108 = .ok (.iload_n 1, 1) := by decide +kernel
theorem dX10_push_109 : decode cX10_push 109 = .ok (.invokevirtual 260, 3) := by decide +kernel
theorem dX10_push_112 : decode cX10_push 112 = .ok (.invokestatic 279, 3) := by decide +kernel
theorem dX10_push_115 : decode cX10_push 115 = .ok (.ifCond .eq 5, 3) := by decide +kernel
theorem dX10_push_118 : decode cX10_push 118 = .ok (.iload_n 3, 1) := by decide +kernel
theorem dX10_push_119 : decode cX10_push 119 = .ok (.ireturn, 1) := by decide +kernel
theorem dX10_push_120 : decode cX10_push 120 = .ok (.iinc 4 1, 3) := by decide +kernel
theorem dX10_push_123 : decode cX10_push 123 = .ok (.goto (-84), 3) := by decide +kernel
theorem dX10_push_126 : decode cX10_push 126 = .ok (.iconst (-1), 1) := by decide +kernel
theorem dX10_push_127 : decode cX10_push 127 = .ok (.ireturn, 1) := by decide +kernel
def jX10_push_120_39 (Y : XS) (n : Nat) (S : PS) (v0 : Nat) (v1 : Int32) (v2 : Int32) (v3 : Int32) (v4 : Int32) : Option ((Int32 × Int32 × PS) ⊕ (PS ⊕ (Int32 × PS))) :=
  some (.inl (v3, v4 + (1 : Int32), S))
def bX10_push_39 (Y : XS) (n : Nat) (v0 : Nat) (v1 : Int32) (v2 : Int32) (s39 : (Int32 × Int32 × PS)) : Option ((Int32 × Int32 × PS) ⊕ (PS ⊕ (Int32 × PS))) :=
  kgr s39.2.2 v0 2 (fun b42 => kgr s39.2.2 b42 0 (fun b45 => kgi s39.2.2 b45 2 (fun x48 => (if x48 ≤ s39.2.1 then some (.inr (.inl s39.2.2)) else kgr s39.2.2 v0 2 (fun b55 => kgr s39.2.2 b55 0 (fun b58 => kgr s39.2.2 b58 6 (fun b61 => kai Y s39.2.2 b61 ((v2 * (24 : Int32)) + s39.2.1) (fun x71 => (if x71 = 0 then kgr s39.2.2 v0 5 (fun b76 => kgr s39.2.2 b76 0 (fun b79 => kgr s39.2.2 b79 6 (fun b82 => kwi Y s39.2.2 b82 ((v2 * (24 : Int32)) + s39.2.1) (9 : Int32) (fun S94 => kgr S94 v0 5 (fun b96 => kc (fX6_tallyOne Y n S94 b96 v2) (fun q100 => kc (fX10_tried Y n q100 v0 v1) (fun q109 => kc (fX10_isIn Y n q109.2 v2 q109.1) (fun q112 => (if q112 = 0 then jX10_push_120_39 Y n q109.2 v0 v1 v2 (s39.1 + (1 : Int32)) s39.2.1 else some (.inr (.inr (s39.1 + (1 : Int32), q109.2)))))))))))) else jX10_push_120_39 Y n s39.2.2 v0 v1 v2 s39.1 s39.2.1)))))))))
def fX10_push (Y : XS) (n : Nat) (S : PS) (a0 : Nat) (x1_ : Int32) (x2_ : Int32) : Option ((Int32 × PS) ⊕ (Nat × PS)) :=
  kc (fX10_needRule Y n S x1_) (fun q1 => ks q1 (fun p1 => kc (fX10_needProject Y n p1 a0 x2_) (fun q6 => ks q6 (fun p6 => kc (fX10_result Y n p6 a0 x1_) (fun q11 => kty Y q11.1 5 (kc (fX5_has Y n q11.2 q11.1 x2_) (fun q15 => (if q15 = 0 then kgr q11.2 a0 5 (fun b24 => kgr q11.2 a0 2 (fun b28 => kc (fX6_copyFrom Y n q11.2 b24 b28) (fun q31 => kc (iter (bX10_push_39 Y n a0 x1_ x2_) n ((0 : Int32), (0 : Int32), q31)) (fun r39 => ks r39 (fun p39_0 => some (.inl ((-1 : Int32), p39_0))) (fun p39_1 => some (.inl p39_1)))))) else some (.inl ((0 : Int32), q11.2))))))) (fun e6 => some (.inr e6)))) (fun e1 => some (.inr e1)))
theorem wjX10_push_120_39 {C : CT} {X : XT} (hC : CK C RX10 cX10_push 5 (some .int) 7) (n : Nat) (S : PS) (v0 : Nat) (v1 : Int32) (v2 : Int32) (v3 : Int32) (v4 : Int32)  (hTv0 : Ty X.2.1 v0 10) {o : (Int32 × Int32 × PS) ⊕ (PS ⊕ (Int32 × PS))} (hf : jX10_push_120_39 X.2.1 n S v0 v1 v2 v3 v4 = some o) (hN : ∀ s', o = .inl s' → UW C X s'.2.2 39 [(0, .ref (X.1 v0)), (1, .int v1), (2, .int v2), (3, .int s'.1), (4, .int s'.2.1)] []) (hO0 : ∀ p', o = .inr (.inl p') → UW C X p' 126 [] []) (hR : ∀ q', o = .inr (.inr q') → Rt C X cX10_push (some .int) (some (.int q'.1)) q'.2) : UW C X S 120 [(0, .ref (X.1 v0)), (1, .int v1), (2, .int v2), (3, .int v3), (4, .int v4)] [] := by
  unfold jX10_push_120_39 at hf
  refine u_iinc (v := v4 + (1 : Int32)) (lv' := [(4, .int (v4 + (1 : Int32))), (0, .ref (X.1 v0)), (1, .int v1), (2, .int v2), (3, .int v3)]) hC dX10_push_120 4 rfl rfl (by decide) rfl ?_
  refine u_goto (tgt := 39) hC dX10_push_123 (by decide) ?_
  refine u_sub (lv' := [(0, .ref (X.1 v0)), (1, .int v1), (2, .int v2), (3, .int v3), (4, .int (v4 + (1 : Int32)))]) [1, 2, 3, 4, 0] rfl ?_
  exact hN _ (Option.some.inj hf).symm
theorem wbX10_push_39 {C : CT} {X : XT} (hC : CK C RX10 cX10_push 5 (some .int) 7) (n : Nat) (v0 : Nat) (v1 : Int32) (v2 : Int32) (hTv0 : Ty X.2.1 v0 10) (s39 : (Int32 × Int32 × PS)) {o : (Int32 × Int32 × PS) ⊕ (PS ⊕ (Int32 × PS))} (hf : bX10_push_39 X.2.1 n v0 v1 v2 s39 = some o) (hN : ∀ s', o = .inl s' → UW C X s'.2.2 39 [(0, .ref (X.1 v0)), (1, .int v1), (2, .int v2), (3, .int s'.1), (4, .int s'.2.1)] []) (hO0 : ∀ p', o = .inr (.inl p') → UW C X p' 126 [] []) (hR : ∀ q', o = .inr (.inr q') → Rt C X cX10_push (some .int) (some (.int q'.1)) q'.2) : UW C X s39.2.2 39 [(0, .ref (X.1 v0)), (1, .int v1), (2, .int v2), (3, .int s39.1), (4, .int s39.2.1)] [] := by
  unfold bX10_push_39 at hf
  refine u_iload hC dX10_push_39 4 rfl ?_
  refine u_aload_n hC dX10_push_41 0 rfl rfl ?_
  refine u_gr hC lf_X10_23 rfl hTv0 dX10_push_42 hf (fun b42 hTb42 hf => ?_)
  refine u_gr hC lf_X10_104 rfl hTb42 dX10_push_45 hf (fun b45 hTb45 hf => ?_)
  refine u_gi hC lf_X10_121 rfl hTb45 dX10_push_48 hf (fun x48 hf => ?_)
  refine u_icmp_ge (tgt := 126) hC dX10_push_51 (by decide) hf (fun h51 hf => ?_) (fun h51 hf => ?_)
  · refine u_sub (lv' := []) [] rfl ?_
    exact hO0 _ (Option.some.inj hf).symm
  · refine u_aload_n hC dX10_push_54 0 rfl rfl ?_
    refine u_gr hC lf_X10_23 rfl hTv0 dX10_push_55 hf (fun b55 hTb55 hf => ?_)
    refine u_gr hC lf_X10_104 rfl hTb55 dX10_push_58 hf (fun b58 hTb58 hf => ?_)
    refine u_gr hC lf_X10_156 rfl hTb58 dX10_push_61 hf (fun b61 hTb61 hf => ?_)
    refine u_iload_n hC dX10_push_64 2 rfl rfl ?_
    refine u_bipush (v := (24 : Int32)) hC dX10_push_65 (by decide) ?_
    refine u_imul hC dX10_push_67 ?_
    refine u_iload hC dX10_push_68 4 rfl ?_
    refine u_iadd hC dX10_push_70 ?_
    refine u_ai hC hTb61 dX10_push_71 hf (fun x71 hf => ?_)
    refine u_if_ne (tgt := 120) hC dX10_push_72 (by decide) hf (fun h72 hf => ?_) (fun h72 hf => ?_)
    · exact wjX10_push_120_39 hC n s39.2.2 v0 v1 v2 s39.1 s39.2.1  hTv0 hf hN hO0 hR
    · refine u_aload_n hC dX10_push_75 0 rfl rfl ?_
      refine u_gr hC lf_X10_36 rfl hTv0 dX10_push_76 hf (fun b76 hTb76 hf => ?_)
      refine u_gr hC lf_X10_104 rfl hTb76 dX10_push_79 hf (fun b79 hTb79 hf => ?_)
      refine u_gr hC lf_X10_156 rfl hTb79 dX10_push_82 hf (fun b82 hTb82 hf => ?_)
      refine u_iload_n hC dX10_push_85 2 rfl rfl ?_
      refine u_bipush (v := (24 : Int32)) hC dX10_push_86 (by decide) ?_
      refine u_imul hC dX10_push_88 ?_
      refine u_iload hC dX10_push_89 4 rfl ?_
      refine u_iadd hC dX10_push_91 ?_
      refine u_bipush (v := (9 : Int32)) hC dX10_push_92 (by decide) ?_
      refine u_wi hC hTb82 dX10_push_94 hf (fun S94 hf => ?_)
      refine u_aload_n hC dX10_push_95 0 rfl rfl ?_
      refine u_gr hC lf_X10_36 rfl hTv0 dX10_push_96 hf (fun b96 hTb96 hf => ?_)
      refine u_iload_n hC dX10_push_99 2 rfl rfl ?_
      obtain ⟨q100, hq100, hf⟩ := kc_some hf
      refine u_callV hC (ctX6_tallyOne (cL C) hC.tr (cG C) X.1 X.2.1 n S94 b96 v2 hTb96 hq100) lk_X10_276 rfl hTb96 (by decide) rfl (by decide) (by decide) rfl rfl (Nat.le_of_ble_eq_true rfl) dX10_push_100 ?_
      refine u_iinc (v := s39.1 + (1 : Int32)) (lv' := [(3, .int (s39.1 + (1 : Int32))), (0, .ref (X.1 v0)), (1, .int v1), (2, .int v2), (4, .int s39.2.1)]) hC dX10_push_103 3 rfl rfl (by decide) rfl ?_
      refine u_iload_n hC dX10_push_106 3 rfl rfl ?_
      refine u_aload_n hC dX10_push_107 1 rfl rfl ?_
      refine u_iload_n hC dX10_push_108 2 rfl rfl ?_
      obtain ⟨q109, hq109, hf⟩ := kc_some hf
      refine u_callV hC (ctX10_tried (cL C) hC.tr (cG C) X.1 X.2.1 n q100 v0 v1 hTv0 hq109) lk_X10_260 rfl hTv0 (by decide) rfl (by decide) (by decide) rfl rfl (Nat.le_of_ble_eq_true rfl) dX10_push_109 ?_
      obtain ⟨q112, hq112, hf⟩ := kc_some hf
      refine u_callS hC (ctX10_isIn (cL C) hC.tr (cG C) X.1 X.2.1 n q109.2 v2 q109.1  hq112) lk_X10_279 (by decide) (by decide) rfl rfl (Nat.le_of_ble_eq_true rfl) dX10_push_112 ?_
      refine u_if_eq (tgt := 120) hC dX10_push_115 (by decide) hf (fun h115 hf => ?_) (fun h115 hf => ?_)
      · refine u_sub (lv' := [(0, .ref (X.1 v0)), (1, .int v1), (2, .int v2), (3, .int (s39.1 + (1 : Int32))), (4, .int s39.2.1)]) [1, 2, 3, 0, 4] rfl ?_
        exact wjX10_push_120_39 hC n q109.2 v0 v1 v2 (s39.1 + (1 : Int32)) s39.2.1  hTv0 hf hN hO0 hR
      · refine u_iload_n hC dX10_push_118 0 rfl rfl ?_
        exact hR _ (Option.some.inj hf).symm _ _ dX10_push_119 trivial
theorem wX10_push {C : CT} {ρ : Nat → Nat} {Y : XS} (hC : CK C RX10 cX10_push 5 (some .int) 7) (n : Nat) (S : PS) (a0 : Nat) (x1_ : Int32) (x2_ : Int32) (hTa0 : Ty Y a0 10) {o : (Int32 × PS) ⊕ (Nat × PS)} (hf : fX10_push Y n S a0 x1_ x2_ = some o) (hB : XB C (ρ, Y, 0, 0) 8 48) (hR : RtX C ρ Y cX10_push (some .int) 8 48 (mrI o)) (hTo : ThO C ρ Y cX10_push 8 48 (mrI o)) (hTp : ThP C ρ Y 8 48 (mrI o)) : UW C (ρ, Y, 0, 0) S 0 [(0, .ref (ρ a0)), (1, .int x1_), (2, .int x2_)] [] := by
  unfold fX10_push at hf
  refine u_iload_n hC dX10_push_0 1 rfl rfl ?_
  obtain ⟨q1, hq1, hf⟩ := kc_some hf
  refine u_callSX hC (ctX10_needRule (cL C) hC.tr (cG C) ρ Y n S x1_  hq1) (hB.at (Nat.le_of_ble_eq_true rfl) (Nat.le_of_ble_eq_true rfl)) lk_X10_159 (by decide) (by decide) rfl rfl (Nat.le_of_ble_eq_true rfl) dX10_push_1 (fun v' S' he => ?_) (fun k' S' he => ?_)
  · rcases q1 with p1 | e1
    · have he : (Sum.inl (none, p1) : MR) = .inl (v', S') := he
      obtain ⟨hv9, hS9⟩ : none = v' ∧ p1 = S' := by cases he; exact ⟨rfl, rfl⟩
      subst hv9
      subst hS9
      have hf := ks_l hf
      refine u_aload_n hC dX10_push_4 0 rfl rfl ?_
      refine u_iload_n hC dX10_push_5 2 rfl rfl ?_
      obtain ⟨q6, hq6, hf⟩ := kc_some hf
      refine u_callVX hC (ctX10_needProject (cL C) hC.tr (cG C) ρ Y n p1 a0 x2_ hTa0 hq6) (hB.at (Nat.le_of_ble_eq_true rfl) (Nat.le_of_ble_eq_true rfl)) lk_X10_134 rfl hTa0 (by decide) rfl (by decide) (by decide) rfl rfl (Nat.le_of_ble_eq_true rfl) dX10_push_6 (fun v' S' he => ?_) (fun k' S' he => ?_)
      · rcases q6 with p6 | e6
        · have he : (Sum.inl (none, p6) : MR) = .inl (v', S') := he
          obtain ⟨hv9, hS9⟩ : none = v' ∧ p6 = S' := by cases he; exact ⟨rfl, rfl⟩
          subst hv9
          subst hS9
          have hf := ks_l hf
          refine u_aload_n hC dX10_push_9 0 rfl rfl ?_
          refine u_iload_n hC dX10_push_10 1 rfl rfl ?_
          obtain ⟨q11, hq11, hf⟩ := kc_some hf
          refine u_callV hC (ctX10_result (cL C) hC.tr (cG C) ρ Y n p6 a0 x1_ hTa0 hq11) lk_X10_162 rfl hTa0 (by decide) rfl (by decide) (by decide) rfl rfl (Nat.le_of_ble_eq_true rfl) dX10_push_11 ?_
          obtain ⟨hq11T, hf⟩ := kty_some hf
          refine u_iload_n hC dX10_push_14 2 rfl rfl ?_
          obtain ⟨q15, hq15, hf⟩ := kc_some hf
          refine u_callV hC (ctX5_has (cL C) hC.tr (cG C) ρ Y n q11.2 q11.1 x2_ hq11T hq15) lk_X10_272 rfl hq11T (by decide) rfl (by decide) (by decide) rfl rfl (Nat.le_of_ble_eq_true rfl) dX10_push_15 ?_
          refine u_if_eq (tgt := 23) hC dX10_push_18 (by decide) hf (fun h18 hf => ?_) (fun h18 hf => ?_)
          · refine u_aload_n hC dX10_push_23 0 rfl rfl ?_
            refine u_gr hC lf_X10_36 rfl hTa0 dX10_push_24 hf (fun b24 hTb24 hf => ?_)
            refine u_aload_n hC dX10_push_27 0 rfl rfl ?_
            refine u_gr hC lf_X10_23 rfl hTa0 dX10_push_28 hf (fun b28 hTb28 hf => ?_)
            obtain ⟨q31, hq31, hf⟩ := kc_some hf
            refine u_callV hC (ctX6_copyFrom (cL C) hC.tr (cG C) ρ Y n q11.2 b24 b28 hTb24 hTb28 hq31) lk_X10_254 rfl hTb24 (by decide) rfl (by decide) (by decide) rfl rfl (Nat.le_of_ble_eq_true rfl) dX10_push_31 ?_
            refine u_iconst (v := (0 : Int32)) hC dX10_push_34 (by decide) ?_
            refine u_istore_n (lv' := [(3, .int (0 : Int32)), (0, .ref (ρ a0)), (1, .int x1_), (2, .int x2_)]) hC dX10_push_35 rfl (by decide) rfl ?_
            refine u_iconst (v := (0 : Int32)) hC dX10_push_36 (by decide) ?_
            refine u_istore (lv' := [(4, .int (0 : Int32)), (3, .int (0 : Int32)), (0, .ref (ρ a0)), (1, .int x1_), (2, .int x2_)]) hC dX10_push_37 (by decide) rfl ?_
            obtain ⟨r39, hr39, hf⟩ := kc_some hf
            have hk39_0 : ∀ p39_0, r39 = (.inl p39_0) → UW C (ρ, Y, 0 + 1 + 1, 0 + 6 + 6) p39_0 126 [] [] := by
              intro p39_0 he
              subst he
              have hf := ks_l hf
              refine u_iconst (v := (-1 : Int32)) hC dX10_push_126 (by decide) ?_
              cases hf
              exact hR _ _ rfl _ _ (Nat.le_of_ble_eq_true rfl) (Nat.le_of_ble_eq_true rfl) _ _ dX10_push_127 trivial
            have hk39_1 : ∀ p39_1, r39 = (.inr p39_1) → Rt C (ρ, Y, 0 + 1 + 1, 0 + 6 + 6) cX10_push (some .int) (some (.int p39_1.1)) p39_1.2 := by
              intro p39_1 he
              subst he
              have hf := ks_r hf
              cases hf
              exact hR _ _ rfl _ _ (Nat.le_of_ble_eq_true rfl) (Nat.le_of_ble_eq_true rfl)
            refine u_sub (lv' := [(0, .ref (ρ a0)), (1, .int x1_), (2, .int x2_), (3, .int (0 : Int32)), (4, .int (0 : Int32))]) [2, 3, 4, 1, 0] rfl ?_
            refine iter_ind (P := fun s39 => UW C (ρ, Y, 0 + 1 + 1, 0 + 6 + 6) s39.2.2 39 [(0, .ref (ρ a0)), (1, .int x1_), (2, .int x2_), (3, .int s39.1), (4, .int s39.2.1)] []) (fun s39 o' hb hin hout => ?_) n ((0 : Int32), (0 : Int32), q31) hr39
            exact wbX10_push_39 hC n a0 x1_ x2_ hTa0 s39 hb hin (fun p e => hk39_0 p (hout _ e).symm) (fun p e => hk39_1 p (hout _ e).symm)
          · refine u_iconst (v := (0 : Int32)) hC dX10_push_21 (by decide) ?_
            cases hf
            exact hR _ _ rfl _ _ (Nat.le_of_ble_eq_true rfl) (Nat.le_of_ble_eq_true rfl) _ _ dX10_push_22 trivial
        · have he : (Sum.inr e6 : MR) = .inl (v', S') := he
          cases he
      · rcases q6 with p6 | e6
        · have he : (Sum.inl (none, p6) : MR) = .inr (k', S') := he
          cases he
        · have he : (Sum.inr e6 : MR) = .inr (k', S') := he
          cases he
          have hf := ks_r hf
          cases hf
          exact hTp _ _ rfl _ _ (Nat.le_of_ble_eq_true rfl) (Nat.le_of_ble_eq_true rfl)
    · have he : (Sum.inr e1 : MR) = .inl (v', S') := he
      cases he
  · rcases q1 with p1 | e1
    · have he : (Sum.inl (none, p1) : MR) = .inr (k', S') := he
      cases he
    · have he : (Sum.inr e1 : MR) = .inr (k', S') := he
      cases he
      have hf := ks_r hf
      cases hf
      exact hTp _ _ rfl _ _ (Nat.le_of_ble_eq_true rfl) (Nat.le_of_ble_eq_true rfl)
theorem ctX10_push (l : Launch) (hl : l.stackTraces = false) (G : GT) (ρ : Nat → Nat) (Y : XS) (n : Nat) (S : PS) (a0 : Nat) (x1_ : Int32) (x2_ : Int32) (hTa0 : Ty Y a0 10) {o : (Int32 × PS) ⊕ (Nat × PS)} (hf : fX10_push Y n S a0 x1_ x2_ = some o) : Mx l G yX10_push cX10_push 5 (some .int) 7 8 48 ρ Y [.ref (ρ a0), .int x1_, .int x2_] S (mrI o) :=
  Mx_of hl (by decide) rfl (by decide) (Nat.le_of_ble_eq_true rfl) (fun C _ _ hC hB hR hTo hTp => wX10_push hC n S a0 x1_ x2_ hTa0 hf hB hR hTo hTp)
-- X10_discount
theorem dX10_discount_0 : decode cX10_discount 0 = .ok (.iload_n 1, 1) := by decide +kernel
theorem dX10_discount_1 : decode cX10_discount 1 = .ok (.invokestatic 159, 3) := by decide +kernel
theorem dX10_discount_4 : decode cX10_discount 4 = .ok (.aload_n 0, 1) := by decide +kernel
theorem dX10_discount_5 : decode cX10_discount 5 = .ok (.iload_n 2, 1) := by decide +kernel
theorem dX10_discount_6 : decode cX10_discount 6 = .ok (.invokevirtual 134, 3) := by decide +kernel
theorem dX10_discount_9 : decode cX10_discount 9 = .ok (.aload_n 0, 1) := by decide +kernel
theorem dX10_discount_10 : decode cX10_discount 10 = .ok (.iload_n 1, 1) := by decide +kernel
theorem dX10_discount_11 : decode cX10_discount 11 = .ok (.invokevirtual 162, 3) := by decide +kernel
theorem dX10_discount_14 : decode cX10_discount 14 = .ok (.iload_n 2, 1) := by decide +kernel
theorem dX10_discount_15 : decode cX10_discount 15 = .ok (.invokevirtual 272, 3) := by decide +kernel
theorem dX10_discount_18 : decode cX10_discount 18 = .ok (.ifCond .eq 5, 3) := by decide +kernel
theorem dX10_discount_21 : decode cX10_discount 21 = .ok (.iconst 0, 1) := by decide +kernel
theorem dX10_discount_22 : decode cX10_discount 22 = .ok (.ireturn, 1) := by decide +kernel
theorem dX10_discount_23 : decode cX10_discount 23 = .ok (.aload_n 0, 1) := by decide +kernel
theorem dX10_discount_24 : decode cX10_discount 24 = .ok (.getfield 36, 3) := by decide +kernel
theorem dX10_discount_27 : decode cX10_discount 27 = .ok (.aload_n 0, 1) := by decide +kernel
theorem dX10_discount_28 : decode cX10_discount 28 = .ok (.getfield 23, 3) := by decide +kernel
theorem dX10_discount_31 : decode cX10_discount 31 = .ok (.invokevirtual 254, 3) := by decide +kernel
theorem dX10_discount_34 : decode cX10_discount 34 = .ok (.iconst 1, 1) := by decide +kernel
theorem dX10_discount_35 : decode cX10_discount 35 = .ok (.istore_n 3, 1) := by decide +kernel
theorem dX10_discount_36 : decode cX10_discount 36 = .ok (.iload_n 3, 1) := by decide +kernel
theorem dX10_discount_37 : decode cX10_discount 37 = .ok (.bipush 10, 2) := by decide +kernel
theorem dX10_discount_39 : decode cX10_discount 39 = .ok (.if_icmp .ge 71, 3) := by decide +kernel
theorem dX10_discount_42 : decode cX10_discount 42 = .ok (.aload_n 0, 1) := by decide +kernel
theorem dX10_discount_43 : decode cX10_discount 43 = .ok (.getfield 23, 3) := by decide +kernel
theorem dX10_discount_46 : decode cX10_discount 46 = .ok (.getfield 104, 3) := by decide +kernel
theorem dX10_discount_49 : decode cX10_discount 49 = .ok (.getfield 137, 3) := by decide +kernel
theorem dX10_discount_52 : decode cX10_discount 52 = .ok (.iload_n 2, 1) := by decide +kernel
theorem dX10_discount_53 : decode cX10_discount 53 = .ok (.iaload, 1) := by decide +kernel
theorem dX10_discount_54 : decode cX10_discount 54 = .ok (.bipush 10, 2) := by decide +kernel
theorem dX10_discount_56 : decode cX10_discount 56 = .ok (.iload_n 3, 1) := by decide +kernel
theorem dX10_discount_57 : decode cX10_discount 57 = .ok (.isub, 1) := by decide +kernel
theorem dX10_discount_58 : decode cX10_discount 58 = .ok (.imul, 1) := by decide +kernel
theorem dX10_discount_59 : decode cX10_discount 59 = .ok (.bipush 10, 2) := by decide +kernel
theorem dX10_discount_61 : decode cX10_discount 61 = .ok (.idiv, 1) := by decide +kernel
theorem dX10_discount_62 : decode cX10_discount 62 = .ok (.istore 4, 2) := by decide +kernel
theorem dX10_discount_64 : decode cX10_discount 64 = .ok (.aload_n 0, 1) := by decide +kernel
theorem dX10_discount_65 : decode cX10_discount 65 = .ok (.getfield 36, 3) := by decide +kernel
theorem dX10_discount_68 : decode cX10_discount 68 = .ok (.getfield 104, 3) := by decide +kernel
theorem dX10_discount_71 : decode cX10_discount 71 = .ok (.getfield 137, 3) := by decide +kernel
theorem dX10_discount_74 : decode cX10_discount 74 = .ok (.iload_n 2, 1) := by decide +kernel
theorem dX10_discount_75 : decode cX10_discount 75 = .ok (.iconst 1, 1) := by decide +kernel
theorem dX10_discount_76 : decode cX10_discount 76 = .ok (.iload 4, 2) := by decide +kernel
theorem dX10_discount_78 : decode cX10_discount 78 = .ok (.invokestatic 282, 3) := by decide +kernel
theorem dX10_discount_81 : decode cX10_discount 81 = .ok (.iastore, 1) := by decide +kernel
theorem dX10_discount_82 : decode cX10_discount 82 = .ok (.aload_n 0, 1) := by decide +kernel
theorem dX10_discount_83 : decode cX10_discount 83 = .ok (.getfield 36, 3) := by decide +kernel
theorem dX10_discount_86 : decode cX10_discount 86 = .ok (.iload_n 2, 1) := by decide +kernel
theorem dX10_discount_87 : decode cX10_discount 87 = .ok (.invokevirtual 276, 3) := by decide +kernel
theorem dX10_discount_90 : decode cX10_discount 90 = .ok (.iload_n 2, 1) := by decide +kernel
theorem dX10_discount_91 : decode cX10_discount 91 = .ok (.aload_n 0, 1) := by decide +kernel
theorem dX10_discount_92 : decode cX10_discount 92 = .ok (.iload_n 1, 1) := by decide +kernel
theorem dX10_discount_93 : decode cX10_discount 93 = .ok (.invokevirtual 260, 3) := by decide +kernel
theorem dX10_discount_96 : decode cX10_discount 96 = .ok (.invokestatic 279, 3) := by decide +kernel
theorem dX10_discount_99 : decode cX10_discount 99 = .ok (.ifCond .eq 5, 3) := by decide +kernel
theorem dX10_discount_102 : decode cX10_discount 102 = .ok (.iload_n 3, 1) := by decide +kernel
theorem dX10_discount_103 : decode cX10_discount 103 = .ok (.ireturn, 1) := by decide +kernel
theorem dX10_discount_104 : decode cX10_discount 104 = .ok (.iinc 3 1, 3) := by decide +kernel
theorem dX10_discount_107 : decode cX10_discount 107 = .ok (.goto (-71), 3) := by decide +kernel
theorem dX10_discount_110 : decode cX10_discount 110 = .ok (.iconst (-1), 1) := by decide +kernel
theorem dX10_discount_111 : decode cX10_discount 111 = .ok (.ireturn, 1) := by decide +kernel
def bX10_discount_36 (Y : XS) (n : Nat) (v0 : Nat) (v1 : Int32) (v2 : Int32) (s36 : (Int32 × PS)) : Option ((Int32 × PS) ⊕ (PS ⊕ (Int32 × PS))) :=
  (if (10 : Int32) ≤ s36.1 then some (.inr (.inl s36.2)) else kgr s36.2 v0 2 (fun b43 => kgr s36.2 b43 0 (fun b46 => kgr s36.2 b46 4 (fun b49 => kai Y s36.2 b49 v2 (fun x53 => kidiv (x53 * ((10 : Int32) - s36.1)) (10 : Int32) (fun z61 => kgr s36.2 v0 5 (fun b65 => kgr s36.2 b65 0 (fun b68 => kgr s36.2 b68 4 (fun b71 => kwi Y s36.2 b71 v2 (imax (1 : Int32) z61) (fun S81 => kgr S81 v0 5 (fun b83 => kc (fX6_tallyOne Y n S81 b83 v2) (fun q87 => kc (fX10_tried Y n q87 v0 v1) (fun q93 => kc (fX10_isIn Y n q93.2 v2 q93.1) (fun q96 => (if q96 = 0 then some (.inl (s36.1 + (1 : Int32), q93.2)) else some (.inr (.inr (s36.1, q93.2))))))))))))))))))
def fX10_discount (Y : XS) (n : Nat) (S : PS) (a0 : Nat) (x1_ : Int32) (x2_ : Int32) : Option ((Int32 × PS) ⊕ (Nat × PS)) :=
  kc (fX10_needRule Y n S x1_) (fun q1 => ks q1 (fun p1 => kc (fX10_needProject Y n p1 a0 x2_) (fun q6 => ks q6 (fun p6 => kc (fX10_result Y n p6 a0 x1_) (fun q11 => kty Y q11.1 5 (kc (fX5_has Y n q11.2 q11.1 x2_) (fun q15 => (if q15 = 0 then kgr q11.2 a0 5 (fun b24 => kgr q11.2 a0 2 (fun b28 => kc (fX6_copyFrom Y n q11.2 b24 b28) (fun q31 => kc (iter (bX10_discount_36 Y n a0 x1_ x2_) n ((1 : Int32), q31)) (fun r36 => ks r36 (fun p36_0 => some (.inl ((-1 : Int32), p36_0))) (fun p36_1 => some (.inl p36_1)))))) else some (.inl ((0 : Int32), q11.2))))))) (fun e6 => some (.inr e6)))) (fun e1 => some (.inr e1)))
theorem wbX10_discount_36 {C : CT} {X : XT} (hC : CK C RX10 cX10_discount 5 (some .int) 7) (n : Nat) (v0 : Nat) (v1 : Int32) (v2 : Int32) (hTv0 : Ty X.2.1 v0 10) (s36 : (Int32 × PS)) {o : (Int32 × PS) ⊕ (PS ⊕ (Int32 × PS))} (hf : bX10_discount_36 X.2.1 n v0 v1 v2 s36 = some o) (hN : ∀ s', o = .inl s' → UW C X s'.2 36 [(0, .ref (X.1 v0)), (1, .int v1), (2, .int v2), (3, .int s'.1)] []) (hO0 : ∀ p', o = .inr (.inl p') → UW C X p' 110 [] []) (hR : ∀ q', o = .inr (.inr q') → Rt C X cX10_discount (some .int) (some (.int q'.1)) q'.2) : UW C X s36.2 36 [(0, .ref (X.1 v0)), (1, .int v1), (2, .int v2), (3, .int s36.1)] [] := by
  unfold bX10_discount_36 at hf
  refine u_iload_n hC dX10_discount_36 3 rfl rfl ?_
  refine u_bipush (v := (10 : Int32)) hC dX10_discount_37 (by decide) ?_
  refine u_icmp_ge (tgt := 110) hC dX10_discount_39 (by decide) hf (fun h39 hf => ?_) (fun h39 hf => ?_)
  · refine u_sub (lv' := []) [] rfl ?_
    exact hO0 _ (Option.some.inj hf).symm
  · refine u_aload_n hC dX10_discount_42 0 rfl rfl ?_
    refine u_gr hC lf_X10_23 rfl hTv0 dX10_discount_43 hf (fun b43 hTb43 hf => ?_)
    refine u_gr hC lf_X10_104 rfl hTb43 dX10_discount_46 hf (fun b46 hTb46 hf => ?_)
    refine u_gr hC lf_X10_137 rfl hTb46 dX10_discount_49 hf (fun b49 hTb49 hf => ?_)
    refine u_iload_n hC dX10_discount_52 2 rfl rfl ?_
    refine u_ai hC hTb49 dX10_discount_53 hf (fun x53 hf => ?_)
    refine u_bipush (v := (10 : Int32)) hC dX10_discount_54 (by decide) ?_
    refine u_iload_n hC dX10_discount_56 3 rfl rfl ?_
    refine u_isub hC dX10_discount_57 ?_
    refine u_imul hC dX10_discount_58 ?_
    refine u_bipush (v := (10 : Int32)) hC dX10_discount_59 (by decide) ?_
    refine u_idiv hC dX10_discount_61 hf (fun z61 hf => ?_)
    refine u_istore (lv' := [(4, .int z61), (0, .ref (X.1 v0)), (1, .int v1), (2, .int v2), (3, .int s36.1)]) hC dX10_discount_62 (by decide) rfl ?_
    refine u_aload_n hC dX10_discount_64 1 rfl rfl ?_
    refine u_gr hC lf_X10_36 rfl hTv0 dX10_discount_65 hf (fun b65 hTb65 hf => ?_)
    refine u_gr hC lf_X10_104 rfl hTb65 dX10_discount_68 hf (fun b68 hTb68 hf => ?_)
    refine u_gr hC lf_X10_137 rfl hTb68 dX10_discount_71 hf (fun b71 hTb71 hf => ?_)
    refine u_iload_n hC dX10_discount_74 3 rfl rfl ?_
    refine u_iconst (v := (1 : Int32)) hC dX10_discount_75 (by decide) ?_
    refine u_iload hC dX10_discount_76 0 rfl ?_
    refine u_mmax hC (tb_5 222 rfl rfl) (by decide) (Nat.le_of_ble_eq_true rfl) dX10_discount_78 ?_
    refine u_wi hC hTb71 dX10_discount_81 hf (fun S81 hf => ?_)
    refine u_aload_n hC dX10_discount_82 1 rfl rfl ?_
    refine u_gr hC lf_X10_36 rfl hTv0 dX10_discount_83 hf (fun b83 hTb83 hf => ?_)
    refine u_iload_n hC dX10_discount_86 3 rfl rfl ?_
    obtain ⟨q87, hq87, hf⟩ := kc_some hf
    refine u_callV hC (ctX6_tallyOne (cL C) hC.tr (cG C) X.1 X.2.1 n S81 b83 v2 hTb83 hq87) lk_X10_276 rfl hTb83 (by decide) rfl (by decide) (by decide) rfl rfl (Nat.le_of_ble_eq_true rfl) dX10_discount_87 ?_
    refine u_iload_n hC dX10_discount_90 3 rfl rfl ?_
    refine u_aload_n hC dX10_discount_91 1 rfl rfl ?_
    refine u_iload_n hC dX10_discount_92 2 rfl rfl ?_
    obtain ⟨q93, hq93, hf⟩ := kc_some hf
    refine u_callV hC (ctX10_tried (cL C) hC.tr (cG C) X.1 X.2.1 n q87 v0 v1 hTv0 hq93) lk_X10_260 rfl hTv0 (by decide) rfl (by decide) (by decide) rfl rfl (Nat.le_of_ble_eq_true rfl) dX10_discount_93 ?_
    obtain ⟨q96, hq96, hf⟩ := kc_some hf
    refine u_callS hC (ctX10_isIn (cL C) hC.tr (cG C) X.1 X.2.1 n q93.2 v2 q93.1  hq96) lk_X10_279 (by decide) (by decide) rfl rfl (Nat.le_of_ble_eq_true rfl) dX10_discount_96 ?_
    refine u_if_eq (tgt := 104) hC dX10_discount_99 (by decide) hf (fun h99 hf => ?_) (fun h99 hf => ?_)
    · refine u_iinc (v := s36.1 + (1 : Int32)) (lv' := [(3, .int (s36.1 + (1 : Int32))), (4, .int z61), (0, .ref (X.1 v0)), (1, .int v1), (2, .int v2)]) hC dX10_discount_104 4 rfl rfl (by decide) rfl ?_
      refine u_goto (tgt := 36) hC dX10_discount_107 (by decide) ?_
      refine u_sub (lv' := [(0, .ref (X.1 v0)), (1, .int v1), (2, .int v2), (3, .int (s36.1 + (1 : Int32)))]) [2, 3, 4, 0] rfl ?_
      exact hN _ (Option.some.inj hf).symm
    · refine u_iload_n hC dX10_discount_102 4 rfl rfl ?_
      exact hR _ (Option.some.inj hf).symm _ _ dX10_discount_103 trivial
theorem wX10_discount {C : CT} {ρ : Nat → Nat} {Y : XS} (hC : CK C RX10 cX10_discount 5 (some .int) 7) (n : Nat) (S : PS) (a0 : Nat) (x1_ : Int32) (x2_ : Int32) (hTa0 : Ty Y a0 10) {o : (Int32 × PS) ⊕ (Nat × PS)} (hf : fX10_discount Y n S a0 x1_ x2_ = some o) (hB : XB C (ρ, Y, 0, 0) 8 48) (hR : RtX C ρ Y cX10_discount (some .int) 8 48 (mrI o)) (hTo : ThO C ρ Y cX10_discount 8 48 (mrI o)) (hTp : ThP C ρ Y 8 48 (mrI o)) : UW C (ρ, Y, 0, 0) S 0 [(0, .ref (ρ a0)), (1, .int x1_), (2, .int x2_)] [] := by
  unfold fX10_discount at hf
  refine u_iload_n hC dX10_discount_0 1 rfl rfl ?_
  obtain ⟨q1, hq1, hf⟩ := kc_some hf
  refine u_callSX hC (ctX10_needRule (cL C) hC.tr (cG C) ρ Y n S x1_  hq1) (hB.at (Nat.le_of_ble_eq_true rfl) (Nat.le_of_ble_eq_true rfl)) lk_X10_159 (by decide) (by decide) rfl rfl (Nat.le_of_ble_eq_true rfl) dX10_discount_1 (fun v' S' he => ?_) (fun k' S' he => ?_)
  · rcases q1 with p1 | e1
    · have he : (Sum.inl (none, p1) : MR) = .inl (v', S') := he
      obtain ⟨hv9, hS9⟩ : none = v' ∧ p1 = S' := by cases he; exact ⟨rfl, rfl⟩
      subst hv9
      subst hS9
      have hf := ks_l hf
      refine u_aload_n hC dX10_discount_4 0 rfl rfl ?_
      refine u_iload_n hC dX10_discount_5 2 rfl rfl ?_
      obtain ⟨q6, hq6, hf⟩ := kc_some hf
      refine u_callVX hC (ctX10_needProject (cL C) hC.tr (cG C) ρ Y n p1 a0 x2_ hTa0 hq6) (hB.at (Nat.le_of_ble_eq_true rfl) (Nat.le_of_ble_eq_true rfl)) lk_X10_134 rfl hTa0 (by decide) rfl (by decide) (by decide) rfl rfl (Nat.le_of_ble_eq_true rfl) dX10_discount_6 (fun v' S' he => ?_) (fun k' S' he => ?_)
      · rcases q6 with p6 | e6
        · have he : (Sum.inl (none, p6) : MR) = .inl (v', S') := he
          obtain ⟨hv9, hS9⟩ : none = v' ∧ p6 = S' := by cases he; exact ⟨rfl, rfl⟩
          subst hv9
          subst hS9
          have hf := ks_l hf
          refine u_aload_n hC dX10_discount_9 0 rfl rfl ?_
          refine u_iload_n hC dX10_discount_10 1 rfl rfl ?_
          obtain ⟨q11, hq11, hf⟩ := kc_some hf
          refine u_callV hC (ctX10_result (cL C) hC.tr (cG C) ρ Y n p6 a0 x1_ hTa0 hq11) lk_X10_162 rfl hTa0 (by decide) rfl (by decide) (by decide) rfl rfl (Nat.le_of_ble_eq_true rfl) dX10_discount_11 ?_
          obtain ⟨hq11T, hf⟩ := kty_some hf
          refine u_iload_n hC dX10_discount_14 2 rfl rfl ?_
          obtain ⟨q15, hq15, hf⟩ := kc_some hf
          refine u_callV hC (ctX5_has (cL C) hC.tr (cG C) ρ Y n q11.2 q11.1 x2_ hq11T hq15) lk_X10_272 rfl hq11T (by decide) rfl (by decide) (by decide) rfl rfl (Nat.le_of_ble_eq_true rfl) dX10_discount_15 ?_
          refine u_if_eq (tgt := 23) hC dX10_discount_18 (by decide) hf (fun h18 hf => ?_) (fun h18 hf => ?_)
          · refine u_aload_n hC dX10_discount_23 0 rfl rfl ?_
            refine u_gr hC lf_X10_36 rfl hTa0 dX10_discount_24 hf (fun b24 hTb24 hf => ?_)
            refine u_aload_n hC dX10_discount_27 0 rfl rfl ?_
            refine u_gr hC lf_X10_23 rfl hTa0 dX10_discount_28 hf (fun b28 hTb28 hf => ?_)
            obtain ⟨q31, hq31, hf⟩ := kc_some hf
            refine u_callV hC (ctX6_copyFrom (cL C) hC.tr (cG C) ρ Y n q11.2 b24 b28 hTb24 hTb28 hq31) lk_X10_254 rfl hTb24 (by decide) rfl (by decide) (by decide) rfl rfl (Nat.le_of_ble_eq_true rfl) dX10_discount_31 ?_
            refine u_iconst (v := (1 : Int32)) hC dX10_discount_34 (by decide) ?_
            refine u_istore_n (lv' := [(3, .int (1 : Int32)), (0, .ref (ρ a0)), (1, .int x1_), (2, .int x2_)]) hC dX10_discount_35 rfl (by decide) rfl ?_
            obtain ⟨r36, hr36, hf⟩ := kc_some hf
            have hk36_0 : ∀ p36_0, r36 = (.inl p36_0) → UW C (ρ, Y, 0 + 1 + 1, 0 + 6 + 6) p36_0 110 [] [] := by
              intro p36_0 he
              subst he
              have hf := ks_l hf
              refine u_iconst (v := (-1 : Int32)) hC dX10_discount_110 (by decide) ?_
              cases hf
              exact hR _ _ rfl _ _ (Nat.le_of_ble_eq_true rfl) (Nat.le_of_ble_eq_true rfl) _ _ dX10_discount_111 trivial
            have hk36_1 : ∀ p36_1, r36 = (.inr p36_1) → Rt C (ρ, Y, 0 + 1 + 1, 0 + 6 + 6) cX10_discount (some .int) (some (.int p36_1.1)) p36_1.2 := by
              intro p36_1 he
              subst he
              have hf := ks_r hf
              cases hf
              exact hR _ _ rfl _ _ (Nat.le_of_ble_eq_true rfl) (Nat.le_of_ble_eq_true rfl)
            refine u_sub (lv' := [(0, .ref (ρ a0)), (1, .int x1_), (2, .int x2_), (3, .int (1 : Int32))]) [1, 2, 3, 0] rfl ?_
            refine iter_ind (P := fun s36 => UW C (ρ, Y, 0 + 1 + 1, 0 + 6 + 6) s36.2 36 [(0, .ref (ρ a0)), (1, .int x1_), (2, .int x2_), (3, .int s36.1)] []) (fun s36 o' hb hin hout => ?_) n ((1 : Int32), q31) hr36
            exact wbX10_discount_36 hC n a0 x1_ x2_ hTa0 s36 hb hin (fun p e => hk36_0 p (hout _ e).symm) (fun p e => hk36_1 p (hout _ e).symm)
          · refine u_iconst (v := (0 : Int32)) hC dX10_discount_21 (by decide) ?_
            cases hf
            exact hR _ _ rfl _ _ (Nat.le_of_ble_eq_true rfl) (Nat.le_of_ble_eq_true rfl) _ _ dX10_discount_22 trivial
        · have he : (Sum.inr e6 : MR) = .inl (v', S') := he
          cases he
      · rcases q6 with p6 | e6
        · have he : (Sum.inl (none, p6) : MR) = .inr (k', S') := he
          cases he
        · have he : (Sum.inr e6 : MR) = .inr (k', S') := he
          cases he
          have hf := ks_r hf
          cases hf
          exact hTp _ _ rfl _ _ (Nat.le_of_ble_eq_true rfl) (Nat.le_of_ble_eq_true rfl)
    · have he : (Sum.inr e1 : MR) = .inl (v', S') := he
      cases he
  · rcases q1 with p1 | e1
    · have he : (Sum.inl (none, p1) : MR) = .inr (k', S') := he
      cases he
    · have he : (Sum.inr e1 : MR) = .inr (k', S') := he
      cases he
      have hf := ks_r hf
      cases hf
      exact hTp _ _ rfl _ _ (Nat.le_of_ble_eq_true rfl) (Nat.le_of_ble_eq_true rfl)
theorem ctX10_discount (l : Launch) (hl : l.stackTraces = false) (G : GT) (ρ : Nat → Nat) (Y : XS) (n : Nat) (S : PS) (a0 : Nat) (x1_ : Int32) (x2_ : Int32) (hTa0 : Ty Y a0 10) {o : (Int32 × PS) ⊕ (Nat × PS)} (hf : fX10_discount Y n S a0 x1_ x2_ = some o) : Mx l G yX10_discount cX10_discount 5 (some .int) 7 8 48 ρ Y [.ref (ρ a0), .int x1_, .int x2_] S (mrI o) :=
  Mx_of hl (by decide) rfl (by decide) (Nat.le_of_ble_eq_true rfl) (fun C _ _ hC hB hR hTo hTp => wX10_discount hC n S a0 x1_ x2_ hTa0 hf hB hR hTo hTp)
-- X10_budget
theorem dX10_budget_0 : decode cX10_budget 0 = .ok (.iload_n 1, 1) := by decide +kernel
theorem dX10_budget_1 : decode cX10_budget 1 = .ok (.iconst 0, 1) := by decide +kernel
theorem dX10_budget_2 : decode cX10_budget 2 = .ok (.ldc_w 263, 3) := by decide +kernel
theorem dX10_budget_5 : decode cX10_budget 5 = .ok (.invokestatic 264, 3) := by decide +kernel
theorem dX10_budget_8 : decode cX10_budget 8 = .ok (.aload_n 0, 1) := by decide +kernel
theorem dX10_budget_9 : decode cX10_budget 9 = .ok (.getfield 61, 3) := by decide +kernel
theorem dX10_budget_12 : decode cX10_budget 12 = .ok (.aload_n 0, 1) := by decide +kernel
theorem dX10_budget_13 : decode cX10_budget 13 = .ok (.getfield 23, 3) := by decide +kernel
theorem dX10_budget_16 : decode cX10_budget 16 = .ok (.getfield 104, 3) := by decide +kernel
theorem dX10_budget_19 : decode cX10_budget 19 = .ok (.invokevirtual 291, 3) := by decide +kernel
theorem dX10_budget_22 : decode cX10_budget 22 = .ok (.aload_n 0, 1) := by decide +kernel
theorem dX10_budget_23 : decode cX10_budget 23 = .ok (.getfield 23, 3) := by decide +kernel
theorem dX10_budget_26 : decode cX10_budget 26 = .ok (.getfield 104, 3) := by decide +kernel
theorem dX10_budget_29 : decode cX10_budget 29 = .ok (.getfield 124, 3) := by decide +kernel
theorem dX10_budget_32 : decode cX10_budget 32 = .ok (.istore_n 2, 1) := by decide +kernel
theorem dX10_budget_33 : decode cX10_budget 33 = .ok (.aload_n 0, 1) := by decide +kernel
theorem dX10_budget_34 : decode cX10_budget 34 = .ok (.getfield 23, 3) := by decide +kernel
theorem dX10_budget_37 : decode cX10_budget 37 = .ok (.getfield 104, 3) := by decide +kernel
theorem dX10_budget_40 : decode cX10_budget 40 = .ok (.iload_n 1, 1) := by decide +kernel
theorem dX10_budget_41 : decode cX10_budget 41 = .ok (.putfield 124, 3) := by decide +kernel
theorem dX10_budget_44 : decode cX10_budget 44 = .ok (.aload_n 0, 1) := by decide +kernel
theorem dX10_budget_45 : decode cX10_budget 45 = .ok (.invokevirtual 294, 3) := by decide +kernel
theorem dX10_budget_48 : decode cX10_budget 48 = .ok (.iload_n 2, 1) := by decide +kernel
theorem dX10_budget_49 : decode cX10_budget 49 = .ok (.ireturn, 1) := by decide +kernel
def fX10_budget (Y : XS) (n : Nat) (S : PS) (a0 : Nat) (x1_ : Int32) : Option ((Int32 × PS) ⊕ (Nat × PS)) :=
  kc (fX10_allow Y n S x1_ (0 : Int32) (99999 : Int32)) (fun q5 => ks q5 (fun p5 => kgr p5 a0 9 (fun b9 => kgr p5 a0 2 (fun b13 => kgr p5 b13 0 (fun b16 => kc (fX3_keep Y n p5 b9 b16) (fun q19 => kgr q19 a0 2 (fun b23 => kgr q19 b23 0 (fun b26 => kgi q19 b26 0 (fun x29 => kgr q19 a0 2 (fun b34 => kgr q19 b34 0 (fun b37 => kpi q19 b37 0 x1_ (fun S41 => kc (fX10_refresh Y n S41 a0) (fun q45 => some (.inl (x29, q45)))))))))))))) (fun e5 => some (.inr e5)))
theorem wX10_budget {C : CT} {ρ : Nat → Nat} {Y : XS} (hC : CK C RX10 cX10_budget 3 (some .int) 7) (n : Nat) (S : PS) (a0 : Nat) (x1_ : Int32) (hTa0 : Ty Y a0 10) {o : (Int32 × PS) ⊕ (Nat × PS)} (hf : fX10_budget Y n S a0 x1_ = some o) (hB : XB C (ρ, Y, 0, 0) 8 48) (hR : RtX C ρ Y cX10_budget (some .int) 8 48 (mrI o)) (hTo : ThO C ρ Y cX10_budget 8 48 (mrI o)) (hTp : ThP C ρ Y 8 48 (mrI o)) : UW C (ρ, Y, 0, 0) S 0 [(0, .ref (ρ a0)), (1, .int x1_)] [] := by
  unfold fX10_budget at hf
  refine u_iload_n hC dX10_budget_0 1 rfl rfl ?_
  refine u_iconst (v := (0 : Int32)) hC dX10_budget_1 (by decide) ?_
  refine u_ldcw (v := (99999 : Int32)) hC dX10_budget_2 (tb_5 182 rfl rfl) ?_
  obtain ⟨q5, hq5, hf⟩ := kc_some hf
  refine u_callSX hC (ctX10_allow (cL C) hC.tr (cG C) ρ Y n S x1_ (0 : Int32) (99999 : Int32)  hq5) (hB.at (Nat.le_of_ble_eq_true rfl) (Nat.le_of_ble_eq_true rfl)) lk_X10_264 (by decide) (by decide) rfl rfl (Nat.le_of_ble_eq_true rfl) dX10_budget_5 (fun v' S' he => ?_) (fun k' S' he => ?_)
  · rcases q5 with p5 | e5
    · have he : (Sum.inl (none, p5) : MR) = .inl (v', S') := he
      obtain ⟨hv9, hS9⟩ : none = v' ∧ p5 = S' := by cases he; exact ⟨rfl, rfl⟩
      subst hv9
      subst hS9
      have hf := ks_l hf
      refine u_aload_n hC dX10_budget_8 0 rfl rfl ?_
      refine u_gr hC lf_X10_61 rfl hTa0 dX10_budget_9 hf (fun b9 hTb9 hf => ?_)
      refine u_aload_n hC dX10_budget_12 0 rfl rfl ?_
      refine u_gr hC lf_X10_23 rfl hTa0 dX10_budget_13 hf (fun b13 hTb13 hf => ?_)
      refine u_gr hC lf_X10_104 rfl hTb13 dX10_budget_16 hf (fun b16 hTb16 hf => ?_)
      obtain ⟨q19, hq19, hf⟩ := kc_some hf
      refine u_callV hC (ctX3_keep (cL C) hC.tr (cG C) ρ Y n p5 b9 b16 hTb9 hTb16 hq19) lk_X10_291 rfl hTb9 (by decide) rfl (by decide) (by decide) rfl rfl (Nat.le_of_ble_eq_true rfl) dX10_budget_19 ?_
      refine u_aload_n hC dX10_budget_22 0 rfl rfl ?_
      refine u_gr hC lf_X10_23 rfl hTa0 dX10_budget_23 hf (fun b23 hTb23 hf => ?_)
      refine u_gr hC lf_X10_104 rfl hTb23 dX10_budget_26 hf (fun b26 hTb26 hf => ?_)
      refine u_gi hC lf_X10_124 rfl hTb26 dX10_budget_29 hf (fun x29 hf => ?_)
      refine u_istore_n (lv' := [(2, .int x29), (0, .ref (ρ a0)), (1, .int x1_)]) hC dX10_budget_32 rfl (by decide) rfl ?_
      refine u_aload_n hC dX10_budget_33 1 rfl rfl ?_
      refine u_gr hC lf_X10_23 rfl hTa0 dX10_budget_34 hf (fun b34 hTb34 hf => ?_)
      refine u_gr hC lf_X10_104 rfl hTb34 dX10_budget_37 hf (fun b37 hTb37 hf => ?_)
      refine u_iload_n hC dX10_budget_40 2 rfl rfl ?_
      refine u_pi hC lf_X10_124 rfl rfl rfl hTb37 dX10_budget_41 hf (fun S41 hf => ?_)
      refine u_aload_n hC dX10_budget_44 1 rfl rfl ?_
      obtain ⟨q45, hq45, hf⟩ := kc_some hf
      refine u_callV hC (ctX10_refresh (cL C) hC.tr (cG C) ρ Y n S41 a0 hTa0 hq45) lk_X10_294 rfl hTa0 (by decide) rfl (by decide) (by decide) rfl rfl (Nat.le_of_ble_eq_true rfl) dX10_budget_45 ?_
      refine u_iload_n hC dX10_budget_48 0 rfl rfl ?_
      cases hf
      exact hR _ _ rfl _ _ (Nat.le_of_ble_eq_true rfl) (Nat.le_of_ble_eq_true rfl) _ _ dX10_budget_49 trivial
    · have he : (Sum.inr e5 : MR) = .inl (v', S') := he
      cases he
  · rcases q5 with p5 | e5
    · have he : (Sum.inl (none, p5) : MR) = .inr (k', S') := he
      cases he
    · have he : (Sum.inr e5 : MR) = .inr (k', S') := he
      cases he
      have hf := ks_r hf
      cases hf
      exact hTp _ _ rfl _ _ (Nat.le_of_ble_eq_true rfl) (Nat.le_of_ble_eq_true rfl)
theorem ctX10_budget (l : Launch) (hl : l.stackTraces = false) (G : GT) (ρ : Nat → Nat) (Y : XS) (n : Nat) (S : PS) (a0 : Nat) (x1_ : Int32) (hTa0 : Ty Y a0 10) {o : (Int32 × PS) ⊕ (Nat × PS)} (hf : fX10_budget Y n S a0 x1_ = some o) : Mx l G yX10_budget cX10_budget 3 (some .int) 7 8 48 ρ Y [.ref (ρ a0), .int x1_] S (mrI o) :=
  Mx_of hl (by decide) rfl (by decide) (Nat.le_of_ble_eq_true rfl) (fun C _ _ hC hB hR hTo hTp => wX10_budget hC n S a0 x1_ hTa0 hf hB hR hTo hTp)
-- X10_cost
theorem dX10_cost_0 : decode cX10_cost 0 = .ok (.aload_n 0, 1) := by decide +kernel
theorem dX10_cost_1 : decode cX10_cost 1 = .ok (.iload_n 1, 1) := by decide +kernel
theorem dX10_cost_2 : decode cX10_cost 2 = .ok (.invokevirtual 134, 3) := by decide +kernel
theorem dX10_cost_5 : decode cX10_cost 5 = .ok (.iload_n 2, 1) := by decide +kernel
theorem dX10_cost_6 : decode cX10_cost 6 = .ok (.iconst 1, 1) := by decide +kernel
theorem dX10_cost_7 : decode cX10_cost 7 = .ok (.sipush 9999, 3) := by decide +kernel
theorem dX10_cost_10 : decode cX10_cost 10 = .ok (.invokestatic 264, 3) := by decide +kernel
theorem dX10_cost_13 : decode cX10_cost 13 = .ok (.aload_n 0, 1) := by decide +kernel
theorem dX10_cost_14 : decode cX10_cost 14 = .ok (.getfield 61, 3) := by decide +kernel
theorem dX10_cost_17 : decode cX10_cost 17 = .ok (.aload_n 0, 1) := by decide +kernel
theorem dX10_cost_18 : decode cX10_cost 18 = .ok (.getfield 23, 3) := by decide +kernel
theorem dX10_cost_21 : decode cX10_cost 21 = .ok (.getfield 104, 3) := by decide +kernel
theorem dX10_cost_24 : decode cX10_cost 24 = .ok (.invokevirtual 291, 3) := by decide +kernel
theorem dX10_cost_27 : decode cX10_cost 27 = .ok (.aload_n 0, 1) := by decide +kernel
theorem dX10_cost_28 : decode cX10_cost 28 = .ok (.getfield 23, 3) := by decide +kernel
theorem dX10_cost_31 : decode cX10_cost 31 = .ok (.getfield 104, 3) := by decide +kernel
theorem dX10_cost_34 : decode cX10_cost 34 = .ok (.getfield 137, 3) := by decide +kernel
theorem dX10_cost_37 : decode cX10_cost 37 = .ok (.iload_n 1, 1) := by decide +kernel
theorem dX10_cost_38 : decode cX10_cost 38 = .ok (.iaload, 1) := by decide +kernel
theorem dX10_cost_39 : decode cX10_cost 39 = .ok (.istore_n 3, 1) := by decide +kernel
theorem dX10_cost_40 : decode cX10_cost 40 = .ok (.aload_n 0, 1) := by decide +kernel
theorem dX10_cost_41 : decode cX10_cost 41 = .ok (.getfield 23, 3) := by decide +kernel
theorem dX10_cost_44 : decode cX10_cost 44 = .ok (.getfield 104, 3) := by decide +kernel
theorem dX10_cost_47 : decode cX10_cost 47 = .ok (.getfield 137, 3) := by decide +kernel
theorem dX10_cost_50 : decode cX10_cost 50 = .ok (.iload_n 1, 1) := by decide +kernel
theorem dX10_cost_51 : decode cX10_cost 51 = .ok (.iload_n 2, 1) := by decide +kernel
theorem dX10_cost_52 : decode cX10_cost 52 = .ok (.iastore, 1) := by decide +kernel
theorem dX10_cost_53 : decode cX10_cost 53 = .ok (.aload_n 0, 1) := by decide +kernel
theorem dX10_cost_54 : decode cX10_cost 54 = .ok (.invokevirtual 294, 3) := by decide +kernel
theorem dX10_cost_57 : decode cX10_cost 57 = .ok (.iload_n 3, 1) := by decide +kernel
theorem dX10_cost_58 : decode cX10_cost 58 = .ok (.ireturn, 1) := by decide +kernel
def fX10_cost (Y : XS) (n : Nat) (S : PS) (a0 : Nat) (x1_ : Int32) (x2_ : Int32) : Option ((Int32 × PS) ⊕ (Nat × PS)) :=
  kc (fX10_needProject Y n S a0 x1_) (fun q2 => ks q2 (fun p2 => kc (fX10_allow Y n p2 x2_ (1 : Int32) (9999 : Int32)) (fun q10 => ks q10 (fun p10 => kgr p10 a0 9 (fun b14 => kgr p10 a0 2 (fun b18 => kgr p10 b18 0 (fun b21 => kc (fX3_keep Y n p10 b14 b21) (fun q24 => kgr q24 a0 2 (fun b28 => kgr q24 b28 0 (fun b31 => kgr q24 b31 4 (fun b34 => kai Y q24 b34 x1_ (fun x38 => kgr q24 a0 2 (fun b41 => kgr q24 b41 0 (fun b44 => kgr q24 b44 4 (fun b47 => kwi Y q24 b47 x1_ x2_ (fun S52 => kc (fX10_refresh Y n S52 a0) (fun q54 => some (.inl (x38, q54)))))))))))))))) (fun e10 => some (.inr e10)))) (fun e2 => some (.inr e2)))
theorem wX10_cost {C : CT} {ρ : Nat → Nat} {Y : XS} (hC : CK C RX10 cX10_cost 4 (some .int) 7) (n : Nat) (S : PS) (a0 : Nat) (x1_ : Int32) (x2_ : Int32) (hTa0 : Ty Y a0 10) {o : (Int32 × PS) ⊕ (Nat × PS)} (hf : fX10_cost Y n S a0 x1_ x2_ = some o) (hB : XB C (ρ, Y, 0, 0) 8 48) (hR : RtX C ρ Y cX10_cost (some .int) 8 48 (mrI o)) (hTo : ThO C ρ Y cX10_cost 8 48 (mrI o)) (hTp : ThP C ρ Y 8 48 (mrI o)) : UW C (ρ, Y, 0, 0) S 0 [(0, .ref (ρ a0)), (1, .int x1_), (2, .int x2_)] [] := by
  unfold fX10_cost at hf
  refine u_aload_n hC dX10_cost_0 0 rfl rfl ?_
  refine u_iload_n hC dX10_cost_1 1 rfl rfl ?_
  obtain ⟨q2, hq2, hf⟩ := kc_some hf
  refine u_callVX hC (ctX10_needProject (cL C) hC.tr (cG C) ρ Y n S a0 x1_ hTa0 hq2) (hB.at (Nat.le_of_ble_eq_true rfl) (Nat.le_of_ble_eq_true rfl)) lk_X10_134 rfl hTa0 (by decide) rfl (by decide) (by decide) rfl rfl (Nat.le_of_ble_eq_true rfl) dX10_cost_2 (fun v' S' he => ?_) (fun k' S' he => ?_)
  · rcases q2 with p2 | e2
    · have he : (Sum.inl (none, p2) : MR) = .inl (v', S') := he
      obtain ⟨hv9, hS9⟩ : none = v' ∧ p2 = S' := by cases he; exact ⟨rfl, rfl⟩
      subst hv9
      subst hS9
      have hf := ks_l hf
      refine u_iload_n hC dX10_cost_5 2 rfl rfl ?_
      refine u_iconst (v := (1 : Int32)) hC dX10_cost_6 (by decide) ?_
      refine u_sipush (v := (9999 : Int32)) hC dX10_cost_7 (by decide) ?_
      obtain ⟨q10, hq10, hf⟩ := kc_some hf
      refine u_callSX hC (ctX10_allow (cL C) hC.tr (cG C) ρ Y n p2 x2_ (1 : Int32) (9999 : Int32)  hq10) (hB.at (Nat.le_of_ble_eq_true rfl) (Nat.le_of_ble_eq_true rfl)) lk_X10_264 (by decide) (by decide) rfl rfl (Nat.le_of_ble_eq_true rfl) dX10_cost_10 (fun v' S' he => ?_) (fun k' S' he => ?_)
      · rcases q10 with p10 | e10
        · have he : (Sum.inl (none, p10) : MR) = .inl (v', S') := he
          obtain ⟨hv9, hS9⟩ : none = v' ∧ p10 = S' := by cases he; exact ⟨rfl, rfl⟩
          subst hv9
          subst hS9
          have hf := ks_l hf
          refine u_aload_n hC dX10_cost_13 0 rfl rfl ?_
          refine u_gr hC lf_X10_61 rfl hTa0 dX10_cost_14 hf (fun b14 hTb14 hf => ?_)
          refine u_aload_n hC dX10_cost_17 0 rfl rfl ?_
          refine u_gr hC lf_X10_23 rfl hTa0 dX10_cost_18 hf (fun b18 hTb18 hf => ?_)
          refine u_gr hC lf_X10_104 rfl hTb18 dX10_cost_21 hf (fun b21 hTb21 hf => ?_)
          obtain ⟨q24, hq24, hf⟩ := kc_some hf
          refine u_callV hC (ctX3_keep (cL C) hC.tr (cG C) ρ Y n p10 b14 b21 hTb14 hTb21 hq24) lk_X10_291 rfl hTb14 (by decide) rfl (by decide) (by decide) rfl rfl (Nat.le_of_ble_eq_true rfl) dX10_cost_24 ?_
          refine u_aload_n hC dX10_cost_27 0 rfl rfl ?_
          refine u_gr hC lf_X10_23 rfl hTa0 dX10_cost_28 hf (fun b28 hTb28 hf => ?_)
          refine u_gr hC lf_X10_104 rfl hTb28 dX10_cost_31 hf (fun b31 hTb31 hf => ?_)
          refine u_gr hC lf_X10_137 rfl hTb31 dX10_cost_34 hf (fun b34 hTb34 hf => ?_)
          refine u_iload_n hC dX10_cost_37 1 rfl rfl ?_
          refine u_ai hC hTb34 dX10_cost_38 hf (fun x38 hf => ?_)
          refine u_istore_n (lv' := [(3, .int x38), (0, .ref (ρ a0)), (1, .int x1_), (2, .int x2_)]) hC dX10_cost_39 rfl (by decide) rfl ?_
          refine u_aload_n hC dX10_cost_40 1 rfl rfl ?_
          refine u_gr hC lf_X10_23 rfl hTa0 dX10_cost_41 hf (fun b41 hTb41 hf => ?_)
          refine u_gr hC lf_X10_104 rfl hTb41 dX10_cost_44 hf (fun b44 hTb44 hf => ?_)
          refine u_gr hC lf_X10_137 rfl hTb44 dX10_cost_47 hf (fun b47 hTb47 hf => ?_)
          refine u_iload_n hC dX10_cost_50 2 rfl rfl ?_
          refine u_iload_n hC dX10_cost_51 3 rfl rfl ?_
          refine u_wi hC hTb47 dX10_cost_52 hf (fun S52 hf => ?_)
          refine u_aload_n hC dX10_cost_53 1 rfl rfl ?_
          obtain ⟨q54, hq54, hf⟩ := kc_some hf
          refine u_callV hC (ctX10_refresh (cL C) hC.tr (cG C) ρ Y n S52 a0 hTa0 hq54) lk_X10_294 rfl hTa0 (by decide) rfl (by decide) (by decide) rfl rfl (Nat.le_of_ble_eq_true rfl) dX10_cost_54 ?_
          refine u_iload_n hC dX10_cost_57 0 rfl rfl ?_
          cases hf
          exact hR _ _ rfl _ _ (Nat.le_of_ble_eq_true rfl) (Nat.le_of_ble_eq_true rfl) _ _ dX10_cost_58 trivial
        · have he : (Sum.inr e10 : MR) = .inl (v', S') := he
          cases he
      · rcases q10 with p10 | e10
        · have he : (Sum.inl (none, p10) : MR) = .inr (k', S') := he
          cases he
        · have he : (Sum.inr e10 : MR) = .inr (k', S') := he
          cases he
          have hf := ks_r hf
          cases hf
          exact hTp _ _ rfl _ _ (Nat.le_of_ble_eq_true rfl) (Nat.le_of_ble_eq_true rfl)
    · have he : (Sum.inr e2 : MR) = .inl (v', S') := he
      cases he
  · rcases q2 with p2 | e2
    · have he : (Sum.inl (none, p2) : MR) = .inr (k', S') := he
      cases he
    · have he : (Sum.inr e2 : MR) = .inr (k', S') := he
      cases he
      have hf := ks_r hf
      cases hf
      exact hTp _ _ rfl _ _ (Nat.le_of_ble_eq_true rfl) (Nat.le_of_ble_eq_true rfl)
theorem ctX10_cost (l : Launch) (hl : l.stackTraces = false) (G : GT) (ρ : Nat → Nat) (Y : XS) (n : Nat) (S : PS) (a0 : Nat) (x1_ : Int32) (x2_ : Int32) (hTa0 : Ty Y a0 10) {o : (Int32 × PS) ⊕ (Nat × PS)} (hf : fX10_cost Y n S a0 x1_ x2_ = some o) : Mx l G yX10_cost cX10_cost 4 (some .int) 7 8 48 ρ Y [.ref (ρ a0), .int x1_, .int x2_] S (mrI o) :=
  Mx_of hl (by decide) rfl (by decide) (Nat.le_of_ble_eq_true rfl) (fun C _ _ hC hB hR hTo hTp => wX10_cost hC n S a0 x1_ x2_ hTa0 hf hB hR hTo hTp)
-- X10_score
theorem dX10_score_0 : decode cX10_score 0 = .ok (.aload_n 0, 1) := by decide +kernel
theorem dX10_score_1 : decode cX10_score 1 = .ok (.iload_n 1, 1) := by decide +kernel
theorem dX10_score_2 : decode cX10_score 2 = .ok (.invokevirtual 150, 3) := by decide +kernel
theorem dX10_score_5 : decode cX10_score 5 = .ok (.aload_n 0, 1) := by decide +kernel
theorem dX10_score_6 : decode cX10_score 6 = .ok (.iload_n 2, 1) := by decide +kernel
theorem dX10_score_7 : decode cX10_score 7 = .ok (.invokevirtual 134, 3) := by decide +kernel
theorem dX10_score_10 : decode cX10_score 10 = .ok (.iload_n 3, 1) := by decide +kernel
theorem dX10_score_11 : decode cX10_score 11 = .ok (.iconst 0, 1) := by decide +kernel
theorem dX10_score_12 : decode cX10_score 12 = .ok (.bipush 9, 2) := by decide +kernel
theorem dX10_score_14 : decode cX10_score 14 = .ok (.invokestatic 264, 3) := by decide +kernel
theorem dX10_score_17 : decode cX10_score 17 = .ok (.aload_n 0, 1) := by decide +kernel
theorem dX10_score_18 : decode cX10_score 18 = .ok (.getfield 61, 3) := by decide +kernel
theorem dX10_score_21 : decode cX10_score 21 = .ok (.aload_n 0, 1) := by decide +kernel
theorem dX10_score_22 : decode cX10_score 22 = .ok (.getfield 23, 3) := by decide +kernel
theorem dX10_score_25 : decode cX10_score 25 = .ok (.getfield 104, 3) := by decide +kernel
theorem dX10_score_28 : decode cX10_score 28 = .ok (.invokevirtual 291, 3) := by decide +kernel
theorem dX10_score_31 : decode cX10_score 31 = .ok (.aload_n 0, 1) := by decide +kernel
theorem dX10_score_32 : decode cX10_score 32 = .ok (.getfield 23, 3) := by decide +kernel
theorem dX10_score_35 : decode cX10_score 35 = .ok (.getfield 104, 3) := by decide +kernel
theorem dX10_score_38 : decode cX10_score 38 = .ok (.getfield 156, 3) := by decide +kernel
theorem dX10_score_41 : decode cX10_score 41 = .ok (.iload_n 2, 1) := by decide +kernel
theorem dX10_score_42 : decode cX10_score 42 = .ok (.bipush 24, 2) := by decide +kernel
theorem dX10_score_44 : decode cX10_score 44 = .ok (.imul, 1) := by decide +kernel
theorem dX10_score_45 : decode cX10_score 45 = .ok (.iload_n 1, 1) := by decide +kernel
theorem dX10_score_46 : decode cX10_score 46 = .ok (.iadd, 1) := by decide +kernel
theorem dX10_score_47 : decode cX10_score 47 = .ok (.iaload, 1) := by decide +kernel
theorem dX10_score_48 : decode cX10_score 48 = .ok (.istore 4, 2) := by decide +kernel
theorem dX10_score_50 : decode cX10_score 50 = .ok (.aload_n 0, 1) := by decide +kernel
theorem dX10_score_51 : decode cX10_score 51 = .ok (.getfield 23, 3) := by decide +kernel
theorem dX10_score_54 : decode cX10_score 54 = .ok (.getfield 104, 3) := by decide +kernel
theorem dX10_score_57 : decode cX10_score 57 = .ok (.getfield 156, 3) := by decide +kernel
theorem dX10_score_60 : decode cX10_score 60 = .ok (.iload_n 2, 1) := by decide +kernel
theorem dX10_score_61 : decode cX10_score 61 = .ok (.bipush 24, 2) := by decide +kernel
theorem dX10_score_63 : decode cX10_score 63 = .ok (.imul, 1) := by decide +kernel
theorem dX10_score_64 : decode cX10_score 64 = .ok (.iload_n 1, 1) := by decide +kernel
theorem dX10_score_65 : decode cX10_score 65 = .ok (.iadd, 1) := by decide +kernel
theorem dX10_score_66 : decode cX10_score 66 = .ok (.iload_n 3, 1) := by decide +kernel
theorem dX10_score_67 : decode cX10_score 67 = .ok (.iastore, 1) := by decide +kernel
theorem dX10_score_68 : decode cX10_score 68 = .ok (.aload_n 0, 1) := by decide +kernel
theorem dX10_score_69 : decode cX10_score 69 = .ok (.invokevirtual 294, 3) := by decide +kernel
theorem dX10_score_72 : decode cX10_score 72 = .ok (.iload 4, 2) := by decide +kernel
theorem dX10_score_74 : decode cX10_score 74 = .ok (.ireturn, 1) := by decide +kernel
def fX10_score (Y : XS) (n : Nat) (S : PS) (a0 : Nat) (x1_ : Int32) (x2_ : Int32) (x3_ : Int32) : Option ((Int32 × PS) ⊕ (Nat × PS)) :=
  kc (fX10_needVoter Y n S a0 x1_) (fun q2 => ks q2 (fun p2 => kc (fX10_needProject Y n p2 a0 x2_) (fun q7 => ks q7 (fun p7 => kc (fX10_allow Y n p7 x3_ (0 : Int32) (9 : Int32)) (fun q14 => ks q14 (fun p14 => kgr p14 a0 9 (fun b18 => kgr p14 a0 2 (fun b22 => kgr p14 b22 0 (fun b25 => kc (fX3_keep Y n p14 b18 b25) (fun q28 => kgr q28 a0 2 (fun b32 => kgr q28 b32 0 (fun b35 => kgr q28 b35 6 (fun b38 => kai Y q28 b38 ((x2_ * (24 : Int32)) + x1_) (fun x47 => kgr q28 a0 2 (fun b51 => kgr q28 b51 0 (fun b54 => kgr q28 b54 6 (fun b57 => kwi Y q28 b57 ((x2_ * (24 : Int32)) + x1_) x3_ (fun S67 => kc (fX10_refresh Y n S67 a0) (fun q69 => some (.inl (x47, q69)))))))))))))))) (fun e14 => some (.inr e14)))) (fun e7 => some (.inr e7)))) (fun e2 => some (.inr e2)))
theorem wX10_score {C : CT} {ρ : Nat → Nat} {Y : XS} (hC : CK C RX10 cX10_score 5 (some .int) 7) (n : Nat) (S : PS) (a0 : Nat) (x1_ : Int32) (x2_ : Int32) (x3_ : Int32) (hTa0 : Ty Y a0 10) {o : (Int32 × PS) ⊕ (Nat × PS)} (hf : fX10_score Y n S a0 x1_ x2_ x3_ = some o) (hB : XB C (ρ, Y, 0, 0) 8 48) (hR : RtX C ρ Y cX10_score (some .int) 8 48 (mrI o)) (hTo : ThO C ρ Y cX10_score 8 48 (mrI o)) (hTp : ThP C ρ Y 8 48 (mrI o)) : UW C (ρ, Y, 0, 0) S 0 [(0, .ref (ρ a0)), (1, .int x1_), (2, .int x2_), (3, .int x3_)] [] := by
  unfold fX10_score at hf
  refine u_aload_n hC dX10_score_0 0 rfl rfl ?_
  refine u_iload_n hC dX10_score_1 1 rfl rfl ?_
  obtain ⟨q2, hq2, hf⟩ := kc_some hf
  refine u_callVX hC (ctX10_needVoter (cL C) hC.tr (cG C) ρ Y n S a0 x1_ hTa0 hq2) (hB.at (Nat.le_of_ble_eq_true rfl) (Nat.le_of_ble_eq_true rfl)) lk_X10_150 rfl hTa0 (by decide) rfl (by decide) (by decide) rfl rfl (Nat.le_of_ble_eq_true rfl) dX10_score_2 (fun v' S' he => ?_) (fun k' S' he => ?_)
  · rcases q2 with p2 | e2
    · have he : (Sum.inl (none, p2) : MR) = .inl (v', S') := he
      obtain ⟨hv9, hS9⟩ : none = v' ∧ p2 = S' := by cases he; exact ⟨rfl, rfl⟩
      subst hv9
      subst hS9
      have hf := ks_l hf
      refine u_aload_n hC dX10_score_5 0 rfl rfl ?_
      refine u_iload_n hC dX10_score_6 2 rfl rfl ?_
      obtain ⟨q7, hq7, hf⟩ := kc_some hf
      refine u_callVX hC (ctX10_needProject (cL C) hC.tr (cG C) ρ Y n p2 a0 x2_ hTa0 hq7) (hB.at (Nat.le_of_ble_eq_true rfl) (Nat.le_of_ble_eq_true rfl)) lk_X10_134 rfl hTa0 (by decide) rfl (by decide) (by decide) rfl rfl (Nat.le_of_ble_eq_true rfl) dX10_score_7 (fun v' S' he => ?_) (fun k' S' he => ?_)
      · rcases q7 with p7 | e7
        · have he : (Sum.inl (none, p7) : MR) = .inl (v', S') := he
          obtain ⟨hv9, hS9⟩ : none = v' ∧ p7 = S' := by cases he; exact ⟨rfl, rfl⟩
          subst hv9
          subst hS9
          have hf := ks_l hf
          refine u_iload_n hC dX10_score_10 3 rfl rfl ?_
          refine u_iconst (v := (0 : Int32)) hC dX10_score_11 (by decide) ?_
          refine u_bipush (v := (9 : Int32)) hC dX10_score_12 (by decide) ?_
          obtain ⟨q14, hq14, hf⟩ := kc_some hf
          refine u_callSX hC (ctX10_allow (cL C) hC.tr (cG C) ρ Y n p7 x3_ (0 : Int32) (9 : Int32)  hq14) (hB.at (Nat.le_of_ble_eq_true rfl) (Nat.le_of_ble_eq_true rfl)) lk_X10_264 (by decide) (by decide) rfl rfl (Nat.le_of_ble_eq_true rfl) dX10_score_14 (fun v' S' he => ?_) (fun k' S' he => ?_)
          · rcases q14 with p14 | e14
            · have he : (Sum.inl (none, p14) : MR) = .inl (v', S') := he
              obtain ⟨hv9, hS9⟩ : none = v' ∧ p14 = S' := by cases he; exact ⟨rfl, rfl⟩
              subst hv9
              subst hS9
              have hf := ks_l hf
              refine u_aload_n hC dX10_score_17 0 rfl rfl ?_
              refine u_gr hC lf_X10_61 rfl hTa0 dX10_score_18 hf (fun b18 hTb18 hf => ?_)
              refine u_aload_n hC dX10_score_21 0 rfl rfl ?_
              refine u_gr hC lf_X10_23 rfl hTa0 dX10_score_22 hf (fun b22 hTb22 hf => ?_)
              refine u_gr hC lf_X10_104 rfl hTb22 dX10_score_25 hf (fun b25 hTb25 hf => ?_)
              obtain ⟨q28, hq28, hf⟩ := kc_some hf
              refine u_callV hC (ctX3_keep (cL C) hC.tr (cG C) ρ Y n p14 b18 b25 hTb18 hTb25 hq28) lk_X10_291 rfl hTb18 (by decide) rfl (by decide) (by decide) rfl rfl (Nat.le_of_ble_eq_true rfl) dX10_score_28 ?_
              refine u_aload_n hC dX10_score_31 0 rfl rfl ?_
              refine u_gr hC lf_X10_23 rfl hTa0 dX10_score_32 hf (fun b32 hTb32 hf => ?_)
              refine u_gr hC lf_X10_104 rfl hTb32 dX10_score_35 hf (fun b35 hTb35 hf => ?_)
              refine u_gr hC lf_X10_156 rfl hTb35 dX10_score_38 hf (fun b38 hTb38 hf => ?_)
              refine u_iload_n hC dX10_score_41 2 rfl rfl ?_
              refine u_bipush (v := (24 : Int32)) hC dX10_score_42 (by decide) ?_
              refine u_imul hC dX10_score_44 ?_
              refine u_iload_n hC dX10_score_45 1 rfl rfl ?_
              refine u_iadd hC dX10_score_46 ?_
              refine u_ai hC hTb38 dX10_score_47 hf (fun x47 hf => ?_)
              refine u_istore (lv' := [(4, .int x47), (0, .ref (ρ a0)), (1, .int x1_), (2, .int x2_), (3, .int x3_)]) hC dX10_score_48 (by decide) rfl ?_
              refine u_aload_n hC dX10_score_50 1 rfl rfl ?_
              refine u_gr hC lf_X10_23 rfl hTa0 dX10_score_51 hf (fun b51 hTb51 hf => ?_)
              refine u_gr hC lf_X10_104 rfl hTb51 dX10_score_54 hf (fun b54 hTb54 hf => ?_)
              refine u_gr hC lf_X10_156 rfl hTb54 dX10_score_57 hf (fun b57 hTb57 hf => ?_)
              refine u_iload_n hC dX10_score_60 3 rfl rfl ?_
              refine u_bipush (v := (24 : Int32)) hC dX10_score_61 (by decide) ?_
              refine u_imul hC dX10_score_63 ?_
              refine u_iload_n hC dX10_score_64 2 rfl rfl ?_
              refine u_iadd hC dX10_score_65 ?_
              refine u_iload_n hC dX10_score_66 4 rfl rfl ?_
              refine u_wi hC hTb57 dX10_score_67 hf (fun S67 hf => ?_)
              refine u_aload_n hC dX10_score_68 1 rfl rfl ?_
              obtain ⟨q69, hq69, hf⟩ := kc_some hf
              refine u_callV hC (ctX10_refresh (cL C) hC.tr (cG C) ρ Y n S67 a0 hTa0 hq69) lk_X10_294 rfl hTa0 (by decide) rfl (by decide) (by decide) rfl rfl (Nat.le_of_ble_eq_true rfl) dX10_score_69 ?_
              refine u_iload hC dX10_score_72 0 rfl ?_
              cases hf
              exact hR _ _ rfl _ _ (Nat.le_of_ble_eq_true rfl) (Nat.le_of_ble_eq_true rfl) _ _ dX10_score_74 trivial
            · have he : (Sum.inr e14 : MR) = .inl (v', S') := he
              cases he
          · rcases q14 with p14 | e14
            · have he : (Sum.inl (none, p14) : MR) = .inr (k', S') := he
              cases he
            · have he : (Sum.inr e14 : MR) = .inr (k', S') := he
              cases he
              have hf := ks_r hf
              cases hf
              exact hTp _ _ rfl _ _ (Nat.le_of_ble_eq_true rfl) (Nat.le_of_ble_eq_true rfl)
        · have he : (Sum.inr e7 : MR) = .inl (v', S') := he
          cases he
      · rcases q7 with p7 | e7
        · have he : (Sum.inl (none, p7) : MR) = .inr (k', S') := he
          cases he
        · have he : (Sum.inr e7 : MR) = .inr (k', S') := he
          cases he
          have hf := ks_r hf
          cases hf
          exact hTp _ _ rfl _ _ (Nat.le_of_ble_eq_true rfl) (Nat.le_of_ble_eq_true rfl)
    · have he : (Sum.inr e2 : MR) = .inl (v', S') := he
      cases he
  · rcases q2 with p2 | e2
    · have he : (Sum.inl (none, p2) : MR) = .inr (k', S') := he
      cases he
    · have he : (Sum.inr e2 : MR) = .inr (k', S') := he
      cases he
      have hf := ks_r hf
      cases hf
      exact hTp _ _ rfl _ _ (Nat.le_of_ble_eq_true rfl) (Nat.le_of_ble_eq_true rfl)
theorem ctX10_score (l : Launch) (hl : l.stackTraces = false) (G : GT) (ρ : Nat → Nat) (Y : XS) (n : Nat) (S : PS) (a0 : Nat) (x1_ : Int32) (x2_ : Int32) (x3_ : Int32) (hTa0 : Ty Y a0 10) {o : (Int32 × PS) ⊕ (Nat × PS)} (hf : fX10_score Y n S a0 x1_ x2_ x3_ = some o) : Mx l G yX10_score cX10_score 5 (some .int) 7 8 48 ρ Y [.ref (ρ a0), .int x1_, .int x2_, .int x3_] S (mrI o) :=
  Mx_of hl (by decide) rfl (by decide) (Nat.le_of_ble_eq_true rfl) (fun C _ _ hC hB hR hTo hTp => wX10_score hC n S a0 x1_ x2_ x3_ hTa0 hf hB hR hTo hTp)
-- X10_go
theorem dX10_go_0 : decode cX10_go 0 = .ok (.iload_n 1, 1) := by decide +kernel
theorem dX10_go_1 : decode cX10_go 1 = .ok (.ifCond .eq 36, 3) := by decide +kernel
theorem dX10_go_4 : decode cX10_go 4 = .ok (.aload_n 0, 1) := by decide +kernel
theorem dX10_go_5 : decode cX10_go 5 = .ok (.iload_n 2, 1) := by decide +kernel
theorem dX10_go_6 : decode cX10_go 6 = .ok (.invokevirtual 150, 3) := by decide +kernel
theorem dX10_go_9 : decode cX10_go 9 = .ok (.aload_n 0, 1) := by decide +kernel
theorem dX10_go_10 : decode cX10_go 10 = .ok (.getfield 61, 3) := by decide +kernel
theorem dX10_go_13 : decode cX10_go 13 = .ok (.aload_n 0, 1) := by decide +kernel
theorem dX10_go_14 : decode cX10_go 14 = .ok (.getfield 23, 3) := by decide +kernel
theorem dX10_go_17 : decode cX10_go 17 = .ok (.getfield 104, 3) := by decide +kernel
theorem dX10_go_20 : decode cX10_go 20 = .ok (.invokevirtual 291, 3) := by decide +kernel
theorem dX10_go_23 : decode cX10_go 23 = .ok (.aload_n 0, 1) := by decide +kernel
theorem dX10_go_24 : decode cX10_go 24 = .ok (.getfield 23, 3) := by decide +kernel
theorem dX10_go_27 : decode cX10_go 27 = .ok (.getfield 104, 3) := by decide +kernel
theorem dX10_go_30 : decode cX10_go 30 = .ok (.iload_n 2, 1) := by decide +kernel
theorem dX10_go_31 : decode cX10_go 31 = .ok (.invokevirtual 257, 3) := by decide +kernel
theorem dX10_go_34 : decode cX10_go 34 = .ok (.goto 33, 3) := by decide +kernel
theorem dX10_go_37 : decode cX10_go 37 = .ok (.aload_n 0, 1) := by decide +kernel
theorem dX10_go_38 : decode cX10_go 38 = .ok (.iload_n 2, 1) := by decide +kernel
theorem dX10_go_39 : decode cX10_go 39 = .ok (.invokevirtual 134, 3) := by decide +kernel
theorem dX10_go_42 : decode cX10_go 42 = .ok (.aload_n 0, 1) := by decide +kernel
theorem dX10_go_43 : decode cX10_go 43 = .ok (.getfield 61, 3) := by decide +kernel
theorem dX10_go_46 : decode cX10_go 46 = .ok (.aload_n 0, 1) := by decide +kernel
theorem dX10_go_47 : decode cX10_go 47 = .ok (.getfield 23, 3) := by decide +kernel
theorem dX10_go_50 : decode cX10_go 50 = .ok (.getfield 104, 3) := by decide +kernel
theorem dX10_go_53 : decode cX10_go 53 = .ok (.invokevirtual 291, 3) := by decide +kernel
theorem dX10_go_56 : decode cX10_go 56 = .ok (.aload_n 0, 1) := by decide +kernel
theorem dX10_go_57 : decode cX10_go 57 = .ok (.getfield 23, 3) := by decide +kernel
theorem dX10_go_60 : decode cX10_go 60 = .ok (.getfield 104, 3) := by decide +kernel
theorem dX10_go_63 : decode cX10_go 63 = .ok (.iload_n 2, 1) := by decide +kernel
theorem dX10_go_64 : decode cX10_go 64 = .ok (.invokevirtual 297, 3) := by decide +kernel
theorem dX10_go_67 : decode cX10_go 67 = .ok (.aload_n 0, 1) := by decide +kernel
theorem dX10_go_68 : decode cX10_go 68 = .ok (.invokevirtual 294, 3) := by decide +kernel
theorem dX10_go_71 : decode cX10_go 71 = .ok (.iload_n 1, 1) := by decide +kernel
theorem dX10_go_72 : decode cX10_go 72 = .ok (.ifCond .eq 16, 3) := by decide +kernel
theorem dX10_go_75 : decode cX10_go 75 = .ok (.aload_n 0, 1) := by decide +kernel
theorem dX10_go_76 : decode cX10_go 76 = .ok (.getfield 23, 3) := by decide +kernel
theorem dX10_go_79 : decode cX10_go 79 = .ok (.getfield 104, 3) := by decide +kernel
theorem dX10_go_82 : decode cX10_go 82 = .ok (.getfield 121, 3) := by decide +kernel
theorem dX10_go_85 : decode cX10_go 85 = .ok (.goto 13, 3) := by decide +kernel
theorem dX10_go_88 : decode cX10_go 88 = .ok (.aload_n 0, 1) := by decide +kernel
theorem dX10_go_89 : decode cX10_go 89 = .ok (.getfield 23, 3) := by decide +kernel
theorem dX10_go_92 : decode cX10_go 92 = .ok (.getfield 104, 3) := by decide +kernel
theorem dX10_go_95 : decode cX10_go 95 = .ok (.getfield 105, 3) := by decide +kernel
theorem dX10_go_98 : decode cX10_go 98 = .ok (.ireturn, 1) := by decide +kernel
def jX10_go_98 (Y : XS) (n : Nat) (S : PS) (t0 : Int32) : Option ((Int32 × PS) ⊕ (Nat × PS)) :=
  some (.inl (t0, S))
def jX10_go_67 (Y : XS) (n : Nat) (S : PS) (v0 : Nat) (v1 : Int32) : Option ((Int32 × PS) ⊕ (Nat × PS)) :=
  kc (fX10_refresh Y n S v0) (fun q68 => (if v1 = 0 then kgr q68 v0 2 (fun b89 => kgr q68 b89 0 (fun b92 => kgi q68 b92 1 (fun x95 => jX10_go_98 Y n q68 x95))) else kgr q68 v0 2 (fun b76 => kgr q68 b76 0 (fun b79 => kgi q68 b79 2 (fun x82 => jX10_go_98 Y n q68 x82)))))
def fX10_go (Y : XS) (n : Nat) (S : PS) (a0 : Nat) (x1_ : Int32) (x2_ : Int32) : Option ((Int32 × PS) ⊕ (Nat × PS)) :=
  (if x1_ = 0 then kc (fX10_needProject Y n S a0 x2_) (fun q39 => ks q39 (fun p39 => kgr p39 a0 9 (fun b43 => kgr p39 a0 2 (fun b47 => kgr p39 b47 0 (fun b50 => kc (fX3_keep Y n p39 b43 b50) (fun q53 => kgr q53 a0 2 (fun b57 => kgr q53 b57 0 (fun b60 => kc (fX1_dropProject Y n q53 b60 x2_) (fun q64 => jX10_go_67 Y n q64 a0 x1_)))))))) (fun e39 => some (.inr e39))) else kc (fX10_needVoter Y n S a0 x2_) (fun q6 => ks q6 (fun p6 => kgr p6 a0 9 (fun b10 => kgr p6 a0 2 (fun b14 => kgr p6 b14 0 (fun b17 => kc (fX3_keep Y n p6 b10 b17) (fun q20 => kgr q20 a0 2 (fun b24 => kgr q20 b24 0 (fun b27 => kc (fX1_dropVoter Y n q20 b27 x2_) (fun q31 => jX10_go_67 Y n q31 a0 x1_)))))))) (fun e6 => some (.inr e6))))
theorem wjX10_go_98 {C : CT} {ρ : Nat → Nat} {Y : XS} (hC : CK C RX10 cX10_go 3 (some .int) 7) (n : Nat) (S : PS) (t0 : Int32)   {o : (Int32 × PS) ⊕ (Nat × PS)} (hf : jX10_go_98 Y n S t0 = some o) (hB : XB C (ρ, Y, 0, 0) 8 48) (hR : RtX C ρ Y cX10_go (some .int) 8 48 (mrI o)) (hTo : ThO C ρ Y cX10_go 8 48 (mrI o)) (hTp : ThP C ρ Y 8 48 (mrI o)) : UW C (ρ, Y, 0 + 1, 0 + 6) S 98 [] [.int t0] := by
  unfold jX10_go_98 at hf
  cases hf
  exact hR _ _ rfl _ _ (Nat.le_of_ble_eq_true rfl) (Nat.le_of_ble_eq_true rfl) _ _ dX10_go_98 trivial
theorem wjX10_go_67 {C : CT} {ρ : Nat → Nat} {Y : XS} (hC : CK C RX10 cX10_go 3 (some .int) 7) (n : Nat) (S : PS) (v0 : Nat) (v1 : Int32)  (hTv0 : Ty Y v0 10) {o : (Int32 × PS) ⊕ (Nat × PS)} (hf : jX10_go_67 Y n S v0 v1 = some o) (hB : XB C (ρ, Y, 0, 0) 8 48) (hR : RtX C ρ Y cX10_go (some .int) 8 48 (mrI o)) (hTo : ThO C ρ Y cX10_go 8 48 (mrI o)) (hTp : ThP C ρ Y 8 48 (mrI o)) : UW C (ρ, Y, 0 + 1, 0 + 6) S 67 [(0, .ref (ρ v0)), (1, .int v1)] [] := by
  unfold jX10_go_67 at hf
  refine u_aload_n hC dX10_go_67 0 rfl rfl ?_
  obtain ⟨q68, hq68, hf⟩ := kc_some hf
  refine u_callV hC (ctX10_refresh (cL C) hC.tr (cG C) ρ Y n S v0 hTv0 hq68) lk_X10_294 rfl hTv0 (by decide) rfl (by decide) (by decide) rfl rfl (Nat.le_of_ble_eq_true rfl) dX10_go_68 ?_
  refine u_iload_n hC dX10_go_71 1 rfl rfl ?_
  refine u_if_eq (tgt := 88) hC dX10_go_72 (by decide) hf (fun h72 hf => ?_) (fun h72 hf => ?_)
  · refine u_aload_n hC dX10_go_88 0 rfl rfl ?_
    refine u_gr hC lf_X10_23 rfl hTv0 dX10_go_89 hf (fun b89 hTb89 hf => ?_)
    refine u_gr hC lf_X10_104 rfl hTb89 dX10_go_92 hf (fun b92 hTb92 hf => ?_)
    refine u_gi hC lf_X10_105 rfl hTb92 dX10_go_95 hf (fun x95 hf => ?_)
    refine u_sub (lv' := []) [] rfl ?_
    exact wjX10_go_98 hC n q68 x95   hf hB hR hTo hTp
  · refine u_aload_n hC dX10_go_75 0 rfl rfl ?_
    refine u_gr hC lf_X10_23 rfl hTv0 dX10_go_76 hf (fun b76 hTb76 hf => ?_)
    refine u_gr hC lf_X10_104 rfl hTb76 dX10_go_79 hf (fun b79 hTb79 hf => ?_)
    refine u_gi hC lf_X10_121 rfl hTb79 dX10_go_82 hf (fun x82 hf => ?_)
    refine u_goto (tgt := 98) hC dX10_go_85 (by decide) ?_
    refine u_sub (lv' := []) [] rfl ?_
    exact wjX10_go_98 hC n q68 x82   hf hB hR hTo hTp
theorem wX10_go {C : CT} {ρ : Nat → Nat} {Y : XS} (hC : CK C RX10 cX10_go 3 (some .int) 7) (n : Nat) (S : PS) (a0 : Nat) (x1_ : Int32) (x2_ : Int32) (hTa0 : Ty Y a0 10) {o : (Int32 × PS) ⊕ (Nat × PS)} (hf : fX10_go Y n S a0 x1_ x2_ = some o) (hB : XB C (ρ, Y, 0, 0) 8 48) (hR : RtX C ρ Y cX10_go (some .int) 8 48 (mrI o)) (hTo : ThO C ρ Y cX10_go 8 48 (mrI o)) (hTp : ThP C ρ Y 8 48 (mrI o)) : UW C (ρ, Y, 0, 0) S 0 [(0, .ref (ρ a0)), (1, .int x1_), (2, .int x2_)] [] := by
  unfold fX10_go at hf
  refine u_iload_n hC dX10_go_0 1 rfl rfl ?_
  refine u_if_eq (tgt := 37) hC dX10_go_1 (by decide) hf (fun h1 hf => ?_) (fun h1 hf => ?_)
  · refine u_aload_n hC dX10_go_37 0 rfl rfl ?_
    refine u_iload_n hC dX10_go_38 2 rfl rfl ?_
    obtain ⟨q39, hq39, hf⟩ := kc_some hf
    refine u_callVX hC (ctX10_needProject (cL C) hC.tr (cG C) ρ Y n S a0 x2_ hTa0 hq39) (hB.at (Nat.le_of_ble_eq_true rfl) (Nat.le_of_ble_eq_true rfl)) lk_X10_134 rfl hTa0 (by decide) rfl (by decide) (by decide) rfl rfl (Nat.le_of_ble_eq_true rfl) dX10_go_39 (fun v' S' he => ?_) (fun k' S' he => ?_)
    · rcases q39 with p39 | e39
      · have he : (Sum.inl (none, p39) : MR) = .inl (v', S') := he
        obtain ⟨hv9, hS9⟩ : none = v' ∧ p39 = S' := by cases he; exact ⟨rfl, rfl⟩
        subst hv9
        subst hS9
        have hf := ks_l hf
        refine u_aload_n hC dX10_go_42 0 rfl rfl ?_
        refine u_gr hC lf_X10_61 rfl hTa0 dX10_go_43 hf (fun b43 hTb43 hf => ?_)
        refine u_aload_n hC dX10_go_46 0 rfl rfl ?_
        refine u_gr hC lf_X10_23 rfl hTa0 dX10_go_47 hf (fun b47 hTb47 hf => ?_)
        refine u_gr hC lf_X10_104 rfl hTb47 dX10_go_50 hf (fun b50 hTb50 hf => ?_)
        obtain ⟨q53, hq53, hf⟩ := kc_some hf
        refine u_callV hC (ctX3_keep (cL C) hC.tr (cG C) ρ Y n p39 b43 b50 hTb43 hTb50 hq53) lk_X10_291 rfl hTb43 (by decide) rfl (by decide) (by decide) rfl rfl (Nat.le_of_ble_eq_true rfl) dX10_go_53 ?_
        refine u_aload_n hC dX10_go_56 0 rfl rfl ?_
        refine u_gr hC lf_X10_23 rfl hTa0 dX10_go_57 hf (fun b57 hTb57 hf => ?_)
        refine u_gr hC lf_X10_104 rfl hTb57 dX10_go_60 hf (fun b60 hTb60 hf => ?_)
        refine u_iload_n hC dX10_go_63 2 rfl rfl ?_
        obtain ⟨q64, hq64, hf⟩ := kc_some hf
        refine u_callV hC (ctX1_dropProject (cL C) hC.tr (cG C) ρ Y n q53 b60 x2_ hTb60 hq64) lk_X10_297 rfl hTb60 (by decide) rfl (by decide) (by decide) rfl rfl (Nat.le_of_ble_eq_true rfl) dX10_go_64 ?_
        refine u_sub (lv' := [(0, .ref (ρ a0)), (1, .int x1_)]) [0, 1] rfl ?_
        exact wjX10_go_67 hC n q64 a0 x1_  hTa0 hf hB hR hTo hTp
      · have he : (Sum.inr e39 : MR) = .inl (v', S') := he
        cases he
    · rcases q39 with p39 | e39
      · have he : (Sum.inl (none, p39) : MR) = .inr (k', S') := he
        cases he
      · have he : (Sum.inr e39 : MR) = .inr (k', S') := he
        cases he
        have hf := ks_r hf
        cases hf
        exact hTp _ _ rfl _ _ (Nat.le_of_ble_eq_true rfl) (Nat.le_of_ble_eq_true rfl)
  · refine u_aload_n hC dX10_go_4 0 rfl rfl ?_
    refine u_iload_n hC dX10_go_5 2 rfl rfl ?_
    obtain ⟨q6, hq6, hf⟩ := kc_some hf
    refine u_callVX hC (ctX10_needVoter (cL C) hC.tr (cG C) ρ Y n S a0 x2_ hTa0 hq6) (hB.at (Nat.le_of_ble_eq_true rfl) (Nat.le_of_ble_eq_true rfl)) lk_X10_150 rfl hTa0 (by decide) rfl (by decide) (by decide) rfl rfl (Nat.le_of_ble_eq_true rfl) dX10_go_6 (fun v' S' he => ?_) (fun k' S' he => ?_)
    · rcases q6 with p6 | e6
      · have he : (Sum.inl (none, p6) : MR) = .inl (v', S') := he
        obtain ⟨hv9, hS9⟩ : none = v' ∧ p6 = S' := by cases he; exact ⟨rfl, rfl⟩
        subst hv9
        subst hS9
        have hf := ks_l hf
        refine u_aload_n hC dX10_go_9 0 rfl rfl ?_
        refine u_gr hC lf_X10_61 rfl hTa0 dX10_go_10 hf (fun b10 hTb10 hf => ?_)
        refine u_aload_n hC dX10_go_13 0 rfl rfl ?_
        refine u_gr hC lf_X10_23 rfl hTa0 dX10_go_14 hf (fun b14 hTb14 hf => ?_)
        refine u_gr hC lf_X10_104 rfl hTb14 dX10_go_17 hf (fun b17 hTb17 hf => ?_)
        obtain ⟨q20, hq20, hf⟩ := kc_some hf
        refine u_callV hC (ctX3_keep (cL C) hC.tr (cG C) ρ Y n p6 b10 b17 hTb10 hTb17 hq20) lk_X10_291 rfl hTb10 (by decide) rfl (by decide) (by decide) rfl rfl (Nat.le_of_ble_eq_true rfl) dX10_go_20 ?_
        refine u_aload_n hC dX10_go_23 0 rfl rfl ?_
        refine u_gr hC lf_X10_23 rfl hTa0 dX10_go_24 hf (fun b24 hTb24 hf => ?_)
        refine u_gr hC lf_X10_104 rfl hTb24 dX10_go_27 hf (fun b27 hTb27 hf => ?_)
        refine u_iload_n hC dX10_go_30 2 rfl rfl ?_
        obtain ⟨q31, hq31, hf⟩ := kc_some hf
        refine u_callV hC (ctX1_dropVoter (cL C) hC.tr (cG C) ρ Y n q20 b27 x2_ hTb27 hq31) lk_X10_257 rfl hTb27 (by decide) rfl (by decide) (by decide) rfl rfl (Nat.le_of_ble_eq_true rfl) dX10_go_31 ?_
        refine u_goto (tgt := 67) hC dX10_go_34 (by decide) ?_
        refine u_sub (lv' := [(0, .ref (ρ a0)), (1, .int x1_)]) [0, 1] rfl ?_
        exact wjX10_go_67 hC n q31 a0 x1_  hTa0 hf hB hR hTo hTp
      · have he : (Sum.inr e6 : MR) = .inl (v', S') := he
        cases he
    · rcases q6 with p6 | e6
      · have he : (Sum.inl (none, p6) : MR) = .inr (k', S') := he
        cases he
      · have he : (Sum.inr e6 : MR) = .inr (k', S') := he
        cases he
        have hf := ks_r hf
        cases hf
        exact hTp _ _ rfl _ _ (Nat.le_of_ble_eq_true rfl) (Nat.le_of_ble_eq_true rfl)
theorem ctX10_go (l : Launch) (hl : l.stackTraces = false) (G : GT) (ρ : Nat → Nat) (Y : XS) (n : Nat) (S : PS) (a0 : Nat) (x1_ : Int32) (x2_ : Int32) (hTa0 : Ty Y a0 10) {o : (Int32 × PS) ⊕ (Nat × PS)} (hf : fX10_go Y n S a0 x1_ x2_ = some o) : Mx l G yX10_go cX10_go 3 (some .int) 7 8 48 ρ Y [.ref (ρ a0), .int x1_, .int x2_] S (mrI o) :=
  Mx_of hl (by decide) rfl (by decide) (Nat.le_of_ble_eq_true rfl) (fun C _ _ hC hB hR hTo hTp => wX10_go hC n S a0 x1_ x2_ hTa0 hf hB hR hTo hTp)
-- X10_undo
theorem dX10_undo_0 : decode cX10_undo 0 = .ok (.aload_n 0, 1) := by decide +kernel
theorem dX10_undo_1 : decode cX10_undo 1 = .ok (.getfield 61, 3) := by decide +kernel
theorem dX10_undo_4 : decode cX10_undo 4 = .ok (.getfield 111, 3) := by decide +kernel
theorem dX10_undo_7 : decode cX10_undo 7 = .ok (.ifCond .ne 5, 3) := by decide +kernel
theorem dX10_undo_10 : decode cX10_undo 10 = .ok (.iconst (-1), 1) := by decide +kernel
theorem dX10_undo_11 : decode cX10_undo 11 = .ok (.ireturn, 1) := by decide +kernel
theorem dX10_undo_12 : decode cX10_undo 12 = .ok (.aload_n 0, 1) := by decide +kernel
theorem dX10_undo_13 : decode cX10_undo 13 = .ok (.getfield 61, 3) := by decide +kernel
theorem dX10_undo_16 : decode cX10_undo 16 = .ok (.aload_n 0, 1) := by decide +kernel
theorem dX10_undo_17 : decode cX10_undo 17 = .ok (.getfield 23, 3) := by decide +kernel
theorem dX10_undo_20 : decode cX10_undo 20 = .ok (.getfield 104, 3) := by decide +kernel
theorem dX10_undo_23 : decode cX10_undo 23 = .ok (.invokevirtual 300, 3) := by decide +kernel
theorem dX10_undo_26 : decode cX10_undo 26 = .ok (.aload_n 0, 1) := by decide +kernel
theorem dX10_undo_27 : decode cX10_undo 27 = .ok (.invokevirtual 294, 3) := by decide +kernel
theorem dX10_undo_30 : decode cX10_undo 30 = .ok (.aload_n 0, 1) := by decide +kernel
theorem dX10_undo_31 : decode cX10_undo 31 = .ok (.getfield 61, 3) := by decide +kernel
theorem dX10_undo_34 : decode cX10_undo 34 = .ok (.getfield 111, 3) := by decide +kernel
theorem dX10_undo_37 : decode cX10_undo 37 = .ok (.ireturn, 1) := by decide +kernel
def fX10_undo (Y : XS) (n : Nat) (S : PS) (a0 : Nat) : Option (Int32 × PS) :=
  kgr S a0 9 (fun b1 => kgi S b1 2 (fun x4 => (if x4 = 0 then some ((-1 : Int32), S) else kgr S a0 9 (fun b13 => kgr S a0 2 (fun b17 => kgr S b17 0 (fun b20 => kc (fX3_giveBack Y n S b13 b20) (fun q23 => kc (fX10_refresh Y n q23 a0) (fun q27 => kgr q27 a0 9 (fun b31 => kgi q27 b31 2 (fun x34 => some (x34, q27)))))))))))
theorem wX10_undo {C : CT} {X : XT} (hC : CK C RX10 cX10_undo 1 (some .int) 7) (n : Nat) (S : PS) (a0 : Nat) (hTa0 : Ty X.2.1 a0 10) {o : Int32 × PS} (hf : fX10_undo X.2.1 n S a0 = some o) (hR : Rt C X cX10_undo (some .int) (some (.int o.1)) o.2) : UW C X S 0 [(0, .ref (X.1 a0))] [] := by
  unfold fX10_undo at hf
  refine u_aload_n hC dX10_undo_0 0 rfl rfl ?_
  refine u_gr hC lf_X10_61 rfl hTa0 dX10_undo_1 hf (fun b1 hTb1 hf => ?_)
  refine u_gi hC lf_X10_111 rfl hTb1 dX10_undo_4 hf (fun x4 hf => ?_)
  refine u_if_ne (tgt := 12) hC dX10_undo_7 (by decide) hf (fun h7 hf => ?_) (fun h7 hf => ?_)
  · refine u_aload_n hC dX10_undo_12 0 rfl rfl ?_
    refine u_gr hC lf_X10_61 rfl hTa0 dX10_undo_13 hf (fun b13 hTb13 hf => ?_)
    refine u_aload_n hC dX10_undo_16 0 rfl rfl ?_
    refine u_gr hC lf_X10_23 rfl hTa0 dX10_undo_17 hf (fun b17 hTb17 hf => ?_)
    refine u_gr hC lf_X10_104 rfl hTb17 dX10_undo_20 hf (fun b20 hTb20 hf => ?_)
    obtain ⟨q23, hq23, hf⟩ := kc_some hf
    refine u_callV hC (ctX3_giveBack (cL C) hC.tr (cG C) X.1 X.2.1 n S b13 b20 hTb13 hTb20 hq23) lk_X10_300 rfl hTb13 (by decide) rfl (by decide) (by decide) rfl rfl (Nat.le_of_ble_eq_true rfl) dX10_undo_23 ?_
    refine u_aload_n hC dX10_undo_26 0 rfl rfl ?_
    obtain ⟨q27, hq27, hf⟩ := kc_some hf
    refine u_callV hC (ctX10_refresh (cL C) hC.tr (cG C) X.1 X.2.1 n q23 a0 hTa0 hq27) lk_X10_294 rfl hTa0 (by decide) rfl (by decide) (by decide) rfl rfl (Nat.le_of_ble_eq_true rfl) dX10_undo_27 ?_
    refine u_aload_n hC dX10_undo_30 0 rfl rfl ?_
    refine u_gr hC lf_X10_61 rfl hTa0 dX10_undo_31 hf (fun b31 hTb31 hf => ?_)
    refine u_gi hC lf_X10_111 rfl hTb31 dX10_undo_34 hf (fun x34 hf => ?_)
    cases hf
    exact hR _ _ dX10_undo_37 trivial
  · refine u_iconst (v := (-1 : Int32)) hC dX10_undo_10 (by decide) ?_
    cases hf
    exact hR _ _ dX10_undo_11 trivial
theorem ctX10_undo (l : Launch) (hl : l.stackTraces = false) (G : GT) (ρ : Nat → Nat) (Y : XS) (n : Nat) (S : PS) (a0 : Nat) (hTa0 : Ty Y a0 10) {o : Int32 × PS} (hf : fX10_undo Y n S a0 = some o) : Mt l G yX10_undo cX10_undo 1 (some .int) 7 ρ Y [.ref (ρ a0)] S (some (.int o.1)) o.2 :=
  Mt_of hl (by decide) (Nat.le_of_ble_eq_true rfl) (fun C _ _ hC hR => wX10_undo (X := (ρ, Y, 0, 0)) hC n S a0 hTa0 hf hR)
-- X10_image
theorem dX10_image_0 : decode cX10_image 0 = .ok (.aload_n 0, 1) := by decide +kernel
theorem dX10_image_1 : decode cX10_image 1 = .ok (.getfield 68, 3) := by decide +kernel
theorem dX10_image_4 : decode cX10_image 4 = .ok (.aload_n 0, 1) := by decide +kernel
theorem dX10_image_5 : decode cX10_image 5 = .ok (.getfield 23, 3) := by decide +kernel
theorem dX10_image_8 : decode cX10_image 8 = .ok (.getfield 104, 3) := by decide +kernel
theorem dX10_image_11 : decode cX10_image 11 = .ok (.invokevirtual 108, 3) := by decide +kernel
theorem dX10_image_14 : decode cX10_image 14 = .ok (.aload_n 0, 1) := by decide +kernel
theorem dX10_image_15 : decode cX10_image 15 = .ok (.iconst 1, 1) := by decide +kernel
theorem dX10_image_16 : decode cX10_image 16 = .ok (.putfield 72, 3) := by decide +kernel
theorem dX10_image_19 : decode cX10_image 19 = .ok (.return_, 1) := by decide +kernel
def fX10_image (Y : XS) (n : Nat) (S : PS) (a0 : Nat) : Option (PS) :=
  kgr S a0 10 (fun b1 => kgr S a0 2 (fun b5 => kgr S b5 0 (fun b8 => kc (fX1_copyFrom Y n S b1 b8) (fun q11 => kpz q11 a0 11 (1 : Int32) (fun S16 => some S16)))))
theorem wX10_image {C : CT} {X : XT} (hC : CK C RX10 cX10_image 1 none 2) (n : Nat) (S : PS) (a0 : Nat) (hTa0 : Ty X.2.1 a0 10) {o : PS} (hf : fX10_image X.2.1 n S a0 = some o) (hR : Rt C X cX10_image none none o) : UW C X S 0 [(0, .ref (X.1 a0))] [] := by
  unfold fX10_image at hf
  refine u_aload_n hC dX10_image_0 0 rfl rfl ?_
  refine u_gr hC lf_X10_68 rfl hTa0 dX10_image_1 hf (fun b1 hTb1 hf => ?_)
  refine u_aload_n hC dX10_image_4 0 rfl rfl ?_
  refine u_gr hC lf_X10_23 rfl hTa0 dX10_image_5 hf (fun b5 hTb5 hf => ?_)
  refine u_gr hC lf_X10_104 rfl hTb5 dX10_image_8 hf (fun b8 hTb8 hf => ?_)
  obtain ⟨q11, hq11, hf⟩ := kc_some hf
  refine u_callV hC (ctX1_copyFrom (cL C) hC.tr (cG C) X.1 X.2.1 n S b1 b8 hTb1 hTb8 hq11) lk_X10_108 rfl hTb1 (by decide) rfl (by decide) (by decide) rfl rfl (Nat.le_of_ble_eq_true rfl) dX10_image_11 ?_
  refine u_aload_n hC dX10_image_14 0 rfl rfl ?_
  refine u_iconst (v := (1 : Int32)) hC dX10_image_15 (by decide) ?_
  refine u_pz hC lf_X10_72 rfl rfl rfl hTa0 dX10_image_16 hf (fun S16 hf => ?_)
  cases hf
  exact hR _ _ dX10_image_19 trivial
theorem ctX10_image (l : Launch) (hl : l.stackTraces = false) (G : GT) (ρ : Nat → Nat) (Y : XS) (n : Nat) (S : PS) (a0 : Nat) (hTa0 : Ty Y a0 10) {o : PS} (hf : fX10_image Y n S a0 = some o) : Mt l G yX10_image cX10_image 1 none 2 ρ Y [.ref (ρ a0)] S none o :=
  Mt_of hl (by decide) (Nat.le_of_ble_eq_true rfl) (fun C _ _ hC hR => wX10_image (X := (ρ, Y, 0, 0)) hC n S a0 hTa0 hf hR)
-- X10_back
theorem dX10_back_0 : decode cX10_back 0 = .ok (.aload_n 0, 1) := by decide +kernel
theorem dX10_back_1 : decode cX10_back 1 = .ok (.getfield 72, 3) := by decide +kernel
theorem dX10_back_4 : decode cX10_back 4 = .ok (.ifCond .ne 5, 3) := by decide +kernel
theorem dX10_back_7 : decode cX10_back 7 = .ok (.iconst 0, 1) := by decide +kernel
theorem dX10_back_8 : decode cX10_back 8 = .ok (.ireturn, 1) := by decide +kernel
theorem dX10_back_9 : decode cX10_back 9 = .ok (.aload_n 0, 1) := by decide +kernel
theorem dX10_back_10 : decode cX10_back 10 = .ok (.aload_n 0, 1) := by decide +kernel
theorem dX10_back_11 : decode cX10_back 11 = .ok (.getfield 68, 3) := by decide +kernel
theorem dX10_back_14 : decode cX10_back 14 = .ok (.invokevirtual 100, 3) := by decide +kernel
theorem dX10_back_17 : decode cX10_back 17 = .ok (.iconst 1, 1) := by decide +kernel
theorem dX10_back_18 : decode cX10_back 18 = .ok (.ireturn, 1) := by decide +kernel
def fX10_back (Y : XS) (n : Nat) (S : PS) (a0 : Nat) : Option (Int32 × PS) :=
  kgi S a0 11 (fun x1 => (if x1 = 0 then kzr (0 : Int32) (some ((0 : Int32), S)) else kgr S a0 10 (fun b11 => kc (fX10_startFrom Y n S a0 b11) (fun q14 => kzr (1 : Int32) (some ((1 : Int32), q14))))))
theorem wX10_back {C : CT} {X : XT} (hC : CK C RX10 cX10_back 1 (some .boolean) 7) (n : Nat) (S : PS) (a0 : Nat) (hTa0 : Ty X.2.1 a0 10) {o : Int32 × PS} (hf : fX10_back X.2.1 n S a0 = some o) (hR : Rt C X cX10_back (some .boolean) (some (.int o.1)) o.2) : UW C X S 0 [(0, .ref (X.1 a0))] [] := by
  unfold fX10_back at hf
  refine u_aload_n hC dX10_back_0 0 rfl rfl ?_
  refine u_gi hC lf_X10_72 rfl hTa0 dX10_back_1 hf (fun x1 hf => ?_)
  refine u_if_ne (tgt := 9) hC dX10_back_4 (by decide) hf (fun h4 hf => ?_) (fun h4 hf => ?_)
  · refine u_aload_n hC dX10_back_9 0 rfl rfl ?_
    refine u_aload_n hC dX10_back_10 0 rfl rfl ?_
    refine u_gr hC lf_X10_68 rfl hTa0 dX10_back_11 hf (fun b11 hTb11 hf => ?_)
    obtain ⟨q14, hq14, hf⟩ := kc_some hf
    refine u_callV hC (ctX10_startFrom (cL C) hC.tr (cG C) X.1 X.2.1 n S a0 b11 hTa0 hTb11 hq14) lk_X10_100 rfl hTa0 (by decide) rfl (by decide) (by decide) rfl rfl (Nat.le_of_ble_eq_true rfl) dX10_back_14 ?_
    refine u_iconst (v := (1 : Int32)) hC dX10_back_17 (by decide) ?_
    obtain ⟨hz, hf⟩ := kzr_some hf
    cases hf
    exact hR _ _ dX10_back_18 hz
  · refine u_iconst (v := (0 : Int32)) hC dX10_back_7 (by decide) ?_
    obtain ⟨hz, hf⟩ := kzr_some hf
    cases hf
    exact hR _ _ dX10_back_8 hz
theorem ctX10_back (l : Launch) (hl : l.stackTraces = false) (G : GT) (ρ : Nat → Nat) (Y : XS) (n : Nat) (S : PS) (a0 : Nat) (hTa0 : Ty Y a0 10) {o : Int32 × PS} (hf : fX10_back Y n S a0 = some o) : Mt l G yX10_back cX10_back 1 (some .boolean) 7 ρ Y [.ref (ρ a0)] S (some (.int o.1)) o.2 :=
  Mt_of hl (by decide) (Nat.le_of_ble_eq_true rfl) (fun C _ _ hC hR => wX10_back (X := (ρ, Y, 0, 0)) hC n S a0 hTa0 hf hR)
