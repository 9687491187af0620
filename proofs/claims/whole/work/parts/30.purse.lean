-- X10_feed
theorem dX10_feed_0 : decode cX10_feed 0 = .ok (.aload_n 0, 1) := by decide +kernel
theorem dX10_feed_1 : decode cX10_feed 1 = .ok (.getfield 10, 3) := by decide +kernel
theorem dX10_feed_4 : decode cX10_feed 4 = .ok (.getfield 76, 3) := by decide +kernel
theorem dX10_feed_7 : decode cX10_feed 7 = .ok (.bipush 20, 2) := by decide +kernel
theorem dX10_feed_9 : decode cX10_feed 9 = .ok (.iadd, 1) := by decide +kernel
theorem dX10_feed_10 : decode cX10_feed 10 = .ok (.sipush 500, 3) := by decide +kernel
theorem dX10_feed_13 : decode cX10_feed 13 = .ok (.if_icmp .le 5, 3) := by decide +kernel
theorem dX10_feed_16 : decode cX10_feed 16 = .ok (.iconst (-1), 1) := by decide +kernel
theorem dX10_feed_17 : decode cX10_feed 17 = .ok (.ireturn, 1) := by decide +kernel
theorem dX10_feed_18 : decode cX10_feed 18 = .ok (.aload_n 0, 1) := by decide +kernel
theorem dX10_feed_19 : decode cX10_feed 19 = .ok (.getfield 10, 3) := by decide +kernel
theorem dX10_feed_22 : decode cX10_feed 22 = .ok (.iload_n 1, 1) := by decide +kernel
theorem dX10_feed_23 : decode cX10_feed 23 = .ok (.invokevirtual 79, 3) := by decide +kernel
theorem dX10_feed_26 : decode cX10_feed 26 = .ok (.aload_n 0, 1) := by decide +kernel
theorem dX10_feed_27 : decode cX10_feed 27 = .ok (.getfield 10, 3) := by decide +kernel
theorem dX10_feed_30 : decode cX10_feed 30 = .ok (.iload_n 2, 1) := by decide +kernel
theorem dX10_feed_31 : decode cX10_feed 31 = .ok (.invokevirtual 79, 3) := by decide +kernel
theorem dX10_feed_34 : decode cX10_feed 34 = .ok (.aload_n 0, 1) := by decide +kernel
theorem dX10_feed_35 : decode cX10_feed 35 = .ok (.getfield 10, 3) := by decide +kernel
theorem dX10_feed_38 : decode cX10_feed 38 = .ok (.iload_n 3, 1) := by decide +kernel
theorem dX10_feed_39 : decode cX10_feed 39 = .ok (.invokevirtual 79, 3) := by decide +kernel
theorem dX10_feed_42 : decode cX10_feed 42 = .ok (.aload_n 0, 1) := by decide +kernel
theorem dX10_feed_43 : decode cX10_feed 43 = .ok (.getfield 10, 3) := by decide +kernel
theorem dX10_feed_46 : decode cX10_feed 46 = .ok (.iload 4, 2) := by decide +kernel
theorem dX10_feed_48 : decode cX10_feed 48 = .ok (.invokevirtual 79, 3) := by decide +kernel
theorem dX10_feed_51 : decode cX10_feed 51 = .ok (.aload_n 0, 1) := by decide +kernel
theorem dX10_feed_52 : decode cX10_feed 52 = .ok (.getfield 10, 3) := by decide +kernel
theorem dX10_feed_55 : decode cX10_feed 55 = .ok (.iload 5, 2) := by decide +kernel
theorem dX10_feed_57 : decode cX10_feed 57 = .ok (.invokevirtual 79, 3) := by decide +kernel
theorem dX10_feed_60 : decode cX10_feed 60 = .ok (.aload_n 0, 1) := by decide +kernel
theorem dX10_feed_61 : decode cX10_feed 61 = .ok (.getfield 10, 3) := by decide +kernel
theorem dX10_feed_64 : decode cX10_feed 64 = .ok (.getfield 76, 3) := by decide +kernel
theorem dX10_feed_67 : decode cX10_feed 67 = .ok (.ireturn, 1) := by decide +kernel
def fX10_feed (Y : XS) (n : Nat) (S : PS) (a0 : Nat) (x1_ : Int32) (x2_ : Int32) (x3_ : Int32) (x4_ : Int32) (x5_ : Int32) : Option (Int32 × PS) :=
  kgr S a0 0 (fun b1 => kgi S b1 3 (fun x4 => (if (x4 + (20 : Int32)) ≤ (500 : Int32) then kgr S a0 0 (fun b19 => kc (fX7_addBytes Y n S b19 x1_) (fun q23 => kgr q23 a0 0 (fun b27 => kc (fX7_addBytes Y n q23 b27 x2_) (fun q31 => kgr q31 a0 0 (fun b35 => kc (fX7_addBytes Y n q31 b35 x3_) (fun q39 => kgr q39 a0 0 (fun b43 => kc (fX7_addBytes Y n q39 b43 x4_) (fun q48 => kgr q48 a0 0 (fun b52 => kc (fX7_addBytes Y n q48 b52 x5_) (fun q57 => kgr q57 a0 0 (fun b61 => kgi q57 b61 3 (fun x64 => some (x64, q57))))))))))))) else some ((-1 : Int32), S))))
theorem wX10_feed {C : CT} {X : XT} (hC : CK C RX10 cX10_feed 6 (some .int) 2) (n : Nat) (S : PS) (a0 : Nat) (x1_ : Int32) (x2_ : Int32) (x3_ : Int32) (x4_ : Int32) (x5_ : Int32) (hTa0 : Ty X.2.1 a0 10) {o : Int32 × PS} (hf : fX10_feed X.2.1 n S a0 x1_ x2_ x3_ x4_ x5_ = some o) (hR : Rt C X cX10_feed (some .int) (some (.int o.1)) o.2) : UW C X S 0 [(0, .ref (X.1 a0)), (1, .int x1_), (2, .int x2_), (3, .int x3_), (4, .int x4_), (5, .int x5_)] [] := by
  unfold fX10_feed at hf
  refine u_aload_n hC dX10_feed_0 0 rfl rfl ?_
  refine u_gr hC lf_X10_10 rfl hTa0 dX10_feed_1 hf (fun b1 hTb1 hf => ?_)
  refine u_gi hC lf_X10_76 rfl hTb1 dX10_feed_4 hf (fun x4 hf => ?_)
  refine u_bipush (v := (20 : Int32)) hC dX10_feed_7 (by decide) ?_
  refine u_iadd hC dX10_feed_9 ?_
  refine u_sipush (v := (500 : Int32)) hC dX10_feed_10 (by decide) ?_
  refine u_icmp_le (tgt := 18) hC dX10_feed_13 (by decide) hf (fun h13 hf => ?_) (fun h13 hf => ?_)
  · refine u_aload_n hC dX10_feed_18 0 rfl rfl ?_
    refine u_gr hC lf_X10_10 rfl hTa0 dX10_feed_19 hf (fun b19 hTb19 hf => ?_)
    refine u_iload_n hC dX10_feed_22 1 rfl rfl ?_
    obtain ⟨q23, hq23, hf⟩ := kc_some hf
    refine u_callV hC (ctX7_addBytes (cL C) hC.tr (cG C) X.1 X.2.1 n S b19 x1_ hTb19 hq23) lk_X10_79 rfl hTb19 (by decide) rfl (by decide) (by decide) rfl rfl (Nat.le_of_ble_eq_true rfl) dX10_feed_23 ?_
    refine u_aload_n hC dX10_feed_26 0 rfl rfl ?_
    refine u_gr hC lf_X10_10 rfl hTa0 dX10_feed_27 hf (fun b27 hTb27 hf => ?_)
    refine u_iload_n hC dX10_feed_30 2 rfl rfl ?_
    obtain ⟨q31, hq31, hf⟩ := kc_some hf
    refine u_callV hC (ctX7_addBytes (cL C) hC.tr (cG C) X.1 X.2.1 n q23 b27 x2_ hTb27 hq31) lk_X10_79 rfl hTb27 (by decide) rfl (by decide) (by decide) rfl rfl (Nat.le_of_ble_eq_true rfl) dX10_feed_31 ?_
    refine u_aload_n hC dX10_feed_34 0 rfl rfl ?_
    refine u_gr hC lf_X10_10 rfl hTa0 dX10_feed_35 hf (fun b35 hTb35 hf => ?_)
    refine u_iload_n hC dX10_feed_38 3 rfl rfl ?_
    obtain ⟨q39, hq39, hf⟩ := kc_some hf
    refine u_callV hC (ctX7_addBytes (cL C) hC.tr (cG C) X.1 X.2.1 n q31 b35 x3_ hTb35 hq39) lk_X10_79 rfl hTb35 (by decide) rfl (by decide) (by decide) rfl rfl (Nat.le_of_ble_eq_true rfl) dX10_feed_39 ?_
    refine u_aload_n hC dX10_feed_42 0 rfl rfl ?_
    refine u_gr hC lf_X10_10 rfl hTa0 dX10_feed_43 hf (fun b43 hTb43 hf => ?_)
    refine u_iload hC dX10_feed_46 4 rfl ?_
    obtain ⟨q48, hq48, hf⟩ := kc_some hf
    refine u_callV hC (ctX7_addBytes (cL C) hC.tr (cG C) X.1 X.2.1 n q39 b43 x4_ hTb43 hq48) lk_X10_79 rfl hTb43 (by decide) rfl (by decide) (by decide) rfl rfl (Nat.le_of_ble_eq_true rfl) dX10_feed_48 ?_
    refine u_aload_n hC dX10_feed_51 0 rfl rfl ?_
    refine u_gr hC lf_X10_10 rfl hTa0 dX10_feed_52 hf (fun b52 hTb52 hf => ?_)
    refine u_iload hC dX10_feed_55 5 rfl ?_
    obtain ⟨q57, hq57, hf⟩ := kc_some hf
    refine u_callV hC (ctX7_addBytes (cL C) hC.tr (cG C) X.1 X.2.1 n q48 b52 x5_ hTb52 hq57) lk_X10_79 rfl hTb52 (by decide) rfl (by decide) (by decide) rfl rfl (Nat.le_of_ble_eq_true rfl) dX10_feed_57 ?_
    refine u_aload_n hC dX10_feed_60 0 rfl rfl ?_
    refine u_gr hC lf_X10_10 rfl hTa0 dX10_feed_61 hf (fun b61 hTb61 hf => ?_)
    refine u_gi hC lf_X10_76 rfl hTb61 dX10_feed_64 hf (fun x64 hf => ?_)
    cases hf
    exact hR _ _ dX10_feed_67 trivial
  · refine u_iconst (v := (-1 : Int32)) hC dX10_feed_16 (by decide) ?_
    cases hf
    exact hR _ _ dX10_feed_17 trivial
theorem ctX10_feed (l : Launch) (hl : l.stackTraces = false) (G : GT) (ρ : Nat → Nat) (Y : XS) (n : Nat) (S : PS) (a0 : Nat) (x1_ : Int32) (x2_ : Int32) (x3_ : Int32) (x4_ : Int32) (x5_ : Int32) (hTa0 : Ty Y a0 10) {o : Int32 × PS} (hf : fX10_feed Y n S a0 x1_ x2_ x3_ x4_ x5_ = some o) : Mt l G yX10_feed cX10_feed 6 (some .int) 2 ρ Y [.ref (ρ a0), .int x1_, .int x2_, .int x3_, .int x4_, .int x5_] S (some (.int o.1)) o.2 :=
  Mt_of hl (by decide) (Nat.le_of_ble_eq_true rfl) (fun C _ _ hC hR => wX10_feed (X := (ρ, Y, 0, 0)) hC n S a0 x1_ x2_ x3_ x4_ x5_ hTa0 hf hR)
-- X10_startFrom
theorem dX10_startFrom_0 : decode cX10_startFrom 0 = .ok (.aload_n 0, 1) := by decide +kernel
theorem dX10_startFrom_1 : decode cX10_startFrom 1 = .ok (.getfield 23, 3) := by decide +kernel
theorem dX10_startFrom_4 : decode cX10_startFrom 4 = .ok (.getfield 104, 3) := by decide +kernel
theorem dX10_startFrom_7 : decode cX10_startFrom 7 = .ok (.aload_n 1, 1) := by decide +kernel
theorem dX10_startFrom_8 : decode cX10_startFrom 8 = .ok (.invokevirtual 108, 3) := by decide +kernel
theorem dX10_startFrom_11 : decode cX10_startFrom 11 = .ok (.aload_n 0, 1) := by decide +kernel
theorem dX10_startFrom_12 : decode cX10_startFrom 12 = .ok (.getfield 61, 3) := by decide +kernel
theorem dX10_startFrom_15 : decode cX10_startFrom 15 = .ok (.iconst 0, 1) := by decide +kernel
theorem dX10_startFrom_16 : decode cX10_startFrom 16 = .ok (.putfield 111, 3) := by decide +kernel
theorem dX10_startFrom_19 : decode cX10_startFrom 19 = .ok (.aload_n 0, 1) := by decide +kernel
theorem dX10_startFrom_20 : decode cX10_startFrom 20 = .ok (.getfield 23, 3) := by decide +kernel
theorem dX10_startFrom_23 : decode cX10_startFrom 23 = .ok (.invokevirtual 114, 3) := by decide +kernel
theorem dX10_startFrom_26 : decode cX10_startFrom 26 = .ok (.aload_n 0, 1) := by decide +kernel
theorem dX10_startFrom_27 : decode cX10_startFrom 27 = .ok (.iconst 0, 1) := by decide +kernel
theorem dX10_startFrom_28 : decode cX10_startFrom 28 = .ok (.putfield 33, 3) := by decide +kernel
theorem dX10_startFrom_31 : decode cX10_startFrom 31 = .ok (.return_, 1) := by decide +kernel
def fX10_startFrom (Y : XS) (n : Nat) (S : PS) (a0 : Nat) (a1 : Nat) : Option (PS) :=
  kgr S a0 2 (fun b1 => kgr S b1 0 (fun b4 => kc (fX1_copyFrom Y n S b4 a1) (fun q8 => kgr q8 a0 9 (fun b12 => kpi q8 b12 2 (0 : Int32) (fun S16 => kgr S16 a0 2 (fun b20 => kc (fX6_tally Y n S16 b20) (fun q23 => kpi q23 a0 4 (0 : Int32) (fun S28 => some S28))))))))
theorem wX10_startFrom {C : CT} {X : XT} (hC : CK C RX10 cX10_startFrom 2 none 6) (n : Nat) (S : PS) (a0 : Nat) (a1 : Nat) (hTa0 : Ty X.2.1 a0 10) (hTa1 : Ty X.2.1 a1 1) {o : PS} (hf : fX10_startFrom X.2.1 n S a0 a1 = some o) (hR : Rt C X cX10_startFrom none none o) : UW C X S 0 [(0, .ref (X.1 a0)), (1, .ref (X.1 a1))] [] := by
  unfold fX10_startFrom at hf
  refine u_aload_n hC dX10_startFrom_0 0 rfl rfl ?_
  refine u_gr hC lf_X10_23 rfl hTa0 dX10_startFrom_1 hf (fun b1 hTb1 hf => ?_)
  refine u_gr hC lf_X10_104 rfl hTb1 dX10_startFrom_4 hf (fun b4 hTb4 hf => ?_)
  refine u_aload_n hC dX10_startFrom_7 1 rfl rfl ?_
  obtain ⟨q8, hq8, hf⟩ := kc_some hf
  refine u_callV hC (ctX1_copyFrom (cL C) hC.tr (cG C) X.1 X.2.1 n S b4 a1 hTb4 hTa1 hq8) lk_X10_108 rfl hTb4 (by decide) rfl (by decide) (by decide) rfl rfl (Nat.le_of_ble_eq_true rfl) dX10_startFrom_8 ?_
  refine u_aload_n hC dX10_startFrom_11 0 rfl rfl ?_
  refine u_gr hC lf_X10_61 rfl hTa0 dX10_startFrom_12 hf (fun b12 hTb12 hf => ?_)
  refine u_iconst (v := (0 : Int32)) hC dX10_startFrom_15 (by decide) ?_
  refine u_pi hC lf_X10_111 rfl rfl rfl hTb12 dX10_startFrom_16 hf (fun S16 hf => ?_)
  refine u_aload_n hC dX10_startFrom_19 0 rfl rfl ?_
  refine u_gr hC lf_X10_23 rfl hTa0 dX10_startFrom_20 hf (fun b20 hTb20 hf => ?_)
  obtain ⟨q23, hq23, hf⟩ := kc_some hf
  refine u_callV hC (ctX6_tally (cL C) hC.tr (cG C) X.1 X.2.1 n S16 b20 hTb20 hq23) lk_X10_114 rfl hTb20 (by decide) rfl (by decide) (by decide) rfl rfl (Nat.le_of_ble_eq_true rfl) dX10_startFrom_23 ?_
  refine u_aload_n hC dX10_startFrom_26 0 rfl rfl ?_
  refine u_iconst (v := (0 : Int32)) hC dX10_startFrom_27 (by decide) ?_
  refine u_pi hC lf_X10_33 rfl rfl rfl hTa0 dX10_startFrom_28 hf (fun S28 hf => ?_)
  cases hf
  exact hR _ _ dX10_startFrom_31 trivial
theorem ctX10_startFrom (l : Launch) (hl : l.stackTraces = false) (G : GT) (ρ : Nat → Nat) (Y : XS) (n : Nat) (S : PS) (a0 : Nat) (a1 : Nat) (hTa0 : Ty Y a0 10) (hTa1 : Ty Y a1 1) {o : PS} (hf : fX10_startFrom Y n S a0 a1 = some o) : Mt l G yX10_startFrom cX10_startFrom 2 none 6 ρ Y [.ref (ρ a0), .ref (ρ a1)] S none o :=
  Mt_of hl (by decide) (Nat.le_of_ble_eq_true rfl) (fun C _ _ hC hR => wX10_startFrom (X := (ρ, Y, 0, 0)) hC n S a0 a1 hTa0 hTa1 hf hR)
-- X10_refresh
theorem dX10_refresh_0 : decode cX10_refresh 0 = .ok (.aload_n 0, 1) := by decide +kernel
theorem dX10_refresh_1 : decode cX10_refresh 1 = .ok (.getfield 23, 3) := by decide +kernel
theorem dX10_refresh_4 : decode cX10_refresh 4 = .ok (.invokevirtual 114, 3) := by decide +kernel
theorem dX10_refresh_7 : decode cX10_refresh 7 = .ok (.aload_n 0, 1) := by decide +kernel
theorem dX10_refresh_8 : decode cX10_refresh 8 = .ok (.iconst 0, 1) := by decide +kernel
theorem dX10_refresh_9 : decode cX10_refresh 9 = .ok (.putfield 33, 3) := by decide +kernel
theorem dX10_refresh_12 : decode cX10_refresh 12 = .ok (.return_, 1) := by decide +kernel
def fX10_refresh (Y : XS) (n : Nat) (S : PS) (a0 : Nat) : Option (PS) :=
  kgr S a0 2 (fun b1 => kc (fX6_tally Y n S b1) (fun q4 => kpi q4 a0 4 (0 : Int32) (fun S9 => some S9)))
theorem wX10_refresh {C : CT} {X : XT} (hC : CK C RX10 cX10_refresh 1 none 6) (n : Nat) (S : PS) (a0 : Nat) (hTa0 : Ty X.2.1 a0 10) {o : PS} (hf : fX10_refresh X.2.1 n S a0 = some o) (hR : Rt C X cX10_refresh none none o) : UW C X S 0 [(0, .ref (X.1 a0))] [] := by
  unfold fX10_refresh at hf
  refine u_aload_n hC dX10_refresh_0 0 rfl rfl ?_
  refine u_gr hC lf_X10_23 rfl hTa0 dX10_refresh_1 hf (fun b1 hTb1 hf => ?_)
  obtain ⟨q4, hq4, hf⟩ := kc_some hf
  refine u_callV hC (ctX6_tally (cL C) hC.tr (cG C) X.1 X.2.1 n S b1 hTb1 hq4) lk_X10_114 rfl hTb1 (by decide) rfl (by decide) (by decide) rfl rfl (Nat.le_of_ble_eq_true rfl) dX10_refresh_4 ?_
  refine u_aload_n hC dX10_refresh_7 0 rfl rfl ?_
  refine u_iconst (v := (0 : Int32)) hC dX10_refresh_8 (by decide) ?_
  refine u_pi hC lf_X10_33 rfl rfl rfl hTa0 dX10_refresh_9 hf (fun S9 hf => ?_)
  cases hf
  exact hR _ _ dX10_refresh_12 trivial
theorem ctX10_refresh (l : Launch) (hl : l.stackTraces = false) (G : GT) (ρ : Nat → Nat) (Y : XS) (n : Nat) (S : PS) (a0 : Nat) (hTa0 : Ty Y a0 10) {o : PS} (hf : fX10_refresh Y n S a0 = some o) : Mt l G yX10_refresh cX10_refresh 1 none 6 ρ Y [.ref (ρ a0)] S none o :=
  Mt_of hl (by decide) (Nat.le_of_ble_eq_true rfl) (fun C _ _ hC hR => wX10_refresh (X := (ρ, Y, 0, 0)) hC n S a0 hTa0 hf hR)
-- X10_fault
theorem dX10_fault_0 : decode cX10_fault 0 = .ok (.aload_n 0, 1) := by decide +kernel
theorem dX10_fault_1 : decode cX10_fault 1 = .ok (.getfield 16, 3) := by decide +kernel
theorem dX10_fault_4 : decode cX10_fault 4 = .ok (.ireturn, 1) := by decide +kernel
def fX10_fault (Y : XS) (n : Nat) (S : PS) (a0 : Nat) : Option (Int32) :=
  kgi S a0 1 (fun x1 => some x1)
theorem wX10_fault {C : CT} {X : XT} (hC : CK C RX10 cX10_fault 1 (some .int) 1) (n : Nat) (S : PS) (a0 : Nat) (hTa0 : Ty X.2.1 a0 10) {o : Int32} (hf : fX10_fault X.2.1 n S a0 = some o) (hR : Rt C X cX10_fault (some .int) (some (.int o)) S) : UW C X S 0 [(0, .ref (X.1 a0))] [] := by
  unfold fX10_fault at hf
  refine u_aload_n hC dX10_fault_0 0 rfl rfl ?_
  refine u_gi hC lf_X10_16 rfl hTa0 dX10_fault_1 hf (fun x1 hf => ?_)
  cases hf
  exact hR _ _ dX10_fault_4 trivial
theorem ctX10_fault (l : Launch) (hl : l.stackTraces = false) (G : GT) (ρ : Nat → Nat) (Y : XS) (n : Nat) (S : PS) (a0 : Nat) (hTa0 : Ty Y a0 10) {o : Int32} (hf : fX10_fault Y n S a0 = some o) : Mt l G yX10_fault cX10_fault 1 (some .int) 1 ρ Y [.ref (ρ a0)] S (some (.int o)) S :=
  Mt_of hl (by decide) (Nat.le_of_ble_eq_true rfl) (fun C _ _ hC hR => wX10_fault (X := (ρ, Y, 0, 0)) hC n S a0 hTa0 hf hR)
-- X10_triedScore
theorem dX10_triedScore_0 : decode cX10_triedScore 0 = .ok (.aload_n 0, 1) := by decide +kernel
theorem dX10_triedScore_1 : decode cX10_triedScore 1 = .ok (.getfield 36, 3) := by decide +kernel
theorem dX10_triedScore_4 : decode cX10_triedScore 4 = .ok (.aload_n 0, 1) := by decide +kernel
theorem dX10_triedScore_5 : decode cX10_triedScore 5 = .ok (.getfield 23, 3) := by decide +kernel
theorem dX10_triedScore_8 : decode cX10_triedScore 8 = .ok (.invokevirtual 254, 3) := by decide +kernel
theorem dX10_triedScore_11 : decode cX10_triedScore 11 = .ok (.aload_n 0, 1) := by decide +kernel
theorem dX10_triedScore_12 : decode cX10_triedScore 12 = .ok (.getfield 36, 3) := by decide +kernel
theorem dX10_triedScore_15 : decode cX10_triedScore 15 = .ok (.getfield 104, 3) := by decide +kernel
theorem dX10_triedScore_18 : decode cX10_triedScore 18 = .ok (.getfield 156, 3) := by decide +kernel
theorem dX10_triedScore_21 : decode cX10_triedScore 21 = .ok (.iload_n 3, 1) := by decide +kernel
theorem dX10_triedScore_22 : decode cX10_triedScore 22 = .ok (.bipush 24, 2) := by decide +kernel
theorem dX10_triedScore_24 : decode cX10_triedScore 24 = .ok (.imul, 1) := by decide +kernel
theorem dX10_triedScore_25 : decode cX10_triedScore 25 = .ok (.iload_n 2, 1) := by decide +kernel
theorem dX10_triedScore_26 : decode cX10_triedScore 26 = .ok (.iadd, 1) := by decide +kernel
theorem dX10_triedScore_27 : decode cX10_triedScore 27 = .ok (.iload 4, 2) := by decide +kernel
theorem dX10_triedScore_29 : decode cX10_triedScore 29 = .ok (.iastore, 1) := by decide +kernel
theorem dX10_triedScore_30 : decode cX10_triedScore 30 = .ok (.aload_n 0, 1) := by decide +kernel
theorem dX10_triedScore_31 : decode cX10_triedScore 31 = .ok (.getfield 36, 3) := by decide +kernel
theorem dX10_triedScore_34 : decode cX10_triedScore 34 = .ok (.iload_n 3, 1) := by decide +kernel
theorem dX10_triedScore_35 : decode cX10_triedScore 35 = .ok (.invokevirtual 276, 3) := by decide +kernel
theorem dX10_triedScore_38 : decode cX10_triedScore 38 = .ok (.aload_n 0, 1) := by decide +kernel
theorem dX10_triedScore_39 : decode cX10_triedScore 39 = .ok (.getfield 47, 3) := by decide +kernel
theorem dX10_triedScore_42 : decode cX10_triedScore 42 = .ok (.iload_n 1, 1) := by decide +kernel
theorem dX10_triedScore_43 : decode cX10_triedScore 43 = .ok (.aload_n 0, 1) := by decide +kernel
theorem dX10_triedScore_44 : decode cX10_triedScore 44 = .ok (.getfield 36, 3) := by decide +kernel
theorem dX10_triedScore_47 : decode cX10_triedScore 47 = .ok (.aload_n 0, 1) := by decide +kernel
theorem dX10_triedScore_48 : decode cX10_triedScore 48 = .ok (.getfield 40, 3) := by decide +kernel
theorem dX10_triedScore_51 : decode cX10_triedScore 51 = .ok (.invokevirtual 287, 3) := by decide +kernel
theorem dX10_triedScore_54 : decode cX10_triedScore 54 = .ok (.aload_n 0, 1) := by decide +kernel
theorem dX10_triedScore_55 : decode cX10_triedScore 55 = .ok (.getfield 40, 3) := by decide +kernel
theorem dX10_triedScore_58 : decode cX10_triedScore 58 = .ok (.getfield 166, 3) := by decide +kernel
theorem dX10_triedScore_61 : decode cX10_triedScore 61 = .ok (.ireturn, 1) := by decide +kernel
def fX10_triedScore (Y : XS) (n : Nat) (S : PS) (a0 : Nat) (x1_ : Int32) (x2_ : Int32) (x3_ : Int32) (x4_ : Int32) : Option (Int32 × PS) :=
  kgr S a0 5 (fun b1 => kgr S a0 2 (fun b5 => kc (fX6_copyFrom Y n S b1 b5) (fun q8 => kgr q8 a0 5 (fun b12 => kgr q8 b12 0 (fun b15 => kgr q8 b15 6 (fun b18 => kwi Y q8 b18 ((x3_ * (24 : Int32)) + x2_) x4_ (fun S29 => kgr S29 a0 5 (fun b31 => kc (fX6_tallyOne Y n S29 b31 x3_) (fun q35 => kgr q35 a0 7 (fun b39 => kgr q35 a0 5 (fun b44 => kgr q35 a0 6 (fun b48 => kc (fX0_choose Y n q35 b39 x1_ b44 b48) (fun q51 => kgr q51 a0 6 (fun b55 => kgi q51 b55 2 (fun x58 => some (x58, q51))))))))))))))))
theorem wX10_triedScore {C : CT} {X : XT} (hC : CK C RX10 cX10_triedScore 5 (some .int) 6) (n : Nat) (S : PS) (a0 : Nat) (x1_ : Int32) (x2_ : Int32) (x3_ : Int32) (x4_ : Int32) (hTa0 : Ty X.2.1 a0 10) {o : Int32 × PS} (hf : fX10_triedScore X.2.1 n S a0 x1_ x2_ x3_ x4_ = some o) (hR : Rt C X cX10_triedScore (some .int) (some (.int o.1)) o.2) : UW C X S 0 [(0, .ref (X.1 a0)), (1, .int x1_), (2, .int x2_), (3, .int x3_), (4, .int x4_)] [] := by
  unfold fX10_triedScore at hf
  refine u_aload_n hC dX10_triedScore_0 0 rfl rfl ?_
  refine u_gr hC lf_X10_36 rfl hTa0 dX10_triedScore_1 hf (fun b1 hTb1 hf => ?_)
  refine u_aload_n hC dX10_triedScore_4 0 rfl rfl ?_
  refine u_gr hC lf_X10_23 rfl hTa0 dX10_triedScore_5 hf (fun b5 hTb5 hf => ?_)
  obtain ⟨q8, hq8, hf⟩ := kc_some hf
  refine u_callV hC (ctX6_copyFrom (cL C) hC.tr (cG C) X.1 X.2.1 n S b1 b5 hTb1 hTb5 hq8) lk_X10_254 rfl hTb1 (by decide) rfl (by decide) (by decide) rfl rfl (Nat.le_of_ble_eq_true rfl) dX10_triedScore_8 ?_
  refine u_aload_n hC dX10_triedScore_11 0 rfl rfl ?_
  refine u_gr hC lf_X10_36 rfl hTa0 dX10_triedScore_12 hf (fun b12 hTb12 hf => ?_)
  refine u_gr hC lf_X10_104 rfl hTb12 dX10_triedScore_15 hf (fun b15 hTb15 hf => ?_)
  refine u_gr hC lf_X10_156 rfl hTb15 dX10_triedScore_18 hf (fun b18 hTb18 hf => ?_)
  refine u_iload_n hC dX10_triedScore_21 3 rfl rfl ?_
  refine u_bipush (v := (24 : Int32)) hC dX10_triedScore_22 (by decide) ?_
  refine u_imul hC dX10_triedScore_24 ?_
  refine u_iload_n hC dX10_triedScore_25 2 rfl rfl ?_
  refine u_iadd hC dX10_triedScore_26 ?_
  refine u_iload hC dX10_triedScore_27 4 rfl ?_
  refine u_wi hC hTb18 dX10_triedScore_29 hf (fun S29 hf => ?_)
  refine u_aload_n hC dX10_triedScore_30 0 rfl rfl ?_
  refine u_gr hC lf_X10_36 rfl hTa0 dX10_triedScore_31 hf (fun b31 hTb31 hf => ?_)
  refine u_iload_n hC dX10_triedScore_34 3 rfl rfl ?_
  obtain ⟨q35, hq35, hf⟩ := kc_some hf
  refine u_callV hC (ctX6_tallyOne (cL C) hC.tr (cG C) X.1 X.2.1 n S29 b31 x3_ hTb31 hq35) lk_X10_276 rfl hTb31 (by decide) rfl (by decide) (by decide) rfl rfl (Nat.le_of_ble_eq_true rfl) dX10_triedScore_35 ?_
  refine u_aload_n hC dX10_triedScore_38 0 rfl rfl ?_
  refine u_gr hC lf_X10_47 rfl hTa0 dX10_triedScore_39 hf (fun b39 hTb39 hf => ?_)
  refine u_iload_n hC dX10_triedScore_42 1 rfl rfl ?_
  refine u_aload_n hC dX10_triedScore_43 0 rfl rfl ?_
  refine u_gr hC lf_X10_36 rfl hTa0 dX10_triedScore_44 hf (fun b44 hTb44 hf => ?_)
  refine u_aload_n hC dX10_triedScore_47 0 rfl rfl ?_
  refine u_gr hC lf_X10_40 rfl hTa0 dX10_triedScore_48 hf (fun b48 hTb48 hf => ?_)
  obtain ⟨q51, hq51, hf⟩ := kc_some hf
  refine u_callV hC (ctX0_choose (cL C) hC.tr (cG C) X.1 X.2.1 n q35 b39 x1_ b44 b48 hTb39 hTb44 hTb48 hq51) lk_X10_287 rfl hTb39 (by decide) rfl (by decide) (by decide) rfl rfl (Nat.le_of_ble_eq_true rfl) dX10_triedScore_51 ?_
  refine u_aload_n hC dX10_triedScore_54 0 rfl rfl ?_
  refine u_gr hC lf_X10_40 rfl hTa0 dX10_triedScore_55 hf (fun b55 hTb55 hf => ?_)
  refine u_gi hC lf_X10_166 rfl hTb55 dX10_triedScore_58 hf (fun x58 hf => ?_)
  cases hf
  exact hR _ _ dX10_triedScore_61 trivial
theorem ctX10_triedScore (l : Launch) (hl : l.stackTraces = false) (G : GT) (ρ : Nat → Nat) (Y : XS) (n : Nat) (S : PS) (a0 : Nat) (x1_ : Int32) (x2_ : Int32) (x3_ : Int32) (x4_ : Int32) (hTa0 : Ty Y a0 10) {o : Int32 × PS} (hf : fX10_triedScore Y n S a0 x1_ x2_ x3_ x4_ = some o) : Mt l G yX10_triedScore cX10_triedScore 5 (some .int) 6 ρ Y [.ref (ρ a0), .int x1_, .int x2_, .int x3_, .int x4_] S (some (.int o.1)) o.2 :=
  Mt_of hl (by decide) (Nat.le_of_ble_eq_true rfl) (fun C _ _ hC hR => wX10_triedScore (X := (ρ, Y, 0, 0)) hC n S a0 x1_ x2_ x3_ x4_ hTa0 hf hR)
-- X10_tried
theorem dX10_tried_0 : decode cX10_tried 0 = .ok (.aload_n 0, 1) := by decide +kernel
theorem dX10_tried_1 : decode cX10_tried 1 = .ok (.getfield 47, 3) := by decide +kernel
theorem dX10_tried_4 : decode cX10_tried 4 = .ok (.iload_n 1, 1) := by decide +kernel
theorem dX10_tried_5 : decode cX10_tried 5 = .ok (.aload_n 0, 1) := by decide +kernel
theorem dX10_tried_6 : decode cX10_tried 6 = .ok (.getfield 36, 3) := by decide +kernel
theorem dX10_tried_9 : decode cX10_tried 9 = .ok (.aload_n 0, 1) := by decide +kernel
theorem dX10_tried_10 : decode cX10_tried 10 = .ok (.getfield 40, 3) := by decide +kernel
theorem dX10_tried_13 : decode cX10_tried 13 = .ok (.invokevirtual 287, 3) := by decide +kernel
theorem dX10_tried_16 : decode cX10_tried 16 = .ok (.aload_n 0, 1) := by decide +kernel
theorem dX10_tried_17 : decode cX10_tried 17 = .ok (.getfield 40, 3) := by decide +kernel
theorem dX10_tried_20 : decode cX10_tried 20 = .ok (.getfield 166, 3) := by decide +kernel
theorem dX10_tried_23 : decode cX10_tried 23 = .ok (.ireturn, 1) := by decide +kernel
def fX10_tried (Y : XS) (n : Nat) (S : PS) (a0 : Nat) (x1_ : Int32) : Option (Int32 × PS) :=
  kgr S a0 7 (fun b1 => kgr S a0 5 (fun b6 => kgr S a0 6 (fun b10 => kc (fX0_choose Y n S b1 x1_ b6 b10) (fun q13 => kgr q13 a0 6 (fun b17 => kgi q13 b17 2 (fun x20 => some (x20, q13)))))))
theorem wX10_tried {C : CT} {X : XT} (hC : CK C RX10 cX10_tried 2 (some .int) 6) (n : Nat) (S : PS) (a0 : Nat) (x1_ : Int32) (hTa0 : Ty X.2.1 a0 10) {o : Int32 × PS} (hf : fX10_tried X.2.1 n S a0 x1_ = some o) (hR : Rt C X cX10_tried (some .int) (some (.int o.1)) o.2) : UW C X S 0 [(0, .ref (X.1 a0)), (1, .int x1_)] [] := by
  unfold fX10_tried at hf
  refine u_aload_n hC dX10_tried_0 0 rfl rfl ?_
  refine u_gr hC lf_X10_47 rfl hTa0 dX10_tried_1 hf (fun b1 hTb1 hf => ?_)
  refine u_iload_n hC dX10_tried_4 1 rfl rfl ?_
  refine u_aload_n hC dX10_tried_5 0 rfl rfl ?_
  refine u_gr hC lf_X10_36 rfl hTa0 dX10_tried_6 hf (fun b6 hTb6 hf => ?_)
  refine u_aload_n hC dX10_tried_9 0 rfl rfl ?_
  refine u_gr hC lf_X10_40 rfl hTa0 dX10_tried_10 hf (fun b10 hTb10 hf => ?_)
  obtain ⟨q13, hq13, hf⟩ := kc_some hf
  refine u_callV hC (ctX0_choose (cL C) hC.tr (cG C) X.1 X.2.1 n S b1 x1_ b6 b10 hTb1 hTb6 hTb10 hq13) lk_X10_287 rfl hTb1 (by decide) rfl (by decide) (by decide) rfl rfl (Nat.le_of_ble_eq_true rfl) dX10_tried_13 ?_
  refine u_aload_n hC dX10_tried_16 0 rfl rfl ?_
  refine u_gr hC lf_X10_40 rfl hTa0 dX10_tried_17 hf (fun b17 hTb17 hf => ?_)
  refine u_gi hC lf_X10_166 rfl hTb17 dX10_tried_20 hf (fun x20 hf => ?_)
  cases hf
  exact hR _ _ dX10_tried_23 trivial
theorem ctX10_tried (l : Launch) (hl : l.stackTraces = false) (G : GT) (ρ : Nat → Nat) (Y : XS) (n : Nat) (S : PS) (a0 : Nat) (x1_ : Int32) (hTa0 : Ty Y a0 10) {o : Int32 × PS} (hf : fX10_tried Y n S a0 x1_ = some o) : Mt l G yX10_tried cX10_tried 2 (some .int) 6 ρ Y [.ref (ρ a0), .int x1_] S (some (.int o.1)) o.2 :=
  Mt_of hl (by decide) (Nat.le_of_ble_eq_true rfl) (fun C _ _ hC hR => wX10_tried (X := (ρ, Y, 0, 0)) hC n S a0 x1_ hTa0 hf hR)
-- X10_undo
theorem dX10_undo_0 : decode cX10_undo 0 = .ok (.aload_n 0, 1) := by decide +kernel
theorem dX10_undo_1 : decode cX10_undo 1 = .ok (.getfield 61, 3) := by decide +kernel
theorem dX10_undo_4 : decode cX10_undo 4 = .ok (.getfield 111, 3) := by decide +kernel
theorem dX10_undo_7 : decode cX10_undo 7 = .ok (.ifCond .ne 5, 3) := by decide +kernel
theorem dX10_undo_10 : decode cX10_undo 10 = .ok (.iconst (-1), 1) := by decide +kernel
theorem dX10_undo_11 : decode cX10_undo 11 = .ok (.ireturn, 1) := by decide +kernel
theorem dX10_undo_12 : decode cX10_undo 12 = .ok (.aload_n 0, 1) := by decide +kernel
theorem dX10_undo_13 : decode cX10_undo 13 = .ok (.getfield 61, 3) := by decide +kernel
theorem dX10_undo_16 : decode cX10_undo 16 = .ok (.aload_n 0, 1) := by decide +kernel
theorem dX10_undo_17 : decode cX10_undo 17 = .ok (.getfield 23, 3) := by decide +kernel
theorem dX10_undo_20 : decode cX10_undo 20 = .ok (.getfield 104, 3) := by decide +kernel
theorem dX10_undo_23 : decode cX10_undo 23 = .ok (.invokevirtual 300, 3) := by decide +kernel
theorem dX10_undo_26 : decode cX10_undo 26 = .ok (.aload_n 0, 1) := by decide +kernel
theorem dX10_undo_27 : decode cX10_undo 27 = .ok (.invokevirtual 294, 3) := by decide +kernel
theorem dX10_undo_30 : decode cX10_undo 30 = .ok (.aload_n 0, 1) := by decide +kernel
theorem dX10_undo_31 : decode cX10_undo 31 = .ok (.getfield 61, 3) := by decide +kernel
theorem dX10_undo_34 : decode cX10_undo 34 = .ok (.getfield 111, 3) := by decide +kernel
theorem dX10_undo_37 : decode cX10_undo 37 = .ok (.ireturn, 1) := by decide +kernel
def fX10_undo (Y : XS) (n : Nat) (S : PS) (a0 : Nat) : Option (Int32 × PS) :=
  kgr S a0 9 (fun b1 => kgi S b1 2 (fun x4 => (if x4 = 0 then some ((-1 : Int32), S) else kgr S a0 9 (fun b13 => kgr S a0 2 (fun b17 => kgr S b17 0 (fun b20 => kc (fX3_giveBack Y n S b13 b20) (fun q23 => kc (fX10_refresh Y n q23 a0) (fun q27 => kgr q27 a0 9 (fun b31 => kgi q27 b31 2 (fun x34 => some (x34, q27)))))))))))
theorem wX10_undo {C : CT} {X : XT} (hC : CK C RX10 cX10_undo 1 (some .int) 7) (n : Nat) (S : PS) (a0 : Nat) (hTa0 : Ty X.2.1 a0 10) {o : Int32 × PS} (hf : fX10_undo X.2.1 n S a0 = some o) (hR : Rt C X cX10_undo (some .int) (some (.int o.1)) o.2) : UW C X S 0 [(0, .ref (X.1 a0))] [] := by
  unfold fX10_undo at hf
  refine u_aload_n hC dX10_undo_0 0 rfl rfl ?_
  refine u_gr hC lf_X10_61 rfl hTa0 dX10_undo_1 hf (fun b1 hTb1 hf => ?_)
  refine u_gi hC lf_X10_111 rfl hTb1 dX10_undo_4 hf (fun x4 hf => ?_)
  refine u_if_ne (tgt := 12) hC dX10_undo_7 (by decide) hf (fun h7 hf => ?_) (fun h7 hf => ?_)
  · refine u_aload_n hC dX10_undo_12 0 rfl rfl ?_
    refine u_gr hC lf_X10_61 rfl hTa0 dX10_undo_13 hf (fun b13 hTb13 hf => ?_)
    refine u_aload_n hC dX10_undo_16 0 rfl rfl ?_
    refine u_gr hC lf_X10_23 rfl hTa0 dX10_undo_17 hf (fun b17 hTb17 hf => ?_)
    refine u_gr hC lf_X10_104 rfl hTb17 dX10_undo_20 hf (fun b20 hTb20 hf => ?_)
    obtain ⟨q23, hq23, hf⟩ := kc_some hf
    refine u_callV hC (ctX3_giveBack (cL C) hC.tr (cG C) X.1 X.2.1 n S b13 b20 hTb13 hTb20 hq23) lk_X10_300 rfl hTb13 (by decide) rfl (by decide) (by decide) rfl rfl (Nat.le_of_ble_eq_true rfl) dX10_undo_23 ?_
    refine u_aload_n hC dX10_undo_26 0 rfl rfl ?_
    obtain ⟨q27, hq27, hf⟩ := kc_some hf
    refine u_callV hC (ctX10_refresh (cL C) hC.tr (cG C) X.1 X.2.1 n q23 a0 hTa0 hq27) lk_X10_294 rfl hTa0 (by decide) rfl (by decide) (by decide) rfl rfl (Nat.le_of_ble_eq_true rfl) dX10_undo_27 ?_
    refine u_aload_n hC dX10_undo_30 0 rfl rfl ?_
    refine u_gr hC lf_X10_61 rfl hTa0 dX10_undo_31 hf (fun b31 hTb31 hf => ?_)
    refine u_gi hC lf_X10_111 rfl hTb31 dX10_undo_34 hf (fun x34 hf => ?_)
    cases hf
    exact hR _ _ dX10_undo_37 trivial
  · refine u_iconst (v := (-1 : Int32)) hC dX10_undo_10 (by decide) ?_
    cases hf
    exact hR _ _ dX10_undo_11 trivial
theorem ctX10_undo (l : Launch) (hl : l.stackTraces = false) (G : GT) (ρ : Nat → Nat) (Y : XS) (n : Nat) (S : PS) (a0 : Nat) (hTa0 : Ty Y a0 10) {o : Int32 × PS} (hf : fX10_undo Y n S a0 = some o) : Mt l G yX10_undo cX10_undo 1 (some .int) 7 ρ Y [.ref (ρ a0)] S (some (.int o.1)) o.2 :=
  Mt_of hl (by decide) (Nat.le_of_ble_eq_true rfl) (fun C _ _ hC hR => wX10_undo (X := (ρ, Y, 0, 0)) hC n S a0 hTa0 hf hR)
-- X10_image
theorem dX10_image_0 : decode cX10_image 0 = .ok (.aload_n 0, 1) := by decide +kernel
theorem dX10_image_1 : decode cX10_image 1 = .ok (.getfield 68, 3) := by decide +kernel
theorem dX10_image_4 : decode cX10_image 4 = .ok (.aload_n 0, 1) := by decide +kernel
theorem dX10_image_5 : decode cX10_image 5 = .ok (.getfield 23, 3) := by decide +kernel
theorem dX10_image_8 : decode cX10_image 8 = .ok (.getfield 104, 3) := by decide +kernel
theorem dX10_image_11 : decode cX10_image 11 = .ok (.invokevirtual 108, 3) := by decide +kernel
theorem dX10_image_14 : decode cX10_image 14 = .ok (.aload_n 0, 1) := by decide +kernel
theorem dX10_image_15 : decode cX10_image 15 = .ok (.iconst 1, 1) := by decide +kernel
theorem dX10_image_16 : decode cX10_image 16 = .ok (.putfield 72, 3) := by decide +kernel
theorem dX10_image_19 : decode cX10_image 19 = .ok (.return_, 1) := by decide +kernel
def fX10_image (Y : XS) (n : Nat) (S : PS) (a0 : Nat) : Option (PS) :=
  kgr S a0 10 (fun b1 => kgr S a0 2 (fun b5 => kgr S b5 0 (fun b8 => kc (fX1_copyFrom Y n S b1 b8) (fun q11 => kpz q11 a0 11 (1 : Int32) (fun S16 => some S16)))))
theorem wX10_image {C : CT} {X : XT} (hC : CK C RX10 cX10_image 1 none 2) (n : Nat) (S : PS) (a0 : Nat) (hTa0 : Ty X.2.1 a0 10) {o : PS} (hf : fX10_image X.2.1 n S a0 = some o) (hR : Rt C X cX10_image none none o) : UW C X S 0 [(0, .ref (X.1 a0))] [] := by
  unfold fX10_image at hf
  refine u_aload_n hC dX10_image_0 0 rfl rfl ?_
  refine u_gr hC lf_X10_68 rfl hTa0 dX10_image_1 hf (fun b1 hTb1 hf => ?_)
  refine u_aload_n hC dX10_image_4 0 rfl rfl ?_
  refine u_gr hC lf_X10_23 rfl hTa0 dX10_image_5 hf (fun b5 hTb5 hf => ?_)
  refine u_gr hC lf_X10_104 rfl hTb5 dX10_image_8 hf (fun b8 hTb8 hf => ?_)
  obtain ⟨q11, hq11, hf⟩ := kc_some hf
  refine u_callV hC (ctX1_copyFrom (cL C) hC.tr (cG C) X.1 X.2.1 n S b1 b8 hTb1 hTb8 hq11) lk_X10_108 rfl hTb1 (by decide) rfl (by decide) (by decide) rfl rfl (Nat.le_of_ble_eq_true rfl) dX10_image_11 ?_
  refine u_aload_n hC dX10_image_14 0 rfl rfl ?_
  refine u_iconst (v := (1 : Int32)) hC dX10_image_15 (by decide) ?_
  refine u_pz hC lf_X10_72 rfl rfl rfl hTa0 dX10_image_16 hf (fun S16 hf => ?_)
  cases hf
  exact hR _ _ dX10_image_19 trivial
theorem ctX10_image (l : Launch) (hl : l.stackTraces = false) (G : GT) (ρ : Nat → Nat) (Y : XS) (n : Nat) (S : PS) (a0 : Nat) (hTa0 : Ty Y a0 10) {o : PS} (hf : fX10_image Y n S a0 = some o) : Mt l G yX10_image cX10_image 1 none 2 ρ Y [.ref (ρ a0)] S none o :=
  Mt_of hl (by decide) (Nat.le_of_ble_eq_true rfl) (fun C _ _ hC hR => wX10_image (X := (ρ, Y, 0, 0)) hC n S a0 hTa0 hf hR)
-- X10_back
theorem dX10_back_0 : decode cX10_back 0 = .ok (.aload_n 0, 1) := by decide +kernel
theorem dX10_back_1 : decode cX10_back 1 = .ok (.getfield 72, 3) := by decide +kernel
theorem dX10_back_4 : decode cX10_back 4 = .ok (.ifCond .ne 5, 3) := by decide +kernel
theorem dX10_back_7 : decode cX10_back 7 = .ok (.iconst 0, 1) := by decide +kernel
theorem dX10_back_8 : decode cX10_back 8 = .ok (.ireturn, 1) := by decide +kernel
theorem dX10_back_9 : decode cX10_back 9 = .ok (.aload_n 0, 1) := by decide +kernel
theorem dX10_back_10 : decode cX10_back 10 = .ok (.aload_n 0, 1) := by decide +kernel
theorem dX10_back_11 : decode cX10_back 11 = .ok (.getfield 68, 3) := by decide +kernel
theorem dX10_back_14 : decode cX10_back 14 = .ok (.invokevirtual 100, 3) := by decide +kernel
theorem dX10_back_17 : decode cX10_back 17 = .ok (.iconst 1, 1) := by decide +kernel
theorem dX10_back_18 : decode cX10_back 18 = .ok (.ireturn, 1) := by decide +kernel
def fX10_back (Y : XS) (n : Nat) (S : PS) (a0 : Nat) : Option (Int32 × PS) :=
  kgi S a0 11 (fun x1 => (if x1 = 0 then kzr (0 : Int32) (some ((0 : Int32), S)) else kgr S a0 10 (fun b11 => kc (fX10_startFrom Y n S a0 b11) (fun q14 => kzr (1 : Int32) (some ((1 : Int32), q14))))))
theorem wX10_back {C : CT} {X : XT} (hC : CK C RX10 cX10_back 1 (some .boolean) 7) (n : Nat) (S : PS) (a0 : Nat) (hTa0 : Ty X.2.1 a0 10) {o : Int32 × PS} (hf : fX10_back X.2.1 n S a0 = some o) (hR : Rt C X cX10_back (some .boolean) (some (.int o.1)) o.2) : UW C X S 0 [(0, .ref (X.1 a0))] [] := by
  unfold fX10_back at hf
  refine u_aload_n hC dX10_back_0 0 rfl rfl ?_
  refine u_gi hC lf_X10_72 rfl hTa0 dX10_back_1 hf (fun x1 hf => ?_)
  refine u_if_ne (tgt := 9) hC dX10_back_4 (by decide) hf (fun h4 hf => ?_) (fun h4 hf => ?_)
  · refine u_aload_n hC dX10_back_9 0 rfl rfl ?_
    refine u_aload_n hC dX10_back_10 0 rfl rfl ?_
    refine u_gr hC lf_X10_68 rfl hTa0 dX10_back_11 hf (fun b11 hTb11 hf => ?_)
    obtain ⟨q14, hq14, hf⟩ := kc_some hf
    refine u_callV hC (ctX10_startFrom (cL C) hC.tr (cG C) X.1 X.2.1 n S a0 b11 hTa0 hTb11 hq14) lk_X10_100 rfl hTa0 (by decide) rfl (by decide) (by decide) rfl rfl (Nat.le_of_ble_eq_true rfl) dX10_back_14 ?_
    refine u_iconst (v := (1 : Int32)) hC dX10_back_17 (by decide) ?_
    obtain ⟨hz, hf⟩ := kzr_some hf
    cases hf
    exact hR _ _ dX10_back_18 hz
  · refine u_iconst (v := (0 : Int32)) hC dX10_back_7 (by decide) ?_
    obtain ⟨hz, hf⟩ := kzr_some hf
    cases hf
    exact hR _ _ dX10_back_8 hz
theorem ctX10_back (l : Launch) (hl : l.stackTraces = false) (G : GT) (ρ : Nat → Nat) (Y : XS) (n : Nat) (S : PS) (a0 : Nat) (hTa0 : Ty Y a0 10) {o : Int32 × PS} (hf : fX10_back Y n S a0 = some o) : Mt l G yX10_back cX10_back 1 (some .boolean) 7 ρ Y [.ref (ρ a0)] S (some (.int o.1)) o.2 :=
  Mt_of hl (by decide) (Nat.le_of_ble_eq_true rfl) (fun C _ _ hC hR => wX10_back (X := (ρ, Y, 0, 0)) hC n S a0 hTa0 hf hR)
-- X10_isKnown
theorem dX10_isKnown_0 : decode cX10_isKnown 0 = .ok (.aload_n 0, 1) := by decide +kernel
theorem dX10_isKnown_1 : decode cX10_isKnown 1 = .ok (.getfield 33, 3) := by decide +kernel
theorem dX10_isKnown_4 : decode cX10_isKnown 4 = .ok (.iload_n 1, 1) := by decide +kernel
theorem dX10_isKnown_5 : decode cX10_isKnown 5 = .ok (.ishr, 1) := by decide +kernel
theorem dX10_isKnown_6 : decode cX10_isKnown 6 = .ok (.iconst 1, 1) := by decide +kernel
theorem dX10_isKnown_7 : decode cX10_isKnown 7 = .ok (.iand, 1) := by decide +kernel
theorem dX10_isKnown_8 : decode cX10_isKnown 8 = .ok (.ifCond .eq 7, 3) := by decide +kernel
theorem dX10_isKnown_11 : decode cX10_isKnown 11 = .ok (.iconst 1, 1) := by decide +kernel
theorem dX10_isKnown_12 : decode cX10_isKnown 12 = .ok (.goto 4, 3) := by decide +kernel
theorem dX10_isKnown_15 : decode cX10_isKnown 15 = .ok (.iconst 0, 1) := by decide +kernel
theorem dX10_isKnown_16 : decode cX10_isKnown 16 = .ok (.ireturn, 1) := by decide +kernel
def jX10_isKnown_16 (Y : XS) (n : Nat) (S : PS) (t0 : Int32) : Option (Int32) :=
  kzr t0 (some t0)
def fX10_isKnown (Y : XS) (n : Nat) (S : PS) (a0 : Nat) (x1_ : Int32) : Option (Int32) :=
  kgi S a0 4 (fun x1 => (if ((x1 >>> (x1_ &&& 31)) &&& (1 : Int32)) = 0 then jX10_isKnown_16 Y n S (0 : Int32) else jX10_isKnown_16 Y n S (1 : Int32)))
theorem wjX10_isKnown_16 {C : CT} {X : XT} (hC : CK C RX10 cX10_isKnown 2 (some .boolean) 1) (n : Nat) (S : PS) (t0 : Int32)   {o : Int32} (hf : jX10_isKnown_16 X.2.1 n S t0 = some o) (hR : Rt C X cX10_isKnown (some .boolean) (some (.int o)) S) : UW C X S 16 [] [.int t0] := by
  unfold jX10_isKnown_16 at hf
  obtain ⟨hz, hf⟩ := kzr_some hf
  cases hf
  exact hR _ _ dX10_isKnown_16 hz
theorem wX10_isKnown {C : CT} {X : XT} (hC : CK C RX10 cX10_isKnown 2 (some .boolean) 1) (n : Nat) (S : PS) (a0 : Nat) (x1_ : Int32) (hTa0 : Ty X.2.1 a0 10) {o : Int32} (hf : fX10_isKnown X.2.1 n S a0 x1_ = some o) (hR : Rt C X cX10_isKnown (some .boolean) (some (.int o)) S) : UW C X S 0 [(0, .ref (X.1 a0)), (1, .int x1_)] [] := by
  unfold fX10_isKnown at hf
  refine u_aload_n hC dX10_isKnown_0 0 rfl rfl ?_
  refine u_gi hC lf_X10_33 rfl hTa0 dX10_isKnown_1 hf (fun x1 hf => ?_)
  refine u_iload_n hC dX10_isKnown_4 1 rfl rfl ?_
  refine u_ishr hC dX10_isKnown_5 ?_
  refine u_iconst (v := (1 : Int32)) hC dX10_isKnown_6 (by decide) ?_
  refine u_iand hC dX10_isKnown_7 ?_
  refine u_if_eq (tgt := 15) hC dX10_isKnown_8 (by decide) hf (fun h8 hf => ?_) (fun h8 hf => ?_)
  · refine u_iconst (v := (0 : Int32)) hC dX10_isKnown_15 (by decide) ?_
    refine u_sub (lv' := []) [] rfl ?_
    exact wjX10_isKnown_16 hC n S (0 : Int32)   hf hR
  · refine u_iconst (v := (1 : Int32)) hC dX10_isKnown_11 (by decide) ?_
    refine u_goto (tgt := 16) hC dX10_isKnown_12 (by decide) ?_
    refine u_sub (lv' := []) [] rfl ?_
    exact wjX10_isKnown_16 hC n S (1 : Int32)   hf hR
theorem ctX10_isKnown (l : Launch) (hl : l.stackTraces = false) (G : GT) (ρ : Nat → Nat) (Y : XS) (n : Nat) (S : PS) (a0 : Nat) (x1_ : Int32) (hTa0 : Ty Y a0 10) {o : Int32} (hf : fX10_isKnown Y n S a0 x1_ = some o) : Mt l G yX10_isKnown cX10_isKnown 2 (some .boolean) 1 ρ Y [.ref (ρ a0), .int x1_] S (some (.int o)) S :=
  Mt_of hl (by decide) (Nat.le_of_ble_eq_true rfl) (fun C _ _ hC hR => wX10_isKnown (X := (ρ, Y, 0, 0)) hC n S a0 x1_ hTa0 hf hR)
-- X10_result
theorem dX10_result_0 : decode cX10_result 0 = .ok (.aload_n 0, 1) := by decide +kernel
theorem dX10_result_1 : decode cX10_result 1 = .ok (.getfield 29, 3) := by decide +kernel
theorem dX10_result_4 : decode cX10_result 4 = .ok (.iload_n 1, 1) := by decide +kernel
theorem dX10_result_5 : decode cX10_result 5 = .ok (.aaload, 1) := by decide +kernel
theorem dX10_result_6 : decode cX10_result 6 = .ok (.astore_n 2, 1) := by decide +kernel
theorem dX10_result_7 : decode cX10_result 7 = .ok (.iload_n 1, 1) := by decide +kernel
theorem dX10_result_8 : decode cX10_result 8 = .ok (.iconst 1, 1) := by decide +kernel
theorem dX10_result_9 : decode cX10_result 9 = .ok (.if_icmp .eq 8, 3) := by decide +kernel
theorem dX10_result_12 : decode cX10_result 12 = .ok (.iload_n 1, 1) := by decide +kernel
theorem dX10_result_13 : decode cX10_result 13 = .ok (.iconst 3, 1) := by decide +kernel
theorem dX10_result_14 : decode cX10_result 14 = .ok (.if_icmp .ne 9, 3) := by decide +kernel
theorem dX10_result_17 : decode cX10_result 17 = .ok (.iload_n 1, 1) := by decide +kernel
theorem dX10_result_18 : decode cX10_result 18 = .ok (.iconst 1, 1) := by decide +kernel
theorem dX10_result_19 : decode cX10_result 19 = .ok (.isub, 1) := by decide +kernel
theorem dX10_result_20 : decode cX10_result 20 = .ok (.goto 4, 3) := by decide +kernel
theorem dX10_result_23 : decode cX10_result 23 = .ok (.iload_n 1, 1) := by decide +kernel
theorem dX10_result_24 : decode cX10_result 24 = .ok (.istore_n 3, 1) := by decide +kernel
theorem dX10_result_25 : decode cX10_result 25 = .ok (.aload_n 0, 1) := by decide +kernel
theorem dX10_result_26 : decode cX10_result 26 = .ok (.iload_n 3, 1) := by decide +kernel
theorem dX10_result_27 : decode cX10_result 27 = .ok (.invokevirtual 303, 3) := by decide +kernel
theorem dX10_result_30 : decode cX10_result 30 = .ok (.ifCond .ne 33, 3) := by decide +kernel
theorem dX10_result_33 : decode cX10_result 33 = .ok (.aload_n 0, 1) := by decide +kernel
theorem dX10_result_34 : decode cX10_result 34 = .ok (.getfield 47, 3) := by decide +kernel
theorem dX10_result_37 : decode cX10_result 37 = .ok (.iload_n 3, 1) := by decide +kernel
theorem dX10_result_38 : decode cX10_result 38 = .ok (.aload_n 0, 1) := by decide +kernel
theorem dX10_result_39 : decode cX10_result 39 = .ok (.getfield 23, 3) := by decide +kernel
theorem dX10_result_42 : decode cX10_result 42 = .ok (.aload_n 0, 1) := by decide +kernel
theorem dX10_result_43 : decode cX10_result 43 = .ok (.getfield 29, 3) := by decide +kernel
theorem dX10_result_46 : decode cX10_result 46 = .ok (.iload_n 3, 1) := by decide +kernel
theorem dX10_result_47 : decode cX10_result 47 = .ok (.aaload, 1) := by decide +kernel
theorem dX10_result_48 : decode cX10_result 48 = .ok (.invokevirtual 287, 3) := by decide +kernel
theorem dX10_result_51 : decode cX10_result 51 = .ok (.aload_n 0, 1) := by decide +kernel
theorem dX10_result_52 : decode cX10_result 52 = .ok (.dup, 1) := by decide +kernel
theorem dX10_result_53 : decode cX10_result 53 = .ok (.getfield 33, 3) := by decide +kernel
theorem dX10_result_56 : decode cX10_result 56 = .ok (.iconst 1, 1) := by decide +kernel
theorem dX10_result_57 : decode cX10_result 57 = .ok (.iload_n 3, 1) := by decide +kernel
theorem dX10_result_58 : decode cX10_result 58 = .ok (.ishl, 1) := by decide +kernel
theorem dX10_result_59 : decode cX10_result 59 = .ok (.ior, 1) := by decide +kernel
theorem dX10_result_60 : decode cX10_result 60 = .ok (.putfield 33, 3) := by decide +kernel
theorem dX10_result_63 : decode cX10_result 63 = .ok (.aload_n 0, 1) := by decide +kernel
theorem dX10_result_64 : decode cX10_result 64 = .ok (.iload_n 1, 1) := by decide +kernel
theorem dX10_result_65 : decode cX10_result 65 = .ok (.invokevirtual 303, 3) := by decide +kernel
theorem dX10_result_68 : decode cX10_result 68 = .ok (.ifCond .ne 38, 3) := by decide +kernel
theorem dX10_result_71 : decode cX10_result 71 = .ok (.aload_n 2, 1) := by decide +kernel
theorem dX10_result_72 : decode cX10_result 72 = .ok (.aload_n 0, 1) := by decide +kernel
theorem dX10_result_73 : decode cX10_result 73 = .ok (.getfield 29, 3) := by decide +kernel
theorem dX10_result_76 : decode cX10_result 76 = .ok (.iload_n 3, 1) := by decide +kernel
theorem dX10_result_77 : decode cX10_result 77 = .ok (.aaload, 1) := by decide +kernel
theorem dX10_result_78 : decode cX10_result 78 = .ok (.invokevirtual 306, 3) := by decide +kernel
theorem dX10_result_81 : decode cX10_result 81 = .ok (.aload_n 0, 1) := by decide +kernel
theorem dX10_result_82 : decode cX10_result 82 = .ok (.getfield 47, 3) := by decide +kernel
theorem dX10_result_85 : decode cX10_result 85 = .ok (.aload_n 0, 1) := by decide +kernel
theorem dX10_result_86 : decode cX10_result 86 = .ok (.getfield 23, 3) := by decide +kernel
theorem dX10_result_89 : decode cX10_result 89 = .ok (.aload_n 2, 1) := by decide +kernel
theorem dX10_result_90 : decode cX10_result 90 = .ok (.iconst 0, 1) := by decide +kernel
theorem dX10_result_91 : decode cX10_result 91 = .ok (.invokevirtual 309, 3) := by decide +kernel
theorem dX10_result_94 : decode cX10_result 94 = .ok (.aload_n 0, 1) := by decide +kernel
theorem dX10_result_95 : decode cX10_result 95 = .ok (.dup, 1) := by decide +kernel
theorem dX10_result_96 : decode cX10_result 96 = .ok (.getfield 33, 3) := by decide +kernel
theorem dX10_result_99 : decode cX10_result 99 = .ok (.iconst 1, 1) := by decide +kernel
theorem dX10_result_100 : decode cX10_result 100 = .ok (.iload_n 1, 1) := by decide +kernel
theorem dX10_result_101 : decode cX10_result 101 = .ok (.ishl, 1) := by decide +kernel
theorem dX10_result_102 : decode cX10_result 102 = .ok (.ior, 1) := by decide +kernel
theorem dX10_result_103 : decode cX10_result 103 = .ok (.putfield 33, 3) := by decide +kernel
theorem dX10_result_106 : decode cX10_result 106 = .ok (.aload_n 2, 1) := by decide +kernel
theorem dX10_result_107 : decode cX10_result 107 = .ok (.areturn, 1) := by decide +kernel
def jX10_result_106 (Y : XS) (n : Nat) (S : PS) (v2 : Nat) : Option (Nat × PS) :=
  some (v2, S)
def jX10_result_63 (Y : XS) (n : Nat) (S : PS) (v0 : Nat) (v1 : Int32) (v2 : Nat) (v3 : Int32) : Option (Nat × PS) :=
  kc (fX10_isKnown Y n S v0 v1) (fun q65 => (if q65 = 0 then kgr S v0 3 (fun b73 => kar Y S b73 v3 (fun b77 => kc (fX5_copyFrom Y n S v2 b77) (fun q78 => kgr q78 v0 7 (fun b82 => kgr q78 v0 2 (fun b86 => kc (fX0_fillUp Y n q78 b82 b86 v2 (0 : Int32)) (fun q91 => kgi q91 v0 4 (fun x96 => kpi q91 v0 4 (x96 ||| ((1 : Int32) <<< (v1 &&& 31))) (fun S103 => jX10_result_106 Y n S103 v2)))))))) else jX10_result_106 Y n S v2))
def jX10_result_24 (Y : XS) (n : Nat) (S : PS) (v0 : Nat) (v1 : Int32) (v2 : Nat) (t0 : Int32) : Option (Nat × PS) :=
  kc (fX10_isKnown Y n S v0 t0) (fun q27 => (if q27 = 0 then kgr S v0 7 (fun b34 => kgr S v0 2 (fun b39 => kgr S v0 3 (fun b43 => kar Y S b43 t0 (fun b47 => kc (fX0_choose Y n S b34 t0 b39 b47) (fun q48 => kgi q48 v0 4 (fun x53 => kpi q48 v0 4 (x53 ||| ((1 : Int32) <<< (t0 &&& 31))) (fun S60 => jX10_result_63 Y n S60 v0 v1 v2 t0))))))) else jX10_result_63 Y n S v0 v1 v2 t0))
def jX10_result_17 (Y : XS) (n : Nat) (S : PS) (v0 : Nat) (v1 : Int32) (v2 : Nat) : Option (Nat × PS) :=
  jX10_result_24 Y n S v0 v1 v2 (v1 - (1 : Int32))
def fX10_result (Y : XS) (n : Nat) (S : PS) (a0 : Nat) (x1_ : Int32) : Option (Nat × PS) :=
  kgr S a0 3 (fun b1 => kar Y S b1 x1_ (fun b5 => (if x1_ = (1 : Int32) then jX10_result_17 Y n S a0 x1_ b5 else (if x1_ = (3 : Int32) then jX10_result_17 Y n S a0 x1_ b5 else jX10_result_24 Y n S a0 x1_ b5 x1_))))
theorem wjX10_result_106 {C : CT} {X : XT} (hC : CK C RX10 cX10_result 4 (some (.object "SharedPurse$Outcome")) 6) (n : Nat) (S : PS) (v2 : Nat)  (hTv2 : Ty X.2.1 v2 5) {o : Nat × PS} (hf : jX10_result_106 X.2.1 n S v2 = some o) (hR : Rt C X cX10_result (some (.object "SharedPurse$Outcome")) (some (.ref (X.1 o.1))) o.2) : UW C X S 106 [(2, .ref (X.1 v2))] [] := by
  unfold jX10_result_106 at hf
  refine u_aload_n hC dX10_result_106 0 rfl rfl ?_
  cases hf
  exact hR _ _ dX10_result_107 trivial
theorem wjX10_result_63 {C : CT} {X : XT} (hC : CK C RX10 cX10_result 4 (some (.object "SharedPurse$Outcome")) 6) (n : Nat) (S : PS) (v0 : Nat) (v1 : Int32) (v2 : Nat) (v3 : Int32)  (hTv0 : Ty X.2.1 v0 10) (hTv2 : Ty X.2.1 v2 5) {o : Nat × PS} (hf : jX10_result_63 X.2.1 n S v0 v1 v2 v3 = some o) (hR : Rt C X cX10_result (some (.object "SharedPurse$Outcome")) (some (.ref (X.1 o.1))) o.2) : UW C X S 63 [(0, .ref (X.1 v0)), (1, .int v1), (2, .ref (X.1 v2)), (3, .int v3)] [] := by
  unfold jX10_result_63 at hf
  refine u_aload_n hC dX10_result_63 0 rfl rfl ?_
  refine u_iload_n hC dX10_result_64 1 rfl rfl ?_
  obtain ⟨q65, hq65, hf⟩ := kc_some hf
  refine u_callV hC (ctX10_isKnown (cL C) hC.tr (cG C) X.1 X.2.1 n S v0 v1 hTv0 hq65) lk_X10_303 rfl hTv0 (by decide) rfl (by decide) (by decide) rfl rfl (Nat.le_of_ble_eq_true rfl) dX10_result_65 ?_
  refine u_if_ne (tgt := 106) hC dX10_result_68 (by decide) hf (fun h68 hf => ?_) (fun h68 hf => ?_)
  · refine u_sub (lv' := [(2, .ref (X.1 v2))]) [2] rfl ?_
    exact wjX10_result_106 hC n S v2  hTv2 hf hR
  · refine u_aload_n hC dX10_result_71 2 rfl rfl ?_
    refine u_aload_n hC dX10_result_72 0 rfl rfl ?_
    refine u_gr hC lf_X10_29 rfl hTv0 dX10_result_73 hf (fun b73 hTb73 hf => ?_)
    refine u_iload_n hC dX10_result_76 3 rfl rfl ?_
    refine u_ar hC (Or.inr ⟨rfl, rfl⟩) hTb73 dX10_result_77 hf (fun b77 hTb77 hf => ?_)
    obtain ⟨q78, hq78, hf⟩ := kc_some hf
    refine u_callV hC (ctX5_copyFrom (cL C) hC.tr (cG C) X.1 X.2.1 n S v2 b77 hTv2 hTb77 hq78) lk_X10_306 rfl hTv2 (by decide) rfl (by decide) (by decide) rfl rfl (Nat.le_of_ble_eq_true rfl) dX10_result_78 ?_
    refine u_aload_n hC dX10_result_81 0 rfl rfl ?_
    refine u_gr hC lf_X10_47 rfl hTv0 dX10_result_82 hf (fun b82 hTb82 hf => ?_)
    refine u_aload_n hC dX10_result_85 0 rfl rfl ?_
    refine u_gr hC lf_X10_23 rfl hTv0 dX10_result_86 hf (fun b86 hTb86 hf => ?_)
    refine u_aload_n hC dX10_result_89 2 rfl rfl ?_
    refine u_iconst (v := (0 : Int32)) hC dX10_result_90 (by decide) ?_
    obtain ⟨q91, hq91, hf⟩ := kc_some hf
    refine u_callV hC (ctX0_fillUp (cL C) hC.tr (cG C) X.1 X.2.1 n q78 b82 b86 v2 (0 : Int32) hTb82 hTb86 hTv2 hq91) lk_X10_309 rfl hTb82 (by decide) rfl (by decide) (by decide) rfl rfl (Nat.le_of_ble_eq_true rfl) dX10_result_91 ?_
    refine u_aload_n hC dX10_result_94 0 rfl rfl ?_
    refine u_dup hC dX10_result_95 rfl ?_
    refine u_gi hC lf_X10_33 rfl hTv0 dX10_result_96 hf (fun x96 hf => ?_)
    refine u_iconst (v := (1 : Int32)) hC dX10_result_99 (by decide) ?_
    refine u_iload_n hC dX10_result_100 1 rfl rfl ?_
    refine u_ishl hC dX10_result_101 ?_
    refine u_ior hC dX10_result_102 ?_
    refine u_pi hC lf_X10_33 rfl rfl rfl hTv0 dX10_result_103 hf (fun S103 hf => ?_)
    refine u_sub (lv' := [(2, .ref (X.1 v2))]) [2] rfl ?_
    exact wjX10_result_106 hC n S103 v2  hTv2 hf hR
theorem wjX10_result_24 {C : CT} {X : XT} (hC : CK C RX10 cX10_result 4 (some (.object "SharedPurse$Outcome")) 6) (n : Nat) (S : PS) (v0 : Nat) (v1 : Int32) (v2 : Nat) (t0 : Int32)  (hTv0 : Ty X.2.1 v0 10) (hTv2 : Ty X.2.1 v2 5) {o : Nat × PS} (hf : jX10_result_24 X.2.1 n S v0 v1 v2 t0 = some o) (hR : Rt C X cX10_result (some (.object "SharedPurse$Outcome")) (some (.ref (X.1 o.1))) o.2) : UW C X S 24 [(0, .ref (X.1 v0)), (1, .int v1), (2, .ref (X.1 v2))] [.int t0] := by
  unfold jX10_result_24 at hf
  refine u_istore_n (lv' := [(3, .int t0), (0, .ref (X.1 v0)), (1, .int v1), (2, .ref (X.1 v2))]) hC dX10_result_24 rfl (by decide) rfl ?_
  refine u_aload_n hC dX10_result_25 1 rfl rfl ?_
  refine u_iload_n hC dX10_result_26 0 rfl rfl ?_
  obtain ⟨q27, hq27, hf⟩ := kc_some hf
  refine u_callV hC (ctX10_isKnown (cL C) hC.tr (cG C) X.1 X.2.1 n S v0 t0 hTv0 hq27) lk_X10_303 rfl hTv0 (by decide) rfl (by decide) (by decide) rfl rfl (Nat.le_of_ble_eq_true rfl) dX10_result_27 ?_
  refine u_if_ne (tgt := 63) hC dX10_result_30 (by decide) hf (fun h30 hf => ?_) (fun h30 hf => ?_)
  · refine u_sub (lv' := [(0, .ref (X.1 v0)), (1, .int v1), (2, .ref (X.1 v2)), (3, .int t0)]) [1, 2, 3, 0] rfl ?_
    exact wjX10_result_63 hC n S v0 v1 v2 t0  hTv0 hTv2 hf hR
  · refine u_aload_n hC dX10_result_33 1 rfl rfl ?_
    refine u_gr hC lf_X10_47 rfl hTv0 dX10_result_34 hf (fun b34 hTb34 hf => ?_)
    refine u_iload_n hC dX10_result_37 0 rfl rfl ?_
    refine u_aload_n hC dX10_result_38 1 rfl rfl ?_
    refine u_gr hC lf_X10_23 rfl hTv0 dX10_result_39 hf (fun b39 hTb39 hf => ?_)
    refine u_aload_n hC dX10_result_42 1 rfl rfl ?_
    refine u_gr hC lf_X10_29 rfl hTv0 dX10_result_43 hf (fun b43 hTb43 hf => ?_)
    refine u_iload_n hC dX10_result_46 0 rfl rfl ?_
    refine u_ar hC (Or.inr ⟨rfl, rfl⟩) hTb43 dX10_result_47 hf (fun b47 hTb47 hf => ?_)
    obtain ⟨q48, hq48, hf⟩ := kc_some hf
    refine u_callV hC (ctX0_choose (cL C) hC.tr (cG C) X.1 X.2.1 n S b34 t0 b39 b47 hTb34 hTb39 hTb47 hq48) lk_X10_287 rfl hTb34 (by decide) rfl (by decide) (by decide) rfl rfl (Nat.le_of_ble_eq_true rfl) dX10_result_48 ?_
    refine u_aload_n hC dX10_result_51 1 rfl rfl ?_
    refine u_dup hC dX10_result_52 rfl ?_
    refine u_gi hC lf_X10_33 rfl hTv0 dX10_result_53 hf (fun x53 hf => ?_)
    refine u_iconst (v := (1 : Int32)) hC dX10_result_56 (by decide) ?_
    refine u_iload_n hC dX10_result_57 0 rfl rfl ?_
    refine u_ishl hC dX10_result_58 ?_
    refine u_ior hC dX10_result_59 ?_
    refine u_pi hC lf_X10_33 rfl rfl rfl hTv0 dX10_result_60 hf (fun S60 hf => ?_)
    refine u_sub (lv' := [(0, .ref (X.1 v0)), (1, .int v1), (2, .ref (X.1 v2)), (3, .int t0)]) [1, 2, 3, 0] rfl ?_
    exact wjX10_result_63 hC n S60 v0 v1 v2 t0  hTv0 hTv2 hf hR
theorem wjX10_result_17 {C : CT} {X : XT} (hC : CK C RX10 cX10_result 4 (some (.object "SharedPurse$Outcome")) 6) (n : Nat) (S : PS) (v0 : Nat) (v1 : Int32) (v2 : Nat)  (hTv0 : Ty X.2.1 v0 10) (hTv2 : Ty X.2.1 v2 5) {o : Nat × PS} (hf : jX10_result_17 X.2.1 n S v0 v1 v2 = some o) (hR : Rt C X cX10_result (some (.object "SharedPurse$Outcome")) (some (.ref (X.1 o.1))) o.2) : UW C X S 17 [(0, .ref (X.1 v0)), (1, .int v1), (2, .ref (X.1 v2))] [] := by
  unfold jX10_result_17 at hf
  refine u_iload_n hC dX10_result_17 1 rfl rfl ?_
  refine u_iconst (v := (1 : Int32)) hC dX10_result_18 (by decide) ?_
  refine u_isub hC dX10_result_19 ?_
  refine u_goto (tgt := 24) hC dX10_result_20 (by decide) ?_
  exact wjX10_result_24 hC n S v0 v1 v2 (v1 - (1 : Int32))  hTv0 hTv2 hf hR
theorem wX10_result {C : CT} {X : XT} (hC : CK C RX10 cX10_result 4 (some (.object "SharedPurse$Outcome")) 6) (n : Nat) (S : PS) (a0 : Nat) (x1_ : Int32) (hTa0 : Ty X.2.1 a0 10) {o : Nat × PS} (hf : fX10_result X.2.1 n S a0 x1_ = some o) (hR : Rt C X cX10_result (some (.object "SharedPurse$Outcome")) (some (.ref (X.1 o.1))) o.2) : UW C X S 0 [(0, .ref (X.1 a0)), (1, .int x1_)] [] := by
  unfold fX10_result at hf
  refine u_aload_n hC dX10_result_0 0 rfl rfl ?_
  refine u_gr hC lf_X10_29 rfl hTa0 dX10_result_1 hf (fun b1 hTb1 hf => ?_)
  refine u_iload_n hC dX10_result_4 1 rfl rfl ?_
  refine u_ar hC (Or.inr ⟨rfl, rfl⟩) hTb1 dX10_result_5 hf (fun b5 hTb5 hf => ?_)
  refine u_astore_n (lv' := [(2, .ref (X.1 b5)), (0, .ref (X.1 a0)), (1, .int x1_)]) hC dX10_result_6 rfl (by decide) rfl ?_
  refine u_iload_n hC dX10_result_7 2 rfl rfl ?_
  refine u_iconst (v := (1 : Int32)) hC dX10_result_8 (by decide) ?_
  refine u_icmp_eq (tgt := 17) hC dX10_result_9 (by decide) hf (fun h9 hf => ?_) (fun h9 hf => ?_)
  · refine u_sub (lv' := [(0, .ref (X.1 a0)), (1, .int x1_), (2, .ref (X.1 b5))]) [1, 2, 0] rfl ?_
    exact wjX10_result_17 hC n S a0 x1_ b5  hTa0 hTb5 hf hR
  · refine u_iload_n hC dX10_result_12 2 rfl rfl ?_
    refine u_iconst (v := (3 : Int32)) hC dX10_result_13 (by decide) ?_
    refine u_icmp_ne (tgt := 23) hC dX10_result_14 (by decide) hf (fun h14 hf => ?_) (fun h14 hf => ?_)
    · refine u_iload_n hC dX10_result_23 2 rfl rfl ?_
      refine u_sub (lv' := [(0, .ref (X.1 a0)), (1, .int x1_), (2, .ref (X.1 b5))]) [1, 2, 0] rfl ?_
      exact wjX10_result_24 hC n S a0 x1_ b5 x1_  hTa0 hTb5 hf hR
    · refine u_sub (lv' := [(0, .ref (X.1 a0)), (1, .int x1_), (2, .ref (X.1 b5))]) [1, 2, 0] rfl ?_
      exact wjX10_result_17 hC n S a0 x1_ b5  hTa0 hTb5 hf hR
theorem ctX10_result (l : Launch) (hl : l.stackTraces = false) (G : GT) (ρ : Nat → Nat) (Y : XS) (n : Nat) (S : PS) (a0 : Nat) (x1_ : Int32) (hTa0 : Ty Y a0 10) {o : Nat × PS} (hf : fX10_result Y n S a0 x1_ = some o) : Mt l G yX10_result cX10_result 4 (some (.object "SharedPurse$Outcome")) 6 ρ Y [.ref (ρ a0), .int x1_] S (some (.ref (ρ o.1))) o.2 :=
  Mt_of hl (by decide) (Nat.le_of_ble_eq_true rfl) (fun C _ _ hC hR => wX10_result (X := (ρ, Y, 0, 0)) hC n S a0 x1_ hTa0 hf hR)
