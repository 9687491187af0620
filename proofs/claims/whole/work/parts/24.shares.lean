-- X9_purseOf
theorem dX9_purseOf_0 : decode cX9_purseOf 0 = .ok (.aload_n 0, 1) := by decide +kernel
theorem dX9_purseOf_1 : decode cX9_purseOf 1 = .ok (.getfield 18, 3) := by decide +kernel
theorem dX9_purseOf_4 : decode cX9_purseOf 4 = .ok (.getfield 68, 3) := by decide +kernel
theorem dX9_purseOf_7 : decode cX9_purseOf 7 = .ok (.istore_n 2, 1) := by decide +kernel
theorem dX9_purseOf_8 : decode cX9_purseOf 8 = .ok (.iload_n 2, 1) := by decide +kernel
theorem dX9_purseOf_9 : decode cX9_purseOf 9 = .ok (.ifCond .le 25, 3) := by decide +kernel
theorem dX9_purseOf_12 : decode cX9_purseOf 12 = .ok (.aload_n 0, 1) := by decide +kernel
theorem dX9_purseOf_13 : decode cX9_purseOf 13 = .ok (.getfield 18, 3) := by decide +kernel
theorem dX9_purseOf_16 : decode cX9_purseOf 16 = .ok (.getfield 57, 3) := by decide +kernel
theorem dX9_purseOf_19 : decode cX9_purseOf 19 = .ok (.sipush 1000, 3) := by decide +kernel
theorem dX9_purseOf_22 : decode cX9_purseOf 22 = .ok (.imul, 1) := by decide +kernel
theorem dX9_purseOf_23 : decode cX9_purseOf 23 = .ok (.iload_n 2, 1) := by decide +kernel
theorem dX9_purseOf_24 : decode cX9_purseOf 24 = .ok (.idiv, 1) := by decide +kernel
theorem dX9_purseOf_25 : decode cX9_purseOf 25 = .ok (.iload_n 1, 1) := by decide +kernel
theorem dX9_purseOf_26 : decode cX9_purseOf 26 = .ok (.sipush 1000, 3) := by decide +kernel
theorem dX9_purseOf_29 : decode cX9_purseOf 29 = .ok (.imul, 1) := by decide +kernel
theorem dX9_purseOf_30 : decode cX9_purseOf 30 = .ok (.iadd, 1) := by decide +kernel
theorem dX9_purseOf_31 : decode cX9_purseOf 31 = .ok (.goto 4, 3) := by decide +kernel
theorem dX9_purseOf_34 : decode cX9_purseOf 34 = .ok (.iconst 0, 1) := by decide +kernel
theorem dX9_purseOf_35 : decode cX9_purseOf 35 = .ok (.ireturn, 1) := by decide +kernel
def jX9_purseOf_35 (Y : XS) (n : Nat) (S : PS) (t0 : Int32) : Option (Int32) :=
  some t0
def fX9_purseOf (Y : XS) (n : Nat) (S : PS) (a0 : Nat) (x1_ : Int32) : Option (Int32) :=
  kgr S a0 0 (fun b1 => kgi S b1 2 (fun x4 => (if x4 ≤ 0 then jX9_purseOf_35 Y n S (0 : Int32) else kgr S a0 0 (fun b13 => kgi S b13 0 (fun x16 => kidiv (x16 * (1000 : Int32)) x4 (fun z24 => jX9_purseOf_35 Y n S (z24 + (x1_ * (1000 : Int32)))))))))
theorem wjX9_purseOf_35 {C : CT} {X : XT} (hC : CK C RX9 cX9_purseOf 3 (some .int) 1) (n : Nat) (S : PS) (t0 : Int32)   {o : Int32} (hf : jX9_purseOf_35 X.2.1 n S t0 = some o) (hR : Rt C X cX9_purseOf (some .int) (some (.int o)) S) : UW C X S 35 [] [.int t0] := by
  unfold jX9_purseOf_35 at hf
  cases hf
  exact hR _ _ dX9_purseOf_35 trivial
theorem wX9_purseOf {C : CT} {X : XT} (hC : CK C RX9 cX9_purseOf 3 (some .int) 1) (n : Nat) (S : PS) (a0 : Nat) (x1_ : Int32) (hTa0 : Ty X.2.1 a0 6) {o : Int32} (hf : fX9_purseOf X.2.1 n S a0 x1_ = some o) (hR : Rt C X cX9_purseOf (some .int) (some (.int o)) S) : UW C X S 0 [(0, .ref (X.1 a0)), (1, .int x1_)] [] := by
  unfold fX9_purseOf at hf
  refine u_aload_n hC dX9_purseOf_0 0 rfl rfl ?_
  refine u_gr hC lf_X9_18 rfl hTa0 dX9_purseOf_1 hf (fun b1 hTb1 hf => ?_)
  refine u_gi hC lf_X9_68 rfl hTb1 dX9_purseOf_4 hf (fun x4 hf => ?_)
  refine u_istore_n (lv' := [(2, .int x4), (0, .ref (X.1 a0)), (1, .int x1_)]) hC dX9_purseOf_7 rfl (by decide) rfl ?_
  refine u_iload_n hC dX9_purseOf_8 0 rfl rfl ?_
  refine u_if_le (tgt := 34) hC dX9_purseOf_9 (by decide) hf (fun h9 hf => ?_) (fun h9 hf => ?_)
  · refine u_iconst (v := (0 : Int32)) hC dX9_purseOf_34 (by decide) ?_
    refine u_sub (lv' := []) [] rfl ?_
    exact wjX9_purseOf_35 hC n S (0 : Int32)   hf hR
  · refine u_aload_n hC dX9_purseOf_12 1 rfl rfl ?_
    refine u_gr hC lf_X9_18 rfl hTa0 dX9_purseOf_13 hf (fun b13 hTb13 hf => ?_)
    refine u_gi hC lf_X9_57 rfl hTb13 dX9_purseOf_16 hf (fun x16 hf => ?_)
    refine u_sipush (v := (1000 : Int32)) hC dX9_purseOf_19 (by decide) ?_
    refine u_imul hC dX9_purseOf_22 ?_
    refine u_iload_n hC dX9_purseOf_23 0 rfl rfl ?_
    refine u_idiv hC dX9_purseOf_24 hf (fun z24 hf => ?_)
    refine u_iload_n hC dX9_purseOf_25 2 rfl rfl ?_
    refine u_sipush (v := (1000 : Int32)) hC dX9_purseOf_26 (by decide) ?_
    refine u_imul hC dX9_purseOf_29 ?_
    refine u_iadd hC dX9_purseOf_30 ?_
    refine u_goto (tgt := 35) hC dX9_purseOf_31 (by decide) ?_
    refine u_sub (lv' := []) [] rfl ?_
    exact wjX9_purseOf_35 hC n S (z24 + (x1_ * (1000 : Int32)))   hf hR
theorem ctX9_purseOf (l : Launch) (hl : l.stackTraces = false) (G : GT) (ρ : Nat → Nat) (Y : XS) (n : Nat) (S : PS) (a0 : Nat) (x1_ : Int32) (hTa0 : Ty Y a0 6) {o : Int32} (hf : fX9_purseOf Y n S a0 x1_ = some o) : Mt l G yX9_purseOf cX9_purseOf 3 (some .int) 1 ρ Y [.ref (ρ a0), .int x1_] S (some (.int o)) S :=
  Mt_of hl (by decide) (Nat.le_of_ble_eq_true rfl) (fun C _ _ hC hR => wX9_purseOf (X := (ρ, Y, 0, 0)) hC n S a0 x1_ hTa0 hf hR)
-- X9_firstBound
theorem dX9_firstBound_0 : decode cX9_firstBound 0 = .ok (.aload_n 0, 1) := by decide +kernel
theorem dX9_firstBound_1 : decode cX9_firstBound 1 = .ok (.getfield 115, 3) := by decide +kernel
theorem dX9_firstBound_4 : decode cX9_firstBound 4 = .ok (.iload_n 1, 1) := by decide +kernel
theorem dX9_firstBound_5 : decode cX9_firstBound 5 = .ok (.iaload, 1) := by decide +kernel
theorem dX9_firstBound_6 : decode cX9_firstBound 6 = .ok (.istore_n 2, 1) := by decide +kernel
theorem dX9_firstBound_7 : decode cX9_firstBound 7 = .ok (.iload_n 2, 1) := by decide +kernel
theorem dX9_firstBound_8 : decode cX9_firstBound 8 = .ok (.ifCond .le 25, 3) := by decide +kernel
theorem dX9_firstBound_11 : decode cX9_firstBound 11 = .ok (.aload_n 0, 1) := by decide +kernel
theorem dX9_firstBound_12 : decode cX9_firstBound 12 = .ok (.getfield 18, 3) := by decide +kernel
theorem dX9_firstBound_15 : decode cX9_firstBound 15 = .ok (.getfield 97, 3) := by decide +kernel
theorem dX9_firstBound_18 : decode cX9_firstBound 18 = .ok (.iload_n 1, 1) := by decide +kernel
theorem dX9_firstBound_19 : decode cX9_firstBound 19 = .ok (.iaload, 1) := by decide +kernel
theorem dX9_firstBound_20 : decode cX9_firstBound 20 = .ok (.sipush 1000, 3) := by decide +kernel
theorem dX9_firstBound_23 : decode cX9_firstBound 23 = .ok (.imul, 1) := by decide +kernel
theorem dX9_firstBound_24 : decode cX9_firstBound 24 = .ok (.iload_n 2, 1) := by decide +kernel
theorem dX9_firstBound_25 : decode cX9_firstBound 25 = .ok (.iadd, 1) := by decide +kernel
theorem dX9_firstBound_26 : decode cX9_firstBound 26 = .ok (.iconst 1, 1) := by decide +kernel
theorem dX9_firstBound_27 : decode cX9_firstBound 27 = .ok (.isub, 1) := by decide +kernel
theorem dX9_firstBound_28 : decode cX9_firstBound 28 = .ok (.iload_n 2, 1) := by decide +kernel
theorem dX9_firstBound_29 : decode cX9_firstBound 29 = .ok (.idiv, 1) := by decide +kernel
theorem dX9_firstBound_30 : decode cX9_firstBound 30 = .ok (.goto 4, 3) := by decide +kernel
theorem dX9_firstBound_33 : decode cX9_firstBound 33 = .ok (.iconst (-1), 1) := by decide +kernel
theorem dX9_firstBound_34 : decode cX9_firstBound 34 = .ok (.ireturn, 1) := by decide +kernel
def jX9_firstBound_34 (Y : XS) (n : Nat) (S : PS) (t0 : Int32) : Option (Int32) :=
  some t0
def fX9_firstBound (Y : XS) (n : Nat) (S : PS) (a0 : Nat) (x1_ : Int32) : Option (Int32) :=
  kgr S a0 2 (fun b1 => kai Y S b1 x1_ (fun x5 => (if x5 ≤ 0 then jX9_firstBound_34 Y n S (-1 : Int32) else kgr S a0 0 (fun b12 => kgr S b12 4 (fun b15 => kai Y S b15 x1_ (fun x19 => kidiv (((x19 * (1000 : Int32)) + x5) - (1 : Int32)) x5 (fun z29 => jX9_firstBound_34 Y n S z29)))))))
theorem wjX9_firstBound_34 {C : CT} {X : XT} (hC : CK C RX9 cX9_firstBound 3 (some .int) 1) (n : Nat) (S : PS) (t0 : Int32)   {o : Int32} (hf : jX9_firstBound_34 X.2.1 n S t0 = some o) (hR : Rt C X cX9_firstBound (some .int) (some (.int o)) S) : UW C X S 34 [] [.int t0] := by
  unfold jX9_firstBound_34 at hf
  cases hf
  exact hR _ _ dX9_firstBound_34 trivial
theorem wX9_firstBound {C : CT} {X : XT} (hC : CK C RX9 cX9_firstBound 3 (some .int) 1) (n : Nat) (S : PS) (a0 : Nat) (x1_ : Int32) (hTa0 : Ty X.2.1 a0 6) {o : Int32} (hf : fX9_firstBound X.2.1 n S a0 x1_ = some o) (hR : Rt C X cX9_firstBound (some .int) (some (.int o)) S) : UW C X S 0 [(0, .ref (X.1 a0)), (1, .int x1_)] [] := by
  unfold fX9_firstBound at hf
  refine u_aload_n hC dX9_firstBound_0 0 rfl rfl ?_
  refine u_gr hC lf_X9_115 rfl hTa0 dX9_firstBound_1 hf (fun b1 hTb1 hf => ?_)
  refine u_iload_n hC dX9_firstBound_4 1 rfl rfl ?_
  refine u_ai hC hTb1 dX9_firstBound_5 hf (fun x5 hf => ?_)
  refine u_istore_n (lv' := [(2, .int x5), (0, .ref (X.1 a0)), (1, .int x1_)]) hC dX9_firstBound_6 rfl (by decide) rfl ?_
  refine u_iload_n hC dX9_firstBound_7 0 rfl rfl ?_
  refine u_if_le (tgt := 33) hC dX9_firstBound_8 (by decide) hf (fun h8 hf => ?_) (fun h8 hf => ?_)
  · refine u_iconst (v := (-1 : Int32)) hC dX9_firstBound_33 (by decide) ?_
    refine u_sub (lv' := []) [] rfl ?_
    exact wjX9_firstBound_34 hC n S (-1 : Int32)   hf hR
  · refine u_aload_n hC dX9_firstBound_11 1 rfl rfl ?_
    refine u_gr hC lf_X9_18 rfl hTa0 dX9_firstBound_12 hf (fun b12 hTb12 hf => ?_)
    refine u_gr hC lf_X9_97 rfl hTb12 dX9_firstBound_15 hf (fun b15 hTb15 hf => ?_)
    refine u_iload_n hC dX9_firstBound_18 2 rfl rfl ?_
    refine u_ai hC hTb15 dX9_firstBound_19 hf (fun x19 hf => ?_)
    refine u_sipush (v := (1000 : Int32)) hC dX9_firstBound_20 (by decide) ?_
    refine u_imul hC dX9_firstBound_23 ?_
    refine u_iload_n hC dX9_firstBound_24 0 rfl rfl ?_
    refine u_iadd hC dX9_firstBound_25 ?_
    refine u_iconst (v := (1 : Int32)) hC dX9_firstBound_26 (by decide) ?_
    refine u_isub hC dX9_firstBound_27 ?_
    refine u_iload_n hC dX9_firstBound_28 0 rfl rfl ?_
    refine u_idiv hC dX9_firstBound_29 hf (fun z29 hf => ?_)
    refine u_goto (tgt := 34) hC dX9_firstBound_30 (by decide) ?_
    refine u_sub (lv' := []) [] rfl ?_
    exact wjX9_firstBound_34 hC n S z29   hf hR
theorem ctX9_firstBound (l : Launch) (hl : l.stackTraces = false) (G : GT) (ρ : Nat → Nat) (Y : XS) (n : Nat) (S : PS) (a0 : Nat) (x1_ : Int32) (hTa0 : Ty Y a0 6) {o : Int32} (hf : fX9_firstBound Y n S a0 x1_ = some o) : Mt l G yX9_firstBound cX9_firstBound 3 (some .int) 1 ρ Y [.ref (ρ a0), .int x1_] S (some (.int o)) S :=
  Mt_of hl (by decide) (Nat.le_of_ble_eq_true rfl) (fun C _ _ hC hR => wX9_firstBound (X := (ρ, Y, 0, 0)) hC n S a0 x1_ hTa0 hf hR)
-- X9_leastBound
theorem dX9_leastBound_0 : decode cX9_leastBound 0 = .ok (.aload_n 1, 1) := by decide +kernel
theorem dX9_leastBound_1 : decode cX9_leastBound 1 = .ok (.getfield 112, 3) := by decide +kernel
theorem dX9_leastBound_4 : decode cX9_leastBound 4 = .ok (.astore_n 2, 1) := by decide +kernel
theorem dX9_leastBound_5 : decode cX9_leastBound 5 = .ok (.aload_n 1, 1) := by decide +kernel
theorem dX9_leastBound_6 : decode cX9_leastBound 6 = .ok (.getfield 18, 3) := by decide +kernel
theorem dX9_leastBound_9 : decode cX9_leastBound 9 = .ok (.getfield 46, 3) := by decide +kernel
theorem dX9_leastBound_12 : decode cX9_leastBound 12 = .ok (.istore_n 3, 1) := by decide +kernel
theorem dX9_leastBound_13 : decode cX9_leastBound 13 = .ok (.iconst (-1), 1) := by decide +kernel
theorem dX9_leastBound_14 : decode cX9_leastBound 14 = .ok (.istore 4, 2) := by decide +kernel
theorem dX9_leastBound_16 : decode cX9_leastBound 16 = .ok (.iconst 0, 1) := by decide +kernel
theorem dX9_leastBound_17 : decode cX9_leastBound 17 = .ok (.istore 5, 2) := by decide +kernel
theorem dX9_leastBound_19 : decode cX9_leastBound 19 = .ok (.iconst 0, 1) := by decide +kernel
theorem dX9_leastBound_20 : decode cX9_leastBound 20 = .ok (.istore 6, 2) := by decide +kernel
theorem dX9_leastBound_22 : decode cX9_leastBound 22 = .ok (.iload 6, 2) := by decide +kernel
theorem dX9_leastBound_24 : decode cX9_leastBound 24 = .ok (.iload_n 3, 1) := by decide +kernel
theorem dX9_leastBound_25 : decode cX9_leastBound 25 = .ok (.if_icmp .ge 63, 3) := by decide +kernel
theorem dX9_leastBound_28 : decode cX9_leastBound 28 = .ok (.aload_n 0, 1) := by decide +kernel
theorem dX9_leastBound_29 : decode cX9_leastBound 29 = .ok (.getfield 9, 3) := by decide +kernel
theorem dX9_leastBound_32 : decode cX9_leastBound 32 = .ok (.iload 6, 2) := by decide +kernel
theorem dX9_leastBound_34 : decode cX9_leastBound 34 = .ok (.iaload, 1) := by decide +kernel
theorem dX9_leastBound_35 : decode cX9_leastBound 35 = .ok (.istore 7, 2) := by decide +kernel
theorem dX9_leastBound_37 : decode cX9_leastBound 37 = .ok (.iload 7, 2) := by decide +kernel
theorem dX9_leastBound_39 : decode cX9_leastBound 39 = .ok (.iconst (-1), 1) := by decide +kernel
theorem dX9_leastBound_40 : decode cX9_leastBound 40 = .ok (.if_icmp .eq 42, 3) := by decide +kernel
theorem dX9_leastBound_43 : decode cX9_leastBound 43 = .ok (.iload 4, 2) := by decide +kernel
theorem dX9_leastBound_45 : decode cX9_leastBound 45 = .ok (.iconst (-1), 1) := by decide +kernel
theorem dX9_leastBound_46 : decode cX9_leastBound 46 = .ok (.if_icmp .eq 28, 3) := by decide +kernel
theorem dX9_leastBound_49 : decode cX9_leastBound 49 = .ok (.iload 7, 2) := by decide +kernel
theorem dX9_leastBound_51 : decode cX9_leastBound 51 = .ok (.iload 5, 2) := by decide +kernel
theorem dX9_leastBound_53 : decode cX9_leastBound 53 = .ok (.if_icmp .lt 21, 3) := by decide +kernel
theorem dX9_leastBound_56 : decode cX9_leastBound 56 = .ok (.iload 7, 2) := by decide +kernel
theorem dX9_leastBound_58 : decode cX9_leastBound 58 = .ok (.iload 5, 2) := by decide +kernel
theorem dX9_leastBound_60 : decode cX9_leastBound 60 = .ok (.if_icmp .ne 22, 3) := by decide +kernel
theorem dX9_leastBound_63 : decode cX9_leastBound 63 = .ok (.aload_n 2, 1) := by decide +kernel
theorem dX9_leastBound_64 : decode cX9_leastBound 64 = .ok (.iload 6, 2) := by decide +kernel
theorem dX9_leastBound_66 : decode cX9_leastBound 66 = .ok (.iaload, 1) := by decide +kernel
theorem dX9_leastBound_67 : decode cX9_leastBound 67 = .ok (.aload_n 2, 1) := by decide +kernel
theorem dX9_leastBound_68 : decode cX9_leastBound 68 = .ok (.iload 4, 2) := by decide +kernel
theorem dX9_leastBound_70 : decode cX9_leastBound 70 = .ok (.iaload, 1) := by decide +kernel
theorem dX9_leastBound_71 : decode cX9_leastBound 71 = .ok (.if_icmp .le 11, 3) := by decide +kernel
theorem dX9_leastBound_74 : decode cX9_leastBound 74 = .ok (.iload 6, 2) := by decide +kernel
theorem dX9_leastBound_76 : decode cX9_leastBound 76 = .ok (.istore 4, 2) := by decide +kernel
theorem dX9_leastBound_78 : decode cX9_leastBound 78 = .ok (.iload 7, 2) := by decide +kernel
theorem dX9_leastBound_80 : decode cX9_leastBound 80 = .ok (.istore 5, 2) := by decide +kernel
theorem dX9_leastBound_82 : decode cX9_leastBound 82 = .ok (.iinc 6 1, 3) := by decide +kernel
theorem dX9_leastBound_85 : decode cX9_leastBound 85 = .ok (.goto (-63), 3) := by decide +kernel
theorem dX9_leastBound_88 : decode cX9_leastBound 88 = .ok (.iload 4, 2) := by decide +kernel
theorem dX9_leastBound_90 : decode cX9_leastBound 90 = .ok (.ireturn, 1) := by decide +kernel
def jX9_leastBound_82_22 (Y : XS) (n : Nat) (S : PS) (v0 : Nat) (v2 : Nat) (v3 : Int32) (v4 : Int32) (v5 : Int32) (v6 : Int32) : Option ((Int32 × Int32 × Int32) ⊕ Int32) :=
  some (.inl (v4, v5, v6 + (1 : Int32)))
def jX9_leastBound_74_22 (Y : XS) (n : Nat) (S : PS) (v0 : Nat) (v2 : Nat) (v3 : Int32) (v6 : Int32) (v7 : Int32) : Option ((Int32 × Int32 × Int32) ⊕ Int32) :=
  jX9_leastBound_82_22 Y n S v0 v2 v3 v6 v7 v6
def bX9_leastBound_22 (Y : XS) (n : Nat) (S : PS) (v0 : Nat) (v2 : Nat) (v3 : Int32) (s22 : (Int32 × Int32 × Int32)) : Option ((Int32 × Int32 × Int32) ⊕ Int32) :=
  (if v3 ≤ s22.2.2 then some (.inr s22.1) else kgr S v0 0 (fun b29 => kai Y S b29 s22.2.2 (fun x34 => (if x34 = (-1 : Int32) then jX9_leastBound_82_22 Y n S v0 v2 v3 s22.1 s22.2.1 s22.2.2 else (if s22.1 = (-1 : Int32) then jX9_leastBound_74_22 Y n S v0 v2 v3 s22.2.2 x34 else (if x34 < s22.2.1 then jX9_leastBound_74_22 Y n S v0 v2 v3 s22.2.2 x34 else (if x34 = s22.2.1 then kai Y S v2 s22.2.2 (fun x66 => kai Y S v2 s22.1 (fun x70 => (if x66 ≤ x70 then jX9_leastBound_82_22 Y n S v0 v2 v3 s22.1 s22.2.1 s22.2.2 else jX9_leastBound_74_22 Y n S v0 v2 v3 s22.2.2 x34))) else jX9_leastBound_82_22 Y n S v0 v2 v3 s22.1 s22.2.1 s22.2.2)))))))
def fX9_leastBound (Y : XS) (n : Nat) (S : PS) (a0 : Nat) (a1 : Nat) : Option (Int32) :=
  kgr S a1 1 (fun b1 => kgr S a1 0 (fun b6 => kgi S b6 1 (fun x9 => kc (iter (bX9_leastBound_22 Y n S a0 b1 x9) n ((-1 : Int32), (0 : Int32), (0 : Int32))) (fun r22 => some r22))))
theorem wjX9_leastBound_82_22 {C : CT} {X : XT} (hC : CK C RX9 cX9_leastBound 8 (some .int) 1) (n : Nat) (S : PS) (v0 : Nat) (v2 : Nat) (v3 : Int32) (v4 : Int32) (v5 : Int32) (v6 : Int32)  (hTv0 : Ty X.2.1 v0 9) (hTv2 : Ty X.2.1 v2 12) {o : (Int32 × Int32 × Int32) ⊕ Int32} (hf : jX9_leastBound_82_22 X.2.1 n S v0 v2 v3 v4 v5 v6 = some o) (hN : ∀ s', o = .inl s' → UW C X S 22 [(0, .ref (X.1 v0)), (2, .ref (X.1 v2)), (3, .int v3), (4, .int s'.1), (5, .int s'.2.1), (6, .int s'.2.2)] []) (hO0 : ∀ p', o = .inr p' → UW C X S 88 [(4, .int p')] []) : UW C X S 82 [(0, .ref (X.1 v0)), (2, .ref (X.1 v2)), (3, .int v3), (4, .int v4), (5, .int v5), (6, .int v6)] [] := by
  unfold jX9_leastBound_82_22 at hf
  refine u_iinc (v := v6 + (1 : Int32)) (lv' := [(6, .int (v6 + (1 : Int32))), (0, .ref (X.1 v0)), (2, .ref (X.1 v2)), (3, .int v3), (4, .int v4), (5, .int v5)]) hC dX9_leastBound_82 5 rfl rfl (by decide) rfl ?_
  refine u_goto (tgt := 22) hC dX9_leastBound_85 (by decide) ?_
  refine u_sub (lv' := [(0, .ref (X.1 v0)), (2, .ref (X.1 v2)), (3, .int v3), (4, .int v4), (5, .int v5), (6, .int (v6 + (1 : Int32)))]) [1, 2, 3, 4, 5, 0] rfl ?_
  exact hN _ (Option.some.inj hf).symm
theorem wjX9_leastBound_74_22 {C : CT} {X : XT} (hC : CK C RX9 cX9_leastBound 8 (some .int) 1) (n : Nat) (S : PS) (v0 : Nat) (v2 : Nat) (v3 : Int32) (v6 : Int32) (v7 : Int32)  (hTv0 : Ty X.2.1 v0 9) (hTv2 : Ty X.2.1 v2 12) {o : (Int32 × Int32 × Int32) ⊕ Int32} (hf : jX9_leastBound_74_22 X.2.1 n S v0 v2 v3 v6 v7 = some o) (hN : ∀ s', o = .inl s' → UW C X S 22 [(0, .ref (X.1 v0)), (2, .ref (X.1 v2)), (3, .int v3), (4, .int s'.1), (5, .int s'.2.1), (6, .int s'.2.2)] []) (hO0 : ∀ p', o = .inr p' → UW C X S 88 [(4, .int p')] []) : UW C X S 74 [(0, .ref (X.1 v0)), (2, .ref (X.1 v2)), (3, .int v3), (6, .int v6), (7, .int v7)] [] := by
  unfold jX9_leastBound_74_22 at hf
  refine u_iload hC dX9_leastBound_74 3 rfl ?_
  refine u_istore (lv' := [(4, .int v6), (0, .ref (X.1 v0)), (2, .ref (X.1 v2)), (3, .int v3), (6, .int v6), (7, .int v7)]) hC dX9_leastBound_76 (by decide) rfl ?_
  refine u_iload hC dX9_leastBound_78 5 rfl ?_
  refine u_istore (lv' := [(5, .int v7), (4, .int v6), (0, .ref (X.1 v0)), (2, .ref (X.1 v2)), (3, .int v3), (6, .int v6), (7, .int v7)]) hC dX9_leastBound_80 (by decide) rfl ?_
  refine u_sub (lv' := [(0, .ref (X.1 v0)), (2, .ref (X.1 v2)), (3, .int v3), (4, .int v6), (5, .int v7), (6, .int v6)]) [2, 3, 4, 1, 0, 5] rfl ?_
  exact wjX9_leastBound_82_22 hC n S v0 v2 v3 v6 v7 v6  hTv0 hTv2 hf hN hO0
theorem wbX9_leastBound_22 {C : CT} {X : XT} (hC : CK C RX9 cX9_leastBound 8 (some .int) 1) (n : Nat) (S : PS) (v0 : Nat) (v2 : Nat) (v3 : Int32) (hTv0 : Ty X.2.1 v0 9) (hTv2 : Ty X.2.1 v2 12) (s22 : (Int32 × Int32 × Int32)) {o : (Int32 × Int32 × Int32) ⊕ Int32} (hf : bX9_leastBound_22 X.2.1 n S v0 v2 v3 s22 = some o) (hN : ∀ s', o = .inl s' → UW C X S 22 [(0, .ref (X.1 v0)), (2, .ref (X.1 v2)), (3, .int v3), (4, .int s'.1), (5, .int s'.2.1), (6, .int s'.2.2)] []) (hO0 : ∀ p', o = .inr p' → UW C X S 88 [(4, .int p')] []) : UW C X S 22 [(0, .ref (X.1 v0)), (2, .ref (X.1 v2)), (3, .int v3), (4, .int s22.1), (5, .int s22.2.1), (6, .int s22.2.2)] [] := by
  unfold bX9_leastBound_22 at hf
  refine u_iload hC dX9_leastBound_22 5 rfl ?_
  refine u_iload_n hC dX9_leastBound_24 2 rfl rfl ?_
  refine u_icmp_ge (tgt := 88) hC dX9_leastBound_25 (by decide) hf (fun h25 hf => ?_) (fun h25 hf => ?_)
  · refine u_sub (lv' := [(4, .int s22.1)]) [3] rfl ?_
    exact hO0 _ (Option.some.inj hf).symm
  · refine u_aload_n hC dX9_leastBound_28 0 rfl rfl ?_
    refine u_gr hC lf_X9_9 rfl hTv0 dX9_leastBound_29 hf (fun b29 hTb29 hf => ?_)
    refine u_iload hC dX9_leastBound_32 5 rfl ?_
    refine u_ai hC hTb29 dX9_leastBound_34 hf (fun x34 hf => ?_)
    refine u_istore (lv' := [(7, .int x34), (0, .ref (X.1 v0)), (2, .ref (X.1 v2)), (3, .int v3), (4, .int s22.1), (5, .int s22.2.1), (6, .int s22.2.2)]) hC dX9_leastBound_35 (by decide) rfl ?_
    refine u_iload hC dX9_leastBound_37 0 rfl ?_
    refine u_iconst (v := (-1 : Int32)) hC dX9_leastBound_39 (by decide) ?_
    refine u_icmp_eq (tgt := 82) hC dX9_leastBound_40 (by decide) hf (fun h40 hf => ?_) (fun h40 hf => ?_)
    · refine u_sub (lv' := [(0, .ref (X.1 v0)), (2, .ref (X.1 v2)), (3, .int v3), (4, .int s22.1), (5, .int s22.2.1), (6, .int s22.2.2)]) [1, 2, 3, 4, 5, 6] rfl ?_
      exact wjX9_leastBound_82_22 hC n S v0 v2 v3 s22.1 s22.2.1 s22.2.2  hTv0 hTv2 hf hN hO0
    · refine u_iload hC dX9_leastBound_43 4 rfl ?_
      refine u_iconst (v := (-1 : Int32)) hC dX9_leastBound_45 (by decide) ?_
      refine u_icmp_eq (tgt := 74) hC dX9_leastBound_46 (by decide) hf (fun h46 hf => ?_) (fun h46 hf => ?_)
      · refine u_sub (lv' := [(0, .ref (X.1 v0)), (2, .ref (X.1 v2)), (3, .int v3), (6, .int s22.2.2), (7, .int x34)]) [1, 2, 3, 6, 0] rfl ?_
        exact wjX9_leastBound_74_22 hC n S v0 v2 v3 s22.2.2 x34  hTv0 hTv2 hf hN hO0
      · refine u_iload hC dX9_leastBound_49 0 rfl ?_
        refine u_iload hC dX9_leastBound_51 5 rfl ?_
        refine u_icmp_lt (tgt := 74) hC dX9_leastBound_53 (by decide) hf (fun h53 hf => ?_) (fun h53 hf => ?_)
        · refine u_sub (lv' := [(0, .ref (X.1 v0)), (2, .ref (X.1 v2)), (3, .int v3), (6, .int s22.2.2), (7, .int x34)]) [1, 2, 3, 6, 0] rfl ?_
          exact wjX9_leastBound_74_22 hC n S v0 v2 v3 s22.2.2 x34  hTv0 hTv2 hf hN hO0
        · refine u_iload hC dX9_leastBound_56 0 rfl ?_
          refine u_iload hC dX9_leastBound_58 5 rfl ?_
          refine u_icmp_ne (tgt := 82) hC dX9_leastBound_60 (by decide) hf (fun h60 hf => ?_) (fun h60 hf => ?_)
          · refine u_sub (lv' := [(0, .ref (X.1 v0)), (2, .ref (X.1 v2)), (3, .int v3), (4, .int s22.1), (5, .int s22.2.1), (6, .int s22.2.2)]) [1, 2, 3, 4, 5, 6] rfl ?_
            exact wjX9_leastBound_82_22 hC n S v0 v2 v3 s22.1 s22.2.1 s22.2.2  hTv0 hTv2 hf hN hO0
          · refine u_aload_n hC dX9_leastBound_63 2 rfl rfl ?_
            refine u_iload hC dX9_leastBound_64 6 rfl ?_
            refine u_ai hC hTv2 dX9_leastBound_66 hf (fun x66 hf => ?_)
            refine u_aload_n hC dX9_leastBound_67 2 rfl rfl ?_
            refine u_iload hC dX9_leastBound_68 4 rfl ?_
            refine u_ai hC hTv2 dX9_leastBound_70 hf (fun x70 hf => ?_)
            refine u_icmp_le (tgt := 82) hC dX9_leastBound_71 (by decide) hf (fun h71 hf => ?_) (fun h71 hf => ?_)
            · refine u_sub (lv' := [(0, .ref (X.1 v0)), (2, .ref (X.1 v2)), (3, .int v3), (4, .int s22.1), (5, .int s22.2.1), (6, .int s22.2.2)]) [1, 2, 3, 4, 5, 6] rfl ?_
              exact wjX9_leastBound_82_22 hC n S v0 v2 v3 s22.1 s22.2.1 s22.2.2  hTv0 hTv2 hf hN hO0
            · refine u_sub (lv' := [(0, .ref (X.1 v0)), (2, .ref (X.1 v2)), (3, .int v3), (6, .int s22.2.2), (7, .int x34)]) [1, 2, 3, 6, 0] rfl ?_
              exact wjX9_leastBound_74_22 hC n S v0 v2 v3 s22.2.2 x34  hTv0 hTv2 hf hN hO0
theorem wX9_leastBound {C : CT} {X : XT} (hC : CK C RX9 cX9_leastBound 8 (some .int) 1) (n : Nat) (S : PS) (a0 : Nat) (a1 : Nat) (hTa0 : Ty X.2.1 a0 9) (hTa1 : Ty X.2.1 a1 6) {o : Int32} (hf : fX9_leastBound X.2.1 n S a0 a1 = some o) (hR : Rt C X cX9_leastBound (some .int) (some (.int o)) S) : UW C X S 0 [(0, .ref (X.1 a0)), (1, .ref (X.1 a1))] [] := by
  unfold fX9_leastBound at hf
  refine u_aload_n hC dX9_leastBound_0 1 rfl rfl ?_
  refine u_gr hC lf_X9_112 rfl hTa1 dX9_leastBound_1 hf (fun b1 hTb1 hf => ?_)
  refine u_astore_n (lv' := [(2, .ref (X.1 b1)), (0, .ref (X.1 a0)), (1, .ref (X.1 a1))]) hC dX9_leastBound_4 rfl (by decide) rfl ?_
  refine u_aload_n hC dX9_leastBound_5 2 rfl rfl ?_
  refine u_gr hC lf_X9_18 rfl hTa1 dX9_leastBound_6 hf (fun b6 hTb6 hf => ?_)
  refine u_gi hC lf_X9_46 rfl hTb6 dX9_leastBound_9 hf (fun x9 hf => ?_)
  refine u_istore_n (lv' := [(3, .int x9), (2, .ref (X.1 b1)), (0, .ref (X.1 a0)), (1, .ref (X.1 a1))]) hC dX9_leastBound_12 rfl (by decide) rfl ?_
  refine u_iconst (v := (-1 : Int32)) hC dX9_leastBound_13 (by decide) ?_
  refine u_istore (lv' := [(4, .int (-1 : Int32)), (3, .int x9), (2, .ref (X.1 b1)), (0, .ref (X.1 a0)), (1, .ref (X.1 a1))]) hC dX9_leastBound_14 (by decide) rfl ?_
  refine u_iconst (v := (0 : Int32)) hC dX9_leastBound_16 (by decide) ?_
  refine u_istore (lv' := [(5, .int (0 : Int32)), (4, .int (-1 : Int32)), (3, .int x9), (2, .ref (X.1 b1)), (0, .ref (X.1 a0)), (1, .ref (X.1 a1))]) hC dX9_leastBound_17 (by decide) rfl ?_
  refine u_iconst (v := (0 : Int32)) hC dX9_leastBound_19 (by decide) ?_
  refine u_istore (lv' := [(6, .int (0 : Int32)), (5, .int (0 : Int32)), (4, .int (-1 : Int32)), (3, .int x9), (2, .ref (X.1 b1)), (0, .ref (X.1 a0)), (1, .ref (X.1 a1))]) hC dX9_leastBound_20 (by decide) rfl ?_
  obtain ⟨r22, hr22, hf⟩ := kc_some hf
  have hk22 : UW C X S 88 [(4, .int r22)] [] := by
    refine u_iload hC dX9_leastBound_88 0 rfl ?_
    cases hf
    exact hR _ _ dX9_leastBound_90 trivial
  refine u_sub (lv' := [(0, .ref (X.1 a0)), (2, .ref (X.1 b1)), (3, .int x9), (4, .int (-1 : Int32)), (5, .int (0 : Int32)), (6, .int (0 : Int32))]) [5, 4, 3, 2, 1, 0] rfl ?_
  refine iter_ind (P := fun s22 => UW C X S 22 [(0, .ref (X.1 a0)), (2, .ref (X.1 b1)), (3, .int x9), (4, .int s22.1), (5, .int s22.2.1), (6, .int s22.2.2)] []) (fun s22 o' hb hin hout => ?_) n ((-1 : Int32), (0 : Int32), (0 : Int32)) hr22
  exact wbX9_leastBound_22 hC n S a0 b1 x9 hTa0 hTb1 s22 hb hin (fun p e => by rw [hout p e]; exact hk22)
theorem ctX9_leastBound (l : Launch) (hl : l.stackTraces = false) (G : GT) (ρ : Nat → Nat) (Y : XS) (n : Nat) (S : PS) (a0 : Nat) (a1 : Nat) (hTa0 : Ty Y a0 9) (hTa1 : Ty Y a1 6) {o : Int32} (hf : fX9_leastBound Y n S a0 a1 = some o) : Mt l G yX9_leastBound cX9_leastBound 8 (some .int) 1 ρ Y [.ref (ρ a0), .ref (ρ a1)] S (some (.int o)) S :=
  Mt_of hl (by decide) (Nat.le_of_ble_eq_true rfl) (fun C _ _ hC hR => wX9_leastBound (X := (ρ, Y, 0, 0)) hC n S a0 a1 hTa0 hTa1 hf hR)
-- X9_priceFrom
theorem dX9_priceFrom_0 : decode cX9_priceFrom 0 = .ok (.aload_n 0, 1) := by decide +kernel
theorem dX9_priceFrom_1 : decode cX9_priceFrom 1 = .ok (.getfield 118, 3) := by decide +kernel
theorem dX9_priceFrom_4 : decode cX9_priceFrom 4 = .ok (.astore 4, 2) := by decide +kernel
theorem dX9_priceFrom_6 : decode cX9_priceFrom 6 = .ok (.aload_n 0, 1) := by decide +kernel
theorem dX9_priceFrom_7 : decode cX9_priceFrom 7 = .ok (.getfield 18, 3) := by decide +kernel
theorem dX9_priceFrom_10 : decode cX9_priceFrom 10 = .ok (.getfield 68, 3) := by decide +kernel
theorem dX9_priceFrom_13 : decode cX9_priceFrom 13 = .ok (.istore 5, 2) := by decide +kernel
theorem dX9_priceFrom_15 : decode cX9_priceFrom 15 = .ok (.iload_n 2, 1) := by decide +kernel
theorem dX9_priceFrom_16 : decode cX9_priceFrom 16 = .ok (.bipush 24, 2) := by decide +kernel
theorem dX9_priceFrom_18 : decode cX9_priceFrom 18 = .ok (.imul, 1) := by decide +kernel
theorem dX9_priceFrom_19 : decode cX9_priceFrom 19 = .ok (.istore 6, 2) := by decide +kernel
theorem dX9_priceFrom_21 : decode cX9_priceFrom 21 = .ok (.aload_n 0, 1) := by decide +kernel
theorem dX9_priceFrom_22 : decode cX9_priceFrom 22 = .ok (.getfield 18, 3) := by decide +kernel
theorem dX9_priceFrom_25 : decode cX9_priceFrom 25 = .ok (.getfield 97, 3) := by decide +kernel
theorem dX9_priceFrom_28 : decode cX9_priceFrom 28 = .ok (.iload_n 2, 1) := by decide +kernel
theorem dX9_priceFrom_29 : decode cX9_priceFrom 29 = .ok (.iaload, 1) := by decide +kernel
theorem dX9_priceFrom_30 : decode cX9_priceFrom 30 = .ok (.sipush 1000, 3) := by decide +kernel
theorem dX9_priceFrom_33 : decode cX9_priceFrom 33 = .ok (.imul, 1) := by decide +kernel
theorem dX9_priceFrom_34 : decode cX9_priceFrom 34 = .ok (.istore 7, 2) := by decide +kernel
theorem dX9_priceFrom_36 : decode cX9_priceFrom 36 = .ok (.iload_n 3, 1) := by decide +kernel
theorem dX9_priceFrom_37 : decode cX9_priceFrom 37 = .ok (.istore 8, 2) := by decide +kernel
theorem dX9_priceFrom_39 : decode cX9_priceFrom 39 = .ok (.iconst 0, 1) := by decide +kernel
theorem dX9_priceFrom_40 : decode cX9_priceFrom 40 = .ok (.istore 9, 2) := by decide +kernel
theorem dX9_priceFrom_42 : decode cX9_priceFrom 42 = .ok (.iload 9, 2) := by decide +kernel
theorem dX9_priceFrom_44 : decode cX9_priceFrom 44 = .ok (.bipush 24, 2) := by decide +kernel
theorem dX9_priceFrom_46 : decode cX9_priceFrom 46 = .ok (.if_icmp .gt 124, 3) := by decide +kernel
theorem dX9_priceFrom_49 : decode cX9_priceFrom 49 = .ok (.iconst 0, 1) := by decide +kernel
theorem dX9_priceFrom_50 : decode cX9_priceFrom 50 = .ok (.istore 10, 2) := by decide +kernel
theorem dX9_priceFrom_52 : decode cX9_priceFrom 52 = .ok (.iconst 0, 1) := by decide +kernel
theorem dX9_priceFrom_53 : decode cX9_priceFrom 53 = .ok (.istore 11, 2) := by decide +kernel
theorem dX9_priceFrom_55 : decode cX9_priceFrom 55 = .ok (.iconst 0, 1) := by decide +kernel
theorem dX9_priceFrom_56 : decode cX9_priceFrom 56 = .ok (.istore 12, 2) := by decide +kernel
theorem dX9_priceFrom_58 : decode cX9_priceFrom 58 = .ok (.iload 12, 2) := by decide +kernel
theorem dX9_priceFrom_60 : decode cX9_priceFrom 60 = .ok (.iload 5, 2) := by decide +kernel
theorem dX9_priceFrom_62 : decode cX9_priceFrom 62 = .ok (.if_icmp .ge 59, 3) := by decide +kernel
theorem dX9_priceFrom_65 : decode cX9_priceFrom 65 = .ok (.aload 4, 2) := by decide +kernel
theorem dX9_priceFrom_67 : decode cX9_priceFrom 67 = .ok (.iload 6, 2) := by decide +kernel
theorem dX9_priceFrom_69 : decode cX9_priceFrom 69 = .ok (.iload 12, 2) := by decide +kernel
theorem dX9_priceFrom_71 : decode cX9_priceFrom 71 = .ok (.iadd, 1) := by decide +kernel
theorem dX9_priceFrom_72 : decode cX9_priceFrom 72 = .ok (.iaload, 1) := by decide +kernel
theorem dX9_priceFrom_73 : decode cX9_priceFrom 73 = .ok (.istore 13, 2) := by decide +kernel
theorem dX9_priceFrom_75 : decode cX9_priceFrom 75 = .ok (.iload 13, 2) := by decide +kernel
theorem dX9_priceFrom_77 : decode cX9_priceFrom 77 = .ok (.ifCond .le 38, 3) := by decide +kernel
theorem dX9_priceFrom_80 : decode cX9_priceFrom 80 = .ok (.iload 8, 2) := by decide +kernel
theorem dX9_priceFrom_82 : decode cX9_priceFrom 82 = .ok (.i2l, 1) := by decide +kernel
theorem dX9_priceFrom_83 : decode cX9_priceFrom 83 = .ok (.iload 13, 2) := by decide +kernel
theorem dX9_priceFrom_85 : decode cX9_priceFrom 85 = .ok (.i2l, 1) := by decide +kernel
theorem dX9_priceFrom_86 : decode cX9_priceFrom 86 = .ok (.lmul, 1) := by decide +kernel
theorem dX9_priceFrom_87 : decode cX9_priceFrom 87 = .ok (.aload_n 1, 1) := by decide +kernel
theorem dX9_priceFrom_88 : decode cX9_priceFrom 88 = .ok (.iload 12, 2) := by decide +kernel
theorem dX9_priceFrom_90 : decode cX9_priceFrom 90 = .ok (.iaload, 1) := by decide +kernel
theorem dX9_priceFrom_91 : decode cX9_priceFrom 91 = .ok (.i2l, 1) := by decide +kernel
theorem dX9_priceFrom_92 : decode cX9_priceFrom 92 = .ok (.lcmp, 1) := by decide +kernel
theorem dX9_priceFrom_93 : decode cX9_priceFrom 93 = .ok (.ifCond .lt 15, 3) := by decide +kernel
theorem dX9_priceFrom_96 : decode cX9_priceFrom 96 = .ok (.iload 10, 2) := by decide +kernel
theorem dX9_priceFrom_98 : decode cX9_priceFrom 98 = .ok (.aload_n 1, 1) := by decide +kernel
theorem dX9_priceFrom_99 : decode cX9_priceFrom 99 = .ok (.iload 12, 2) := by decide +kernel
theorem dX9_priceFrom_101 : decode cX9_priceFrom 101 = .ok (.iaload, 1) := by decide +kernel
theorem dX9_priceFrom_102 : decode cX9_priceFrom 102 = .ok (.iadd, 1) := by decide +kernel
theorem dX9_priceFrom_103 : decode cX9_priceFrom 103 = .ok (.istore 10, 2) := by decide +kernel
theorem dX9_priceFrom_105 : decode cX9_priceFrom 105 = .ok (.goto 10, 3) := by decide +kernel
theorem dX9_priceFrom_108 : decode cX9_priceFrom 108 = .ok (.iload 11, 2) := by decide +kernel
theorem dX9_priceFrom_110 : decode cX9_priceFrom 110 = .ok (.iload 13, 2) := by decide +kernel
theorem dX9_priceFrom_112 : decode cX9_priceFrom 112 = .ok (.iadd, 1) := by decide +kernel
theorem dX9_priceFrom_113 : decode cX9_priceFrom 113 = .ok (.istore 11, 2) := by decide +kernel
theorem dX9_priceFrom_115 : decode cX9_priceFrom 115 = .ok (.iinc 12 1, 3) := by decide +kernel
theorem dX9_priceFrom_118 : decode cX9_priceFrom 118 = .ok (.goto (-60), 3) := by decide +kernel
theorem dX9_priceFrom_121 : decode cX9_priceFrom 121 = .ok (.iload 10, 2) := by decide +kernel
theorem dX9_priceFrom_123 : decode cX9_priceFrom 123 = .ok (.i2l, 1) := by decide +kernel
theorem dX9_priceFrom_124 : decode cX9_priceFrom 124 = .ok (.iload 11, 2) := by decide +kernel
theorem dX9_priceFrom_126 : decode cX9_priceFrom 126 = .ok (.i2l, 1) := by decide +kernel
theorem dX9_priceFrom_127 : decode cX9_priceFrom 127 = .ok (.iload 8, 2) := by decide +kernel
theorem dX9_priceFrom_129 : decode cX9_priceFrom 129 = .ok (.i2l, 1) := by decide +kernel
theorem dX9_priceFrom_130 : decode cX9_priceFrom 130 = .ok (.lmul, 1) := by decide +kernel
theorem dX9_priceFrom_131 : decode cX9_priceFrom 131 = .ok (.ladd, 1) := by decide +kernel
theorem dX9_priceFrom_132 : decode cX9_priceFrom 132 = .ok (.iload 7, 2) := by decide +kernel
theorem dX9_priceFrom_134 : decode cX9_priceFrom 134 = .ok (.i2l, 1) := by decide +kernel
theorem dX9_priceFrom_135 : decode cX9_priceFrom 135 = .ok (.lcmp, 1) := by decide +kernel
theorem dX9_priceFrom_136 : decode cX9_priceFrom 136 = .ok (.ifCond .lt 6, 3) := by decide +kernel
theorem dX9_priceFrom_139 : decode cX9_priceFrom 139 = .ok (.iload 8, 2) := by decide +kernel
theorem dX9_priceFrom_141 : decode cX9_priceFrom 141 = .ok (.ireturn, 1) := by decide +kernel
theorem dX9_priceFrom_142 : decode cX9_priceFrom 142 = .ok (.iload 11, 2) := by decide +kernel
theorem dX9_priceFrom_144 : decode cX9_priceFrom 144 = .ok (.ifCond .gt 5, 3) := by decide +kernel
theorem dX9_priceFrom_147 : decode cX9_priceFrom 147 = .ok (.iconst (-1), 1) := by decide +kernel
theorem dX9_priceFrom_148 : decode cX9_priceFrom 148 = .ok (.ireturn, 1) := by decide +kernel
theorem dX9_priceFrom_149 : decode cX9_priceFrom 149 = .ok (.iload 7, 2) := by decide +kernel
theorem dX9_priceFrom_151 : decode cX9_priceFrom 151 = .ok (.iload 10, 2) := by decide +kernel
theorem dX9_priceFrom_153 : decode cX9_priceFrom 153 = .ok (.isub, 1) := by decide +kernel
theorem dX9_priceFrom_154 : decode cX9_priceFrom 154 = .ok (.iload 11, 2) := by decide +kernel
theorem dX9_priceFrom_156 : decode cX9_priceFrom 156 = .ok (.iadd, 1) := by decide +kernel
theorem dX9_priceFrom_157 : decode cX9_priceFrom 157 = .ok (.iconst 1, 1) := by decide +kernel
theorem dX9_priceFrom_158 : decode cX9_priceFrom 158 = .ok (.isub, 1) := by decide +kernel
theorem dX9_priceFrom_159 : decode cX9_priceFrom 159 = .ok (.iload 11, 2) := by decide +kernel
theorem dX9_priceFrom_161 : decode cX9_priceFrom 161 = .ok (.idiv, 1) := by decide +kernel
theorem dX9_priceFrom_162 : decode cX9_priceFrom 162 = .ok (.istore 8, 2) := by decide +kernel
theorem dX9_priceFrom_164 : decode cX9_priceFrom 164 = .ok (.iinc 9 1, 3) := by decide +kernel
theorem dX9_priceFrom_167 : decode cX9_priceFrom 167 = .ok (.goto (-125), 3) := by decide +kernel
theorem dX9_priceFrom_170 : decode cX9_priceFrom 170 = .ok (.iconst (-1), 1) := by decide +kernel
theorem dX9_priceFrom_171 : decode cX9_priceFrom 171 = .ok (.ireturn, 1) := by decide +kernel
def jX9_priceFrom_115_58 (Y : XS) (n : Nat) (S : PS) (v1 : Nat) (v4 : Nat) (v5 : Int32) (v6 : Int32) (v7 : Int32) (v8 : Int32) (v9 : Int32) (v10 : Int32) (v11 : Int32) (v12 : Int32) : Option ((Int32 × Int32 × Int32) ⊕ (Int32 × Int32)) :=
  some (.inl (v10, v11, v12 + (1 : Int32)))
def bX9_priceFrom_58 (Y : XS) (n : Nat) (S : PS) (v1 : Nat) (v4 : Nat) (v5 : Int32) (v6 : Int32) (v7 : Int32) (v8 : Int32) (v9 : Int32) (s58 : (Int32 × Int32 × Int32)) : Option ((Int32 × Int32 × Int32) ⊕ (Int32 × Int32)) :=
  (if v5 ≤ s58.2.2 then some (.inr (s58.1, s58.2.1)) else kai Y S v4 (v6 + s58.2.2) (fun x72 => (if x72 ≤ 0 then jX9_priceFrom_115_58 Y n S v1 v4 v5 v6 v7 v8 v9 s58.1 s58.2.1 s58.2.2 else kai Y S v1 s58.2.2 (fun x90 => (if (lg_cmp ((Int32.toInt64 v8) * (Int32.toInt64 x72)) (Int32.toInt64 x90)) < 0 then jX9_priceFrom_115_58 Y n S v1 v4 v5 v6 v7 v8 v9 s58.1 (s58.2.1 + x72) s58.2.2 else kai Y S v1 s58.2.2 (fun x101 => jX9_priceFrom_115_58 Y n S v1 v4 v5 v6 v7 v8 v9 (s58.1 + x101) s58.2.1 s58.2.2))))))
def bX9_priceFrom_42 (Y : XS) (n : Nat) (S : PS) (v1 : Nat) (v4 : Nat) (v5 : Int32) (v6 : Int32) (v7 : Int32) (s42 : (Int32 × Int32)) : Option ((Int32 × Int32) ⊕ (Unit ⊕ (Int32))) :=
  (if (24 : Int32) < s42.2 then some (.inr (.inl ())) else kc (iter (bX9_priceFrom_58 Y n S v1 v4 v5 v6 v7 s42.1 s42.2) n ((0 : Int32), (0 : Int32), (0 : Int32))) (fun r58 => (if (lg_cmp ((Int32.toInt64 r58.1) + ((Int32.toInt64 r58.2) * (Int32.toInt64 s42.1))) (Int32.toInt64 v7)) < 0 then (if 0 < r58.2 then kidiv (((v7 - r58.1) + r58.2) - (1 : Int32)) r58.2 (fun z161 => some (.inl (z161, s42.2 + (1 : Int32)))) else some (.inr (.inr (-1 : Int32)))) else some (.inr (.inr s42.1)))))
def fX9_priceFrom (Y : XS) (n : Nat) (S : PS) (a0 : Nat) (a1 : Nat) (x2_ : Int32) (x3_ : Int32) : Option (Int32) :=
  kgr S a0 4 (fun b1 => kgr S a0 0 (fun b7 => kgi S b7 2 (fun x10 => kgr S a0 0 (fun b22 => kgr S b22 4 (fun b25 => kai Y S b25 x2_ (fun x29 => kc (iter (bX9_priceFrom_42 Y n S a1 b1 x10 (x2_ * (24 : Int32)) (x29 * (1000 : Int32))) n (x3_, (0 : Int32))) (fun r42 => ks r42 (fun p42_0 => some (-1 : Int32)) (fun p42_1 => some p42_1))))))))
theorem wjX9_priceFrom_115_58 {C : CT} {X : XT} (hC : CK C RX9 cX9_priceFrom 14 (some .int) 1) (n : Nat) (S : PS) (v1 : Nat) (v4 : Nat) (v5 : Int32) (v6 : Int32) (v7 : Int32) (v8 : Int32) (v9 : Int32) (v10 : Int32) (v11 : Int32) (v12 : Int32)  (hTv1 : Ty X.2.1 v1 12) (hTv4 : Ty X.2.1 v4 12) {o : (Int32 × Int32 × Int32) ⊕ (Int32 × Int32)} (hf : jX9_priceFrom_115_58 X.2.1 n S v1 v4 v5 v6 v7 v8 v9 v10 v11 v12 = some o) (hN : ∀ s', o = .inl s' → UW C X S 58 [(1, .ref (X.1 v1)), (4, .ref (X.1 v4)), (5, .int v5), (6, .int v6), (7, .int v7), (8, .int v8), (9, .int v9), (10, .int s'.1), (11, .int s'.2.1), (12, .int s'.2.2)] []) (hO0 : ∀ p', o = .inr p' → UW C X S 121 [(1, .ref (X.1 v1)), (4, .ref (X.1 v4)), (5, .int v5), (6, .int v6), (7, .int v7), (8, .int v8), (9, .int v9), (10, .int p'.1), (11, .int p'.2)] []) : UW C X S 115 [(1, .ref (X.1 v1)), (4, .ref (X.1 v4)), (5, .int v5), (6, .int v6), (7, .int v7), (8, .int v8), (9, .int v9), (10, .int v10), (11, .int v11), (12, .int v12)] [] := by
  unfold jX9_priceFrom_115_58 at hf
  refine u_iinc (v := v12 + (1 : Int32)) (lv' := [(12, .int (v12 + (1 : Int32))), (1, .ref (X.1 v1)), (4, .ref (X.1 v4)), (5, .int v5), (6, .int v6), (7, .int v7), (8, .int v8), (9, .int v9), (10, .int v10), (11, .int v11)]) hC dX9_priceFrom_115 9 rfl rfl (by decide) rfl ?_
  refine u_goto (tgt := 58) hC dX9_priceFrom_118 (by decide) ?_
  refine u_sub (lv' := [(1, .ref (X.1 v1)), (4, .ref (X.1 v4)), (5, .int v5), (6, .int v6), (7, .int v7), (8, .int v8), (9, .int v9), (10, .int v10), (11, .int v11), (12, .int (v12 + (1 : Int32)))]) [1, 2, 3, 4, 5, 6, 7, 8, 9, 0] rfl ?_
  exact hN _ (Option.some.inj hf).symm
theorem wbX9_priceFrom_58 {C : CT} {X : XT} (hC : CK C RX9 cX9_priceFrom 14 (some .int) 1) (n : Nat) (S : PS) (v1 : Nat) (v4 : Nat) (v5 : Int32) (v6 : Int32) (v7 : Int32) (v8 : Int32) (v9 : Int32) (hTv1 : Ty X.2.1 v1 12) (hTv4 : Ty X.2.1 v4 12) (s58 : (Int32 × Int32 × Int32)) {o : (Int32 × Int32 × Int32) ⊕ (Int32 × Int32)} (hf : bX9_priceFrom_58 X.2.1 n S v1 v4 v5 v6 v7 v8 v9 s58 = some o) (hN : ∀ s', o = .inl s' → UW C X S 58 [(1, .ref (X.1 v1)), (4, .ref (X.1 v4)), (5, .int v5), (6, .int v6), (7, .int v7), (8, .int v8), (9, .int v9), (10, .int s'.1), (11, .int s'.2.1), (12, .int s'.2.2)] []) (hO0 : ∀ p', o = .inr p' → UW C X S 121 [(1, .ref (X.1 v1)), (4, .ref (X.1 v4)), (5, .int v5), (6, .int v6), (7, .int v7), (8, .int v8), (9, .int v9), (10, .int p'.1), (11, .int p'.2)] []) : UW C X S 58 [(1, .ref (X.1 v1)), (4, .ref (X.1 v4)), (5, .int v5), (6, .int v6), (7, .int v7), (8, .int v8), (9, .int v9), (10, .int s58.1), (11, .int s58.2.1), (12, .int s58.2.2)] [] := by
  unfold bX9_priceFrom_58 at hf
  refine u_iload hC dX9_priceFrom_58 9 rfl ?_
  refine u_iload hC dX9_priceFrom_60 2 rfl ?_
  refine u_icmp_ge (tgt := 121) hC dX9_priceFrom_62 (by decide) hf (fun h62 hf => ?_) (fun h62 hf => ?_)
  · refine u_sub (lv' := [(1, .ref (X.1 v1)), (4, .ref (X.1 v4)), (5, .int v5), (6, .int v6), (7, .int v7), (8, .int v8), (9, .int v9), (10, .int s58.1), (11, .int s58.2.1)]) [0, 1, 2, 3, 4, 5, 6, 7, 8] rfl ?_
    exact hO0 _ (Option.some.inj hf).symm
  · refine u_aload hC dX9_priceFrom_65 1 rfl ?_
    refine u_iload hC dX9_priceFrom_67 3 rfl ?_
    refine u_iload hC dX9_priceFrom_69 9 rfl ?_
    refine u_iadd hC dX9_priceFrom_71 ?_
    refine u_ai hC hTv4 dX9_priceFrom_72 hf (fun x72 hf => ?_)
    refine u_istore (lv' := [(13, .int x72), (1, .ref (X.1 v1)), (4, .ref (X.1 v4)), (5, .int v5), (6, .int v6), (7, .int v7), (8, .int v8), (9, .int v9), (10, .int s58.1), (11, .int s58.2.1), (12, .int s58.2.2)]) hC dX9_priceFrom_73 (by decide) rfl ?_
    refine u_iload hC dX9_priceFrom_75 0 rfl ?_
    refine u_if_le (tgt := 115) hC dX9_priceFrom_77 (by decide) hf (fun h77 hf => ?_) (fun h77 hf => ?_)
    · refine u_sub (lv' := [(1, .ref (X.1 v1)), (4, .ref (X.1 v4)), (5, .int v5), (6, .int v6), (7, .int v7), (8, .int v8), (9, .int v9), (10, .int s58.1), (11, .int s58.2.1), (12, .int s58.2.2)]) [1, 2, 3, 4, 5, 6, 7, 8, 9, 10] rfl ?_
      exact wjX9_priceFrom_115_58 hC n S v1 v4 v5 v6 v7 v8 v9 s58.1 s58.2.1 s58.2.2  hTv1 hTv4 hf hN hO0
    · refine u_iload hC dX9_priceFrom_80 6 rfl ?_
      refine u_i2l hC dX9_priceFrom_82 ?_
      refine u_iload hC dX9_priceFrom_83 0 rfl ?_
      refine u_i2l hC dX9_priceFrom_85 ?_
      refine u_lmul hC dX9_priceFrom_86 ?_
      refine u_aload_n hC dX9_priceFrom_87 1 rfl rfl ?_
      refine u_iload hC dX9_priceFrom_88 10 rfl ?_
      refine u_ai hC hTv1 dX9_priceFrom_90 hf (fun x90 hf => ?_)
      refine u_i2l hC dX9_priceFrom_91 ?_
      refine u_lcmp hC dX9_priceFrom_92 ?_
      refine u_if_lt (tgt := 108) hC dX9_priceFrom_93 (by decide) hf (fun h93 hf => ?_) (fun h93 hf => ?_)
      · refine u_iload hC dX9_priceFrom_108 9 rfl ?_
        refine u_iload hC dX9_priceFrom_110 0 rfl ?_
        refine u_iadd hC dX9_priceFrom_112 ?_
        refine u_istore (lv' := [(11, .int (s58.2.1 + x72)), (13, .int x72), (1, .ref (X.1 v1)), (4, .ref (X.1 v4)), (5, .int v5), (6, .int v6), (7, .int v7), (8, .int v8), (9, .int v9), (10, .int s58.1), (12, .int s58.2.2)]) hC dX9_priceFrom_113 (by decide) rfl ?_
        refine u_sub (lv' := [(1, .ref (X.1 v1)), (4, .ref (X.1 v4)), (5, .int v5), (6, .int v6), (7, .int v7), (8, .int v8), (9, .int v9), (10, .int s58.1), (11, .int (s58.2.1 + x72)), (12, .int s58.2.2)]) [2, 3, 4, 5, 6, 7, 8, 9, 0, 10] rfl ?_
        exact wjX9_priceFrom_115_58 hC n S v1 v4 v5 v6 v7 v8 v9 s58.1 (s58.2.1 + x72) s58.2.2  hTv1 hTv4 hf hN hO0
      · refine u_iload hC dX9_priceFrom_96 8 rfl ?_
        refine u_aload_n hC dX9_priceFrom_98 1 rfl rfl ?_
        refine u_iload hC dX9_priceFrom_99 10 rfl ?_
        refine u_ai hC hTv1 dX9_priceFrom_101 hf (fun x101 hf => ?_)
        refine u_iadd hC dX9_priceFrom_102 ?_
        refine u_istore (lv' := [(10, .int (s58.1 + x101)), (13, .int x72), (1, .ref (X.1 v1)), (4, .ref (X.1 v4)), (5, .int v5), (6, .int v6), (7, .int v7), (8, .int v8), (9, .int v9), (11, .int s58.2.1), (12, .int s58.2.2)]) hC dX9_priceFrom_103 (by decide) rfl ?_
        refine u_goto (tgt := 115) hC dX9_priceFrom_105 (by decide) ?_
        refine u_sub (lv' := [(1, .ref (X.1 v1)), (4, .ref (X.1 v4)), (5, .int v5), (6, .int v6), (7, .int v7), (8, .int v8), (9, .int v9), (10, .int (s58.1 + x101)), (11, .int s58.2.1), (12, .int s58.2.2)]) [2, 3, 4, 5, 6, 7, 8, 0, 9, 10] rfl ?_
        exact wjX9_priceFrom_115_58 hC n S v1 v4 v5 v6 v7 v8 v9 (s58.1 + x101) s58.2.1 s58.2.2  hTv1 hTv4 hf hN hO0
theorem wbX9_priceFrom_42 {C : CT} {X : XT} (hC : CK C RX9 cX9_priceFrom 14 (some .int) 1) (n : Nat) (S : PS) (v1 : Nat) (v4 : Nat) (v5 : Int32) (v6 : Int32) (v7 : Int32) (hTv1 : Ty X.2.1 v1 12) (hTv4 : Ty X.2.1 v4 12) (s42 : (Int32 × Int32)) {o : (Int32 × Int32) ⊕ (Unit ⊕ (Int32))} (hf : bX9_priceFrom_42 X.2.1 n S v1 v4 v5 v6 v7 s42 = some o) (hN : ∀ s', o = .inl s' → UW C X S 42 [(1, .ref (X.1 v1)), (4, .ref (X.1 v4)), (5, .int v5), (6, .int v6), (7, .int v7), (8, .int s'.1), (9, .int s'.2)] []) (hO0 : ∀ p', o = .inr (.inl p') → UW C X S 170 [] []) (hR : ∀ q', o = .inr (.inr q') → Rt C X cX9_priceFrom (some .int) (some (.int q')) S) : UW C X S 42 [(1, .ref (X.1 v1)), (4, .ref (X.1 v4)), (5, .int v5), (6, .int v6), (7, .int v7), (8, .int s42.1), (9, .int s42.2)] [] := by
  unfold bX9_priceFrom_42 at hf
  refine u_iload hC dX9_priceFrom_42 6 rfl ?_
  refine u_bipush (v := (24 : Int32)) hC dX9_priceFrom_44 (by decide) ?_
  refine u_icmp_gt (tgt := 170) hC dX9_priceFrom_46 (by decide) hf (fun h46 hf => ?_) (fun h46 hf => ?_)
  · refine u_sub (lv' := []) [] rfl ?_
    exact hO0 _ (Option.some.inj hf).symm
  · refine u_iconst (v := (0 : Int32)) hC dX9_priceFrom_49 (by decide) ?_
    refine u_istore (lv' := [(10, .int (0 : Int32)), (1, .ref (X.1 v1)), (4, .ref (X.1 v4)), (5, .int v5), (6, .int v6), (7, .int v7), (8, .int s42.1), (9, .int s42.2)]) hC dX9_priceFrom_50 (by decide) rfl ?_
    refine u_iconst (v := (0 : Int32)) hC dX9_priceFrom_52 (by decide) ?_
    refine u_istore (lv' := [(11, .int (0 : Int32)), (10, .int (0 : Int32)), (1, .ref (X.1 v1)), (4, .ref (X.1 v4)), (5, .int v5), (6, .int v6), (7, .int v7), (8, .int s42.1), (9, .int s42.2)]) hC dX9_priceFrom_53 (by decide) rfl ?_
    refine u_iconst (v := (0 : Int32)) hC dX9_priceFrom_55 (by decide) ?_
    refine u_istore (lv' := [(12, .int (0 : Int32)), (11, .int (0 : Int32)), (10, .int (0 : Int32)), (1, .ref (X.1 v1)), (4, .ref (X.1 v4)), (5, .int v5), (6, .int v6), (7, .int v7), (8, .int s42.1), (9, .int s42.2)]) hC dX9_priceFrom_56 (by decide) rfl ?_
    obtain ⟨r58, hr58, hf⟩ := kc_some hf
    have hk58 : UW C X S 121 [(1, .ref (X.1 v1)), (4, .ref (X.1 v4)), (5, .int v5), (6, .int v6), (7, .int v7), (8, .int s42.1), (9, .int s42.2), (10, .int r58.1), (11, .int r58.2)] [] := by
      refine u_iload hC dX9_priceFrom_121 7 rfl ?_
      refine u_i2l hC dX9_priceFrom_123 ?_
      refine u_iload hC dX9_priceFrom_124 8 rfl ?_
      refine u_i2l hC dX9_priceFrom_126 ?_
      refine u_iload hC dX9_priceFrom_127 5 rfl ?_
      refine u_i2l hC dX9_priceFrom_129 ?_
      refine u_lmul hC dX9_priceFrom_130 ?_
      refine u_ladd hC dX9_priceFrom_131 ?_
      refine u_iload hC dX9_priceFrom_132 4 rfl ?_
      refine u_i2l hC dX9_priceFrom_134 ?_
      refine u_lcmp hC dX9_priceFrom_135 ?_
      refine u_if_lt (tgt := 142) hC dX9_priceFrom_136 (by decide) hf (fun h136 hf => ?_) (fun h136 hf => ?_)
      · refine u_iload hC dX9_priceFrom_142 8 rfl ?_
        refine u_if_gt (tgt := 149) hC dX9_priceFrom_144 (by decide) hf (fun h144 hf => ?_) (fun h144 hf => ?_)
        · refine u_iload hC dX9_priceFrom_149 4 rfl ?_
          refine u_iload hC dX9_priceFrom_151 7 rfl ?_
          refine u_isub hC dX9_priceFrom_153 ?_
          refine u_iload hC dX9_priceFrom_154 8 rfl ?_
          refine u_iadd hC dX9_priceFrom_156 ?_
          refine u_iconst (v := (1 : Int32)) hC dX9_priceFrom_157 (by decide) ?_
          refine u_isub hC dX9_priceFrom_158 ?_
          refine u_iload hC dX9_priceFrom_159 8 rfl ?_
          refine u_idiv hC dX9_priceFrom_161 hf (fun z161 hf => ?_)
          refine u_istore (lv' := [(8, .int z161), (1, .ref (X.1 v1)), (4, .ref (X.1 v4)), (5, .int v5), (6, .int v6), (7, .int v7), (9, .int s42.2), (10, .int r58.1), (11, .int r58.2)]) hC dX9_priceFrom_162 (by decide) rfl ?_
          refine u_iinc (v := s42.2 + (1 : Int32)) (lv' := [(9, .int (s42.2 + (1 : Int32))), (8, .int z161), (1, .ref (X.1 v1)), (4, .ref (X.1 v4)), (5, .int v5), (6, .int v6), (7, .int v7), (10, .int r58.1), (11, .int r58.2)]) hC dX9_priceFrom_164 6 rfl rfl (by decide) rfl ?_
          refine u_goto (tgt := 42) hC dX9_priceFrom_167 (by decide) ?_
          refine u_sub (lv' := [(1, .ref (X.1 v1)), (4, .ref (X.1 v4)), (5, .int v5), (6, .int v6), (7, .int v7), (8, .int z161), (9, .int (s42.2 + (1 : Int32)))]) [2, 3, 4, 5, 6, 1, 0] rfl ?_
          exact hN _ (Option.some.inj hf).symm
        · refine u_iconst (v := (-1 : Int32)) hC dX9_priceFrom_147 (by decide) ?_
          exact hR _ (Option.some.inj hf).symm _ _ dX9_priceFrom_148 trivial
      · refine u_iload hC dX9_priceFrom_139 5 rfl ?_
        exact hR _ (Option.some.inj hf).symm _ _ dX9_priceFrom_141 trivial
    refine u_sub (lv' := [(1, .ref (X.1 v1)), (4, .ref (X.1 v4)), (5, .int v5), (6, .int v6), (7, .int v7), (8, .int s42.1), (9, .int s42.2), (10, .int (0 : Int32)), (11, .int (0 : Int32)), (12, .int (0 : Int32))]) [3, 4, 5, 6, 7, 8, 9, 2, 1, 0] rfl ?_
    refine iter_ind (P := fun s58 => UW C X S 58 [(1, .ref (X.1 v1)), (4, .ref (X.1 v4)), (5, .int v5), (6, .int v6), (7, .int v7), (8, .int s42.1), (9, .int s42.2), (10, .int s58.1), (11, .int s58.2.1), (12, .int s58.2.2)] []) (fun s58 o' hb hin hout => ?_) n ((0 : Int32), (0 : Int32), (0 : Int32)) hr58
    exact wbX9_priceFrom_58 hC n S v1 v4 v5 v6 v7 s42.1 s42.2 hTv1 hTv4 s58 hb hin (fun p e => by rw [hout p e]; exact hk58)
theorem wX9_priceFrom {C : CT} {X : XT} (hC : CK C RX9 cX9_priceFrom 14 (some .int) 1) (n : Nat) (S : PS) (a0 : Nat) (a1 : Nat) (x2_ : Int32) (x3_ : Int32) (hTa0 : Ty X.2.1 a0 6) (hTa1 : Ty X.2.1 a1 12) {o : Int32} (hf : fX9_priceFrom X.2.1 n S a0 a1 x2_ x3_ = some o) (hR : Rt C X cX9_priceFrom (some .int) (some (.int o)) S) : UW C X S 0 [(0, .ref (X.1 a0)), (1, .ref (X.1 a1)), (2, .int x2_), (3, .int x3_)] [] := by
  unfold fX9_priceFrom at hf
  refine u_aload_n hC dX9_priceFrom_0 0 rfl rfl ?_
  refine u_gr hC lf_X9_118 rfl hTa0 dX9_priceFrom_1 hf (fun b1 hTb1 hf => ?_)
  refine u_astore (lv' := [(4, .ref (X.1 b1)), (0, .ref (X.1 a0)), (1, .ref (X.1 a1)), (2, .int x2_), (3, .int x3_)]) hC dX9_priceFrom_4 (by decide) rfl ?_
  refine u_aload_n hC dX9_priceFrom_6 1 rfl rfl ?_
  refine u_gr hC lf_X9_18 rfl hTa0 dX9_priceFrom_7 hf (fun b7 hTb7 hf => ?_)
  refine u_gi hC lf_X9_68 rfl hTb7 dX9_priceFrom_10 hf (fun x10 hf => ?_)
  refine u_istore (lv' := [(5, .int x10), (4, .ref (X.1 b1)), (0, .ref (X.1 a0)), (1, .ref (X.1 a1)), (2, .int x2_), (3, .int x3_)]) hC dX9_priceFrom_13 (by decide) rfl ?_
  refine u_iload_n hC dX9_priceFrom_15 4 rfl rfl ?_
  refine u_bipush (v := (24 : Int32)) hC dX9_priceFrom_16 (by decide) ?_
  refine u_imul hC dX9_priceFrom_18 ?_
  refine u_istore (lv' := [(6, .int (x2_ * (24 : Int32))), (5, .int x10), (4, .ref (X.1 b1)), (0, .ref (X.1 a0)), (1, .ref (X.1 a1)), (2, .int x2_), (3, .int x3_)]) hC dX9_priceFrom_19 (by decide) rfl ?_
  refine u_aload_n hC dX9_priceFrom_21 3 rfl rfl ?_
  refine u_gr hC lf_X9_18 rfl hTa0 dX9_priceFrom_22 hf (fun b22 hTb22 hf => ?_)
  refine u_gr hC lf_X9_97 rfl hTb22 dX9_priceFrom_25 hf (fun b25 hTb25 hf => ?_)
  refine u_iload_n hC dX9_priceFrom_28 5 rfl rfl ?_
  refine u_ai hC hTb25 dX9_priceFrom_29 hf (fun x29 hf => ?_)
  refine u_sipush (v := (1000 : Int32)) hC dX9_priceFrom_30 (by decide) ?_
  refine u_imul hC dX9_priceFrom_33 ?_
  refine u_istore (lv' := [(7, .int (x29 * (1000 : Int32))), (6, .int (x2_ * (24 : Int32))), (5, .int x10), (4, .ref (X.1 b1)), (0, .ref (X.1 a0)), (1, .ref (X.1 a1)), (2, .int x2_), (3, .int x3_)]) hC dX9_priceFrom_34 (by decide) rfl ?_
  refine u_iload_n hC dX9_priceFrom_36 7 rfl rfl ?_
  refine u_istore (lv' := [(8, .int x3_), (7, .int (x29 * (1000 : Int32))), (6, .int (x2_ * (24 : Int32))), (5, .int x10), (4, .ref (X.1 b1)), (0, .ref (X.1 a0)), (1, .ref (X.1 a1)), (2, .int x2_), (3, .int x3_)]) hC dX9_priceFrom_37 (by decide) rfl ?_
  refine u_iconst (v := (0 : Int32)) hC dX9_priceFrom_39 (by decide) ?_
  refine u_istore (lv' := [(9, .int (0 : Int32)), (8, .int x3_), (7, .int (x29 * (1000 : Int32))), (6, .int (x2_ * (24 : Int32))), (5, .int x10), (4, .ref (X.1 b1)), (0, .ref (X.1 a0)), (1, .ref (X.1 a1)), (2, .int x2_), (3, .int x3_)]) hC dX9_priceFrom_40 (by decide) rfl ?_
  obtain ⟨r42, hr42, hf⟩ := kc_some hf
  have hk42_0 : ∀ p42_0, r42 = (.inl p42_0) → UW C X S 170 [] [] := by
    intro p42_0 he
    subst he
    have hf := ks_l hf
    refine u_iconst (v := (-1 : Int32)) hC dX9_priceFrom_170 (by decide) ?_
    cases hf
    exact hR _ _ dX9_priceFrom_171 trivial
  have hk42_1 : ∀ p42_1, r42 = (.inr p42_1) → Rt C X cX9_priceFrom (some .int) (some (.int p42_1)) S := by
    intro p42_1 he
    subst he
    have hf := ks_r hf
    cases hf
    exact hR
  refine u_sub (lv' := [(1, .ref (X.1 a1)), (4, .ref (X.1 b1)), (5, .int x10), (6, .int (x2_ * (24 : Int32))), (7, .int (x29 * (1000 : Int32))), (8, .int x3_), (9, .int (0 : Int32))]) [7, 5, 4, 3, 2, 1, 0] rfl ?_
  refine iter_ind (P := fun s42 => UW C X S 42 [(1, .ref (X.1 a1)), (4, .ref (X.1 b1)), (5, .int x10), (6, .int (x2_ * (24 : Int32))), (7, .int (x29 * (1000 : Int32))), (8, .int s42.1), (9, .int s42.2)] []) (fun s42 o' hb hin hout => ?_) n (x3_, (0 : Int32)) hr42
  exact wbX9_priceFrom_42 hC n S a1 b1 x10 (x2_ * (24 : Int32)) (x29 * (1000 : Int32)) hTa1 hTb1 s42 hb hin (fun p e => hk42_0 p (hout _ e).symm) (fun p e => hk42_1 p (hout _ e).symm)
theorem ctX9_priceFrom (l : Launch) (hl : l.stackTraces = false) (G : GT) (ρ : Nat → Nat) (Y : XS) (n : Nat) (S : PS) (a0 : Nat) (a1 : Nat) (x2_ : Int32) (x3_ : Int32) (hTa0 : Ty Y a0 6) (hTa1 : Ty Y a1 12) {o : Int32} (hf : fX9_priceFrom Y n S a0 a1 x2_ x3_ = some o) : Mt l G yX9_priceFrom cX9_priceFrom 14 (some .int) 1 ρ Y [.ref (ρ a0), .ref (ρ a1), .int x2_, .int x3_] S (some (.int o)) S :=
  Mt_of hl (by decide) (Nat.le_of_ble_eq_true rfl) (fun C _ _ hC hR => wX9_priceFrom (X := (ρ, Y, 0, 0)) hC n S a0 a1 x2_ x3_ hTa0 hTa1 hf hR)
-- X9_cheapest
theorem dX9_cheapest_0 : decode cX9_cheapest 0 = .ok (.iconst 0, 1) := by decide +kernel
theorem dX9_cheapest_1 : decode cX9_cheapest 1 = .ok (.istore_n 3, 1) := by decide +kernel
theorem dX9_cheapest_2 : decode cX9_cheapest 2 = .ok (.iconst 0, 1) := by decide +kernel
theorem dX9_cheapest_3 : decode cX9_cheapest 3 = .ok (.istore 4, 2) := by decide +kernel
theorem dX9_cheapest_5 : decode cX9_cheapest 5 = .ok (.iload 4, 2) := by decide +kernel
theorem dX9_cheapest_7 : decode cX9_cheapest 7 = .ok (.bipush 24, 2) := by decide +kernel
theorem dX9_cheapest_9 : decode cX9_cheapest 9 = .ok (.if_icmp .gt 62, 3) := by decide +kernel
theorem dX9_cheapest_12 : decode cX9_cheapest 12 = .ok (.aload_n 0, 1) := by decide +kernel
theorem dX9_cheapest_13 : decode cX9_cheapest 13 = .ok (.aload_n 1, 1) := by decide +kernel
theorem dX9_cheapest_14 : decode cX9_cheapest 14 = .ok (.invokevirtual 100, 3) := by decide +kernel
theorem dX9_cheapest_17 : decode cX9_cheapest 17 = .ok (.istore 5, 2) := by decide +kernel
theorem dX9_cheapest_19 : decode cX9_cheapest 19 = .ok (.iload 5, 2) := by decide +kernel
theorem dX9_cheapest_21 : decode cX9_cheapest 21 = .ok (.iconst (-1), 1) := by decide +kernel
theorem dX9_cheapest_22 : decode cX9_cheapest 22 = .ok (.if_icmp .eq 12, 3) := by decide +kernel
theorem dX9_cheapest_25 : decode cX9_cheapest 25 = .ok (.iload 5, 2) := by decide +kernel
theorem dX9_cheapest_27 : decode cX9_cheapest 27 = .ok (.iload_n 3, 1) := by decide +kernel
theorem dX9_cheapest_28 : decode cX9_cheapest 28 = .ok (.invokestatic 104, 3) := by decide +kernel
theorem dX9_cheapest_31 : decode cX9_cheapest 31 = .ok (.ifCond .eq 6, 3) := by decide +kernel
theorem dX9_cheapest_34 : decode cX9_cheapest 34 = .ok (.iload 5, 2) := by decide +kernel
theorem dX9_cheapest_36 : decode cX9_cheapest 36 = .ok (.ireturn, 1) := by decide +kernel
theorem dX9_cheapest_37 : decode cX9_cheapest 37 = .ok (.aload_n 0, 1) := by decide +kernel
theorem dX9_cheapest_38 : decode cX9_cheapest 38 = .ok (.getfield 9, 3) := by decide +kernel
theorem dX9_cheapest_41 : decode cX9_cheapest 41 = .ok (.iload 5, 2) := by decide +kernel
theorem dX9_cheapest_43 : decode cX9_cheapest 43 = .ok (.aload_n 1, 1) := by decide +kernel
theorem dX9_cheapest_44 : decode cX9_cheapest 44 = .ok (.aload_n 2, 1) := by decide +kernel
theorem dX9_cheapest_45 : decode cX9_cheapest 45 = .ok (.iload 5, 2) := by decide +kernel
theorem dX9_cheapest_47 : decode cX9_cheapest 47 = .ok (.aload_n 0, 1) := by decide +kernel
theorem dX9_cheapest_48 : decode cX9_cheapest 48 = .ok (.getfield 9, 3) := by decide +kernel
theorem dX9_cheapest_51 : decode cX9_cheapest 51 = .ok (.iload 5, 2) := by decide +kernel
theorem dX9_cheapest_53 : decode cX9_cheapest 53 = .ok (.iaload, 1) := by decide +kernel
theorem dX9_cheapest_54 : decode cX9_cheapest 54 = .ok (.invokestatic 108, 3) := by decide +kernel
theorem dX9_cheapest_57 : decode cX9_cheapest 57 = .ok (.iastore, 1) := by decide +kernel
theorem dX9_cheapest_58 : decode cX9_cheapest 58 = .ok (.iload_n 3, 1) := by decide +kernel
theorem dX9_cheapest_59 : decode cX9_cheapest 59 = .ok (.iconst 1, 1) := by decide +kernel
theorem dX9_cheapest_60 : decode cX9_cheapest 60 = .ok (.iload 5, 2) := by decide +kernel
theorem dX9_cheapest_62 : decode cX9_cheapest 62 = .ok (.ishl, 1) := by decide +kernel
theorem dX9_cheapest_63 : decode cX9_cheapest 63 = .ok (.ior, 1) := by decide +kernel
theorem dX9_cheapest_64 : decode cX9_cheapest 64 = .ok (.istore_n 3, 1) := by decide +kernel
theorem dX9_cheapest_65 : decode cX9_cheapest 65 = .ok (.iinc 4 1, 3) := by decide +kernel
theorem dX9_cheapest_68 : decode cX9_cheapest 68 = .ok (.goto (-63), 3) := by decide +kernel
theorem dX9_cheapest_71 : decode cX9_cheapest 71 = .ok (.iconst (-1), 1) := by decide +kernel
theorem dX9_cheapest_72 : decode cX9_cheapest 72 = .ok (.ireturn, 1) := by decide +kernel
def jX9_cheapest_34_5 (Y : XS) (n : Nat) (S : PS) (v5 : Int32) : Option ((Int32 × Int32 × PS) ⊕ (PS ⊕ (Int32 × PS))) :=
  some (.inr (.inr (v5, S)))
def bX9_cheapest_5 (Y : XS) (n : Nat) (v0 : Nat) (v1 : Nat) (v2 : Nat) (s5 : (Int32 × Int32 × PS)) : Option ((Int32 × Int32 × PS) ⊕ (PS ⊕ (Int32 × PS))) :=
  (if (24 : Int32) < s5.2.1 then some (.inr (.inl s5.2.2)) else kc (fX9_leastBound Y n s5.2.2 v0 v1) (fun q14 => (if q14 = (-1 : Int32) then jX9_cheapest_34_5 Y n s5.2.2 q14 else kc (fX10_isIn Y n s5.2.2 q14 s5.1) (fun q28 => (if q28 = 0 then kgr s5.2.2 v0 0 (fun b38 => kgr s5.2.2 v0 0 (fun b48 => kai Y s5.2.2 b48 q14 (fun x53 => kc (fX9_priceFrom Y n s5.2.2 v1 v2 q14 x53) (fun q54 => kwi Y s5.2.2 b38 q14 q54 (fun S57 => some (.inl (s5.1 ||| ((1 : Int32) <<< (q14 &&& 31)), s5.2.1 + (1 : Int32), S57))))))) else jX9_cheapest_34_5 Y n s5.2.2 q14)))))
def fX9_cheapest (Y : XS) (n : Nat) (S : PS) (a0 : Nat) (a1 : Nat) (a2 : Nat) : Option (Int32 × PS) :=
  kc (iter (bX9_cheapest_5 Y n a0 a1 a2) n ((0 : Int32), (0 : Int32), S)) (fun r5 => ks r5 (fun p5_0 => some ((-1 : Int32), p5_0)) (fun p5_1 => some p5_1))
theorem wjX9_cheapest_34_5 {C : CT} {X : XT} (hC : CK C RX9 cX9_cheapest 6 (some .int) 2) (n : Nat) (S : PS) (v5 : Int32) (v0 : Nat) (v1 : Nat) (v2 : Nat)  {o : (Int32 × Int32 × PS) ⊕ (PS ⊕ (Int32 × PS))} (hf : jX9_cheapest_34_5 X.2.1 n S v5 = some o) (hN : ∀ s', o = .inl s' → UW C X s'.2.2 5 [(0, .ref (X.1 v0)), (1, .ref (X.1 v1)), (2, .ref (X.1 v2)), (3, .int s'.1), (4, .int s'.2.1)] []) (hO0 : ∀ p', o = .inr (.inl p') → UW C X p' 71 [] []) (hR : ∀ q', o = .inr (.inr q') → Rt C X cX9_cheapest (some .int) (some (.int q'.1)) q'.2) : UW C X S 34 [(5, .int v5)] [] := by
  unfold jX9_cheapest_34_5 at hf
  refine u_iload hC dX9_cheapest_34 0 rfl ?_
  exact hR _ (Option.some.inj hf).symm _ _ dX9_cheapest_36 trivial
theorem wbX9_cheapest_5 {C : CT} {X : XT} (hC : CK C RX9 cX9_cheapest 6 (some .int) 2) (n : Nat) (v0 : Nat) (v1 : Nat) (v2 : Nat) (hTv0 : Ty X.2.1 v0 9) (hTv1 : Ty X.2.1 v1 6) (hTv2 : Ty X.2.1 v2 12) (s5 : (Int32 × Int32 × PS)) {o : (Int32 × Int32 × PS) ⊕ (PS ⊕ (Int32 × PS))} (hf : bX9_cheapest_5 X.2.1 n v0 v1 v2 s5 = some o) (hN : ∀ s', o = .inl s' → UW C X s'.2.2 5 [(0, .ref (X.1 v0)), (1, .ref (X.1 v1)), (2, .ref (X.1 v2)), (3, .int s'.1), (4, .int s'.2.1)] []) (hO0 : ∀ p', o = .inr (.inl p') → UW C X p' 71 [] []) (hR : ∀ q', o = .inr (.inr q') → Rt C X cX9_cheapest (some .int) (some (.int q'.1)) q'.2) : UW C X s5.2.2 5 [(0, .ref (X.1 v0)), (1, .ref (X.1 v1)), (2, .ref (X.1 v2)), (3, .int s5.1), (4, .int s5.2.1)] [] := by
  unfold bX9_cheapest_5 at hf
  refine u_iload hC dX9_cheapest_5 4 rfl ?_
  refine u_bipush (v := (24 : Int32)) hC dX9_cheapest_7 (by decide) ?_
  refine u_icmp_gt (tgt := 71) hC dX9_cheapest_9 (by decide) hf (fun h9 hf => ?_) (fun h9 hf => ?_)
  · refine u_sub (lv' := []) [] rfl ?_
    exact hO0 _ (Option.some.inj hf).symm
  · refine u_aload_n hC dX9_cheapest_12 0 rfl rfl ?_
    refine u_aload_n hC dX9_cheapest_13 1 rfl rfl ?_
    obtain ⟨q14, hq14, hf⟩ := kc_some hf
    refine u_callV hC (ctX9_leastBound (cL C) hC.tr (cG C) X.1 X.2.1 n s5.2.2 v0 v1 hTv0 hTv1 hq14) lk_X9_100 rfl hTv0 (by decide) rfl (by decide) (by decide) rfl rfl (Nat.le_of_ble_eq_true rfl) dX9_cheapest_14 ?_
    refine u_istore (lv' := [(5, .int q14), (0, .ref (X.1 v0)), (1, .ref (X.1 v1)), (2, .ref (X.1 v2)), (3, .int s5.1), (4, .int s5.2.1)]) hC dX9_cheapest_17 (by decide) rfl ?_
    refine u_iload hC dX9_cheapest_19 0 rfl ?_
    refine u_iconst (v := (-1 : Int32)) hC dX9_cheapest_21 (by decide) ?_
    refine u_icmp_eq (tgt := 34) hC dX9_cheapest_22 (by decide) hf (fun h22 hf => ?_) (fun h22 hf => ?_)
    · refine u_sub (lv' := [(5, .int q14)]) [0] rfl ?_
      exact wjX9_cheapest_34_5 hC n s5.2.2 q14 v0 v1 v2  hf hN hO0 hR
    · refine u_iload hC dX9_cheapest_25 0 rfl ?_
      refine u_iload_n hC dX9_cheapest_27 4 rfl rfl ?_
      obtain ⟨q28, hq28, hf⟩ := kc_some hf
      refine u_callSN hC (ctX10_isIn (cL C) hC.tr (cG C) X.1 X.2.1 n s5.2.2 q14 s5.1  hq28) lk_X9_104 ls_X9_104 (by decide) (by decide) rfl rfl (Nat.le_of_ble_eq_true rfl) dX9_cheapest_28 ?_
      refine u_if_eq (tgt := 37) hC dX9_cheapest_31 (by decide) hf (fun h31 hf => ?_) (fun h31 hf => ?_)
      · refine u_aload_n hC dX9_cheapest_37 1 rfl rfl ?_
        refine u_gr hC lf_X9_9 rfl hTv0 dX9_cheapest_38 hf (fun b38 hTb38 hf => ?_)
        refine u_iload hC dX9_cheapest_41 0 rfl ?_
        refine u_aload_n hC dX9_cheapest_43 2 rfl rfl ?_
        refine u_aload_n hC dX9_cheapest_44 3 rfl rfl ?_
        refine u_iload hC dX9_cheapest_45 0 rfl ?_
        refine u_aload_n hC dX9_cheapest_47 1 rfl rfl ?_
        refine u_gr hC lf_X9_9 rfl hTv0 dX9_cheapest_48 hf (fun b48 hTb48 hf => ?_)
        refine u_iload hC dX9_cheapest_51 0 rfl ?_
        refine u_ai hC hTb48 dX9_cheapest_53 hf (fun x53 hf => ?_)
        obtain ⟨q54, hq54, hf⟩ := kc_some hf
        refine u_callS hC (ctX9_priceFrom (cL C) hC.tr (cG C) X.1 X.2.1 n s5.2.2 v1 v2 q14 x53 hTv1 hTv2 hq54) lk_X9_108 (by decide) (by decide) rfl rfl (Nat.le_of_ble_eq_true rfl) dX9_cheapest_54 ?_
        refine u_wi hC hTb38 dX9_cheapest_57 hf (fun S57 hf => ?_)
        refine u_iload_n hC dX9_cheapest_58 4 rfl rfl ?_
        refine u_iconst (v := (1 : Int32)) hC dX9_cheapest_59 (by decide) ?_
        refine u_iload hC dX9_cheapest_60 0 rfl ?_
        refine u_ishl hC dX9_cheapest_62 ?_
        refine u_ior hC dX9_cheapest_63 ?_
        refine u_istore_n (lv' := [(3, .int (s5.1 ||| ((1 : Int32) <<< (q14 &&& 31)))), (5, .int q14), (0, .ref (X.1 v0)), (1, .ref (X.1 v1)), (2, .ref (X.1 v2)), (4, .int s5.2.1)]) hC dX9_cheapest_64 rfl (by decide) rfl ?_
        refine u_iinc (v := s5.2.1 + (1 : Int32)) (lv' := [(4, .int (s5.2.1 + (1 : Int32))), (3, .int (s5.1 ||| ((1 : Int32) <<< (q14 &&& 31)))), (5, .int q14), (0, .ref (X.1 v0)), (1, .ref (X.1 v1)), (2, .ref (X.1 v2))]) hC dX9_cheapest_65 5 rfl rfl (by decide) rfl ?_
        refine u_goto (tgt := 5) hC dX9_cheapest_68 (by decide) ?_
        refine u_sub (lv' := [(0, .ref (X.1 v0)), (1, .ref (X.1 v1)), (2, .ref (X.1 v2)), (3, .int (s5.1 ||| ((1 : Int32) <<< (q14 &&& 31)))), (4, .int (s5.2.1 + (1 : Int32)))]) [3, 4, 5, 1, 0] rfl ?_
        exact hN _ (Option.some.inj hf).symm
      · refine u_sub (lv' := [(5, .int q14)]) [0] rfl ?_
        exact wjX9_cheapest_34_5 hC n s5.2.2 q14 v0 v1 v2  hf hN hO0 hR
theorem wX9_cheapest {C : CT} {X : XT} (hC : CK C RX9 cX9_cheapest 6 (some .int) 2) (n : Nat) (S : PS) (a0 : Nat) (a1 : Nat) (a2 : Nat) (hTa0 : Ty X.2.1 a0 9) (hTa1 : Ty X.2.1 a1 6) (hTa2 : Ty X.2.1 a2 12) {o : Int32 × PS} (hf : fX9_cheapest X.2.1 n S a0 a1 a2 = some o) (hR : Rt C X cX9_cheapest (some .int) (some (.int o.1)) o.2) : UW C X S 0 [(0, .ref (X.1 a0)), (1, .ref (X.1 a1)), (2, .ref (X.1 a2))] [] := by
  unfold fX9_cheapest at hf
  refine u_iconst (v := (0 : Int32)) hC dX9_cheapest_0 (by decide) ?_
  refine u_istore_n (lv' := [(3, .int (0 : Int32)), (0, .ref (X.1 a0)), (1, .ref (X.1 a1)), (2, .ref (X.1 a2))]) hC dX9_cheapest_1 rfl (by decide) rfl ?_
  refine u_iconst (v := (0 : Int32)) hC dX9_cheapest_2 (by decide) ?_
  refine u_istore (lv' := [(4, .int (0 : Int32)), (3, .int (0 : Int32)), (0, .ref (X.1 a0)), (1, .ref (X.1 a1)), (2, .ref (X.1 a2))]) hC dX9_cheapest_3 (by decide) rfl ?_
  obtain ⟨r5, hr5, hf⟩ := kc_some hf
  have hk5_0 : ∀ p5_0, r5 = (.inl p5_0) → UW C X p5_0 71 [] [] := by
    intro p5_0 he
    subst he
    have hf := ks_l hf
    refine u_iconst (v := (-1 : Int32)) hC dX9_cheapest_71 (by decide) ?_
    cases hf
    exact hR _ _ dX9_cheapest_72 trivial
  have hk5_1 : ∀ p5_1, r5 = (.inr p5_1) → Rt C X cX9_cheapest (some .int) (some (.int p5_1.1)) p5_1.2 := by
    intro p5_1 he
    subst he
    have hf := ks_r hf
    cases hf
    exact hR
  refine u_sub (lv' := [(0, .ref (X.1 a0)), (1, .ref (X.1 a1)), (2, .ref (X.1 a2)), (3, .int (0 : Int32)), (4, .int (0 : Int32))]) [2, 3, 4, 1, 0] rfl ?_
  refine iter_ind (P := fun s5 => UW C X s5.2.2 5 [(0, .ref (X.1 a0)), (1, .ref (X.1 a1)), (2, .ref (X.1 a2)), (3, .int s5.1), (4, .int s5.2.1)] []) (fun s5 o' hb hin hout => ?_) n ((0 : Int32), (0 : Int32), S) hr5
  exact wbX9_cheapest_5 hC n a0 a1 a2 hTa0 hTa1 hTa2 s5 hb hin (fun p e => hk5_0 p (hout _ e).symm) (fun p e => hk5_1 p (hout _ e).symm)
theorem ctX9_cheapest (l : Launch) (hl : l.stackTraces = false) (G : GT) (ρ : Nat → Nat) (Y : XS) (n : Nat) (S : PS) (a0 : Nat) (a1 : Nat) (a2 : Nat) (hTa0 : Ty Y a0 9) (hTa1 : Ty Y a1 6) (hTa2 : Ty Y a2 12) {o : Int32 × PS} (hf : fX9_cheapest Y n S a0 a1 a2 = some o) : Mt l G yX9_cheapest cX9_cheapest 6 (some .int) 2 ρ Y [.ref (ρ a0), .ref (ρ a1), .ref (ρ a2)] S (some (.int o.1)) o.2 :=
  Mt_of hl (by decide) (Nat.le_of_ble_eq_true rfl) (fun C _ _ hC hR => wX9_cheapest (X := (ρ, Y, 0, 0)) hC n S a0 a1 a2 hTa0 hTa1 hTa2 hf hR)
-- X9_share
theorem dX9_share_0 : decode cX9_share 0 = .ok (.aload_n 1, 1) := by decide +kernel
theorem dX9_share_1 : decode cX9_share 1 = .ok (.getfield 18, 3) := by decide +kernel
theorem dX9_share_4 : decode cX9_share 4 = .ok (.astore 4, 2) := by decide +kernel
theorem dX9_share_6 : decode cX9_share 6 = .ok (.aload_n 2, 1) := by decide +kernel
theorem dX9_share_7 : decode cX9_share 7 = .ok (.invokevirtual 24, 3) := by decide +kernel
theorem dX9_share_10 : decode cX9_share 10 = .ok (.aload_n 2, 1) := by decide +kernel
theorem dX9_share_11 : decode cX9_share 11 = .ok (.iload_n 3, 1) := by decide +kernel
theorem dX9_share_12 : decode cX9_share 12 = .ok (.putfield 29, 3) := by decide +kernel
theorem dX9_share_15 : decode cX9_share 15 = .ok (.aload_n 2, 1) := by decide +kernel
theorem dX9_share_16 : decode cX9_share 16 = .ok (.getfield 33, 3) := by decide +kernel
theorem dX9_share_19 : decode cX9_share 19 = .ok (.aload_n 1, 1) := by decide +kernel
theorem dX9_share_20 : decode cX9_share 20 = .ok (.iload_n 3, 1) := by decide +kernel
theorem dX9_share_21 : decode cX9_share 21 = .ok (.invokestatic 36, 3) := by decide +kernel
theorem dX9_share_24 : decode cX9_share 24 = .ok (.invokestatic 40, 3) := by decide +kernel
theorem dX9_share_27 : decode cX9_share 27 = .ok (.iconst 0, 1) := by decide +kernel
theorem dX9_share_28 : decode cX9_share 28 = .ok (.istore 5, 2) := by decide +kernel
theorem dX9_share_30 : decode cX9_share 30 = .ok (.iload 5, 2) := by decide +kernel
theorem dX9_share_32 : decode cX9_share 32 = .ok (.aload 4, 2) := by decide +kernel
theorem dX9_share_34 : decode cX9_share 34 = .ok (.getfield 46, 3) := by decide +kernel
theorem dX9_share_37 : decode cX9_share 37 = .ok (.if_icmp .ge 22, 3) := by decide +kernel
theorem dX9_share_40 : decode cX9_share 40 = .ok (.aload_n 0, 1) := by decide +kernel
theorem dX9_share_41 : decode cX9_share 41 = .ok (.getfield 9, 3) := by decide +kernel
theorem dX9_share_44 : decode cX9_share 44 = .ok (.iload 5, 2) := by decide +kernel
theorem dX9_share_46 : decode cX9_share 46 = .ok (.aload_n 1, 1) := by decide +kernel
theorem dX9_share_47 : decode cX9_share 47 = .ok (.iload 5, 2) := by decide +kernel
theorem dX9_share_49 : decode cX9_share 49 = .ok (.invokestatic 51, 3) := by decide +kernel
theorem dX9_share_52 : decode cX9_share 52 = .ok (.iastore, 1) := by decide +kernel
theorem dX9_share_53 : decode cX9_share 53 = .ok (.iinc 5 1, 3) := by decide +kernel
theorem dX9_share_56 : decode cX9_share 56 = .ok (.goto (-26), 3) := by decide +kernel
theorem dX9_share_59 : decode cX9_share 59 = .ok (.iconst 0, 1) := by decide +kernel
theorem dX9_share_60 : decode cX9_share 60 = .ok (.istore 5, 2) := by decide +kernel
theorem dX9_share_62 : decode cX9_share 62 = .ok (.iload 5, 2) := by decide +kernel
theorem dX9_share_64 : decode cX9_share 64 = .ok (.aload 4, 2) := by decide +kernel
theorem dX9_share_66 : decode cX9_share 66 = .ok (.getfield 46, 3) := by decide +kernel
theorem dX9_share_69 : decode cX9_share 69 = .ok (.if_icmp .ge 61, 3) := by decide +kernel
theorem dX9_share_72 : decode cX9_share 72 = .ok (.aload_n 2, 1) := by decide +kernel
theorem dX9_share_73 : decode cX9_share 73 = .ok (.getfield 54, 3) := by decide +kernel
theorem dX9_share_76 : decode cX9_share 76 = .ok (.aload 4, 2) := by decide +kernel
theorem dX9_share_78 : decode cX9_share 78 = .ok (.getfield 57, 3) := by decide +kernel
theorem dX9_share_81 : decode cX9_share 81 = .ok (.if_icmp .gt 49, 3) := by decide +kernel
theorem dX9_share_84 : decode cX9_share 84 = .ok (.aload_n 0, 1) := by decide +kernel
theorem dX9_share_85 : decode cX9_share 85 = .ok (.aload_n 1, 1) := by decide +kernel
theorem dX9_share_86 : decode cX9_share 86 = .ok (.aload_n 2, 1) := by decide +kernel
theorem dX9_share_87 : decode cX9_share 87 = .ok (.getfield 33, 3) := by decide +kernel
theorem dX9_share_90 : decode cX9_share 90 = .ok (.invokevirtual 60, 3) := by decide +kernel
theorem dX9_share_93 : decode cX9_share 93 = .ok (.istore 6, 2) := by decide +kernel
theorem dX9_share_95 : decode cX9_share 95 = .ok (.iload 6, 2) := by decide +kernel
theorem dX9_share_97 : decode cX9_share 97 = .ok (.iconst (-1), 1) := by decide +kernel
theorem dX9_share_98 : decode cX9_share 98 = .ok (.if_icmp .ne 4, 3) := by decide +kernel
theorem dX9_share_101 : decode cX9_share 101 = .ok (.return_, 1) := by decide +kernel
theorem dX9_share_102 : decode cX9_share 102 = .ok (.aload_n 2, 1) := by decide +kernel
theorem dX9_share_103 : decode cX9_share 103 = .ok (.aload_n 1, 1) := by decide +kernel
theorem dX9_share_104 : decode cX9_share 104 = .ok (.iload 6, 2) := by decide +kernel
theorem dX9_share_106 : decode cX9_share 106 = .ok (.aload_n 0, 1) := by decide +kernel
theorem dX9_share_107 : decode cX9_share 107 = .ok (.getfield 9, 3) := by decide +kernel
theorem dX9_share_110 : decode cX9_share 110 = .ok (.iload 6, 2) := by decide +kernel
theorem dX9_share_112 : decode cX9_share 112 = .ok (.iaload, 1) := by decide +kernel
theorem dX9_share_113 : decode cX9_share 113 = .ok (.invokevirtual 64, 3) := by decide +kernel
theorem dX9_share_116 : decode cX9_share 116 = .ok (.aload_n 0, 1) := by decide +kernel
theorem dX9_share_117 : decode cX9_share 117 = .ok (.getfield 9, 3) := by decide +kernel
theorem dX9_share_120 : decode cX9_share 120 = .ok (.iload 6, 2) := by decide +kernel
theorem dX9_share_122 : decode cX9_share 122 = .ok (.iconst (-1), 1) := by decide +kernel
theorem dX9_share_123 : decode cX9_share 123 = .ok (.iastore, 1) := by decide +kernel
theorem dX9_share_124 : decode cX9_share 124 = .ok (.iinc 5 1, 3) := by decide +kernel
theorem dX9_share_127 : decode cX9_share 127 = .ok (.goto (-65), 3) := by decide +kernel
theorem dX9_share_130 : decode cX9_share 130 = .ok (.return_, 1) := by decide +kernel
def bX9_share_30 (Y : XS) (n : Nat) (v0 : Nat) (v1 : Nat) (v2 : Nat) (v4 : Nat) (s30 : (Int32 × PS)) : Option ((Int32 × PS) ⊕ PS) :=
  kgi s30.2 v4 1 (fun x34 => (if x34 ≤ s30.1 then some (.inr s30.2) else kgr s30.2 v0 0 (fun b41 => kc (fX9_firstBound Y n s30.2 v1 s30.1) (fun q49 => kwi Y s30.2 b41 s30.1 q49 (fun S52 => some (.inl (s30.1 + (1 : Int32), S52)))))))
def bX9_share_62 (Y : XS) (n : Nat) (v0 : Nat) (v1 : Nat) (v2 : Nat) (v4 : Nat) (s62 : (Int32 × PS)) : Option ((Int32 × PS) ⊕ (PS ⊕ (PS))) :=
  kgi s62.2 v4 1 (fun x66 => (if x66 ≤ s62.1 then some (.inr (.inl s62.2)) else kgi s62.2 v2 3 (fun x73 => kgi s62.2 v4 0 (fun x78 => (if x78 < x73 then some (.inr (.inl s62.2)) else kgr s62.2 v2 7 (fun b87 => kc (fX9_cheapest Y n s62.2 v0 v1 b87) (fun q90 => (if q90.1 = (-1 : Int32) then some (.inr (.inr q90.2)) else kgr q90.2 v0 0 (fun b107 => kai Y q90.2 b107 q90.1 (fun x112 => kc (fX5_buy Y n q90.2 v2 v1 q90.1 x112) (fun q113 => kgr q113 v0 0 (fun b117 => kwi Y q113 b117 q90.1 (-1 : Int32) (fun S123 => some (.inl (s62.1 + (1 : Int32), S123)))))))))))))))
def jX9_share_130 (Y : XS) (n : Nat) (S : PS)  : Option (PS) :=
  some S
def fX9_share (Y : XS) (n : Nat) (S : PS) (a0 : Nat) (a1 : Nat) (a2 : Nat) (x3_ : Int32) : Option (PS) :=
  kgr S a1 0 (fun b1 => kc (fX5_clear Y n S a2) (fun q7 => kpi q7 a2 4 x3_ (fun S12 => kgr S12 a2 7 (fun b16 => kc (fX9_purseOf Y n S12 a1 x3_) (fun q21 => kc (fJ7_fill_53178 Y n S12 b16 q21) (fun q24 => kc (iter (bX9_share_30 Y n a0 a1 a2 b1) n ((0 : Int32), q24)) (fun r30 => kc (iter (bX9_share_62 Y n a0 a1 a2 b1) n ((0 : Int32), r30)) (fun r62 => ks r62 (fun p62_0 => jX9_share_130 Y n p62_0 ) (fun p62_1 => some p62_1)))))))))
theorem wbX9_share_30 {C : CT} {X : XT} (hC : CK C RX9 cX9_share 7 none 3) (n : Nat) (v0 : Nat) (v1 : Nat) (v2 : Nat) (v4 : Nat) (hTv0 : Ty X.2.1 v0 9) (hTv1 : Ty X.2.1 v1 6) (hTv2 : Ty X.2.1 v2 5) (hTv4 : Ty X.2.1 v4 1) (s30 : (Int32 × PS)) {o : (Int32 × PS) ⊕ PS} (hf : bX9_share_30 X.2.1 n v0 v1 v2 v4 s30 = some o) (hN : ∀ s', o = .inl s' → UW C X s'.2 30 [(0, .ref (X.1 v0)), (1, .ref (X.1 v1)), (2, .ref (X.1 v2)), (4, .ref (X.1 v4)), (5, .int s'.1)] []) (hO0 : ∀ p', o = .inr p' → UW C X p' 59 [(0, .ref (X.1 v0)), (1, .ref (X.1 v1)), (2, .ref (X.1 v2)), (4, .ref (X.1 v4))] []) : UW C X s30.2 30 [(0, .ref (X.1 v0)), (1, .ref (X.1 v1)), (2, .ref (X.1 v2)), (4, .ref (X.1 v4)), (5, .int s30.1)] [] := by
  unfold bX9_share_30 at hf
  refine u_iload hC dX9_share_30 4 rfl ?_
  refine u_aload hC dX9_share_32 3 rfl ?_
  refine u_gi hC lf_X9_46 rfl hTv4 dX9_share_34 hf (fun x34 hf => ?_)
  refine u_icmp_ge (tgt := 59) hC dX9_share_37 (by decide) hf (fun h37 hf => ?_) (fun h37 hf => ?_)
  · refine u_sub (lv' := [(0, .ref (X.1 v0)), (1, .ref (X.1 v1)), (2, .ref (X.1 v2)), (4, .ref (X.1 v4))]) [0, 1, 2, 3] rfl ?_
    exact hO0 _ (Option.some.inj hf).symm
  · refine u_aload_n hC dX9_share_40 0 rfl rfl ?_
    refine u_gr hC lf_X9_9 rfl hTv0 dX9_share_41 hf (fun b41 hTb41 hf => ?_)
    refine u_iload hC dX9_share_44 4 rfl ?_
    refine u_aload_n hC dX9_share_46 1 rfl rfl ?_
    refine u_iload hC dX9_share_47 4 rfl ?_
    obtain ⟨q49, hq49, hf⟩ := kc_some hf
    refine u_callS hC (ctX9_firstBound (cL C) hC.tr (cG C) X.1 X.2.1 n s30.2 v1 s30.1 hTv1 hq49) lk_X9_51 (by decide) (by decide) rfl rfl (Nat.le_of_ble_eq_true rfl) dX9_share_49 ?_
    refine u_wi hC hTb41 dX9_share_52 hf (fun S52 hf => ?_)
    refine u_iinc (v := s30.1 + (1 : Int32)) (lv' := [(5, .int (s30.1 + (1 : Int32))), (0, .ref (X.1 v0)), (1, .ref (X.1 v1)), (2, .ref (X.1 v2)), (4, .ref (X.1 v4))]) hC dX9_share_53 4 rfl rfl (by decide) rfl ?_
    refine u_goto (tgt := 30) hC dX9_share_56 (by decide) ?_
    refine u_sub (lv' := [(0, .ref (X.1 v0)), (1, .ref (X.1 v1)), (2, .ref (X.1 v2)), (4, .ref (X.1 v4)), (5, .int (s30.1 + (1 : Int32)))]) [1, 2, 3, 4, 0] rfl ?_
    exact hN _ (Option.some.inj hf).symm
theorem wbX9_share_62 {C : CT} {X : XT} (hC : CK C RX9 cX9_share 7 none 3) (n : Nat) (v0 : Nat) (v1 : Nat) (v2 : Nat) (v4 : Nat) (hTv0 : Ty X.2.1 v0 9) (hTv1 : Ty X.2.1 v1 6) (hTv2 : Ty X.2.1 v2 5) (hTv4 : Ty X.2.1 v4 1) (s62 : (Int32 × PS)) {o : (Int32 × PS) ⊕ (PS ⊕ (PS))} (hf : bX9_share_62 X.2.1 n v0 v1 v2 v4 s62 = some o) (hN : ∀ s', o = .inl s' → UW C X s'.2 62 [(0, .ref (X.1 v0)), (1, .ref (X.1 v1)), (2, .ref (X.1 v2)), (4, .ref (X.1 v4)), (5, .int s'.1)] []) (hO0 : ∀ p', o = .inr (.inl p') → UW C X p' 130 [] []) (hR : ∀ q', o = .inr (.inr q') → Rt C X cX9_share none none q') : UW C X s62.2 62 [(0, .ref (X.1 v0)), (1, .ref (X.1 v1)), (2, .ref (X.1 v2)), (4, .ref (X.1 v4)), (5, .int s62.1)] [] := by
  unfold bX9_share_62 at hf
  refine u_iload hC dX9_share_62 4 rfl ?_
  refine u_aload hC dX9_share_64 3 rfl ?_
  refine u_gi hC lf_X9_46 rfl hTv4 dX9_share_66 hf (fun x66 hf => ?_)
  refine u_icmp_ge (tgt := 130) hC dX9_share_69 (by decide) hf (fun h69 hf => ?_) (fun h69 hf => ?_)
  · refine u_sub (lv' := []) [] rfl ?_
    exact hO0 _ (Option.some.inj hf).symm
  · refine u_aload_n hC dX9_share_72 2 rfl rfl ?_
    refine u_gi hC lf_X9_54 rfl hTv2 dX9_share_73 hf (fun x73 hf => ?_)
    refine u_aload hC dX9_share_76 3 rfl ?_
    refine u_gi hC lf_X9_57 rfl hTv4 dX9_share_78 hf (fun x78 hf => ?_)
    refine u_icmp_gt (tgt := 130) hC dX9_share_81 (by decide) hf (fun h81 hf => ?_) (fun h81 hf => ?_)
    · refine u_sub (lv' := []) [] rfl ?_
      exact hO0 _ (Option.some.inj hf).symm
    · refine u_aload_n hC dX9_share_84 0 rfl rfl ?_
      refine u_aload_n hC dX9_share_85 1 rfl rfl ?_
      refine u_aload_n hC dX9_share_86 2 rfl rfl ?_
      refine u_gr hC lf_X9_33 rfl hTv2 dX9_share_87 hf (fun b87 hTb87 hf => ?_)
      obtain ⟨q90, hq90, hf⟩ := kc_some hf
      refine u_callV hC (ctX9_cheapest (cL C) hC.tr (cG C) X.1 X.2.1 n s62.2 v0 v1 b87 hTv0 hTv1 hTb87 hq90) lk_X9_60 rfl hTv0 (by decide) rfl (by decide) (by decide) rfl rfl (Nat.le_of_ble_eq_true rfl) dX9_share_90 ?_
      refine u_istore (lv' := [(6, .int q90.1), (0, .ref (X.1 v0)), (1, .ref (X.1 v1)), (2, .ref (X.1 v2)), (4, .ref (X.1 v4)), (5, .int s62.1)]) hC dX9_share_93 (by decide) rfl ?_
      refine u_iload hC dX9_share_95 0 rfl ?_
      refine u_iconst (v := (-1 : Int32)) hC dX9_share_97 (by decide) ?_
      refine u_icmp_ne (tgt := 102) hC dX9_share_98 (by decide) hf (fun h98 hf => ?_) (fun h98 hf => ?_)
      · refine u_aload_n hC dX9_share_102 3 rfl rfl ?_
        refine u_aload_n hC dX9_share_103 2 rfl rfl ?_
        refine u_iload hC dX9_share_104 0 rfl ?_
        refine u_aload_n hC dX9_share_106 1 rfl rfl ?_
        refine u_gr hC lf_X9_9 rfl hTv0 dX9_share_107 hf (fun b107 hTb107 hf => ?_)
        refine u_iload hC dX9_share_110 0 rfl ?_
        refine u_ai hC hTb107 dX9_share_112 hf (fun x112 hf => ?_)
        obtain ⟨q113, hq113, hf⟩ := kc_some hf
        refine u_callV hC (ctX5_buy (cL C) hC.tr (cG C) X.1 X.2.1 n q90.2 v2 v1 q90.1 x112 hTv2 hTv1 hq113) lk_X9_64 rfl hTv2 (by decide) rfl (by decide) (by decide) rfl rfl (Nat.le_of_ble_eq_true rfl) dX9_share_113 ?_
        refine u_aload_n hC dX9_share_116 1 rfl rfl ?_
        refine u_gr hC lf_X9_9 rfl hTv0 dX9_share_117 hf (fun b117 hTb117 hf => ?_)
        refine u_iload hC dX9_share_120 0 rfl ?_
        refine u_iconst (v := (-1 : Int32)) hC dX9_share_122 (by decide) ?_
        refine u_wi hC hTb117 dX9_share_123 hf (fun S123 hf => ?_)
        refine u_iinc (v := s62.1 + (1 : Int32)) (lv' := [(5, .int (s62.1 + (1 : Int32))), (6, .int q90.1), (0, .ref (X.1 v0)), (1, .ref (X.1 v1)), (2, .ref (X.1 v2)), (4, .ref (X.1 v4))]) hC dX9_share_124 5 rfl rfl (by decide) rfl ?_
        refine u_goto (tgt := 62) hC dX9_share_127 (by decide) ?_
        refine u_sub (lv' := [(0, .ref (X.1 v0)), (1, .ref (X.1 v1)), (2, .ref (X.1 v2)), (4, .ref (X.1 v4)), (5, .int (s62.1 + (1 : Int32)))]) [2, 3, 4, 5, 0] rfl ?_
        exact hN _ (Option.some.inj hf).symm
      · exact hR _ (Option.some.inj hf).symm _ _ dX9_share_101 trivial
theorem wjX9_share_130 {C : CT} {X : XT} (hC : CK C RX9 cX9_share 7 none 3) (n : Nat) (S : PS)    {o : PS} (hf : jX9_share_130 X.2.1 n S  = some o) (hR : Rt C X cX9_share none none o) : UW C X S 130 [] [] := by
  unfold jX9_share_130 at hf
  cases hf
  exact hR _ _ dX9_share_130 trivial
theorem wX9_share {C : CT} {X : XT} (hC : CK C RX9 cX9_share 7 none 3) (n : Nat) (S : PS) (a0 : Nat) (a1 : Nat) (a2 : Nat) (x3_ : Int32) (hTa0 : Ty X.2.1 a0 9) (hTa1 : Ty X.2.1 a1 6) (hTa2 : Ty X.2.1 a2 5) {o : PS} (hf : fX9_share X.2.1 n S a0 a1 a2 x3_ = some o) (hR : Rt C X cX9_share none none o) : UW C X S 0 [(0, .ref (X.1 a0)), (1, .ref (X.1 a1)), (2, .ref (X.1 a2)), (3, .int x3_)] [] := by
  unfold fX9_share at hf
  refine u_aload_n hC dX9_share_0 1 rfl rfl ?_
  refine u_gr hC lf_X9_18 rfl hTa1 dX9_share_1 hf (fun b1 hTb1 hf => ?_)
  refine u_astore (lv' := [(4, .ref (X.1 b1)), (0, .ref (X.1 a0)), (1, .ref (X.1 a1)), (2, .ref (X.1 a2)), (3, .int x3_)]) hC dX9_share_4 (by decide) rfl ?_
  refine u_aload_n hC dX9_share_6 3 rfl rfl ?_
  obtain ⟨q7, hq7, hf⟩ := kc_some hf
  refine u_callV hC (ctX5_clear (cL C) hC.tr (cG C) X.1 X.2.1 n S a2 hTa2 hq7) lk_X9_24 rfl hTa2 (by decide) rfl (by decide) (by decide) rfl rfl (Nat.le_of_ble_eq_true rfl) dX9_share_7 ?_
  refine u_aload_n hC dX9_share_10 3 rfl rfl ?_
  refine u_iload_n hC dX9_share_11 4 rfl rfl ?_
  refine u_pi hC lf_X9_29 rfl rfl rfl hTa2 dX9_share_12 hf (fun S12 hf => ?_)
  refine u_aload_n hC dX9_share_15 3 rfl rfl ?_
  refine u_gr hC lf_X9_33 rfl hTa2 dX9_share_16 hf (fun b16 hTb16 hf => ?_)
  refine u_aload_n hC dX9_share_19 2 rfl rfl ?_
  refine u_iload_n hC dX9_share_20 4 rfl rfl ?_
  obtain ⟨q21, hq21, hf⟩ := kc_some hf
  refine u_callS hC (ctX9_purseOf (cL C) hC.tr (cG C) X.1 X.2.1 n S12 a1 x3_ hTa1 hq21) lk_X9_36 (by decide) (by decide) rfl rfl (Nat.le_of_ble_eq_true rfl) dX9_share_21 ?_
  obtain ⟨q24, hq24, hf⟩ := kc_some hf
  refine u_callS hC (ctJ7_fill_53178 (cL C) hC.tr (cG C) X.1 X.2.1 n S12 b16 q21 hTb16 hq24) lk_X9_40 (by decide) (by decide) rfl rfl (Nat.le_of_ble_eq_true rfl) dX9_share_24 ?_
  refine u_iconst (v := (0 : Int32)) hC dX9_share_27 (by decide) ?_
  refine u_istore (lv' := [(5, .int (0 : Int32)), (4, .ref (X.1 b1)), (0, .ref (X.1 a0)), (1, .ref (X.1 a1)), (2, .ref (X.1 a2)), (3, .int x3_)]) hC dX9_share_28 (by decide) rfl ?_
  obtain ⟨r30, hr30, hf⟩ := kc_some hf
  have hk30 : UW C X r30 59 [(0, .ref (X.1 a0)), (1, .ref (X.1 a1)), (2, .ref (X.1 a2)), (4, .ref (X.1 b1))] [] := by
    refine u_iconst (v := (0 : Int32)) hC dX9_share_59 (by decide) ?_
    refine u_istore (lv' := [(5, .int (0 : Int32)), (0, .ref (X.1 a0)), (1, .ref (X.1 a1)), (2, .ref (X.1 a2)), (4, .ref (X.1 b1))]) hC dX9_share_60 (by decide) rfl ?_
    obtain ⟨r62, hr62, hf⟩ := kc_some hf
    have hk62_0 : ∀ p62_0, r62 = (.inl p62_0) → UW C X p62_0 130 [] [] := by
      intro p62_0 he
      subst he
      have hf := ks_l hf
      exact wjX9_share_130 hC n p62_0    hf hR
    have hk62_1 : ∀ p62_1, r62 = (.inr p62_1) → Rt C X cX9_share none none p62_1 := by
      intro p62_1 he
      subst he
      have hf := ks_r hf
      cases hf
      exact hR
    refine u_sub (lv' := [(0, .ref (X.1 a0)), (1, .ref (X.1 a1)), (2, .ref (X.1 a2)), (4, .ref (X.1 b1)), (5, .int (0 : Int32))]) [1, 2, 3, 4, 0] rfl ?_
    refine iter_ind (P := fun s62 => UW C X s62.2 62 [(0, .ref (X.1 a0)), (1, .ref (X.1 a1)), (2, .ref (X.1 a2)), (4, .ref (X.1 b1)), (5, .int s62.1)] []) (fun s62 o' hb hin hout => ?_) n ((0 : Int32), r30) hr62
    exact wbX9_share_62 hC n a0 a1 a2 b1 hTa0 hTa1 hTa2 hTb1 s62 hb hin (fun p e => hk62_0 p (hout _ e).symm) (fun p e => hk62_1 p (hout _ e).symm)
  refine u_sub (lv' := [(0, .ref (X.1 a0)), (1, .ref (X.1 a1)), (2, .ref (X.1 a2)), (4, .ref (X.1 b1)), (5, .int (0 : Int32))]) [2, 3, 4, 1, 0] rfl ?_
  refine iter_ind (P := fun s30 => UW C X s30.2 30 [(0, .ref (X.1 a0)), (1, .ref (X.1 a1)), (2, .ref (X.1 a2)), (4, .ref (X.1 b1)), (5, .int s30.1)] []) (fun s30 o' hb hin hout => ?_) n ((0 : Int32), q24) hr30
  exact wbX9_share_30 hC n a0 a1 a2 b1 hTa0 hTa1 hTa2 hTb1 s30 hb hin (fun p e => by rw [hout p e]; exact hk30)
theorem ctX9_share (l : Launch) (hl : l.stackTraces = false) (G : GT) (ρ : Nat → Nat) (Y : XS) (n : Nat) (S : PS) (a0 : Nat) (a1 : Nat) (a2 : Nat) (x3_ : Int32) (hTa0 : Ty Y a0 9) (hTa1 : Ty Y a1 6) (hTa2 : Ty Y a2 5) {o : PS} (hf : fX9_share Y n S a0 a1 a2 x3_ = some o) : Mt l G yX9_share cX9_share 7 none 3 ρ Y [.ref (ρ a0), .ref (ρ a1), .ref (ρ a2), .int x3_] S none o :=
  Mt_of hl (by decide) (Nat.le_of_ble_eq_true rfl) (fun C _ _ hC hR => wX9_share (X := (ρ, Y, 0, 0)) hC n S a0 a1 a2 x3_ hTa0 hTa1 hTa2 hf hR)
-- X9_mayEnd
theorem dX9_mayEnd_0 : decode cX9_mayEnd 0 = .ok (.aload_n 0, 1) := by decide +kernel
theorem dX9_mayEnd_1 : decode cX9_mayEnd 1 = .ok (.getfield 18, 3) := by decide +kernel
theorem dX9_mayEnd_4 : decode cX9_mayEnd 4 = .ok (.astore_n 2, 1) := by decide +kernel
theorem dX9_mayEnd_5 : decode cX9_mayEnd 5 = .ok (.iconst 0, 1) := by decide +kernel
theorem dX9_mayEnd_6 : decode cX9_mayEnd 6 = .ok (.istore_n 3, 1) := by decide +kernel
theorem dX9_mayEnd_7 : decode cX9_mayEnd 7 = .ok (.iconst 0, 1) := by decide +kernel
theorem dX9_mayEnd_8 : decode cX9_mayEnd 8 = .ok (.istore 4, 2) := by decide +kernel
theorem dX9_mayEnd_10 : decode cX9_mayEnd 10 = .ok (.iconst 0, 1) := by decide +kernel
theorem dX9_mayEnd_11 : decode cX9_mayEnd 11 = .ok (.istore 5, 2) := by decide +kernel
theorem dX9_mayEnd_13 : decode cX9_mayEnd 13 = .ok (.iload 5, 2) := by decide +kernel
theorem dX9_mayEnd_15 : decode cX9_mayEnd 15 = .ok (.aload_n 2, 1) := by decide +kernel
theorem dX9_mayEnd_16 : decode cX9_mayEnd 16 = .ok (.getfield 46, 3) := by decide +kernel
theorem dX9_mayEnd_19 : decode cX9_mayEnd 19 = .ok (.if_icmp .ge 52, 3) := by decide +kernel
theorem dX9_mayEnd_22 : decode cX9_mayEnd 22 = .ok (.aload_n 0, 1) := by decide +kernel
theorem dX9_mayEnd_23 : decode cX9_mayEnd 23 = .ok (.getfield 88, 3) := by decide +kernel
theorem dX9_mayEnd_26 : decode cX9_mayEnd 26 = .ok (.iload 5, 2) := by decide +kernel
theorem dX9_mayEnd_28 : decode cX9_mayEnd 28 = .ok (.iaload, 1) := by decide +kernel
theorem dX9_mayEnd_29 : decode cX9_mayEnd 29 = .ok (.invokestatic 91, 3) := by decide +kernel
theorem dX9_mayEnd_32 : decode cX9_mayEnd 32 = .ok (.i2l, 1) := by decide +kernel
theorem dX9_mayEnd_33 : decode cX9_mayEnd 33 = .ok (.iload_n 1, 1) := by decide +kernel
theorem dX9_mayEnd_34 : decode cX9_mayEnd 34 = .ok (.i2l, 1) := by decide +kernel
theorem dX9_mayEnd_35 : decode cX9_mayEnd 35 = .ok (.lmul, 1) := by decide +kernel
theorem dX9_mayEnd_36 : decode cX9_mayEnd 36 = .ok (.aload_n 2, 1) := by decide +kernel
theorem dX9_mayEnd_37 : decode cX9_mayEnd 37 = .ok (.getfield 97, 3) := by decide +kernel
theorem dX9_mayEnd_40 : decode cX9_mayEnd 40 = .ok (.iload 5, 2) := by decide +kernel
theorem dX9_mayEnd_42 : decode cX9_mayEnd 42 = .ok (.iaload, 1) := by decide +kernel
theorem dX9_mayEnd_43 : decode cX9_mayEnd 43 = .ok (.sipush 1000, 3) := by decide +kernel
theorem dX9_mayEnd_46 : decode cX9_mayEnd 46 = .ok (.imul, 1) := by decide +kernel
theorem dX9_mayEnd_47 : decode cX9_mayEnd 47 = .ok (.i2l, 1) := by decide +kernel
theorem dX9_mayEnd_48 : decode cX9_mayEnd 48 = .ok (.lcmp, 1) := by decide +kernel
theorem dX9_mayEnd_49 : decode cX9_mayEnd 49 = .ok (.ifCond .lt 16, 3) := by decide +kernel
theorem dX9_mayEnd_52 : decode cX9_mayEnd 52 = .ok (.iload_n 3, 1) := by decide +kernel
theorem dX9_mayEnd_53 : decode cX9_mayEnd 53 = .ok (.aload_n 2, 1) := by decide +kernel
theorem dX9_mayEnd_54 : decode cX9_mayEnd 54 = .ok (.getfield 97, 3) := by decide +kernel
theorem dX9_mayEnd_57 : decode cX9_mayEnd 57 = .ok (.iload 5, 2) := by decide +kernel
theorem dX9_mayEnd_59 : decode cX9_mayEnd 59 = .ok (.iaload, 1) := by decide +kernel
theorem dX9_mayEnd_60 : decode cX9_mayEnd 60 = .ok (.iadd, 1) := by decide +kernel
theorem dX9_mayEnd_61 : decode cX9_mayEnd 61 = .ok (.istore_n 3, 1) := by decide +kernel
theorem dX9_mayEnd_62 : decode cX9_mayEnd 62 = .ok (.iinc 4 1, 3) := by decide +kernel
theorem dX9_mayEnd_65 : decode cX9_mayEnd 65 = .ok (.iinc 5 1, 3) := by decide +kernel
theorem dX9_mayEnd_68 : decode cX9_mayEnd 68 = .ok (.goto (-55), 3) := by decide +kernel
theorem dX9_mayEnd_71 : decode cX9_mayEnd 71 = .ok (.iload 4, 2) := by decide +kernel
theorem dX9_mayEnd_73 : decode cX9_mayEnd 73 = .ok (.aload_n 2, 1) := by decide +kernel
theorem dX9_mayEnd_74 : decode cX9_mayEnd 74 = .ok (.getfield 46, 3) := by decide +kernel
theorem dX9_mayEnd_77 : decode cX9_mayEnd 77 = .ok (.if_icmp .eq 11, 3) := by decide +kernel
theorem dX9_mayEnd_80 : decode cX9_mayEnd 80 = .ok (.iload_n 3, 1) := by decide +kernel
theorem dX9_mayEnd_81 : decode cX9_mayEnd 81 = .ok (.aload_n 2, 1) := by decide +kernel
theorem dX9_mayEnd_82 : decode cX9_mayEnd 82 = .ok (.getfield 57, 3) := by decide +kernel
theorem dX9_mayEnd_85 : decode cX9_mayEnd 85 = .ok (.if_icmp .le 7, 3) := by decide +kernel
theorem dX9_mayEnd_88 : decode cX9_mayEnd 88 = .ok (.iconst 1, 1) := by decide +kernel
theorem dX9_mayEnd_89 : decode cX9_mayEnd 89 = .ok (.goto 4, 3) := by decide +kernel
theorem dX9_mayEnd_92 : decode cX9_mayEnd 92 = .ok (.iconst 0, 1) := by decide +kernel
theorem dX9_mayEnd_93 : decode cX9_mayEnd 93 = .ok (.ireturn, 1) := by decide +kernel
def jX9_mayEnd_65_13 (Y : XS) (n : Nat) (S : PS) (v0 : Nat) (v1 : Int32) (v2 : Nat) (v3 : Int32) (v4 : Int32) (v5 : Int32) : Option ((Int32 × Int32 × Int32) ⊕ (Int32 × Int32)) :=
  some (.inl (v3, v4, v5 + (1 : Int32)))
def bX9_mayEnd_13 (Y : XS) (n : Nat) (S : PS) (v0 : Nat) (v1 : Int32) (v2 : Nat) (s13 : (Int32 × Int32 × Int32)) : Option ((Int32 × Int32 × Int32) ⊕ (Int32 × Int32)) :=
  kgi S v2 1 (fun x16 => (if x16 ≤ s13.2.2 then some (.inr (s13.1, s13.2.1)) else kgr S v0 3 (fun b23 => kai Y S b23 s13.2.2 (fun x28 => kc (fJ6_bitCount_0f7a4 Y n S x28) (fun q29 => kgr S v2 4 (fun b37 => kai Y S b37 s13.2.2 (fun x42 => (if (lg_cmp ((Int32.toInt64 q29) * (Int32.toInt64 v1)) (Int32.toInt64 (x42 * (1000 : Int32)))) < 0 then jX9_mayEnd_65_13 Y n S v0 v1 v2 s13.1 s13.2.1 s13.2.2 else kgr S v2 4 (fun b54 => kai Y S b54 s13.2.2 (fun x59 => jX9_mayEnd_65_13 Y n S v0 v1 v2 (s13.1 + x59) (s13.2.1 + (1 : Int32)) s13.2.2))))))))))
def jX9_mayEnd_93 (Y : XS) (n : Nat) (S : PS) (t0 : Int32) : Option (Int32) :=
  kzr t0 (some t0)
def jX9_mayEnd_88 (Y : XS) (n : Nat) (S : PS)  : Option (Int32) :=
  jX9_mayEnd_93 Y n S (1 : Int32)
def fX9_mayEnd (Y : XS) (n : Nat) (S : PS) (a0 : Nat) (x1_ : Int32) : Option (Int32) :=
  kgr S a0 0 (fun b1 => kc (iter (bX9_mayEnd_13 Y n S a0 x1_ b1) n ((0 : Int32), (0 : Int32), (0 : Int32))) (fun r13 => kgi S b1 1 (fun x74 => (if r13.2 = x74 then jX9_mayEnd_88 Y n S  else kgi S b1 0 (fun x82 => (if r13.1 ≤ x82 then jX9_mayEnd_93 Y n S (0 : Int32) else jX9_mayEnd_88 Y n S ))))))
theorem wjX9_mayEnd_65_13 {C : CT} {X : XT} (hC : CK C RX9 cX9_mayEnd 6 (some .boolean) 2) (n : Nat) (S : PS) (v0 : Nat) (v1 : Int32) (v2 : Nat) (v3 : Int32) (v4 : Int32) (v5 : Int32)  (hTv0 : Ty X.2.1 v0 6) (hTv2 : Ty X.2.1 v2 1) {o : (Int32 × Int32 × Int32) ⊕ (Int32 × Int32)} (hf : jX9_mayEnd_65_13 X.2.1 n S v0 v1 v2 v3 v4 v5 = some o) (hN : ∀ s', o = .inl s' → UW C X S 13 [(0, .ref (X.1 v0)), (1, .int v1), (2, .ref (X.1 v2)), (3, .int s'.1), (4, .int s'.2.1), (5, .int s'.2.2)] []) (hO0 : ∀ p', o = .inr p' → UW C X S 71 [(2, .ref (X.1 v2)), (3, .int p'.1), (4, .int p'.2)] []) : UW C X S 65 [(0, .ref (X.1 v0)), (1, .int v1), (2, .ref (X.1 v2)), (3, .int v3), (4, .int v4), (5, .int v5)] [] := by
  unfold jX9_mayEnd_65_13 at hf
  refine u_iinc (v := v5 + (1 : Int32)) (lv' := [(5, .int (v5 + (1 : Int32))), (0, .ref (X.1 v0)), (1, .int v1), (2, .ref (X.1 v2)), (3, .int v3), (4, .int v4)]) hC dX9_mayEnd_65 5 rfl rfl (by decide) rfl ?_
  refine u_goto (tgt := 13) hC dX9_mayEnd_68 (by decide) ?_
  refine u_sub (lv' := [(0, .ref (X.1 v0)), (1, .int v1), (2, .ref (X.1 v2)), (3, .int v3), (4, .int v4), (5, .int (v5 + (1 : Int32)))]) [1, 2, 3, 4, 5, 0] rfl ?_
  exact hN _ (Option.some.inj hf).symm
theorem wbX9_mayEnd_13 {C : CT} {X : XT} (hC : CK C RX9 cX9_mayEnd 6 (some .boolean) 2) (n : Nat) (S : PS) (v0 : Nat) (v1 : Int32) (v2 : Nat) (hTv0 : Ty X.2.1 v0 6) (hTv2 : Ty X.2.1 v2 1) (s13 : (Int32 × Int32 × Int32)) {o : (Int32 × Int32 × Int32) ⊕ (Int32 × Int32)} (hf : bX9_mayEnd_13 X.2.1 n S v0 v1 v2 s13 = some o) (hN : ∀ s', o = .inl s' → UW C X S 13 [(0, .ref (X.1 v0)), (1, .int v1), (2, .ref (X.1 v2)), (3, .int s'.1), (4, .int s'.2.1), (5, .int s'.2.2)] []) (hO0 : ∀ p', o = .inr p' → UW C X S 71 [(2, .ref (X.1 v2)), (3, .int p'.1), (4, .int p'.2)] []) : UW C X S 13 [(0, .ref (X.1 v0)), (1, .int v1), (2, .ref (X.1 v2)), (3, .int s13.1), (4, .int s13.2.1), (5, .int s13.2.2)] [] := by
  unfold bX9_mayEnd_13 at hf
  refine u_iload hC dX9_mayEnd_13 5 rfl ?_
  refine u_aload_n hC dX9_mayEnd_15 2 rfl rfl ?_
  refine u_gi hC lf_X9_46 rfl hTv2 dX9_mayEnd_16 hf (fun x16 hf => ?_)
  refine u_icmp_ge (tgt := 71) hC dX9_mayEnd_19 (by decide) hf (fun h19 hf => ?_) (fun h19 hf => ?_)
  · refine u_sub (lv' := [(2, .ref (X.1 v2)), (3, .int s13.1), (4, .int s13.2.1)]) [2, 3, 4] rfl ?_
    exact hO0 _ (Option.some.inj hf).symm
  · refine u_aload_n hC dX9_mayEnd_22 0 rfl rfl ?_
    refine u_gr hC lf_X9_88 rfl hTv0 dX9_mayEnd_23 hf (fun b23 hTb23 hf => ?_)
    refine u_iload hC dX9_mayEnd_26 5 rfl ?_
    refine u_ai hC hTb23 dX9_mayEnd_28 hf (fun x28 hf => ?_)
    obtain ⟨q29, hq29, hf⟩ := kc_some hf
    refine u_callS hC (ctJ6_bitCount_0f7a4 (cL C) hC.tr (cG C) X.1 X.2.1 n S x28  hq29) lk_X9_91 (by decide) (by decide) rfl rfl (Nat.le_of_ble_eq_true rfl) dX9_mayEnd_29 ?_
    refine u_i2l hC dX9_mayEnd_32 ?_
    refine u_iload_n hC dX9_mayEnd_33 1 rfl rfl ?_
    refine u_i2l hC dX9_mayEnd_34 ?_
    refine u_lmul hC dX9_mayEnd_35 ?_
    refine u_aload_n hC dX9_mayEnd_36 2 rfl rfl ?_
    refine u_gr hC lf_X9_97 rfl hTv2 dX9_mayEnd_37 hf (fun b37 hTb37 hf => ?_)
    refine u_iload hC dX9_mayEnd_40 5 rfl ?_
    refine u_ai hC hTb37 dX9_mayEnd_42 hf (fun x42 hf => ?_)
    refine u_sipush (v := (1000 : Int32)) hC dX9_mayEnd_43 (by decide) ?_
    refine u_imul hC dX9_mayEnd_46 ?_
    refine u_i2l hC dX9_mayEnd_47 ?_
    refine u_lcmp hC dX9_mayEnd_48 ?_
    refine u_if_lt (tgt := 65) hC dX9_mayEnd_49 (by decide) hf (fun h49 hf => ?_) (fun h49 hf => ?_)
    · exact wjX9_mayEnd_65_13 hC n S v0 v1 v2 s13.1 s13.2.1 s13.2.2  hTv0 hTv2 hf hN hO0
    · refine u_iload_n hC dX9_mayEnd_52 3 rfl rfl ?_
      refine u_aload_n hC dX9_mayEnd_53 2 rfl rfl ?_
      refine u_gr hC lf_X9_97 rfl hTv2 dX9_mayEnd_54 hf (fun b54 hTb54 hf => ?_)
      refine u_iload hC dX9_mayEnd_57 5 rfl ?_
      refine u_ai hC hTb54 dX9_mayEnd_59 hf (fun x59 hf => ?_)
      refine u_iadd hC dX9_mayEnd_60 ?_
      refine u_istore_n (lv' := [(3, .int (s13.1 + x59)), (0, .ref (X.1 v0)), (1, .int v1), (2, .ref (X.1 v2)), (4, .int s13.2.1), (5, .int s13.2.2)]) hC dX9_mayEnd_61 rfl (by decide) rfl ?_
      refine u_iinc (v := s13.2.1 + (1 : Int32)) (lv' := [(4, .int (s13.2.1 + (1 : Int32))), (3, .int (s13.1 + x59)), (0, .ref (X.1 v0)), (1, .int v1), (2, .ref (X.1 v2)), (5, .int s13.2.2)]) hC dX9_mayEnd_62 4 rfl rfl (by decide) rfl ?_
      refine u_sub (lv' := [(0, .ref (X.1 v0)), (1, .int v1), (2, .ref (X.1 v2)), (3, .int (s13.1 + x59)), (4, .int (s13.2.1 + (1 : Int32))), (5, .int s13.2.2)]) [2, 3, 4, 1, 0, 5] rfl ?_
      exact wjX9_mayEnd_65_13 hC n S v0 v1 v2 (s13.1 + x59) (s13.2.1 + (1 : Int32)) s13.2.2  hTv0 hTv2 hf hN hO0
theorem wjX9_mayEnd_93 {C : CT} {X : XT} (hC : CK C RX9 cX9_mayEnd 6 (some .boolean) 2) (n : Nat) (S : PS) (t0 : Int32)   {o : Int32} (hf : jX9_mayEnd_93 X.2.1 n S t0 = some o) (hR : Rt C X cX9_mayEnd (some .boolean) (some (.int o)) S) : UW C X S 93 [] [.int t0] := by
  unfold jX9_mayEnd_93 at hf
  obtain ⟨hz, hf⟩ := kzr_some hf
  cases hf
  exact hR _ _ dX9_mayEnd_93 hz
theorem wjX9_mayEnd_88 {C : CT} {X : XT} (hC : CK C RX9 cX9_mayEnd 6 (some .boolean) 2) (n : Nat) (S : PS)    {o : Int32} (hf : jX9_mayEnd_88 X.2.1 n S  = some o) (hR : Rt C X cX9_mayEnd (some .boolean) (some (.int o)) S) : UW C X S 88 [] [] := by
  unfold jX9_mayEnd_88 at hf
  refine u_iconst (v := (1 : Int32)) hC dX9_mayEnd_88 (by decide) ?_
  refine u_goto (tgt := 93) hC dX9_mayEnd_89 (by decide) ?_
  exact wjX9_mayEnd_93 hC n S (1 : Int32)   hf hR
theorem wX9_mayEnd {C : CT} {X : XT} (hC : CK C RX9 cX9_mayEnd 6 (some .boolean) 2) (n : Nat) (S : PS) (a0 : Nat) (x1_ : Int32) (hTa0 : Ty X.2.1 a0 6) {o : Int32} (hf : fX9_mayEnd X.2.1 n S a0 x1_ = some o) (hR : Rt C X cX9_mayEnd (some .boolean) (some (.int o)) S) : UW C X S 0 [(0, .ref (X.1 a0)), (1, .int x1_)] [] := by
  unfold fX9_mayEnd at hf
  refine u_aload_n hC dX9_mayEnd_0 0 rfl rfl ?_
  refine u_gr hC lf_X9_18 rfl hTa0 dX9_mayEnd_1 hf (fun b1 hTb1 hf => ?_)
  refine u_astore_n (lv' := [(2, .ref (X.1 b1)), (0, .ref (X.1 a0)), (1, .int x1_)]) hC dX9_mayEnd_4 rfl (by decide) rfl ?_
  refine u_iconst (v := (0 : Int32)) hC dX9_mayEnd_5 (by decide) ?_
  refine u_istore_n (lv' := [(3, .int (0 : Int32)), (2, .ref (X.1 b1)), (0, .ref (X.1 a0)), (1, .int x1_)]) hC dX9_mayEnd_6 rfl (by decide) rfl ?_
  refine u_iconst (v := (0 : Int32)) hC dX9_mayEnd_7 (by decide) ?_
  refine u_istore (lv' := [(4, .int (0 : Int32)), (3, .int (0 : Int32)), (2, .ref (X.1 b1)), (0, .ref (X.1 a0)), (1, .int x1_)]) hC dX9_mayEnd_8 (by decide) rfl ?_
  refine u_iconst (v := (0 : Int32)) hC dX9_mayEnd_10 (by decide) ?_
  refine u_istore (lv' := [(5, .int (0 : Int32)), (4, .int (0 : Int32)), (3, .int (0 : Int32)), (2, .ref (X.1 b1)), (0, .ref (X.1 a0)), (1, .int x1_)]) hC dX9_mayEnd_11 (by decide) rfl ?_
  obtain ⟨r13, hr13, hf⟩ := kc_some hf
  have hk13 : UW C X S 71 [(2, .ref (X.1 b1)), (3, .int r13.1), (4, .int r13.2)] [] := by
    refine u_iload hC dX9_mayEnd_71 2 rfl ?_
    refine u_aload_n hC dX9_mayEnd_73 0 rfl rfl ?_
    refine u_gi hC lf_X9_46 rfl hTb1 dX9_mayEnd_74 hf (fun x74 hf => ?_)
    refine u_icmp_eq (tgt := 88) hC dX9_mayEnd_77 (by decide) hf (fun h77 hf => ?_) (fun h77 hf => ?_)
    · refine u_sub (lv' := []) [] rfl ?_
      exact wjX9_mayEnd_88 hC n S    hf hR
    · refine u_iload_n hC dX9_mayEnd_80 1 rfl rfl ?_
      refine u_aload_n hC dX9_mayEnd_81 0 rfl rfl ?_
      refine u_gi hC lf_X9_57 rfl hTb1 dX9_mayEnd_82 hf (fun x82 hf => ?_)
      refine u_icmp_le (tgt := 92) hC dX9_mayEnd_85 (by decide) hf (fun h85 hf => ?_) (fun h85 hf => ?_)
      · refine u_iconst (v := (0 : Int32)) hC dX9_mayEnd_92 (by decide) ?_
        refine u_sub (lv' := []) [] rfl ?_
        exact wjX9_mayEnd_93 hC n S (0 : Int32)   hf hR
      · refine u_sub (lv' := []) [] rfl ?_
        exact wjX9_mayEnd_88 hC n S    hf hR
  refine u_sub (lv' := [(0, .ref (X.1 a0)), (1, .int x1_), (2, .ref (X.1 b1)), (3, .int (0 : Int32)), (4, .int (0 : Int32)), (5, .int (0 : Int32))]) [4, 5, 3, 2, 1, 0] rfl ?_
  refine iter_ind (P := fun s13 => UW C X S 13 [(0, .ref (X.1 a0)), (1, .int x1_), (2, .ref (X.1 b1)), (3, .int s13.1), (4, .int s13.2.1), (5, .int s13.2.2)] []) (fun s13 o' hb hin hout => ?_) n ((0 : Int32), (0 : Int32), (0 : Int32)) hr13
  exact wbX9_mayEnd_13 hC n S a0 x1_ b1 hTa0 hTb1 s13 hb hin (fun p e => by rw [hout p e]; exact hk13)
theorem ctX9_mayEnd (l : Launch) (hl : l.stackTraces = false) (G : GT) (ρ : Nat → Nat) (Y : XS) (n : Nat) (S : PS) (a0 : Nat) (x1_ : Int32) (hTa0 : Ty Y a0 6) {o : Int32} (hf : fX9_mayEnd Y n S a0 x1_ = some o) : Mt l G yX9_mayEnd cX9_mayEnd 6 (some .boolean) 2 ρ Y [.ref (ρ a0), .int x1_] S (some (.int o)) S :=
  Mt_of hl (by decide) (Nat.le_of_ble_eq_true rfl) (fun C _ _ hC hR => wX9_mayEnd (X := (ρ, Y, 0, 0)) hC n S a0 x1_ hTa0 hf hR)
-- X9_raise
theorem dX9_raise_0 : decode cX9_raise 0 = .ok (.iconst 0, 1) := by decide +kernel
theorem dX9_raise_1 : decode cX9_raise 1 = .ok (.istore_n 3, 1) := by decide +kernel
theorem dX9_raise_2 : decode cX9_raise 2 = .ok (.iload_n 3, 1) := by decide +kernel
theorem dX9_raise_3 : decode cX9_raise 3 = .ok (.sipush 300, 3) := by decide +kernel
theorem dX9_raise_6 : decode cX9_raise 6 = .ok (.if_icmp .gt 81, 3) := by decide +kernel
theorem dX9_raise_9 : decode cX9_raise 9 = .ok (.iload_n 3, 1) := by decide +kernel
theorem dX9_raise_10 : decode cX9_raise 10 = .ok (.sipush 300, 3) := by decide +kernel
theorem dX9_raise_13 : decode cX9_raise 13 = .ok (.if_icmp .ge 18, 3) := by decide +kernel
theorem dX9_raise_16 : decode cX9_raise 16 = .ok (.aload_n 1, 1) := by decide +kernel
theorem dX9_raise_17 : decode cX9_raise 17 = .ok (.aload_n 1, 1) := by decide +kernel
theorem dX9_raise_18 : decode cX9_raise 18 = .ok (.iload_n 3, 1) := by decide +kernel
theorem dX9_raise_19 : decode cX9_raise 19 = .ok (.invokestatic 36, 3) := by decide +kernel
theorem dX9_raise_22 : decode cX9_raise 22 = .ok (.invokestatic 71, 3) := by decide +kernel
theorem dX9_raise_25 : decode cX9_raise 25 = .ok (.ifCond .ne 6, 3) := by decide +kernel
theorem dX9_raise_28 : decode cX9_raise 28 = .ok (.goto 53, 3) := by decide +kernel
theorem dX9_raise_31 : decode cX9_raise 31 = .ok (.aload_n 0, 1) := by decide +kernel
theorem dX9_raise_32 : decode cX9_raise 32 = .ok (.aload_n 1, 1) := by decide +kernel
theorem dX9_raise_33 : decode cX9_raise 33 = .ok (.aload_n 2, 1) := by decide +kernel
theorem dX9_raise_34 : decode cX9_raise 34 = .ok (.iload_n 3, 1) := by decide +kernel
theorem dX9_raise_35 : decode cX9_raise 35 = .ok (.invokevirtual 75, 3) := by decide +kernel
theorem dX9_raise_38 : decode cX9_raise 38 = .ok (.aload_n 2, 1) := by decide +kernel
theorem dX9_raise_39 : decode cX9_raise 39 = .ok (.getfield 54, 3) := by decide +kernel
theorem dX9_raise_42 : decode cX9_raise 42 = .ok (.aload_n 1, 1) := by decide +kernel
theorem dX9_raise_43 : decode cX9_raise 43 = .ok (.getfield 18, 3) := by decide +kernel
theorem dX9_raise_46 : decode cX9_raise 46 = .ok (.getfield 57, 3) := by decide +kernel
theorem dX9_raise_49 : decode cX9_raise 49 = .ok (.if_icmp .le 17, 3) := by decide +kernel
theorem dX9_raise_52 : decode cX9_raise 52 = .ok (.aload_n 0, 1) := by decide +kernel
theorem dX9_raise_53 : decode cX9_raise 53 = .ok (.aload_n 1, 1) := by decide +kernel
theorem dX9_raise_54 : decode cX9_raise 54 = .ok (.aload_n 2, 1) := by decide +kernel
theorem dX9_raise_55 : decode cX9_raise 55 = .ok (.iconst 0, 1) := by decide +kernel
theorem dX9_raise_56 : decode cX9_raise 56 = .ok (.iload_n 3, 1) := by decide +kernel
theorem dX9_raise_57 : decode cX9_raise 57 = .ok (.iconst 1, 1) := by decide +kernel
theorem dX9_raise_58 : decode cX9_raise 58 = .ok (.isub, 1) := by decide +kernel
theorem dX9_raise_59 : decode cX9_raise 59 = .ok (.invokestatic 79, 3) := by decide +kernel
theorem dX9_raise_62 : decode cX9_raise 62 = .ok (.invokevirtual 75, 3) := by decide +kernel
theorem dX9_raise_65 : decode cX9_raise 65 = .ok (.return_, 1) := by decide +kernel
theorem dX9_raise_66 : decode cX9_raise 66 = .ok (.aload_n 2, 1) := by decide +kernel
theorem dX9_raise_67 : decode cX9_raise 67 = .ok (.getfield 85, 3) := by decide +kernel
theorem dX9_raise_70 : decode cX9_raise 70 = .ok (.aload_n 1, 1) := by decide +kernel
theorem dX9_raise_71 : decode cX9_raise 71 = .ok (.getfield 18, 3) := by decide +kernel
theorem dX9_raise_74 : decode cX9_raise 74 = .ok (.getfield 46, 3) := by decide +kernel
theorem dX9_raise_77 : decode cX9_raise 77 = .ok (.if_icmp .ne 4, 3) := by decide +kernel
theorem dX9_raise_80 : decode cX9_raise 80 = .ok (.return_, 1) := by decide +kernel
theorem dX9_raise_81 : decode cX9_raise 81 = .ok (.iinc 3 1, 3) := by decide +kernel
theorem dX9_raise_84 : decode cX9_raise 84 = .ok (.goto (-82), 3) := by decide +kernel
theorem dX9_raise_87 : decode cX9_raise 87 = .ok (.return_, 1) := by decide +kernel
def jX9_raise_81_2 (Y : XS) (n : Nat) (S : PS) (v0 : Nat) (v1 : Nat) (v2 : Nat) (v3 : Int32) : Option ((Int32 × PS) ⊕ (PS ⊕ (PS))) :=
  some (.inl (v3 + (1 : Int32), S))
def jX9_raise_31_2 (Y : XS) (n : Nat) (S : PS) (v0 : Nat) (v1 : Nat) (v2 : Nat) (v3 : Int32) : Option ((Int32 × PS) ⊕ (PS ⊕ (PS))) :=
  kc (fX9_share Y n S v0 v1 v2 v3) (fun q35 => kgi q35 v2 3 (fun x39 => kgr q35 v1 0 (fun b43 => kgi q35 b43 0 (fun x46 => (if x39 ≤ x46 then kgi q35 v2 1 (fun x67 => kgr q35 v1 0 (fun b71 => kgi q35 b71 1 (fun x74 => (if x67 = x74 then some (.inr (.inr q35)) else jX9_raise_81_2 Y n q35 v0 v1 v2 v3)))) else kc (fX9_share Y n q35 v0 v1 v2 (imax (0 : Int32) (v3 - (1 : Int32)))) (fun q62 => some (.inr (.inr q62))))))))
def bX9_raise_2 (Y : XS) (n : Nat) (v0 : Nat) (v1 : Nat) (v2 : Nat) (s2 : (Int32 × PS)) : Option ((Int32 × PS) ⊕ (PS ⊕ (PS))) :=
  (if (300 : Int32) < s2.1 then some (.inr (.inl s2.2)) else (if (300 : Int32) ≤ s2.1 then jX9_raise_31_2 Y n s2.2 v0 v1 v2 s2.1 else kc (fX9_purseOf Y n s2.2 v1 s2.1) (fun q19 => kc (fX9_mayEnd Y n s2.2 v1 q19) (fun q22 => (if q22 = 0 then jX9_raise_81_2 Y n s2.2 v0 v1 v2 s2.1 else jX9_raise_31_2 Y n s2.2 v0 v1 v2 s2.1)))))
def fX9_raise (Y : XS) (n : Nat) (S : PS) (a0 : Nat) (a1 : Nat) (a2 : Nat) : Option (PS) :=
  kc (iter (bX9_raise_2 Y n a0 a1 a2) n ((0 : Int32), S)) (fun r2 => ks r2 (fun p2_0 => some p2_0) (fun p2_1 => some p2_1))
theorem wjX9_raise_81_2 {C : CT} {X : XT} (hC : CK C RX9 cX9_raise 4 none 4) (n : Nat) (S : PS) (v0 : Nat) (v1 : Nat) (v2 : Nat) (v3 : Int32)  (hTv0 : Ty X.2.1 v0 9) (hTv1 : Ty X.2.1 v1 6) (hTv2 : Ty X.2.1 v2 5) {o : (Int32 × PS) ⊕ (PS ⊕ (PS))} (hf : jX9_raise_81_2 X.2.1 n S v0 v1 v2 v3 = some o) (hN : ∀ s', o = .inl s' → UW C X s'.2 2 [(0, .ref (X.1 v0)), (1, .ref (X.1 v1)), (2, .ref (X.1 v2)), (3, .int s'.1)] []) (hO0 : ∀ p', o = .inr (.inl p') → UW C X p' 87 [] []) (hR : ∀ q', o = .inr (.inr q') → Rt C X cX9_raise none none q') : UW C X S 81 [(0, .ref (X.1 v0)), (1, .ref (X.1 v1)), (2, .ref (X.1 v2)), (3, .int v3)] [] := by
  unfold jX9_raise_81_2 at hf
  refine u_iinc (v := v3 + (1 : Int32)) (lv' := [(3, .int (v3 + (1 : Int32))), (0, .ref (X.1 v0)), (1, .ref (X.1 v1)), (2, .ref (X.1 v2))]) hC dX9_raise_81 3 rfl rfl (by decide) rfl ?_
  refine u_goto (tgt := 2) hC dX9_raise_84 (by decide) ?_
  refine u_sub (lv' := [(0, .ref (X.1 v0)), (1, .ref (X.1 v1)), (2, .ref (X.1 v2)), (3, .int (v3 + (1 : Int32)))]) [1, 2, 3, 0] rfl ?_
  exact hN _ (Option.some.inj hf).symm
theorem wjX9_raise_31_2 {C : CT} {X : XT} (hC : CK C RX9 cX9_raise 4 none 4) (n : Nat) (S : PS) (v0 : Nat) (v1 : Nat) (v2 : Nat) (v3 : Int32)  (hTv0 : Ty X.2.1 v0 9) (hTv1 : Ty X.2.1 v1 6) (hTv2 : Ty X.2.1 v2 5) {o : (Int32 × PS) ⊕ (PS ⊕ (PS))} (hf : jX9_raise_31_2 X.2.1 n S v0 v1 v2 v3 = some o) (hN : ∀ s', o = .inl s' → UW C X s'.2 2 [(0, .ref (X.1 v0)), (1, .ref (X.1 v1)), (2, .ref (X.1 v2)), (3, .int s'.1)] []) (hO0 : ∀ p', o = .inr (.inl p') → UW C X p' 87 [] []) (hR : ∀ q', o = .inr (.inr q') → Rt C X cX9_raise none none q') : UW C X S 31 [(0, .ref (X.1 v0)), (1, .ref (X.1 v1)), (2, .ref (X.1 v2)), (3, .int v3)] [] := by
  unfold jX9_raise_31_2 at hf
  refine u_aload_n hC dX9_raise_31 0 rfl rfl ?_
  refine u_aload_n hC dX9_raise_32 1 rfl rfl ?_
  refine u_aload_n hC dX9_raise_33 2 rfl rfl ?_
  refine u_iload_n hC dX9_raise_34 3 rfl rfl ?_
  obtain ⟨q35, hq35, hf⟩ := kc_some hf
  refine u_callV hC (ctX9_share (cL C) hC.tr (cG C) X.1 X.2.1 n S v0 v1 v2 v3 hTv0 hTv1 hTv2 hq35) lk_X9_75 rfl hTv0 (by decide) rfl (by decide) (by decide) rfl rfl (Nat.le_of_ble_eq_true rfl) dX9_raise_35 ?_
  refine u_aload_n hC dX9_raise_38 2 rfl rfl ?_
  refine u_gi hC lf_X9_54 rfl hTv2 dX9_raise_39 hf (fun x39 hf => ?_)
  refine u_aload_n hC dX9_raise_42 1 rfl rfl ?_
  refine u_gr hC lf_X9_18 rfl hTv1 dX9_raise_43 hf (fun b43 hTb43 hf => ?_)
  refine u_gi hC lf_X9_57 rfl hTb43 dX9_raise_46 hf (fun x46 hf => ?_)
  refine u_icmp_le (tgt := 66) hC dX9_raise_49 (by decide) hf (fun h49 hf => ?_) (fun h49 hf => ?_)
  · refine u_aload_n hC dX9_raise_66 2 rfl rfl ?_
    refine u_gi hC lf_X9_85 rfl hTv2 dX9_raise_67 hf (fun x67 hf => ?_)
    refine u_aload_n hC dX9_raise_70 1 rfl rfl ?_
    refine u_gr hC lf_X9_18 rfl hTv1 dX9_raise_71 hf (fun b71 hTb71 hf => ?_)
    refine u_gi hC lf_X9_46 rfl hTb71 dX9_raise_74 hf (fun x74 hf => ?_)
    refine u_icmp_ne (tgt := 81) hC dX9_raise_77 (by decide) hf (fun h77 hf => ?_) (fun h77 hf => ?_)
    · exact wjX9_raise_81_2 hC n q35 v0 v1 v2 v3  hTv0 hTv1 hTv2 hf hN hO0 hR
    · exact hR _ (Option.some.inj hf).symm _ _ dX9_raise_80 trivial
  · refine u_aload_n hC dX9_raise_52 0 rfl rfl ?_
    refine u_aload_n hC dX9_raise_53 1 rfl rfl ?_
    refine u_aload_n hC dX9_raise_54 2 rfl rfl ?_
    refine u_iconst (v := (0 : Int32)) hC dX9_raise_55 (by decide) ?_
    refine u_iload_n hC dX9_raise_56 3 rfl rfl ?_
    refine u_iconst (v := (1 : Int32)) hC dX9_raise_57 (by decide) ?_
    refine u_isub hC dX9_raise_58 ?_
    refine u_mmax hC (tb_4 195 rfl rfl) (by decide) (Nat.le_of_ble_eq_true rfl) dX9_raise_59 ?_
    obtain ⟨q62, hq62, hf⟩ := kc_some hf
    refine u_callV hC (ctX9_share (cL C) hC.tr (cG C) X.1 X.2.1 n q35 v0 v1 v2 (imax (0 : Int32) (v3 - (1 : Int32))) hTv0 hTv1 hTv2 hq62) lk_X9_75 rfl hTv0 (by decide) rfl (by decide) (by decide) rfl rfl (Nat.le_of_ble_eq_true rfl) dX9_raise_62 ?_
    exact hR _ (Option.some.inj hf).symm _ _ dX9_raise_65 trivial
theorem wbX9_raise_2 {C : CT} {X : XT} (hC : CK C RX9 cX9_raise 4 none 4) (n : Nat) (v0 : Nat) (v1 : Nat) (v2 : Nat) (hTv0 : Ty X.2.1 v0 9) (hTv1 : Ty X.2.1 v1 6) (hTv2 : Ty X.2.1 v2 5) (s2 : (Int32 × PS)) {o : (Int32 × PS) ⊕ (PS ⊕ (PS))} (hf : bX9_raise_2 X.2.1 n v0 v1 v2 s2 = some o) (hN : ∀ s', o = .inl s' → UW C X s'.2 2 [(0, .ref (X.1 v0)), (1, .ref (X.1 v1)), (2, .ref (X.1 v2)), (3, .int s'.1)] []) (hO0 : ∀ p', o = .inr (.inl p') → UW C X p' 87 [] []) (hR : ∀ q', o = .inr (.inr q') → Rt C X cX9_raise none none q') : UW C X s2.2 2 [(0, .ref (X.1 v0)), (1, .ref (X.1 v1)), (2, .ref (X.1 v2)), (3, .int s2.1)] [] := by
  unfold bX9_raise_2 at hf
  refine u_iload_n hC dX9_raise_2 3 rfl rfl ?_
  refine u_sipush (v := (300 : Int32)) hC dX9_raise_3 (by decide) ?_
  refine u_icmp_gt (tgt := 87) hC dX9_raise_6 (by decide) hf (fun h6 hf => ?_) (fun h6 hf => ?_)
  · refine u_sub (lv' := []) [] rfl ?_
    exact hO0 _ (Option.some.inj hf).symm
  · refine u_iload_n hC dX9_raise_9 3 rfl rfl ?_
    refine u_sipush (v := (300 : Int32)) hC dX9_raise_10 (by decide) ?_
    refine u_icmp_ge (tgt := 31) hC dX9_raise_13 (by decide) hf (fun h13 hf => ?_) (fun h13 hf => ?_)
    · exact wjX9_raise_31_2 hC n s2.2 v0 v1 v2 s2.1  hTv0 hTv1 hTv2 hf hN hO0 hR
    · refine u_aload_n hC dX9_raise_16 1 rfl rfl ?_
      refine u_aload_n hC dX9_raise_17 1 rfl rfl ?_
      refine u_iload_n hC dX9_raise_18 3 rfl rfl ?_
      obtain ⟨q19, hq19, hf⟩ := kc_some hf
      refine u_callS hC (ctX9_purseOf (cL C) hC.tr (cG C) X.1 X.2.1 n s2.2 v1 s2.1 hTv1 hq19) lk_X9_36 (by decide) (by decide) rfl rfl (Nat.le_of_ble_eq_true rfl) dX9_raise_19 ?_
      obtain ⟨q22, hq22, hf⟩ := kc_some hf
      refine u_callS hC (ctX9_mayEnd (cL C) hC.tr (cG C) X.1 X.2.1 n s2.2 v1 q19 hTv1 hq22) lk_X9_71 (by decide) (by decide) rfl rfl (Nat.le_of_ble_eq_true rfl) dX9_raise_22 ?_
      refine u_if_ne (tgt := 31) hC dX9_raise_25 (by decide) hf (fun h25 hf => ?_) (fun h25 hf => ?_)
      · exact wjX9_raise_31_2 hC n s2.2 v0 v1 v2 s2.1  hTv0 hTv1 hTv2 hf hN hO0 hR
      · refine u_goto (tgt := 81) hC dX9_raise_28 (by decide) ?_
        exact wjX9_raise_81_2 hC n s2.2 v0 v1 v2 s2.1  hTv0 hTv1 hTv2 hf hN hO0 hR
theorem wX9_raise {C : CT} {X : XT} (hC : CK C RX9 cX9_raise 4 none 4) (n : Nat) (S : PS) (a0 : Nat) (a1 : Nat) (a2 : Nat) (hTa0 : Ty X.2.1 a0 9) (hTa1 : Ty X.2.1 a1 6) (hTa2 : Ty X.2.1 a2 5) {o : PS} (hf : fX9_raise X.2.1 n S a0 a1 a2 = some o) (hR : Rt C X cX9_raise none none o) : UW C X S 0 [(0, .ref (X.1 a0)), (1, .ref (X.1 a1)), (2, .ref (X.1 a2))] [] := by
  unfold fX9_raise at hf
  refine u_iconst (v := (0 : Int32)) hC dX9_raise_0 (by decide) ?_
  refine u_istore_n (lv' := [(3, .int (0 : Int32)), (0, .ref (X.1 a0)), (1, .ref (X.1 a1)), (2, .ref (X.1 a2))]) hC dX9_raise_1 rfl (by decide) rfl ?_
  obtain ⟨r2, hr2, hf⟩ := kc_some hf
  have hk2_0 : ∀ p2_0, r2 = (.inl p2_0) → UW C X p2_0 87 [] [] := by
    intro p2_0 he
    subst he
    have hf := ks_l hf
    cases hf
    exact hR _ _ dX9_raise_87 trivial
  have hk2_1 : ∀ p2_1, r2 = (.inr p2_1) → Rt C X cX9_raise none none p2_1 := by
    intro p2_1 he
    subst he
    have hf := ks_r hf
    cases hf
    exact hR
  refine u_sub (lv' := [(0, .ref (X.1 a0)), (1, .ref (X.1 a1)), (2, .ref (X.1 a2)), (3, .int (0 : Int32))]) [1, 2, 3, 0] rfl ?_
  refine iter_ind (P := fun s2 => UW C X s2.2 2 [(0, .ref (X.1 a0)), (1, .ref (X.1 a1)), (2, .ref (X.1 a2)), (3, .int s2.1)] []) (fun s2 o' hb hin hout => ?_) n ((0 : Int32), S) hr2
  exact wbX9_raise_2 hC n a0 a1 a2 hTa0 hTa1 hTa2 s2 hb hin (fun p e => hk2_0 p (hout _ e).symm) (fun p e => hk2_1 p (hout _ e).symm)
theorem ctX9_raise (l : Launch) (hl : l.stackTraces = false) (G : GT) (ρ : Nat → Nat) (Y : XS) (n : Nat) (S : PS) (a0 : Nat) (a1 : Nat) (a2 : Nat) (hTa0 : Ty Y a0 9) (hTa1 : Ty Y a1 6) (hTa2 : Ty Y a2 5) {o : PS} (hf : fX9_raise Y n S a0 a1 a2 = some o) : Mt l G yX9_raise cX9_raise 4 none 4 ρ Y [.ref (ρ a0), .ref (ρ a1), .ref (ρ a2)] S none o :=
  Mt_of hl (by decide) (Nat.le_of_ble_eq_true rfl) (fun C _ _ hC hR => wX9_raise (X := (ρ, Y, 0, 0)) hC n S a0 a1 a2 hTa0 hTa1 hTa2 hf hR)
-- X9_giveBack
theorem dX9_giveBack_0 : decode cX9_giveBack 0 = .ok (.iconst 0, 1) := by decide +kernel
theorem dX9_giveBack_1 : decode cX9_giveBack 1 = .ok (.istore 4, 2) := by decide +kernel
theorem dX9_giveBack_3 : decode cX9_giveBack 3 = .ok (.iload 4, 2) := by decide +kernel
theorem dX9_giveBack_5 : decode cX9_giveBack 5 = .ok (.aload_n 1, 1) := by decide +kernel
theorem dX9_giveBack_6 : decode cX9_giveBack 6 = .ok (.getfield 18, 3) := by decide +kernel
theorem dX9_giveBack_9 : decode cX9_giveBack 9 = .ok (.getfield 68, 3) := by decide +kernel
theorem dX9_giveBack_12 : decode cX9_giveBack 12 = .ok (.if_icmp .ge 26, 3) := by decide +kernel
theorem dX9_giveBack_15 : decode cX9_giveBack 15 = .ok (.aload_n 0, 1) := by decide +kernel
theorem dX9_giveBack_16 : decode cX9_giveBack 16 = .ok (.getfield 15, 3) := by decide +kernel
theorem dX9_giveBack_19 : decode cX9_giveBack 19 = .ok (.iload 4, 2) := by decide +kernel
theorem dX9_giveBack_21 : decode cX9_giveBack 21 = .ok (.dup2, 1) := by decide +kernel
theorem dX9_giveBack_22 : decode cX9_giveBack 22 = .ok (.iaload, 1) := by decide +kernel
theorem dX9_giveBack_23 : decode cX9_giveBack 23 = .ok (.aload_n 2, 1) := by decide +kernel
theorem dX9_giveBack_24 : decode cX9_giveBack 24 = .ok (.iload 4, 2) := by decide +kernel
theorem dX9_giveBack_26 : decode cX9_giveBack 26 = .ok (.iload_n 3, 1) := by decide +kernel
theorem dX9_giveBack_27 : decode cX9_giveBack 27 = .ok (.invokevirtual 133, 3) := by decide +kernel
theorem dX9_giveBack_30 : decode cX9_giveBack 30 = .ok (.iadd, 1) := by decide +kernel
theorem dX9_giveBack_31 : decode cX9_giveBack 31 = .ok (.iastore, 1) := by decide +kernel
theorem dX9_giveBack_32 : decode cX9_giveBack 32 = .ok (.iinc 4 1, 3) := by decide +kernel
theorem dX9_giveBack_35 : decode cX9_giveBack 35 = .ok (.goto (-32), 3) := by decide +kernel
theorem dX9_giveBack_38 : decode cX9_giveBack 38 = .ok (.return_, 1) := by decide +kernel
def bX9_giveBack_3 (Y : XS) (n : Nat) (v0 : Nat) (v1 : Nat) (v2 : Nat) (v3 : Int32) (s3 : (Int32 × PS)) : Option ((Int32 × PS) ⊕ PS) :=
  kgr s3.2 v1 0 (fun b6 => kgi s3.2 b6 2 (fun x9 => (if x9 ≤ s3.1 then some (.inr s3.2) else kgr s3.2 v0 1 (fun b16 => kai Y s3.2 b16 s3.1 (fun x22 => kc (fX5_paidBy Y n s3.2 v2 s3.1 v3) (fun q27 => kwi Y s3.2 b16 s3.1 (x22 + q27) (fun S31 => some (.inl (s3.1 + (1 : Int32), S31)))))))))
def fX9_giveBack (Y : XS) (n : Nat) (S : PS) (a0 : Nat) (a1 : Nat) (a2 : Nat) (x3_ : Int32) : Option (PS) :=
  kc (iter (bX9_giveBack_3 Y n a0 a1 a2 x3_) n ((0 : Int32), S)) (fun r3 => some r3)
theorem wbX9_giveBack_3 {C : CT} {X : XT} (hC : CK C RX9 cX9_giveBack 5 none 3) (n : Nat) (v0 : Nat) (v1 : Nat) (v2 : Nat) (v3 : Int32) (hTv0 : Ty X.2.1 v0 9) (hTv1 : Ty X.2.1 v1 6) (hTv2 : Ty X.2.1 v2 5) (s3 : (Int32 × PS)) {o : (Int32 × PS) ⊕ PS} (hf : bX9_giveBack_3 X.2.1 n v0 v1 v2 v3 s3 = some o) (hN : ∀ s', o = .inl s' → UW C X s'.2 3 [(0, .ref (X.1 v0)), (1, .ref (X.1 v1)), (2, .ref (X.1 v2)), (3, .int v3), (4, .int s'.1)] []) (hO0 : ∀ p', o = .inr p' → UW C X p' 38 [] []) : UW C X s3.2 3 [(0, .ref (X.1 v0)), (1, .ref (X.1 v1)), (2, .ref (X.1 v2)), (3, .int v3), (4, .int s3.1)] [] := by
  unfold bX9_giveBack_3 at hf
  refine u_iload hC dX9_giveBack_3 4 rfl ?_
  refine u_aload_n hC dX9_giveBack_5 1 rfl rfl ?_
  refine u_gr hC lf_X9_18 rfl hTv1 dX9_giveBack_6 hf (fun b6 hTb6 hf => ?_)
  refine u_gi hC lf_X9_68 rfl hTb6 dX9_giveBack_9 hf (fun x9 hf => ?_)
  refine u_icmp_ge (tgt := 38) hC dX9_giveBack_12 (by decide) hf (fun h12 hf => ?_) (fun h12 hf => ?_)
  · refine u_sub (lv' := []) [] rfl ?_
    exact hO0 _ (Option.some.inj hf).symm
  · refine u_aload_n hC dX9_giveBack_15 0 rfl rfl ?_
    refine u_gr hC lf_X9_15 rfl hTv0 dX9_giveBack_16 hf (fun b16 hTb16 hf => ?_)
    refine u_iload hC dX9_giveBack_19 4 rfl ?_
    refine u_dup2 hC dX9_giveBack_21 rfl rfl ?_
    refine u_ai hC hTb16 dX9_giveBack_22 hf (fun x22 hf => ?_)
    refine u_aload_n hC dX9_giveBack_23 2 rfl rfl ?_
    refine u_iload hC dX9_giveBack_24 4 rfl ?_
    refine u_iload_n hC dX9_giveBack_26 3 rfl rfl ?_
    obtain ⟨q27, hq27, hf⟩ := kc_some hf
    refine u_callV hC (ctX5_paidBy (cL C) hC.tr (cG C) X.1 X.2.1 n s3.2 v2 s3.1 v3 hTv2 hq27) lk_X9_133 rfl hTv2 (by decide) rfl (by decide) (by decide) rfl rfl (Nat.le_of_ble_eq_true rfl) dX9_giveBack_27 ?_
    refine u_iadd hC dX9_giveBack_30 ?_
    refine u_wi hC hTb16 dX9_giveBack_31 hf (fun S31 hf => ?_)
    refine u_iinc (v := s3.1 + (1 : Int32)) (lv' := [(4, .int (s3.1 + (1 : Int32))), (0, .ref (X.1 v0)), (1, .ref (X.1 v1)), (2, .ref (X.1 v2)), (3, .int v3)]) hC dX9_giveBack_32 4 rfl rfl (by decide) rfl ?_
    refine u_goto (tgt := 3) hC dX9_giveBack_35 (by decide) ?_
    refine u_sub (lv' := [(0, .ref (X.1 v0)), (1, .ref (X.1 v1)), (2, .ref (X.1 v2)), (3, .int v3), (4, .int (s3.1 + (1 : Int32)))]) [1, 2, 3, 4, 0] rfl ?_
    exact hN _ (Option.some.inj hf).symm
theorem wX9_giveBack {C : CT} {X : XT} (hC : CK C RX9 cX9_giveBack 5 none 3) (n : Nat) (S : PS) (a0 : Nat) (a1 : Nat) (a2 : Nat) (x3_ : Int32) (hTa0 : Ty X.2.1 a0 9) (hTa1 : Ty X.2.1 a1 6) (hTa2 : Ty X.2.1 a2 5) {o : PS} (hf : fX9_giveBack X.2.1 n S a0 a1 a2 x3_ = some o) (hR : Rt C X cX9_giveBack none none o) : UW C X S 0 [(0, .ref (X.1 a0)), (1, .ref (X.1 a1)), (2, .ref (X.1 a2)), (3, .int x3_)] [] := by
  unfold fX9_giveBack at hf
  refine u_iconst (v := (0 : Int32)) hC dX9_giveBack_0 (by decide) ?_
  refine u_istore (lv' := [(4, .int (0 : Int32)), (0, .ref (X.1 a0)), (1, .ref (X.1 a1)), (2, .ref (X.1 a2)), (3, .int x3_)]) hC dX9_giveBack_1 (by decide) rfl ?_
  obtain ⟨r3, hr3, hf⟩ := kc_some hf
  have hk3 : UW C X r3 38 [] [] := by
    cases hf
    exact hR _ _ dX9_giveBack_38 trivial
  refine u_sub (lv' := [(0, .ref (X.1 a0)), (1, .ref (X.1 a1)), (2, .ref (X.1 a2)), (3, .int x3_), (4, .int (0 : Int32))]) [1, 2, 3, 4, 0] rfl ?_
  refine iter_ind (P := fun s3 => UW C X s3.2 3 [(0, .ref (X.1 a0)), (1, .ref (X.1 a1)), (2, .ref (X.1 a2)), (3, .int x3_), (4, .int s3.1)] []) (fun s3 o' hb hin hout => ?_) n ((0 : Int32), S) hr3
  exact wbX9_giveBack_3 hC n a0 a1 a2 x3_ hTa0 hTa1 hTa2 s3 hb hin (fun p e => by rw [hout p e]; exact hk3)
theorem ctX9_giveBack (l : Launch) (hl : l.stackTraces = false) (G : GT) (ρ : Nat → Nat) (Y : XS) (n : Nat) (S : PS) (a0 : Nat) (a1 : Nat) (a2 : Nat) (x3_ : Int32) (hTa0 : Ty Y a0 9) (hTa1 : Ty Y a1 6) (hTa2 : Ty Y a2 5) {o : PS} (hf : fX9_giveBack Y n S a0 a1 a2 x3_ = some o) : Mt l G yX9_giveBack cX9_giveBack 5 none 3 ρ Y [.ref (ρ a0), .ref (ρ a1), .ref (ρ a2), .int x3_] S none o :=
  Mt_of hl (by decide) (Nat.le_of_ble_eq_true rfl) (fun C _ _ hC hR => wX9_giveBack (X := (ρ, Y, 0, 0)) hC n S a0 a1 a2 x3_ hTa0 hTa1 hTa2 hf hR)
-- X9_priceBehind
theorem dX9_priceBehind_0 : decode cX9_priceBehind 0 = .ok (.aload_n 2, 1) := by decide +kernel
theorem dX9_priceBehind_1 : decode cX9_priceBehind 1 = .ok (.getfield 33, 3) := by decide +kernel
theorem dX9_priceBehind_4 : decode cX9_priceBehind 4 = .ok (.iconst 0, 1) := by decide +kernel
theorem dX9_priceBehind_5 : decode cX9_priceBehind 5 = .ok (.aload_n 0, 1) := by decide +kernel
theorem dX9_priceBehind_6 : decode cX9_priceBehind 6 = .ok (.getfield 15, 3) := by decide +kernel
theorem dX9_priceBehind_9 : decode cX9_priceBehind 9 = .ok (.iconst 0, 1) := by decide +kernel
theorem dX9_priceBehind_10 : decode cX9_priceBehind 10 = .ok (.bipush 24, 2) := by decide +kernel
theorem dX9_priceBehind_12 : decode cX9_priceBehind 12 = .ok (.invokestatic 121, 3) := by decide +kernel
theorem dX9_priceBehind_15 : decode cX9_priceBehind 15 = .ok (.iconst 0, 1) := by decide +kernel
theorem dX9_priceBehind_16 : decode cX9_priceBehind 16 = .ok (.istore 5, 2) := by decide +kernel
theorem dX9_priceBehind_18 : decode cX9_priceBehind 18 = .ok (.iload 5, 2) := by decide +kernel
theorem dX9_priceBehind_20 : decode cX9_priceBehind 20 = .ok (.aload_n 2, 1) := by decide +kernel
theorem dX9_priceBehind_21 : decode cX9_priceBehind 21 = .ok (.getfield 85, 3) := by decide +kernel
theorem dX9_priceBehind_24 : decode cX9_priceBehind 24 = .ok (.if_icmp .ge 56, 3) := by decide +kernel
theorem dX9_priceBehind_27 : decode cX9_priceBehind 27 = .ok (.iload 5, 2) := by decide +kernel
theorem dX9_priceBehind_29 : decode cX9_priceBehind 29 = .ok (.bipush 12, 2) := by decide +kernel
theorem dX9_priceBehind_31 : decode cX9_priceBehind 31 = .ok (.if_icmp .ge 49, 3) := by decide +kernel
theorem dX9_priceBehind_34 : decode cX9_priceBehind 34 = .ok (.iload 5, 2) := by decide +kernel
theorem dX9_priceBehind_36 : decode cX9_priceBehind 36 = .ok (.iload 4, 2) := by decide +kernel
theorem dX9_priceBehind_38 : decode cX9_priceBehind 38 = .ok (.if_icmp .ge 16, 3) := by decide +kernel
theorem dX9_priceBehind_41 : decode cX9_priceBehind 41 = .ok (.aload_n 2, 1) := by decide +kernel
theorem dX9_priceBehind_42 : decode cX9_priceBehind 42 = .ok (.getfield 127, 3) := by decide +kernel
theorem dX9_priceBehind_45 : decode cX9_priceBehind 45 = .ok (.iload 5, 2) := by decide +kernel
theorem dX9_priceBehind_47 : decode cX9_priceBehind 47 = .ok (.iaload, 1) := by decide +kernel
theorem dX9_priceBehind_48 : decode cX9_priceBehind 48 = .ok (.iload_n 3, 1) := by decide +kernel
theorem dX9_priceBehind_49 : decode cX9_priceBehind 49 = .ok (.if_icmp .ne 5, 3) := by decide +kernel
theorem dX9_priceBehind_52 : decode cX9_priceBehind 52 = .ok (.iconst (-1), 1) := by decide +kernel
theorem dX9_priceBehind_53 : decode cX9_priceBehind 53 = .ok (.ireturn, 1) := by decide +kernel
theorem dX9_priceBehind_54 : decode cX9_priceBehind 54 = .ok (.iload 5, 2) := by decide +kernel
theorem dX9_priceBehind_56 : decode cX9_priceBehind 56 = .ok (.iload 4, 2) := by decide +kernel
theorem dX9_priceBehind_58 : decode cX9_priceBehind 58 = .ok (.if_icmp .lt 16, 3) := by decide +kernel
theorem dX9_priceBehind_61 : decode cX9_priceBehind 61 = .ok (.aload_n 0, 1) := by decide +kernel
theorem dX9_priceBehind_62 : decode cX9_priceBehind 62 = .ok (.aload_n 1, 1) := by decide +kernel
theorem dX9_priceBehind_63 : decode cX9_priceBehind 63 = .ok (.aload_n 2, 1) := by decide +kernel
theorem dX9_priceBehind_64 : decode cX9_priceBehind 64 = .ok (.aload_n 2, 1) := by decide +kernel
theorem dX9_priceBehind_65 : decode cX9_priceBehind 65 = .ok (.getfield 127, 3) := by decide +kernel
theorem dX9_priceBehind_68 : decode cX9_priceBehind 68 = .ok (.iload 5, 2) := by decide +kernel
theorem dX9_priceBehind_70 : decode cX9_priceBehind 70 = .ok (.iaload, 1) := by decide +kernel
theorem dX9_priceBehind_71 : decode cX9_priceBehind 71 = .ok (.invokevirtual 130, 3) := by decide +kernel
theorem dX9_priceBehind_74 : decode cX9_priceBehind 74 = .ok (.iinc 5 1, 3) := by decide +kernel
theorem dX9_priceBehind_77 : decode cX9_priceBehind 77 = .ok (.goto (-59), 3) := by decide +kernel
theorem dX9_priceBehind_80 : decode cX9_priceBehind 80 = .ok (.aload_n 1, 1) := by decide +kernel
theorem dX9_priceBehind_81 : decode cX9_priceBehind 81 = .ok (.iload_n 3, 1) := by decide +kernel
theorem dX9_priceBehind_82 : decode cX9_priceBehind 82 = .ok (.invokestatic 51, 3) := by decide +kernel
theorem dX9_priceBehind_85 : decode cX9_priceBehind 85 = .ok (.istore 5, 2) := by decide +kernel
theorem dX9_priceBehind_87 : decode cX9_priceBehind 87 = .ok (.iload 5, 2) := by decide +kernel
theorem dX9_priceBehind_89 : decode cX9_priceBehind 89 = .ok (.iconst (-1), 1) := by decide +kernel
theorem dX9_priceBehind_90 : decode cX9_priceBehind 90 = .ok (.if_icmp .ne 7, 3) := by decide +kernel
theorem dX9_priceBehind_93 : decode cX9_priceBehind 93 = .ok (.iconst (-1), 1) := by decide +kernel
theorem dX9_priceBehind_94 : decode cX9_priceBehind 94 = .ok (.goto 14, 3) := by decide +kernel
theorem dX9_priceBehind_97 : decode cX9_priceBehind 97 = .ok (.aload_n 1, 1) := by decide +kernel
theorem dX9_priceBehind_98 : decode cX9_priceBehind 98 = .ok (.aload_n 0, 1) := by decide +kernel
theorem dX9_priceBehind_99 : decode cX9_priceBehind 99 = .ok (.getfield 15, 3) := by decide +kernel
theorem dX9_priceBehind_102 : decode cX9_priceBehind 102 = .ok (.iload_n 3, 1) := by decide +kernel
theorem dX9_priceBehind_103 : decode cX9_priceBehind 103 = .ok (.iload 5, 2) := by decide +kernel
theorem dX9_priceBehind_105 : decode cX9_priceBehind 105 = .ok (.invokestatic 108, 3) := by decide +kernel
theorem dX9_priceBehind_108 : decode cX9_priceBehind 108 = .ok (.ireturn, 1) := by decide +kernel
def jX9_priceBehind_74_18 (Y : XS) (n : Nat) (S : PS) (v0 : Nat) (v1 : Nat) (v2 : Nat) (v3 : Int32) (v4 : Int32) (v5 : Int32) : Option ((Int32 × PS) ⊕ (PS ⊕ (Int32 × PS))) :=
  some (.inl (v5 + (1 : Int32), S))
def jX9_priceBehind_54_18 (Y : XS) (n : Nat) (S : PS) (v0 : Nat) (v1 : Nat) (v2 : Nat) (v3 : Int32) (v4 : Int32) (v5 : Int32) : Option ((Int32 × PS) ⊕ (PS ⊕ (Int32 × PS))) :=
  (if v5 < v4 then jX9_priceBehind_74_18 Y n S v0 v1 v2 v3 v4 v5 else kgr S v2 0 (fun b65 => kai Y S b65 v5 (fun x70 => kc (fX9_giveBack Y n S v0 v1 v2 x70) (fun q71 => jX9_priceBehind_74_18 Y n q71 v0 v1 v2 v3 v4 v5))))
def bX9_priceBehind_18 (Y : XS) (n : Nat) (v0 : Nat) (v1 : Nat) (v2 : Nat) (v3 : Int32) (v4 : Int32) (s18 : (Int32 × PS)) : Option ((Int32 × PS) ⊕ (PS ⊕ (Int32 × PS))) :=
  kgi s18.2 v2 1 (fun x21 => (if x21 ≤ s18.1 then some (.inr (.inl s18.2)) else (if (12 : Int32) ≤ s18.1 then some (.inr (.inl s18.2)) else (if v4 ≤ s18.1 then jX9_priceBehind_54_18 Y n s18.2 v0 v1 v2 v3 v4 s18.1 else kgr s18.2 v2 0 (fun b42 => kai Y s18.2 b42 s18.1 (fun x47 => (if x47 = v3 then some (.inr (.inr ((-1 : Int32), s18.2))) else jX9_priceBehind_54_18 Y n s18.2 v0 v1 v2 v3 v4 s18.1)))))))
def jX9_priceBehind_108 (Y : XS) (n : Nat) (S : PS) (t0 : Int32) : Option (Int32 × PS) :=
  some (t0, S)
def jX9_priceBehind_80 (Y : XS) (n : Nat) (S : PS) (v0 : Nat) (v1 : Nat) (v3 : Int32) : Option (Int32 × PS) :=
  kc (fX9_firstBound Y n S v1 v3) (fun q82 => (if q82 = (-1 : Int32) then jX9_priceBehind_108 Y n S (-1 : Int32) else kgr S v0 1 (fun b99 => kc (fX9_priceFrom Y n S v1 b99 v3 q82) (fun q105 => jX9_priceBehind_108 Y n S q105))))
def fX9_priceBehind (Y : XS) (n : Nat) (S : PS) (a0 : Nat) (a1 : Nat) (a2 : Nat) (x3_ : Int32) (x4_ : Int32) : Option (Int32 × PS) :=
  kgr S a2 7 (fun b1 => kgr S a0 1 (fun b6 => kcp Y S b1 (0 : Int32) b6 (0 : Int32) (24 : Int32) (fun S12 => kc (iter (bX9_priceBehind_18 Y n a0 a1 a2 x3_ x4_) n ((0 : Int32), S12)) (fun r18 => ks r18 (fun p18_0 => jX9_priceBehind_80 Y n p18_0 a0 a1 x3_) (fun p18_1 => some p18_1)))))
theorem wjX9_priceBehind_74_18 {C : CT} {X : XT} (hC : CK C RX9 cX9_priceBehind 6 (some .int) 4) (n : Nat) (S : PS) (v0 : Nat) (v1 : Nat) (v2 : Nat) (v3 : Int32) (v4 : Int32) (v5 : Int32)  (hTv0 : Ty X.2.1 v0 9) (hTv1 : Ty X.2.1 v1 6) (hTv2 : Ty X.2.1 v2 5) {o : (Int32 × PS) ⊕ (PS ⊕ (Int32 × PS))} (hf : jX9_priceBehind_74_18 X.2.1 n S v0 v1 v2 v3 v4 v5 = some o) (hN : ∀ s', o = .inl s' → UW C X s'.2 18 [(0, .ref (X.1 v0)), (1, .ref (X.1 v1)), (2, .ref (X.1 v2)), (3, .int v3), (4, .int v4), (5, .int s'.1)] []) (hO0 : ∀ p', o = .inr (.inl p') → UW C X p' 80 [(0, .ref (X.1 v0)), (1, .ref (X.1 v1)), (3, .int v3)] []) (hR : ∀ q', o = .inr (.inr q') → Rt C X cX9_priceBehind (some .int) (some (.int q'.1)) q'.2) : UW C X S 74 [(0, .ref (X.1 v0)), (1, .ref (X.1 v1)), (2, .ref (X.1 v2)), (3, .int v3), (4, .int v4), (5, .int v5)] [] := by
  unfold jX9_priceBehind_74_18 at hf
  refine u_iinc (v := v5 + (1 : Int32)) (lv' := [(5, .int (v5 + (1 : Int32))), (0, .ref (X.1 v0)), (1, .ref (X.1 v1)), (2, .ref (X.1 v2)), (3, .int v3), (4, .int v4)]) hC dX9_priceBehind_74 5 rfl rfl (by decide) rfl ?_
  refine u_goto (tgt := 18) hC dX9_priceBehind_77 (by decide) ?_
  refine u_sub (lv' := [(0, .ref (X.1 v0)), (1, .ref (X.1 v1)), (2, .ref (X.1 v2)), (3, .int v3), (4, .int v4), (5, .int (v5 + (1 : Int32)))]) [1, 2, 3, 4, 5, 0] rfl ?_
  exact hN _ (Option.some.inj hf).symm
theorem wjX9_priceBehind_54_18 {C : CT} {X : XT} (hC : CK C RX9 cX9_priceBehind 6 (some .int) 4) (n : Nat) (S : PS) (v0 : Nat) (v1 : Nat) (v2 : Nat) (v3 : Int32) (v4 : Int32) (v5 : Int32)  (hTv0 : Ty X.2.1 v0 9) (hTv1 : Ty X.2.1 v1 6) (hTv2 : Ty X.2.1 v2 5) {o : (Int32 × PS) ⊕ (PS ⊕ (Int32 × PS))} (hf : jX9_priceBehind_54_18 X.2.1 n S v0 v1 v2 v3 v4 v5 = some o) (hN : ∀ s', o = .inl s' → UW C X s'.2 18 [(0, .ref (X.1 v0)), (1, .ref (X.1 v1)), (2, .ref (X.1 v2)), (3, .int v3), (4, .int v4), (5, .int s'.1)] []) (hO0 : ∀ p', o = .inr (.inl p') → UW C X p' 80 [(0, .ref (X.1 v0)), (1, .ref (X.1 v1)), (3, .int v3)] []) (hR : ∀ q', o = .inr (.inr q') → Rt C X cX9_priceBehind (some .int) (some (.int q'.1)) q'.2) : UW C X S 54 [(0, .ref (X.1 v0)), (1, .ref (X.1 v1)), (2, .ref (X.1 v2)), (3, .int v3), (4, .int v4), (5, .int v5)] [] := by
  unfold jX9_priceBehind_54_18 at hf
  refine u_iload hC dX9_priceBehind_54 5 rfl ?_
  refine u_iload hC dX9_priceBehind_56 4 rfl ?_
  refine u_icmp_lt (tgt := 74) hC dX9_priceBehind_58 (by decide) hf (fun h58 hf => ?_) (fun h58 hf => ?_)
  · exact wjX9_priceBehind_74_18 hC n S v0 v1 v2 v3 v4 v5  hTv0 hTv1 hTv2 hf hN hO0 hR
  · refine u_aload_n hC dX9_priceBehind_61 0 rfl rfl ?_
    refine u_aload_n hC dX9_priceBehind_62 1 rfl rfl ?_
    refine u_aload_n hC dX9_priceBehind_63 2 rfl rfl ?_
    refine u_aload_n hC dX9_priceBehind_64 2 rfl rfl ?_
    refine u_gr hC lf_X9_127 rfl hTv2 dX9_priceBehind_65 hf (fun b65 hTb65 hf => ?_)
    refine u_iload hC dX9_priceBehind_68 5 rfl ?_
    refine u_ai hC hTb65 dX9_priceBehind_70 hf (fun x70 hf => ?_)
    obtain ⟨q71, hq71, hf⟩ := kc_some hf
    refine u_callV hC (ctX9_giveBack (cL C) hC.tr (cG C) X.1 X.2.1 n S v0 v1 v2 x70 hTv0 hTv1 hTv2 hq71) lk_X9_130 rfl hTv0 (by decide) rfl (by decide) (by decide) rfl rfl (Nat.le_of_ble_eq_true rfl) dX9_priceBehind_71 ?_
    exact wjX9_priceBehind_74_18 hC n q71 v0 v1 v2 v3 v4 v5  hTv0 hTv1 hTv2 hf hN hO0 hR
theorem wbX9_priceBehind_18 {C : CT} {X : XT} (hC : CK C RX9 cX9_priceBehind 6 (some .int) 4) (n : Nat) (v0 : Nat) (v1 : Nat) (v2 : Nat) (v3 : Int32) (v4 : Int32) (hTv0 : Ty X.2.1 v0 9) (hTv1 : Ty X.2.1 v1 6) (hTv2 : Ty X.2.1 v2 5) (s18 : (Int32 × PS)) {o : (Int32 × PS) ⊕ (PS ⊕ (Int32 × PS))} (hf : bX9_priceBehind_18 X.2.1 n v0 v1 v2 v3 v4 s18 = some o) (hN : ∀ s', o = .inl s' → UW C X s'.2 18 [(0, .ref (X.1 v0)), (1, .ref (X.1 v1)), (2, .ref (X.1 v2)), (3, .int v3), (4, .int v4), (5, .int s'.1)] []) (hO0 : ∀ p', o = .inr (.inl p') → UW C X p' 80 [(0, .ref (X.1 v0)), (1, .ref (X.1 v1)), (3, .int v3)] []) (hR : ∀ q', o = .inr (.inr q') → Rt C X cX9_priceBehind (some .int) (some (.int q'.1)) q'.2) : UW C X s18.2 18 [(0, .ref (X.1 v0)), (1, .ref (X.1 v1)), (2, .ref (X.1 v2)), (3, .int v3), (4, .int v4), (5, .int s18.1)] [] := by
  unfold bX9_priceBehind_18 at hf
  refine u_iload hC dX9_priceBehind_18 5 rfl ?_
  refine u_aload_n hC dX9_priceBehind_20 2 rfl rfl ?_
  refine u_gi hC lf_X9_85 rfl hTv2 dX9_priceBehind_21 hf (fun x21 hf => ?_)
  refine u_icmp_ge (tgt := 80) hC dX9_priceBehind_24 (by decide) hf (fun h24 hf => ?_) (fun h24 hf => ?_)
  · refine u_sub (lv' := [(0, .ref (X.1 v0)), (1, .ref (X.1 v1)), (3, .int v3)]) [0, 1, 3] rfl ?_
    exact hO0 _ (Option.some.inj hf).symm
  · refine u_iload hC dX9_priceBehind_27 5 rfl ?_
    refine u_bipush (v := (12 : Int32)) hC dX9_priceBehind_29 (by decide) ?_
    refine u_icmp_ge (tgt := 80) hC dX9_priceBehind_31 (by decide) hf (fun h31 hf => ?_) (fun h31 hf => ?_)
    · refine u_sub (lv' := [(0, .ref (X.1 v0)), (1, .ref (X.1 v1)), (3, .int v3)]) [0, 1, 3] rfl ?_
      exact hO0 _ (Option.some.inj hf).symm
    · refine u_iload hC dX9_priceBehind_34 5 rfl ?_
      refine u_iload hC dX9_priceBehind_36 4 rfl ?_
      refine u_icmp_ge (tgt := 54) hC dX9_priceBehind_38 (by decide) hf (fun h38 hf => ?_) (fun h38 hf => ?_)
      · exact wjX9_priceBehind_54_18 hC n s18.2 v0 v1 v2 v3 v4 s18.1  hTv0 hTv1 hTv2 hf hN hO0 hR
      · refine u_aload_n hC dX9_priceBehind_41 2 rfl rfl ?_
        refine u_gr hC lf_X9_127 rfl hTv2 dX9_priceBehind_42 hf (fun b42 hTb42 hf => ?_)
        refine u_iload hC dX9_priceBehind_45 5 rfl ?_
        refine u_ai hC hTb42 dX9_priceBehind_47 hf (fun x47 hf => ?_)
        refine u_iload_n hC dX9_priceBehind_48 3 rfl rfl ?_
        refine u_icmp_ne (tgt := 54) hC dX9_priceBehind_49 (by decide) hf (fun h49 hf => ?_) (fun h49 hf => ?_)
        · exact wjX9_priceBehind_54_18 hC n s18.2 v0 v1 v2 v3 v4 s18.1  hTv0 hTv1 hTv2 hf hN hO0 hR
        · refine u_iconst (v := (-1 : Int32)) hC dX9_priceBehind_52 (by decide) ?_
          exact hR _ (Option.some.inj hf).symm _ _ dX9_priceBehind_53 trivial
theorem wjX9_priceBehind_108 {C : CT} {X : XT} (hC : CK C RX9 cX9_priceBehind 6 (some .int) 4) (n : Nat) (S : PS) (t0 : Int32)   {o : Int32 × PS} (hf : jX9_priceBehind_108 X.2.1 n S t0 = some o) (hR : Rt C X cX9_priceBehind (some .int) (some (.int o.1)) o.2) : UW C X S 108 [] [.int t0] := by
  unfold jX9_priceBehind_108 at hf
  cases hf
  exact hR _ _ dX9_priceBehind_108 trivial
theorem wjX9_priceBehind_80 {C : CT} {X : XT} (hC : CK C RX9 cX9_priceBehind 6 (some .int) 4) (n : Nat) (S : PS) (v0 : Nat) (v1 : Nat) (v3 : Int32)  (hTv0 : Ty X.2.1 v0 9) (hTv1 : Ty X.2.1 v1 6) {o : Int32 × PS} (hf : jX9_priceBehind_80 X.2.1 n S v0 v1 v3 = some o) (hR : Rt C X cX9_priceBehind (some .int) (some (.int o.1)) o.2) : UW C X S 80 [(0, .ref (X.1 v0)), (1, .ref (X.1 v1)), (3, .int v3)] [] := by
  unfold jX9_priceBehind_80 at hf
  refine u_aload_n hC dX9_priceBehind_80 1 rfl rfl ?_
  refine u_iload_n hC dX9_priceBehind_81 2 rfl rfl ?_
  obtain ⟨q82, hq82, hf⟩ := kc_some hf
  refine u_callS hC (ctX9_firstBound (cL C) hC.tr (cG C) X.1 X.2.1 n S v1 v3 hTv1 hq82) lk_X9_51 (by decide) (by decide) rfl rfl (Nat.le_of_ble_eq_true rfl) dX9_priceBehind_82 ?_
  refine u_istore (lv' := [(5, .int q82), (0, .ref (X.1 v0)), (1, .ref (X.1 v1)), (3, .int v3)]) hC dX9_priceBehind_85 (by decide) rfl ?_
  refine u_iload hC dX9_priceBehind_87 0 rfl ?_
  refine u_iconst (v := (-1 : Int32)) hC dX9_priceBehind_89 (by decide) ?_
  refine u_icmp_ne (tgt := 97) hC dX9_priceBehind_90 (by decide) hf (fun h90 hf => ?_) (fun h90 hf => ?_)
  · refine u_aload_n hC dX9_priceBehind_97 2 rfl rfl ?_
    refine u_aload_n hC dX9_priceBehind_98 1 rfl rfl ?_
    refine u_gr hC lf_X9_15 rfl hTv0 dX9_priceBehind_99 hf (fun b99 hTb99 hf => ?_)
    refine u_iload_n hC dX9_priceBehind_102 3 rfl rfl ?_
    refine u_iload hC dX9_priceBehind_103 0 rfl ?_
    obtain ⟨q105, hq105, hf⟩ := kc_some hf
    refine u_callS hC (ctX9_priceFrom (cL C) hC.tr (cG C) X.1 X.2.1 n S v1 b99 v3 q82 hTv1 hTb99 hq105) lk_X9_108 (by decide) (by decide) rfl rfl (Nat.le_of_ble_eq_true rfl) dX9_priceBehind_105 ?_
    refine u_sub (lv' := []) [] rfl ?_
    exact wjX9_priceBehind_108 hC n S q105   hf hR
  · refine u_iconst (v := (-1 : Int32)) hC dX9_priceBehind_93 (by decide) ?_
    refine u_goto (tgt := 108) hC dX9_priceBehind_94 (by decide) ?_
    refine u_sub (lv' := []) [] rfl ?_
    exact wjX9_priceBehind_108 hC n S (-1 : Int32)   hf hR
theorem wX9_priceBehind {C : CT} {X : XT} (hC : CK C RX9 cX9_priceBehind 6 (some .int) 4) (n : Nat) (S : PS) (a0 : Nat) (a1 : Nat) (a2 : Nat) (x3_ : Int32) (x4_ : Int32) (hTa0 : Ty X.2.1 a0 9) (hTa1 : Ty X.2.1 a1 6) (hTa2 : Ty X.2.1 a2 5) {o : Int32 × PS} (hf : fX9_priceBehind X.2.1 n S a0 a1 a2 x3_ x4_ = some o) (hR : Rt C X cX9_priceBehind (some .int) (some (.int o.1)) o.2) : UW C X S 0 [(0, .ref (X.1 a0)), (1, .ref (X.1 a1)), (2, .ref (X.1 a2)), (3, .int x3_), (4, .int x4_)] [] := by
  unfold fX9_priceBehind at hf
  refine u_aload_n hC dX9_priceBehind_0 2 rfl rfl ?_
  refine u_gr hC lf_X9_33 rfl hTa2 dX9_priceBehind_1 hf (fun b1 hTb1 hf => ?_)
  refine u_iconst (v := (0 : Int32)) hC dX9_priceBehind_4 (by decide) ?_
  refine u_aload_n hC dX9_priceBehind_5 0 rfl rfl ?_
  refine u_gr hC lf_X9_15 rfl hTa0 dX9_priceBehind_6 hf (fun b6 hTb6 hf => ?_)
  refine u_iconst (v := (0 : Int32)) hC dX9_priceBehind_9 (by decide) ?_
  refine u_bipush (v := (24 : Int32)) hC dX9_priceBehind_10 (by decide) ?_
  refine u_cp hC (tb_5 81 rfl rfl) (by decide) hTb1 hTb6 (Nat.le_of_ble_eq_true rfl) dX9_priceBehind_12 hf (fun S12 hf => ?_)
  refine u_iconst (v := (0 : Int32)) hC dX9_priceBehind_15 (by decide) ?_
  refine u_istore (lv' := [(5, .int (0 : Int32)), (0, .ref (X.1 a0)), (1, .ref (X.1 a1)), (2, .ref (X.1 a2)), (3, .int x3_), (4, .int x4_)]) hC dX9_priceBehind_16 (by decide) rfl ?_
  obtain ⟨r18, hr18, hf⟩ := kc_some hf
  have hk18_0 : ∀ p18_0, r18 = (.inl p18_0) → UW C X p18_0 80 [(0, .ref (X.1 a0)), (1, .ref (X.1 a1)), (3, .int x3_)] [] := by
    intro p18_0 he
    subst he
    have hf := ks_l hf
    exact wjX9_priceBehind_80 hC n p18_0 a0 a1 x3_  hTa0 hTa1 hf hR
  have hk18_1 : ∀ p18_1, r18 = (.inr p18_1) → Rt C X cX9_priceBehind (some .int) (some (.int p18_1.1)) p18_1.2 := by
    intro p18_1 he
    subst he
    have hf := ks_r hf
    cases hf
    exact hR
  refine u_sub (lv' := [(0, .ref (X.1 a0)), (1, .ref (X.1 a1)), (2, .ref (X.1 a2)), (3, .int x3_), (4, .int x4_), (5, .int (0 : Int32))]) [1, 2, 3, 4, 5, 0] rfl ?_
  refine iter_ind (P := fun s18 => UW C X s18.2 18 [(0, .ref (X.1 a0)), (1, .ref (X.1 a1)), (2, .ref (X.1 a2)), (3, .int x3_), (4, .int x4_), (5, .int s18.1)] []) (fun s18 o' hb hin hout => ?_) n ((0 : Int32), S12) hr18
  exact wbX9_priceBehind_18 hC n a0 a1 a2 x3_ x4_ hTa0 hTa1 hTa2 s18 hb hin (fun p e => hk18_0 p (hout _ e).symm) (fun p e => hk18_1 p (hout _ e).symm)
theorem ctX9_priceBehind (l : Launch) (hl : l.stackTraces = false) (G : GT) (ρ : Nat → Nat) (Y : XS) (n : Nat) (S : PS) (a0 : Nat) (a1 : Nat) (a2 : Nat) (x3_ : Int32) (x4_ : Int32) (hTa0 : Ty Y a0 9) (hTa1 : Ty Y a1 6) (hTa2 : Ty Y a2 5) {o : Int32 × PS} (hf : fX9_priceBehind Y n S a0 a1 a2 x3_ x4_ = some o) : Mt l G yX9_priceBehind cX9_priceBehind 6 (some .int) 4 ρ Y [.ref (ρ a0), .ref (ρ a1), .ref (ρ a2), .int x3_, .int x4_] S (some (.int o.1)) o.2 :=
  Mt_of hl (by decide) (Nat.le_of_ble_eq_true rfl) (fun C _ _ hC hR => wX9_priceBehind (X := (ρ, Y, 0, 0)) hC n S a0 a1 a2 x3_ x4_ hTa0 hTa1 hTa2 hf hR)
