-- X6_members
theorem dX6_members_0 : decode cX6_members 0 = .ok (.iconst 1, 1) := by decide +kernel
theorem dX6_members_1 : decode cX6_members 1 = .ok (.aload_n 0, 1) := by decide +kernel
theorem dX6_members_2 : decode cX6_members 2 = .ok (.getfield 12, 3) := by decide +kernel
theorem dX6_members_5 : decode cX6_members 5 = .ok (.getfield 67, 3) := by decide +kernel
theorem dX6_members_8 : decode cX6_members 8 = .ok (.ishl, 1) := by decide +kernel
theorem dX6_members_9 : decode cX6_members 9 = .ok (.iconst 1, 1) := by decide +kernel
theorem dX6_members_10 : decode cX6_members 10 = .ok (.isub, 1) := by decide +kernel
theorem dX6_members_11 : decode cX6_members 11 = .ok (.istore_n 2, 1) := by decide +kernel
theorem dX6_members_12 : decode cX6_members 12 = .ok (.iconst 0, 1) := by decide +kernel
theorem dX6_members_13 : decode cX6_members 13 = .ok (.istore_n 3, 1) := by decide +kernel
theorem dX6_members_14 : decode cX6_members 14 = .ok (.iload_n 3, 1) := by decide +kernel
theorem dX6_members_15 : decode cX6_members 15 = .ok (.aload_n 0, 1) := by decide +kernel
theorem dX6_members_16 : decode cX6_members 16 = .ok (.getfield 12, 3) := by decide +kernel
theorem dX6_members_19 : decode cX6_members 19 = .ok (.getfield 49, 3) := by decide +kernel
theorem dX6_members_22 : decode cX6_members 22 = .ok (.if_icmp .ge 26, 3) := by decide +kernel
theorem dX6_members_25 : decode cX6_members 25 = .ok (.iload_n 3, 1) := by decide +kernel
theorem dX6_members_26 : decode cX6_members 26 = .ok (.iload_n 1, 1) := by decide +kernel
theorem dX6_members_27 : decode cX6_members 27 = .ok (.invokestatic 88, 3) := by decide +kernel
theorem dX6_members_30 : decode cX6_members 30 = .ok (.ifCond .eq 12, 3) := by decide +kernel
theorem dX6_members_33 : decode cX6_members 33 = .ok (.iload_n 2, 1) := by decide +kernel
theorem dX6_members_34 : decode cX6_members 34 = .ok (.aload_n 0, 1) := by decide +kernel
theorem dX6_members_35 : decode cX6_members 35 = .ok (.getfield 25, 3) := by decide +kernel
theorem dX6_members_38 : decode cX6_members 38 = .ok (.iload_n 3, 1) := by decide +kernel
theorem dX6_members_39 : decode cX6_members 39 = .ok (.iaload, 1) := by decide +kernel
theorem dX6_members_40 : decode cX6_members 40 = .ok (.iand, 1) := by decide +kernel
theorem dX6_members_41 : decode cX6_members 41 = .ok (.istore_n 2, 1) := by decide +kernel
theorem dX6_members_42 : decode cX6_members 42 = .ok (.iinc 3 1, 3) := by decide +kernel
theorem dX6_members_45 : decode cX6_members 45 = .ok (.goto (-31), 3) := by decide +kernel
theorem dX6_members_48 : decode cX6_members 48 = .ok (.iload_n 2, 1) := by decide +kernel
theorem dX6_members_49 : decode cX6_members 49 = .ok (.ireturn, 1) := by decide +kernel
def jX6_members_42_14 (Y : XS) (n : Nat) (S : PS) (v0 : Nat) (v1 : Int32) (v2 : Int32) (v3 : Int32) : Option ((Int32 × Int32) ⊕ Int32) :=
  some (.inl (v2, v3 + (1 : Int32)))
def bX6_members_14 (Y : XS) (n : Nat) (S : PS) (v0 : Nat) (v1 : Int32) (s14 : (Int32 × Int32)) : Option ((Int32 × Int32) ⊕ Int32) :=
  kgr S v0 0 (fun b16 => kgi S b16 1 (fun x19 => (if x19 ≤ s14.2 then some (.inr s14.1) else kc (fX10_isIn Y n S s14.2 v1) (fun q27 => (if q27 = 0 then jX6_members_42_14 Y n S v0 v1 s14.1 s14.2 else kgr S v0 3 (fun b35 => kai Y S b35 s14.2 (fun x39 => jX6_members_42_14 Y n S v0 v1 (s14.1 &&& x39) s14.2)))))))
def fX6_members (Y : XS) (n : Nat) (S : PS) (a0 : Nat) (x1_ : Int32) : Option (Int32) :=
  kgr S a0 0 (fun b2 => kgi S b2 2 (fun x5 => kc (iter (bX6_members_14 Y n S a0 x1_) n (((1 : Int32) <<< (x5 &&& 31)) - (1 : Int32), (0 : Int32))) (fun r14 => some r14)))
theorem wjX6_members_42_14 {C : CT} {X : XT} (hC : CK C RX6 cX6_members 4 (some .int) 2) (n : Nat) (S : PS) (v0 : Nat) (v1 : Int32) (v2 : Int32) (v3 : Int32)  (hTv0 : Ty X.2.1 v0 6) {o : (Int32 × Int32) ⊕ Int32} (hf : jX6_members_42_14 X.2.1 n S v0 v1 v2 v3 = some o) (hN : ∀ s', o = .inl s' → UW C X S 14 [(0, .ref (X.1 v0)), (1, .int v1), (2, .int s'.1), (3, .int s'.2)] []) (hO0 : ∀ p', o = .inr p' → UW C X S 48 [(2, .int p')] []) : UW C X S 42 [(0, .ref (X.1 v0)), (1, .int v1), (2, .int v2), (3, .int v3)] [] := by
  unfold jX6_members_42_14 at hf
  refine u_iinc (v := v3 + (1 : Int32)) (lv' := [(3, .int (v3 + (1 : Int32))), (0, .ref (X.1 v0)), (1, .int v1), (2, .int v2)]) hC dX6_members_42 3 rfl rfl (by decide) rfl ?_
  refine u_goto (tgt := 14) hC dX6_members_45 (by decide) ?_
  refine u_sub (lv' := [(0, .ref (X.1 v0)), (1, .int v1), (2, .int v2), (3, .int (v3 + (1 : Int32)))]) [1, 2, 3, 0] rfl ?_
  exact hN _ (Option.some.inj hf).symm
theorem wbX6_members_14 {C : CT} {X : XT} (hC : CK C RX6 cX6_members 4 (some .int) 2) (n : Nat) (S : PS) (v0 : Nat) (v1 : Int32) (hTv0 : Ty X.2.1 v0 6) (s14 : (Int32 × Int32)) {o : (Int32 × Int32) ⊕ Int32} (hf : bX6_members_14 X.2.1 n S v0 v1 s14 = some o) (hN : ∀ s', o = .inl s' → UW C X S 14 [(0, .ref (X.1 v0)), (1, .int v1), (2, .int s'.1), (3, .int s'.2)] []) (hO0 : ∀ p', o = .inr p' → UW C X S 48 [(2, .int p')] []) : UW C X S 14 [(0, .ref (X.1 v0)), (1, .int v1), (2, .int s14.1), (3, .int s14.2)] [] := by
  unfold bX6_members_14 at hf
  refine u_iload_n hC dX6_members_14 3 rfl rfl ?_
  refine u_aload_n hC dX6_members_15 0 rfl rfl ?_
  refine u_gr hC lf_X6_12 rfl hTv0 dX6_members_16 hf (fun b16 hTb16 hf => ?_)
  refine u_gi hC lf_X6_49 rfl hTb16 dX6_members_19 hf (fun x19 hf => ?_)
  refine u_icmp_ge (tgt := 48) hC dX6_members_22 (by decide) hf (fun h22 hf => ?_) (fun h22 hf => ?_)
  · refine u_sub (lv' := [(2, .int s14.1)]) [2] rfl ?_
    exact hO0 _ (Option.some.inj hf).symm
  · refine u_iload_n hC dX6_members_25 3 rfl rfl ?_
    refine u_iload_n hC dX6_members_26 1 rfl rfl ?_
    obtain ⟨q27, hq27, hf⟩ := kc_some hf
    refine u_callSN hC (ctX10_isIn (cL C) hC.tr (cG C) X.1 X.2.1 n S s14.2 v1  hq27) lk_X6_88 ls_X6_88 (by decide) (by decide) rfl rfl (Nat.le_of_ble_eq_true rfl) dX6_members_27 ?_
    refine u_if_eq (tgt := 42) hC dX6_members_30 (by decide) hf (fun h30 hf => ?_) (fun h30 hf => ?_)
    · exact wjX6_members_42_14 hC n S v0 v1 s14.1 s14.2  hTv0 hf hN hO0
    · refine u_iload_n hC dX6_members_33 2 rfl rfl ?_
      refine u_aload_n hC dX6_members_34 0 rfl rfl ?_
      refine u_gr hC lf_X6_25 rfl hTv0 dX6_members_35 hf (fun b35 hTb35 hf => ?_)
      refine u_iload_n hC dX6_members_38 3 rfl rfl ?_
      refine u_ai hC hTb35 dX6_members_39 hf (fun x39 hf => ?_)
      refine u_iand hC dX6_members_40 ?_
      refine u_istore_n (lv' := [(2, .int (s14.1 &&& x39)), (0, .ref (X.1 v0)), (1, .int v1), (3, .int s14.2)]) hC dX6_members_41 rfl (by decide) rfl ?_
      refine u_sub (lv' := [(0, .ref (X.1 v0)), (1, .int v1), (2, .int (s14.1 &&& x39)), (3, .int s14.2)]) [1, 2, 0, 3] rfl ?_
      exact wjX6_members_42_14 hC n S v0 v1 (s14.1 &&& x39) s14.2  hTv0 hf hN hO0
theorem wX6_members {C : CT} {X : XT} (hC : CK C RX6 cX6_members 4 (some .int) 2) (n : Nat) (S : PS) (a0 : Nat) (x1_ : Int32) (hTa0 : Ty X.2.1 a0 6) {o : Int32} (hf : fX6_members X.2.1 n S a0 x1_ = some o) (hR : Rt C X cX6_members (some .int) (some (.int o)) S) : UW C X S 0 [(0, .ref (X.1 a0)), (1, .int x1_)] [] := by
  unfold fX6_members at hf
  refine u_iconst (v := (1 : Int32)) hC dX6_members_0 (by decide) ?_
  refine u_aload_n hC dX6_members_1 0 rfl rfl ?_
  refine u_gr hC lf_X6_12 rfl hTa0 dX6_members_2 hf (fun b2 hTb2 hf => ?_)
  refine u_gi hC lf_X6_67 rfl hTb2 dX6_members_5 hf (fun x5 hf => ?_)
  refine u_ishl hC dX6_members_8 ?_
  refine u_iconst (v := (1 : Int32)) hC dX6_members_9 (by decide) ?_
  refine u_isub hC dX6_members_10 ?_
  refine u_istore_n (lv' := [(2, .int (((1 : Int32) <<< (x5 &&& 31)) - (1 : Int32))), (0, .ref (X.1 a0)), (1, .int x1_)]) hC dX6_members_11 rfl (by decide) rfl ?_
  refine u_iconst (v := (0 : Int32)) hC dX6_members_12 (by decide) ?_
  refine u_istore_n (lv' := [(3, .int (0 : Int32)), (2, .int (((1 : Int32) <<< (x5 &&& 31)) - (1 : Int32))), (0, .ref (X.1 a0)), (1, .int x1_)]) hC dX6_members_13 rfl (by decide) rfl ?_
  obtain ⟨r14, hr14, hf⟩ := kc_some hf
  have hk14 : UW C X S 48 [(2, .int r14)] [] := by
    refine u_iload_n hC dX6_members_48 0 rfl rfl ?_
    cases hf
    exact hR _ _ dX6_members_49 trivial
  refine u_sub (lv' := [(0, .ref (X.1 a0)), (1, .int x1_), (2, .int (((1 : Int32) <<< (x5 &&& 31)) - (1 : Int32))), (3, .int (0 : Int32))]) [2, 3, 1, 0] rfl ?_
  refine iter_ind (P := fun s14 => UW C X S 14 [(0, .ref (X.1 a0)), (1, .int x1_), (2, .int s14.1), (3, .int s14.2)] []) (fun s14 o' hb hin hout => ?_) n (((1 : Int32) <<< (x5 &&& 31)) - (1 : Int32), (0 : Int32)) hr14
  exact wbX6_members_14 hC n S a0 x1_ hTa0 s14 hb hin (fun p e => by rw [hout p e]; exact hk14)
theorem ctX6_members (l : Launch) (hl : l.stackTraces = false) (G : GT) (ρ : Nat → Nat) (Y : XS) (n : Nat) (S : PS) (a0 : Nat) (x1_ : Int32) (hTa0 : Ty Y a0 6) {o : Int32} (hf : fX6_members Y n S a0 x1_ = some o) : Mt l G yX6_members cX6_members 4 (some .int) 2 ρ Y [.ref (ρ a0), .int x1_] S (some (.int o)) S :=
  Mt_of hl (by decide) (Nat.le_of_ble_eq_true rfl) (fun C _ _ hC hR => wX6_members (X := (ρ, Y, 0, 0)) hC n S a0 x1_ hTa0 hf hR)
-- X6_worthTo
theorem dX6_worthTo_0 : decode cX6_worthTo 0 = .ok (.iconst 0, 1) := by decide +kernel
theorem dX6_worthTo_1 : decode cX6_worthTo 1 = .ok (.istore_n 3, 1) := by decide +kernel
theorem dX6_worthTo_2 : decode cX6_worthTo 2 = .ok (.iconst 0, 1) := by decide +kernel
theorem dX6_worthTo_3 : decode cX6_worthTo 3 = .ok (.istore 4, 2) := by decide +kernel
theorem dX6_worthTo_5 : decode cX6_worthTo 5 = .ok (.iload 4, 2) := by decide +kernel
theorem dX6_worthTo_7 : decode cX6_worthTo 7 = .ok (.aload_n 0, 1) := by decide +kernel
theorem dX6_worthTo_8 : decode cX6_worthTo 8 = .ok (.getfield 12, 3) := by decide +kernel
theorem dX6_worthTo_11 : decode cX6_worthTo 11 = .ok (.getfield 49, 3) := by decide +kernel
theorem dX6_worthTo_14 : decode cX6_worthTo 14 = .ok (.if_icmp .ge 33, 3) := by decide +kernel
theorem dX6_worthTo_17 : decode cX6_worthTo 17 = .ok (.iload 4, 2) := by decide +kernel
theorem dX6_worthTo_19 : decode cX6_worthTo 19 = .ok (.iload_n 2, 1) := by decide +kernel
theorem dX6_worthTo_20 : decode cX6_worthTo 20 = .ok (.invokestatic 88, 3) := by decide +kernel
theorem dX6_worthTo_23 : decode cX6_worthTo 23 = .ok (.ifCond .eq 18, 3) := by decide +kernel
theorem dX6_worthTo_26 : decode cX6_worthTo 26 = .ok (.iload_n 3, 1) := by decide +kernel
theorem dX6_worthTo_27 : decode cX6_worthTo 27 = .ok (.aload_n 0, 1) := by decide +kernel
theorem dX6_worthTo_28 : decode cX6_worthTo 28 = .ok (.getfield 28, 3) := by decide +kernel
theorem dX6_worthTo_31 : decode cX6_worthTo 31 = .ok (.iload 4, 2) := by decide +kernel
theorem dX6_worthTo_33 : decode cX6_worthTo 33 = .ok (.bipush 24, 2) := by decide +kernel
theorem dX6_worthTo_35 : decode cX6_worthTo 35 = .ok (.imul, 1) := by decide +kernel
theorem dX6_worthTo_36 : decode cX6_worthTo 36 = .ok (.iload_n 1, 1) := by decide +kernel
theorem dX6_worthTo_37 : decode cX6_worthTo 37 = .ok (.iadd, 1) := by decide +kernel
theorem dX6_worthTo_38 : decode cX6_worthTo 38 = .ok (.iaload, 1) := by decide +kernel
theorem dX6_worthTo_39 : decode cX6_worthTo 39 = .ok (.iadd, 1) := by decide +kernel
theorem dX6_worthTo_40 : decode cX6_worthTo 40 = .ok (.istore_n 3, 1) := by decide +kernel
theorem dX6_worthTo_41 : decode cX6_worthTo 41 = .ok (.iinc 4 1, 3) := by decide +kernel
theorem dX6_worthTo_44 : decode cX6_worthTo 44 = .ok (.goto (-39), 3) := by decide +kernel
theorem dX6_worthTo_47 : decode cX6_worthTo 47 = .ok (.iload_n 3, 1) := by decide +kernel
theorem dX6_worthTo_48 : decode cX6_worthTo 48 = .ok (.ireturn, 1) := by decide +kernel
def jX6_worthTo_41_5 (Y : XS) (n : Nat) (S : PS) (v0 : Nat) (v1 : Int32) (v2 : Int32) (v3 : Int32) (v4 : Int32) : Option ((Int32 × Int32) ⊕ Int32) :=
  some (.inl (v3, v4 + (1 : Int32)))
def bX6_worthTo_5 (Y : XS) (n : Nat) (S : PS) (v0 : Nat) (v1 : Int32) (v2 : Int32) (s5 : (Int32 × Int32)) : Option ((Int32 × Int32) ⊕ Int32) :=
  kgr S v0 0 (fun b8 => kgi S b8 1 (fun x11 => (if x11 ≤ s5.2 then some (.inr s5.1) else kc (fX10_isIn Y n S s5.2 v2) (fun q20 => (if q20 = 0 then jX6_worthTo_41_5 Y n S v0 v1 v2 s5.1 s5.2 else kgr S v0 4 (fun b28 => kai Y S b28 ((s5.2 * (24 : Int32)) + v1) (fun x38 => jX6_worthTo_41_5 Y n S v0 v1 v2 (s5.1 + x38) s5.2)))))))
def fX6_worthTo (Y : XS) (n : Nat) (S : PS) (a0 : Nat) (x1_ : Int32) (x2_ : Int32) : Option (Int32) :=
  kc (iter (bX6_worthTo_5 Y n S a0 x1_ x2_) n ((0 : Int32), (0 : Int32))) (fun r5 => some r5)
theorem wjX6_worthTo_41_5 {C : CT} {X : XT} (hC : CK C RX6 cX6_worthTo 5 (some .int) 2) (n : Nat) (S : PS) (v0 : Nat) (v1 : Int32) (v2 : Int32) (v3 : Int32) (v4 : Int32)  (hTv0 : Ty X.2.1 v0 6) {o : (Int32 × Int32) ⊕ Int32} (hf : jX6_worthTo_41_5 X.2.1 n S v0 v1 v2 v3 v4 = some o) (hN : ∀ s', o = .inl s' → UW C X S 5 [(0, .ref (X.1 v0)), (1, .int v1), (2, .int v2), (3, .int s'.1), (4, .int s'.2)] []) (hO0 : ∀ p', o = .inr p' → UW C X S 47 [(3, .int p')] []) : UW C X S 41 [(0, .ref (X.1 v0)), (1, .int v1), (2, .int v2), (3, .int v3), (4, .int v4)] [] := by
  unfold jX6_worthTo_41_5 at hf
  refine u_iinc (v := v4 + (1 : Int32)) (lv' := [(4, .int (v4 + (1 : Int32))), (0, .ref (X.1 v0)), (1, .int v1), (2, .int v2), (3, .int v3)]) hC dX6_worthTo_41 4 rfl rfl (by decide) rfl ?_
  refine u_goto (tgt := 5) hC dX6_worthTo_44 (by decide) ?_
  refine u_sub (lv' := [(0, .ref (X.1 v0)), (1, .int v1), (2, .int v2), (3, .int v3), (4, .int (v4 + (1 : Int32)))]) [1, 2, 3, 4, 0] rfl ?_
  exact hN _ (Option.some.inj hf).symm
theorem wbX6_worthTo_5 {C : CT} {X : XT} (hC : CK C RX6 cX6_worthTo 5 (some .int) 2) (n : Nat) (S : PS) (v0 : Nat) (v1 : Int32) (v2 : Int32) (hTv0 : Ty X.2.1 v0 6) (s5 : (Int32 × Int32)) {o : (Int32 × Int32) ⊕ Int32} (hf : bX6_worthTo_5 X.2.1 n S v0 v1 v2 s5 = some o) (hN : ∀ s', o = .inl s' → UW C X S 5 [(0, .ref (X.1 v0)), (1, .int v1), (2, .int v2), (3, .int s'.1), (4, .int s'.2)] []) (hO0 : ∀ p', o = .inr p' → UW C X S 47 [(3, .int p')] []) : UW C X S 5 [(0, .ref (X.1 v0)), (1, .int v1), (2, .int v2), (3, .int s5.1), (4, .int s5.2)] [] := by
  unfold bX6_worthTo_5 at hf
  refine u_iload hC dX6_worthTo_5 4 rfl ?_
  refine u_aload_n hC dX6_worthTo_7 0 rfl rfl ?_
  refine u_gr hC lf_X6_12 rfl hTv0 dX6_worthTo_8 hf (fun b8 hTb8 hf => ?_)
  refine u_gi hC lf_X6_49 rfl hTb8 dX6_worthTo_11 hf (fun x11 hf => ?_)
  refine u_icmp_ge (tgt := 47) hC dX6_worthTo_14 (by decide) hf (fun h14 hf => ?_) (fun h14 hf => ?_)
  · refine u_sub (lv' := [(3, .int s5.1)]) [3] rfl ?_
    exact hO0 _ (Option.some.inj hf).symm
  · refine u_iload hC dX6_worthTo_17 4 rfl ?_
    refine u_iload_n hC dX6_worthTo_19 2 rfl rfl ?_
    obtain ⟨q20, hq20, hf⟩ := kc_some hf
    refine u_callSN hC (ctX10_isIn (cL C) hC.tr (cG C) X.1 X.2.1 n S s5.2 v2  hq20) lk_X6_88 ls_X6_88 (by decide) (by decide) rfl rfl (Nat.le_of_ble_eq_true rfl) dX6_worthTo_20 ?_
    refine u_if_eq (tgt := 41) hC dX6_worthTo_23 (by decide) hf (fun h23 hf => ?_) (fun h23 hf => ?_)
    · exact wjX6_worthTo_41_5 hC n S v0 v1 v2 s5.1 s5.2  hTv0 hf hN hO0
    · refine u_iload_n hC dX6_worthTo_26 3 rfl rfl ?_
      refine u_aload_n hC dX6_worthTo_27 0 rfl rfl ?_
      refine u_gr hC lf_X6_28 rfl hTv0 dX6_worthTo_28 hf (fun b28 hTb28 hf => ?_)
      refine u_iload hC dX6_worthTo_31 4 rfl ?_
      refine u_bipush (v := (24 : Int32)) hC dX6_worthTo_33 (by decide) ?_
      refine u_imul hC dX6_worthTo_35 ?_
      refine u_iload_n hC dX6_worthTo_36 1 rfl rfl ?_
      refine u_iadd hC dX6_worthTo_37 ?_
      refine u_ai hC hTb28 dX6_worthTo_38 hf (fun x38 hf => ?_)
      refine u_iadd hC dX6_worthTo_39 ?_
      refine u_istore_n (lv' := [(3, .int (s5.1 + x38)), (0, .ref (X.1 v0)), (1, .int v1), (2, .int v2), (4, .int s5.2)]) hC dX6_worthTo_40 rfl (by decide) rfl ?_
      refine u_sub (lv' := [(0, .ref (X.1 v0)), (1, .int v1), (2, .int v2), (3, .int (s5.1 + x38)), (4, .int s5.2)]) [1, 2, 3, 0, 4] rfl ?_
      exact wjX6_worthTo_41_5 hC n S v0 v1 v2 (s5.1 + x38) s5.2  hTv0 hf hN hO0
theorem wX6_worthTo {C : CT} {X : XT} (hC : CK C RX6 cX6_worthTo 5 (some .int) 2) (n : Nat) (S : PS) (a0 : Nat) (x1_ : Int32) (x2_ : Int32) (hTa0 : Ty X.2.1 a0 6) {o : Int32} (hf : fX6_worthTo X.2.1 n S a0 x1_ x2_ = some o) (hR : Rt C X cX6_worthTo (some .int) (some (.int o)) S) : UW C X S 0 [(0, .ref (X.1 a0)), (1, .int x1_), (2, .int x2_)] [] := by
  unfold fX6_worthTo at hf
  refine u_iconst (v := (0 : Int32)) hC dX6_worthTo_0 (by decide) ?_
  refine u_istore_n (lv' := [(3, .int (0 : Int32)), (0, .ref (X.1 a0)), (1, .int x1_), (2, .int x2_)]) hC dX6_worthTo_1 rfl (by decide) rfl ?_
  refine u_iconst (v := (0 : Int32)) hC dX6_worthTo_2 (by decide) ?_
  refine u_istore (lv' := [(4, .int (0 : Int32)), (3, .int (0 : Int32)), (0, .ref (X.1 a0)), (1, .int x1_), (2, .int x2_)]) hC dX6_worthTo_3 (by decide) rfl ?_
  obtain ⟨r5, hr5, hf⟩ := kc_some hf
  have hk5 : UW C X S 47 [(3, .int r5)] [] := by
    refine u_iload_n hC dX6_worthTo_47 0 rfl rfl ?_
    cases hf
    exact hR _ _ dX6_worthTo_48 trivial
  refine u_sub (lv' := [(0, .ref (X.1 a0)), (1, .int x1_), (2, .int x2_), (3, .int (0 : Int32)), (4, .int (0 : Int32))]) [2, 3, 4, 1, 0] rfl ?_
  refine iter_ind (P := fun s5 => UW C X S 5 [(0, .ref (X.1 a0)), (1, .int x1_), (2, .int x2_), (3, .int s5.1), (4, .int s5.2)] []) (fun s5 o' hb hin hout => ?_) n ((0 : Int32), (0 : Int32)) hr5
  exact wbX6_worthTo_5 hC n S a0 x1_ x2_ hTa0 s5 hb hin (fun p e => by rw [hout p e]; exact hk5)
theorem ctX6_worthTo (l : Launch) (hl : l.stackTraces = false) (G : GT) (ρ : Nat → Nat) (Y : XS) (n : Nat) (S : PS) (a0 : Nat) (x1_ : Int32) (x2_ : Int32) (hTa0 : Ty Y a0 6) {o : Int32} (hf : fX6_worthTo Y n S a0 x1_ x2_ = some o) : Mt l G yX6_worthTo cX6_worthTo 5 (some .int) 2 ρ Y [.ref (ρ a0), .int x1_, .int x2_] S (some (.int o)) S :=
  Mt_of hl (by decide) (Nat.le_of_ble_eq_true rfl) (fun C _ _ hC hR => wX6_worthTo (X := (ρ, Y, 0, 0)) hC n S a0 x1_ x2_ hTa0 hf hR)
-- X6_isDue
theorem dX6_isDue_0 : decode cX6_isDue 0 = .ok (.iload_n 1, 1) := by decide +kernel
theorem dX6_isDue_1 : decode cX6_isDue 1 = .ok (.ifCond .eq 31, 3) := by decide +kernel
theorem dX6_isDue_4 : decode cX6_isDue 4 = .ok (.iload_n 1, 1) := by decide +kernel
theorem dX6_isDue_5 : decode cX6_isDue 5 = .ok (.invokestatic 100, 3) := by decide +kernel
theorem dX6_isDue_8 : decode cX6_isDue 8 = .ok (.aload_n 0, 1) := by decide +kernel
theorem dX6_isDue_9 : decode cX6_isDue 9 = .ok (.getfield 12, 3) := by decide +kernel
theorem dX6_isDue_12 : decode cX6_isDue 12 = .ok (.getfield 105, 3) := by decide +kernel
theorem dX6_isDue_15 : decode cX6_isDue 15 = .ok (.imul, 1) := by decide +kernel
theorem dX6_isDue_16 : decode cX6_isDue 16 = .ok (.iload_n 2, 1) := by decide +kernel
theorem dX6_isDue_17 : decode cX6_isDue 17 = .ok (.aload_n 0, 1) := by decide +kernel
theorem dX6_isDue_18 : decode cX6_isDue 18 = .ok (.getfield 12, 3) := by decide +kernel
theorem dX6_isDue_21 : decode cX6_isDue 21 = .ok (.getfield 67, 3) := by decide +kernel
theorem dX6_isDue_24 : decode cX6_isDue 24 = .ok (.imul, 1) := by decide +kernel
theorem dX6_isDue_25 : decode cX6_isDue 25 = .ok (.if_icmp .lt 7, 3) := by decide +kernel
theorem dX6_isDue_28 : decode cX6_isDue 28 = .ok (.iconst 1, 1) := by decide +kernel
theorem dX6_isDue_29 : decode cX6_isDue 29 = .ok (.goto 4, 3) := by decide +kernel
theorem dX6_isDue_32 : decode cX6_isDue 32 = .ok (.iconst 0, 1) := by decide +kernel
theorem dX6_isDue_33 : decode cX6_isDue 33 = .ok (.ireturn, 1) := by decide +kernel
def jX6_isDue_33 (Y : XS) (n : Nat) (S : PS) (t0 : Int32) : Option (Int32) :=
  kzr t0 (some t0)
def jX6_isDue_32 (Y : XS) (n : Nat) (S : PS)  : Option (Int32) :=
  jX6_isDue_33 Y n S (0 : Int32)
def fX6_isDue (Y : XS) (n : Nat) (S : PS) (a0 : Nat) (x1_ : Int32) (x2_ : Int32) : Option (Int32) :=
  (if x1_ = 0 then jX6_isDue_32 Y n S  else kc (fJ6_bitCount_0f7a4 Y n S x1_) (fun q5 => kgr S a0 0 (fun b9 => kgi S b9 0 (fun x12 => kgr S a0 0 (fun b18 => kgi S b18 2 (fun x21 => (if (q5 * x12) < (x2_ * x21) then jX6_isDue_32 Y n S  else jX6_isDue_33 Y n S (1 : Int32))))))))
theorem wjX6_isDue_33 {C : CT} {X : XT} (hC : CK C RX6 cX6_isDue 3 (some .boolean) 2) (n : Nat) (S : PS) (t0 : Int32)   {o : Int32} (hf : jX6_isDue_33 X.2.1 n S t0 = some o) (hR : Rt C X cX6_isDue (some .boolean) (some (.int o)) S) : UW C X S 33 [] [.int t0] := by
  unfold jX6_isDue_33 at hf
  obtain ⟨hz, hf⟩ := kzr_some hf
  cases hf
  exact hR _ _ dX6_isDue_33 hz
theorem wjX6_isDue_32 {C : CT} {X : XT} (hC : CK C RX6 cX6_isDue 3 (some .boolean) 2) (n : Nat) (S : PS)    {o : Int32} (hf : jX6_isDue_32 X.2.1 n S  = some o) (hR : Rt C X cX6_isDue (some .boolean) (some (.int o)) S) : UW C X S 32 [] [] := by
  unfold jX6_isDue_32 at hf
  refine u_iconst (v := (0 : Int32)) hC dX6_isDue_32 (by decide) ?_
  exact wjX6_isDue_33 hC n S (0 : Int32)   hf hR
theorem wX6_isDue {C : CT} {X : XT} (hC : CK C RX6 cX6_isDue 3 (some .boolean) 2) (n : Nat) (S : PS) (a0 : Nat) (x1_ : Int32) (x2_ : Int32) (hTa0 : Ty X.2.1 a0 6) {o : Int32} (hf : fX6_isDue X.2.1 n S a0 x1_ x2_ = some o) (hR : Rt C X cX6_isDue (some .boolean) (some (.int o)) S) : UW C X S 0 [(0, .ref (X.1 a0)), (1, .int x1_), (2, .int x2_)] [] := by
  unfold fX6_isDue at hf
  refine u_iload_n hC dX6_isDue_0 1 rfl rfl ?_
  refine u_if_eq (tgt := 32) hC dX6_isDue_1 (by decide) hf (fun h1 hf => ?_) (fun h1 hf => ?_)
  · refine u_sub (lv' := []) [] rfl ?_
    exact wjX6_isDue_32 hC n S    hf hR
  · refine u_iload_n hC dX6_isDue_4 1 rfl rfl ?_
    obtain ⟨q5, hq5, hf⟩ := kc_some hf
    refine u_callS hC (ctJ6_bitCount_0f7a4 (cL C) hC.tr (cG C) X.1 X.2.1 n S x1_  hq5) lk_X6_100 (by decide) (by decide) rfl rfl (Nat.le_of_ble_eq_true rfl) dX6_isDue_5 ?_
    refine u_aload_n hC dX6_isDue_8 0 rfl rfl ?_
    refine u_gr hC lf_X6_12 rfl hTa0 dX6_isDue_9 hf (fun b9 hTb9 hf => ?_)
    refine u_gi hC lf_X6_105 rfl hTb9 dX6_isDue_12 hf (fun x12 hf => ?_)
    refine u_imul hC dX6_isDue_15 ?_
    refine u_iload_n hC dX6_isDue_16 2 rfl rfl ?_
    refine u_aload_n hC dX6_isDue_17 0 rfl rfl ?_
    refine u_gr hC lf_X6_12 rfl hTa0 dX6_isDue_18 hf (fun b18 hTb18 hf => ?_)
    refine u_gi hC lf_X6_67 rfl hTb18 dX6_isDue_21 hf (fun x21 hf => ?_)
    refine u_imul hC dX6_isDue_24 ?_
    refine u_icmp_lt (tgt := 32) hC dX6_isDue_25 (by decide) hf (fun h25 hf => ?_) (fun h25 hf => ?_)
    · refine u_sub (lv' := []) [] rfl ?_
      exact wjX6_isDue_32 hC n S    hf hR
    · refine u_iconst (v := (1 : Int32)) hC dX6_isDue_28 (by decide) ?_
      refine u_goto (tgt := 33) hC dX6_isDue_29 (by decide) ?_
      refine u_sub (lv' := []) [] rfl ?_
      exact wjX6_isDue_33 hC n S (1 : Int32)   hf hR
theorem ctX6_isDue (l : Launch) (hl : l.stackTraces = false) (G : GT) (ρ : Nat → Nat) (Y : XS) (n : Nat) (S : PS) (a0 : Nat) (x1_ : Int32) (x2_ : Int32) (hTa0 : Ty Y a0 6) {o : Int32} (hf : fX6_isDue Y n S a0 x1_ x2_ = some o) : Mt l G yX6_isDue cX6_isDue 3 (some .boolean) 2 ρ Y [.ref (ρ a0), .int x1_, .int x2_] S (some (.int o)) S :=
  Mt_of hl (by decide) (Nat.le_of_ble_eq_true rfl) (fun C _ _ hC hR => wX6_isDue (X := (ρ, Y, 0, 0)) hC n S a0 x1_ x2_ hTa0 hf hR)
-- X6_copyFrom
theorem dX6_copyFrom_0 : decode cX6_copyFrom 0 = .ok (.aload_n 0, 1) := by decide +kernel
theorem dX6_copyFrom_1 : decode cX6_copyFrom 1 = .ok (.getfield 12, 3) := by decide +kernel
theorem dX6_copyFrom_4 : decode cX6_copyFrom 4 = .ok (.aload_n 1, 1) := by decide +kernel
theorem dX6_copyFrom_5 : decode cX6_copyFrom 5 = .ok (.getfield 12, 3) := by decide +kernel
theorem dX6_copyFrom_8 : decode cX6_copyFrom 8 = .ok (.invokevirtual 39, 3) := by decide +kernel
theorem dX6_copyFrom_11 : decode cX6_copyFrom 11 = .ok (.aload_n 1, 1) := by decide +kernel
theorem dX6_copyFrom_12 : decode cX6_copyFrom 12 = .ok (.getfield 18, 3) := by decide +kernel
theorem dX6_copyFrom_15 : decode cX6_copyFrom 15 = .ok (.iconst 0, 1) := by decide +kernel
theorem dX6_copyFrom_16 : decode cX6_copyFrom 16 = .ok (.aload_n 0, 1) := by decide +kernel
theorem dX6_copyFrom_17 : decode cX6_copyFrom 17 = .ok (.getfield 18, 3) := by decide +kernel
theorem dX6_copyFrom_20 : decode cX6_copyFrom 20 = .ok (.iconst 0, 1) := by decide +kernel
theorem dX6_copyFrom_21 : decode cX6_copyFrom 21 = .ok (.bipush 12, 2) := by decide +kernel
theorem dX6_copyFrom_23 : decode cX6_copyFrom 23 = .ok (.invokestatic 43, 3) := by decide +kernel
theorem dX6_copyFrom_26 : decode cX6_copyFrom 26 = .ok (.aload_n 1, 1) := by decide +kernel
theorem dX6_copyFrom_27 : decode cX6_copyFrom 27 = .ok (.getfield 22, 3) := by decide +kernel
theorem dX6_copyFrom_30 : decode cX6_copyFrom 30 = .ok (.iconst 0, 1) := by decide +kernel
theorem dX6_copyFrom_31 : decode cX6_copyFrom 31 = .ok (.aload_n 0, 1) := by decide +kernel
theorem dX6_copyFrom_32 : decode cX6_copyFrom 32 = .ok (.getfield 22, 3) := by decide +kernel
theorem dX6_copyFrom_35 : decode cX6_copyFrom 35 = .ok (.iconst 0, 1) := by decide +kernel
theorem dX6_copyFrom_36 : decode cX6_copyFrom 36 = .ok (.bipush 12, 2) := by decide +kernel
theorem dX6_copyFrom_38 : decode cX6_copyFrom 38 = .ok (.invokestatic 43, 3) := by decide +kernel
theorem dX6_copyFrom_41 : decode cX6_copyFrom 41 = .ok (.aload_n 1, 1) := by decide +kernel
theorem dX6_copyFrom_42 : decode cX6_copyFrom 42 = .ok (.getfield 25, 3) := by decide +kernel
theorem dX6_copyFrom_45 : decode cX6_copyFrom 45 = .ok (.iconst 0, 1) := by decide +kernel
theorem dX6_copyFrom_46 : decode cX6_copyFrom 46 = .ok (.aload_n 0, 1) := by decide +kernel
theorem dX6_copyFrom_47 : decode cX6_copyFrom 47 = .ok (.getfield 25, 3) := by decide +kernel
theorem dX6_copyFrom_50 : decode cX6_copyFrom 50 = .ok (.iconst 0, 1) := by decide +kernel
theorem dX6_copyFrom_51 : decode cX6_copyFrom 51 = .ok (.bipush 12, 2) := by decide +kernel
theorem dX6_copyFrom_53 : decode cX6_copyFrom 53 = .ok (.invokestatic 43, 3) := by decide +kernel
theorem dX6_copyFrom_56 : decode cX6_copyFrom 56 = .ok (.aload_n 1, 1) := by decide +kernel
theorem dX6_copyFrom_57 : decode cX6_copyFrom 57 = .ok (.getfield 28, 3) := by decide +kernel
theorem dX6_copyFrom_60 : decode cX6_copyFrom 60 = .ok (.iconst 0, 1) := by decide +kernel
theorem dX6_copyFrom_61 : decode cX6_copyFrom 61 = .ok (.aload_n 0, 1) := by decide +kernel
theorem dX6_copyFrom_62 : decode cX6_copyFrom 62 = .ok (.getfield 28, 3) := by decide +kernel
theorem dX6_copyFrom_65 : decode cX6_copyFrom 65 = .ok (.iconst 0, 1) := by decide +kernel
theorem dX6_copyFrom_66 : decode cX6_copyFrom 66 = .ok (.sipush 288, 3) := by decide +kernel
theorem dX6_copyFrom_69 : decode cX6_copyFrom 69 = .ok (.invokestatic 43, 3) := by decide +kernel
theorem dX6_copyFrom_72 : decode cX6_copyFrom 72 = .ok (.return_, 1) := by decide +kernel
def fX6_copyFrom (Y : XS) (n : Nat) (S : PS) (a0 : Nat) (a1 : Nat) : Option (PS) :=
  kgr S a0 0 (fun b1 => kgr S a1 0 (fun b5 => kc (fX1_copyFrom Y n S b1 b5) (fun q8 => kgr q8 a1 1 (fun b12 => kgr q8 a0 1 (fun b17 => kcp Y q8 b12 (0 : Int32) b17 (0 : Int32) (12 : Int32) (fun S23 => kgr S23 a1 2 (fun b27 => kgr S23 a0 2 (fun b32 => kcp Y S23 b27 (0 : Int32) b32 (0 : Int32) (12 : Int32) (fun S38 => kgr S38 a1 3 (fun b42 => kgr S38 a0 3 (fun b47 => kcp Y S38 b42 (0 : Int32) b47 (0 : Int32) (12 : Int32) (fun S53 => kgr S53 a1 4 (fun b57 => kgr S53 a0 4 (fun b62 => kcp Y S53 b57 (0 : Int32) b62 (0 : Int32) (288 : Int32) (fun S69 => some S69)))))))))))))))
theorem wX6_copyFrom {C : CT} {X : XT} (hC : CK C RX6 cX6_copyFrom 2 none 2) (n : Nat) (S : PS) (a0 : Nat) (a1 : Nat) (hTa0 : Ty X.2.1 a0 6) (hTa1 : Ty X.2.1 a1 6) {o : PS} (hf : fX6_copyFrom X.2.1 n S a0 a1 = some o) (hR : Rt C X cX6_copyFrom none none o) : UW C X S 0 [(0, .ref (X.1 a0)), (1, .ref (X.1 a1))] [] := by
  unfold fX6_copyFrom at hf
  refine u_aload_n hC dX6_copyFrom_0 0 rfl rfl ?_
  refine u_gr hC lf_X6_12 rfl hTa0 dX6_copyFrom_1 hf (fun b1 hTb1 hf => ?_)
  refine u_aload_n hC dX6_copyFrom_4 1 rfl rfl ?_
  refine u_gr hC lf_X6_12 rfl hTa1 dX6_copyFrom_5 hf (fun b5 hTb5 hf => ?_)
  obtain ⟨q8, hq8, hf⟩ := kc_some hf
  refine u_callV hC (ctX1_copyFrom (cL C) hC.tr (cG C) X.1 X.2.1 n S b1 b5 hTb1 hTb5 hq8) lk_X6_39 rfl hTb1 (by decide) rfl (by decide) (by decide) rfl rfl (Nat.le_of_ble_eq_true rfl) dX6_copyFrom_8 ?_
  refine u_aload_n hC dX6_copyFrom_11 1 rfl rfl ?_
  refine u_gr hC lf_X6_18 rfl hTa1 dX6_copyFrom_12 hf (fun b12 hTb12 hf => ?_)
  refine u_iconst (v := (0 : Int32)) hC dX6_copyFrom_15 (by decide) ?_
  refine u_aload_n hC dX6_copyFrom_16 0 rfl rfl ?_
  refine u_gr hC lf_X6_18 rfl hTa0 dX6_copyFrom_17 hf (fun b17 hTb17 hf => ?_)
  refine u_iconst (v := (0 : Int32)) hC dX6_copyFrom_20 (by decide) ?_
  refine u_bipush (v := (12 : Int32)) hC dX6_copyFrom_21 (by decide) ?_
  refine u_cp hC (tb_5 166 rfl rfl) (by decide) hTb12 hTb17 (Nat.le_of_ble_eq_true rfl) dX6_copyFrom_23 hf (fun S23 hf => ?_)
  refine u_aload_n hC dX6_copyFrom_26 1 rfl rfl ?_
  refine u_gr hC lf_X6_22 rfl hTa1 dX6_copyFrom_27 hf (fun b27 hTb27 hf => ?_)
  refine u_iconst (v := (0 : Int32)) hC dX6_copyFrom_30 (by decide) ?_
  refine u_aload_n hC dX6_copyFrom_31 0 rfl rfl ?_
  refine u_gr hC lf_X6_22 rfl hTa0 dX6_copyFrom_32 hf (fun b32 hTb32 hf => ?_)
  refine u_iconst (v := (0 : Int32)) hC dX6_copyFrom_35 (by decide) ?_
  refine u_bipush (v := (12 : Int32)) hC dX6_copyFrom_36 (by decide) ?_
  refine u_cp hC (tb_5 166 rfl rfl) (by decide) hTb27 hTb32 (Nat.le_of_ble_eq_true rfl) dX6_copyFrom_38 hf (fun S38 hf => ?_)
  refine u_aload_n hC dX6_copyFrom_41 1 rfl rfl ?_
  refine u_gr hC lf_X6_25 rfl hTa1 dX6_copyFrom_42 hf (fun b42 hTb42 hf => ?_)
  refine u_iconst (v := (0 : Int32)) hC dX6_copyFrom_45 (by decide) ?_
  refine u_aload_n hC dX6_copyFrom_46 0 rfl rfl ?_
  refine u_gr hC lf_X6_25 rfl hTa0 dX6_copyFrom_47 hf (fun b47 hTb47 hf => ?_)
  refine u_iconst (v := (0 : Int32)) hC dX6_copyFrom_50 (by decide) ?_
  refine u_bipush (v := (12 : Int32)) hC dX6_copyFrom_51 (by decide) ?_
  refine u_cp hC (tb_5 166 rfl rfl) (by decide) hTb42 hTb47 (Nat.le_of_ble_eq_true rfl) dX6_copyFrom_53 hf (fun S53 hf => ?_)
  refine u_aload_n hC dX6_copyFrom_56 1 rfl rfl ?_
  refine u_gr hC lf_X6_28 rfl hTa1 dX6_copyFrom_57 hf (fun b57 hTb57 hf => ?_)
  refine u_iconst (v := (0 : Int32)) hC dX6_copyFrom_60 (by decide) ?_
  refine u_aload_n hC dX6_copyFrom_61 0 rfl rfl ?_
  refine u_gr hC lf_X6_28 rfl hTa0 dX6_copyFrom_62 hf (fun b62 hTb62 hf => ?_)
  refine u_iconst (v := (0 : Int32)) hC dX6_copyFrom_65 (by decide) ?_
  refine u_sipush (v := (288 : Int32)) hC dX6_copyFrom_66 (by decide) ?_
  refine u_cp hC (tb_5 166 rfl rfl) (by decide) hTb57 hTb62 (Nat.le_of_ble_eq_true rfl) dX6_copyFrom_69 hf (fun S69 hf => ?_)
  cases hf
  exact hR _ _ dX6_copyFrom_72 trivial
theorem ctX6_copyFrom (l : Launch) (hl : l.stackTraces = false) (G : GT) (ρ : Nat → Nat) (Y : XS) (n : Nat) (S : PS) (a0 : Nat) (a1 : Nat) (hTa0 : Ty Y a0 6) (hTa1 : Ty Y a1 6) {o : PS} (hf : fX6_copyFrom Y n S a0 a1 = some o) : Mt l G yX6_copyFrom cX6_copyFrom 2 none 2 ρ Y [.ref (ρ a0), .ref (ρ a1)] S none o :=
  Mt_of hl (by decide) (Nat.le_of_ble_eq_true rfl) (fun C _ _ hC hR => wX6_copyFrom (X := (ρ, Y, 0, 0)) hC n S a0 a1 hTa0 hTa1 hf hR)
-- X6_countLiked
theorem dX6_countLiked_0 : decode cX6_countLiked 0 = .ok (.iconst 0, 1) := by decide +kernel
theorem dX6_countLiked_1 : decode cX6_countLiked 1 = .ok (.istore_n 2, 1) := by decide +kernel
theorem dX6_countLiked_2 : decode cX6_countLiked 2 = .ok (.iconst 0, 1) := by decide +kernel
theorem dX6_countLiked_3 : decode cX6_countLiked 3 = .ok (.istore_n 3, 1) := by decide +kernel
theorem dX6_countLiked_4 : decode cX6_countLiked 4 = .ok (.iload_n 3, 1) := by decide +kernel
theorem dX6_countLiked_5 : decode cX6_countLiked 5 = .ok (.aload_n 0, 1) := by decide +kernel
theorem dX6_countLiked_6 : decode cX6_countLiked 6 = .ok (.getfield 12, 3) := by decide +kernel
theorem dX6_countLiked_9 : decode cX6_countLiked 9 = .ok (.getfield 67, 3) := by decide +kernel
theorem dX6_countLiked_12 : decode cX6_countLiked 12 = .ok (.if_icmp .ge 26, 3) := by decide +kernel
theorem dX6_countLiked_15 : decode cX6_countLiked 15 = .ok (.aload_n 0, 1) := by decide +kernel
theorem dX6_countLiked_16 : decode cX6_countLiked 16 = .ok (.getfield 12, 3) := by decide +kernel
theorem dX6_countLiked_19 : decode cX6_countLiked 19 = .ok (.getfield 70, 3) := by decide +kernel
theorem dX6_countLiked_22 : decode cX6_countLiked 22 = .ok (.iload_n 1, 1) := by decide +kernel
theorem dX6_countLiked_23 : decode cX6_countLiked 23 = .ok (.iload_n 3, 1) := by decide +kernel
theorem dX6_countLiked_24 : decode cX6_countLiked 24 = .ok (.iadd, 1) := by decide +kernel
theorem dX6_countLiked_25 : decode cX6_countLiked 25 = .ok (.iaload, 1) := by decide +kernel
theorem dX6_countLiked_26 : decode cX6_countLiked 26 = .ok (.ifCond .le 6, 3) := by decide +kernel
theorem dX6_countLiked_29 : decode cX6_countLiked 29 = .ok (.iinc 2 1, 3) := by decide +kernel
theorem dX6_countLiked_32 : decode cX6_countLiked 32 = .ok (.iinc 3 1, 3) := by decide +kernel
theorem dX6_countLiked_35 : decode cX6_countLiked 35 = .ok (.goto (-31), 3) := by decide +kernel
theorem dX6_countLiked_38 : decode cX6_countLiked 38 = .ok (.iload_n 2, 1) := by decide +kernel
theorem dX6_countLiked_39 : decode cX6_countLiked 39 = .ok (.ireturn, 1) := by decide +kernel
def jX6_countLiked_32_4 (Y : XS) (n : Nat) (S : PS) (v0 : Nat) (v1 : Int32) (v2 : Int32) (v3 : Int32) : Option ((Int32 × Int32) ⊕ Int32) :=
  some (.inl (v2, v3 + (1 : Int32)))
def bX6_countLiked_4 (Y : XS) (n : Nat) (S : PS) (v0 : Nat) (v1 : Int32) (s4 : (Int32 × Int32)) : Option ((Int32 × Int32) ⊕ Int32) :=
  kgr S v0 0 (fun b6 => kgi S b6 2 (fun x9 => (if x9 ≤ s4.2 then some (.inr s4.1) else kgr S v0 0 (fun b16 => kgr S b16 6 (fun b19 => kai Y S b19 (v1 + s4.2) (fun x25 => (if x25 ≤ 0 then jX6_countLiked_32_4 Y n S v0 v1 s4.1 s4.2 else jX6_countLiked_32_4 Y n S v0 v1 (s4.1 + (1 : Int32)) s4.2)))))))
def fX6_countLiked (Y : XS) (n : Nat) (S : PS) (a0 : Nat) (x1_ : Int32) : Option (Int32) :=
  kc (iter (bX6_countLiked_4 Y n S a0 x1_) n ((0 : Int32), (0 : Int32))) (fun r4 => some r4)
theorem wjX6_countLiked_32_4 {C : CT} {X : XT} (hC : CK C RX6 cX6_countLiked 4 (some .int) 1) (n : Nat) (S : PS) (v0 : Nat) (v1 : Int32) (v2 : Int32) (v3 : Int32)  (hTv0 : Ty X.2.1 v0 6) {o : (Int32 × Int32) ⊕ Int32} (hf : jX6_countLiked_32_4 X.2.1 n S v0 v1 v2 v3 = some o) (hN : ∀ s', o = .inl s' → UW C X S 4 [(0, .ref (X.1 v0)), (1, .int v1), (2, .int s'.1), (3, .int s'.2)] []) (hO0 : ∀ p', o = .inr p' → UW C X S 38 [(2, .int p')] []) : UW C X S 32 [(0, .ref (X.1 v0)), (1, .int v1), (2, .int v2), (3, .int v3)] [] := by
  unfold jX6_countLiked_32_4 at hf
  refine u_iinc (v := v3 + (1 : Int32)) (lv' := [(3, .int (v3 + (1 : Int32))), (0, .ref (X.1 v0)), (1, .int v1), (2, .int v2)]) hC dX6_countLiked_32 3 rfl rfl (by decide) rfl ?_
  refine u_goto (tgt := 4) hC dX6_countLiked_35 (by decide) ?_
  refine u_sub (lv' := [(0, .ref (X.1 v0)), (1, .int v1), (2, .int v2), (3, .int (v3 + (1 : Int32)))]) [1, 2, 3, 0] rfl ?_
  exact hN _ (Option.some.inj hf).symm
theorem wbX6_countLiked_4 {C : CT} {X : XT} (hC : CK C RX6 cX6_countLiked 4 (some .int) 1) (n : Nat) (S : PS) (v0 : Nat) (v1 : Int32) (hTv0 : Ty X.2.1 v0 6) (s4 : (Int32 × Int32)) {o : (Int32 × Int32) ⊕ Int32} (hf : bX6_countLiked_4 X.2.1 n S v0 v1 s4 = some o) (hN : ∀ s', o = .inl s' → UW C X S 4 [(0, .ref (X.1 v0)), (1, .int v1), (2, .int s'.1), (3, .int s'.2)] []) (hO0 : ∀ p', o = .inr p' → UW C X S 38 [(2, .int p')] []) : UW C X S 4 [(0, .ref (X.1 v0)), (1, .int v1), (2, .int s4.1), (3, .int s4.2)] [] := by
  unfold bX6_countLiked_4 at hf
  refine u_iload_n hC dX6_countLiked_4 3 rfl rfl ?_
  refine u_aload_n hC dX6_countLiked_5 0 rfl rfl ?_
  refine u_gr hC lf_X6_12 rfl hTv0 dX6_countLiked_6 hf (fun b6 hTb6 hf => ?_)
  refine u_gi hC lf_X6_67 rfl hTb6 dX6_countLiked_9 hf (fun x9 hf => ?_)
  refine u_icmp_ge (tgt := 38) hC dX6_countLiked_12 (by decide) hf (fun h12 hf => ?_) (fun h12 hf => ?_)
  · refine u_sub (lv' := [(2, .int s4.1)]) [2] rfl ?_
    exact hO0 _ (Option.some.inj hf).symm
  · refine u_aload_n hC dX6_countLiked_15 0 rfl rfl ?_
    refine u_gr hC lf_X6_12 rfl hTv0 dX6_countLiked_16 hf (fun b16 hTb16 hf => ?_)
    refine u_gr hC lf_X6_70 rfl hTb16 dX6_countLiked_19 hf (fun b19 hTb19 hf => ?_)
    refine u_iload_n hC dX6_countLiked_22 1 rfl rfl ?_
    refine u_iload_n hC dX6_countLiked_23 3 rfl rfl ?_
    refine u_iadd hC dX6_countLiked_24 ?_
    refine u_ai hC hTb19 dX6_countLiked_25 hf (fun x25 hf => ?_)
    refine u_if_le (tgt := 32) hC dX6_countLiked_26 (by decide) hf (fun h26 hf => ?_) (fun h26 hf => ?_)
    · exact wjX6_countLiked_32_4 hC n S v0 v1 s4.1 s4.2  hTv0 hf hN hO0
    · refine u_iinc (v := s4.1 + (1 : Int32)) (lv' := [(2, .int (s4.1 + (1 : Int32))), (0, .ref (X.1 v0)), (1, .int v1), (3, .int s4.2)]) hC dX6_countLiked_29 2 rfl rfl (by decide) rfl ?_
      refine u_sub (lv' := [(0, .ref (X.1 v0)), (1, .int v1), (2, .int (s4.1 + (1 : Int32))), (3, .int s4.2)]) [1, 2, 0, 3] rfl ?_
      exact wjX6_countLiked_32_4 hC n S v0 v1 (s4.1 + (1 : Int32)) s4.2  hTv0 hf hN hO0
theorem wX6_countLiked {C : CT} {X : XT} (hC : CK C RX6 cX6_countLiked 4 (some .int) 1) (n : Nat) (S : PS) (a0 : Nat) (x1_ : Int32) (hTa0 : Ty X.2.1 a0 6) {o : Int32} (hf : fX6_countLiked X.2.1 n S a0 x1_ = some o) (hR : Rt C X cX6_countLiked (some .int) (some (.int o)) S) : UW C X S 0 [(0, .ref (X.1 a0)), (1, .int x1_)] [] := by
  unfold fX6_countLiked at hf
  refine u_iconst (v := (0 : Int32)) hC dX6_countLiked_0 (by decide) ?_
  refine u_istore_n (lv' := [(2, .int (0 : Int32)), (0, .ref (X.1 a0)), (1, .int x1_)]) hC dX6_countLiked_1 rfl (by decide) rfl ?_
  refine u_iconst (v := (0 : Int32)) hC dX6_countLiked_2 (by decide) ?_
  refine u_istore_n (lv' := [(3, .int (0 : Int32)), (2, .int (0 : Int32)), (0, .ref (X.1 a0)), (1, .int x1_)]) hC dX6_countLiked_3 rfl (by decide) rfl ?_
  obtain ⟨r4, hr4, hf⟩ := kc_some hf
  have hk4 : UW C X S 38 [(2, .int r4)] [] := by
    refine u_iload_n hC dX6_countLiked_38 0 rfl rfl ?_
    cases hf
    exact hR _ _ dX6_countLiked_39 trivial
  refine u_sub (lv' := [(0, .ref (X.1 a0)), (1, .int x1_), (2, .int (0 : Int32)), (3, .int (0 : Int32))]) [2, 3, 1, 0] rfl ?_
  refine iter_ind (P := fun s4 => UW C X S 4 [(0, .ref (X.1 a0)), (1, .int x1_), (2, .int s4.1), (3, .int s4.2)] []) (fun s4 o' hb hin hout => ?_) n ((0 : Int32), (0 : Int32)) hr4
  exact wbX6_countLiked_4 hC n S a0 x1_ hTa0 s4 hb hin (fun p e => by rw [hout p e]; exact hk4)
theorem ctX6_countLiked (l : Launch) (hl : l.stackTraces = false) (G : GT) (ρ : Nat → Nat) (Y : XS) (n : Nat) (S : PS) (a0 : Nat) (x1_ : Int32) (hTa0 : Ty Y a0 6) {o : Int32} (hf : fX6_countLiked Y n S a0 x1_ = some o) : Mt l G yX6_countLiked cX6_countLiked 4 (some .int) 1 ρ Y [.ref (ρ a0), .int x1_] S (some (.int o)) S :=
  Mt_of hl (by decide) (Nat.le_of_ble_eq_true rfl) (fun C _ _ hC hR => wX6_countLiked (X := (ρ, Y, 0, 0)) hC n S a0 x1_ hTa0 hf hR)
-- X6_worthByScore
theorem dX6_worthByScore_0 : decode cX6_worthByScore 0 = .ok (.iload_n 2, 1) := by decide +kernel
theorem dX6_worthByScore_1 : decode cX6_worthByScore 1 = .ok (.iconst 1, 1) := by decide +kernel
theorem dX6_worthByScore_2 : decode cX6_worthByScore 2 = .ok (.if_icmp .lt 9, 3) := by decide +kernel
theorem dX6_worthByScore_5 : decode cX6_worthByScore 5 = .ok (.iload_n 2, 1) := by decide +kernel
theorem dX6_worthByScore_6 : decode cX6_worthByScore 6 = .ok (.bipush 9, 2) := by decide +kernel
theorem dX6_worthByScore_8 : decode cX6_worthByScore 8 = .ok (.if_icmp .le 5, 3) := by decide +kernel
theorem dX6_worthByScore_11 : decode cX6_worthByScore 11 = .ok (.iconst 0, 1) := by decide +kernel
theorem dX6_worthByScore_12 : decode cX6_worthByScore 12 = .ok (.ireturn, 1) := by decide +kernel
theorem dX6_worthByScore_13 : decode cX6_worthByScore 13 = .ok (.aload_n 0, 1) := by decide +kernel
theorem dX6_worthByScore_14 : decode cX6_worthByScore 14 = .ok (.getfield 12, 3) := by decide +kernel
theorem dX6_worthByScore_17 : decode cX6_worthByScore 17 = .ok (.getfield 77, 3) := by decide +kernel
theorem dX6_worthByScore_20 : decode cX6_worthByScore 20 = .ok (.astore_n 3, 1) := by decide +kernel
theorem dX6_worthByScore_21 : decode cX6_worthByScore 21 = .ok (.aload_n 3, 1) := by decide +kernel
theorem dX6_worthByScore_22 : decode cX6_worthByScore 22 = .ok (.ifnonnull 5, 3) := by decide +kernel
theorem dX6_worthByScore_25 : decode cX6_worthByScore 25 = .ok (.iconst 1, 1) := by decide +kernel
theorem dX6_worthByScore_26 : decode cX6_worthByScore 26 = .ok (.ireturn, 1) := by decide +kernel
theorem dX6_worthByScore_27 : decode cX6_worthByScore 27 = .ok (.aload_n 0, 1) := by decide +kernel
theorem dX6_worthByScore_28 : decode cX6_worthByScore 28 = .ok (.getfield 31, 3) := by decide +kernel
theorem dX6_worthByScore_31 : decode cX6_worthByScore 31 = .ok (.iload_n 2, 1) := by decide +kernel
theorem dX6_worthByScore_32 : decode cX6_worthByScore 32 = .ok (.iaload, 1) := by decide +kernel
theorem dX6_worthByScore_33 : decode cX6_worthByScore 33 = .ok (.iconst (-1), 1) := by decide +kernel
theorem dX6_worthByScore_34 : decode cX6_worthByScore 34 = .ok (.if_icmp .ne 40, 3) := by decide +kernel
theorem dX6_worthByScore_37 : decode cX6_worthByScore 37 = .ok (.aload_n 0, 1) := by decide +kernel
theorem dX6_worthByScore_38 : decode cX6_worthByScore 38 = .ok (.getfield 31, 3) := by decide +kernel
theorem dX6_worthByScore_41 : decode cX6_worthByScore 41 = .ok (.iload_n 2, 1) := by decide +kernel
theorem dX6_worthByScore_42 : decode cX6_worthByScore 42 = .ok (.aload_n 3, 1) := by decide +kernel
theorem dX6_worthByScore_43 : decode cX6_worthByScore 43 = .ok (.iload_n 2, 1) := by decide +kernel
theorem dX6_worthByScore_44 : decode cX6_worthByScore 44 = .ok (.aload_n 0, 1) := by decide +kernel
theorem dX6_worthByScore_45 : decode cX6_worthByScore 45 = .ok (.getfield 12, 3) := by decide +kernel
theorem dX6_worthByScore_48 : decode cX6_worthByScore 48 = .ok (.getfield 81, 3) := by decide +kernel
theorem dX6_worthByScore_51 : decode cX6_worthByScore 51 = .ok (.iload_n 1, 1) := by decide +kernel
theorem dX6_worthByScore_52 : decode cX6_worthByScore 52 = .ok (.iaload, 1) := by decide +kernel
theorem dX6_worthByScore_53 : decode cX6_worthByScore 53 = .ok (.aload_n 0, 1) := by decide +kernel
theorem dX6_worthByScore_54 : decode cX6_worthByScore 54 = .ok (.getfield 18, 3) := by decide +kernel
theorem dX6_worthByScore_57 : decode cX6_worthByScore 57 = .ok (.iload_n 1, 1) := by decide +kernel
theorem dX6_worthByScore_58 : decode cX6_worthByScore 58 = .ok (.iaload, 1) := by decide +kernel
theorem dX6_worthByScore_59 : decode cX6_worthByScore 59 = .ok (.aload_n 0, 1) := by decide +kernel
theorem dX6_worthByScore_60 : decode cX6_worthByScore 60 = .ok (.getfield 12, 3) := by decide +kernel
theorem dX6_worthByScore_63 : decode cX6_worthByScore 63 = .ok (.getfield 67, 3) := by decide +kernel
theorem dX6_worthByScore_66 : decode cX6_worthByScore 66 = .ok (.aload_n 0, 1) := by decide +kernel
theorem dX6_worthByScore_67 : decode cX6_worthByScore 67 = .ok (.getfield 36, 3) := by decide +kernel
theorem dX6_worthByScore_70 : decode cX6_worthByScore 70 = .ok (.invokevirtual 84, 3) := by decide +kernel
theorem dX6_worthByScore_73 : decode cX6_worthByScore 73 = .ok (.iastore, 1) := by decide +kernel
theorem dX6_worthByScore_74 : decode cX6_worthByScore 74 = .ok (.aload_n 0, 1) := by decide +kernel
theorem dX6_worthByScore_75 : decode cX6_worthByScore 75 = .ok (.getfield 31, 3) := by decide +kernel
theorem dX6_worthByScore_78 : decode cX6_worthByScore 78 = .ok (.iload_n 2, 1) := by decide +kernel
theorem dX6_worthByScore_79 : decode cX6_worthByScore 79 = .ok (.iaload, 1) := by decide +kernel
theorem dX6_worthByScore_80 : decode cX6_worthByScore 80 = .ok (.ireturn, 1) := by decide +kernel
def jX6_worthByScore_11 (Y : XS) (n : Nat) (S : PS)  : Option (Int32 × PS) :=
  some ((0 : Int32), S)
def jX6_worthByScore_74 (Y : XS) (n : Nat) (S : PS) (v0 : Nat) (v2 : Int32) : Option (Int32 × PS) :=
  kgr S v0 5 (fun b75 => kai Y S b75 v2 (fun x79 => some (x79, S)))
def fX6_worthByScore (Y : XS) (n : Nat) (S : PS) (a0 : Nat) (x1_ : Int32) (x2_ : Int32) : Option (Int32 × PS) :=
  (if x2_ < (1 : Int32) then jX6_worthByScore_11 Y n S  else (if x2_ ≤ (9 : Int32) then kgr S a0 0 (fun b14 => kgq S b14 3 (fun r17 => kq r17 (some ((1 : Int32), S)) (fun c22 => kgr S a0 5 (fun b28 => kai Y S b28 x2_ (fun x32 => (if x32 = (-1 : Int32) then kgr S a0 5 (fun b38 => kgr S a0 0 (fun b45 => kgr S b45 4 (fun b48 => kai Y S b48 x1_ (fun x52 => kgr S a0 1 (fun b54 => kai Y S b54 x1_ (fun x58 => kgr S a0 0 (fun b60 => kgi S b60 2 (fun x63 => kgr S a0 6 (fun b67 => kc (fX4_worthFor Y n S c22 x2_ x52 x58 x63 b67) (fun q70 => kwi Y q70.2 b38 x2_ q70.1 (fun S73 => jX6_worthByScore_74 Y n S73 a0 x2_))))))))))) else jX6_worthByScore_74 Y n S a0 x2_)))))) else jX6_worthByScore_11 Y n S ))
theorem wjX6_worthByScore_11 {C : CT} {X : XT} (hC : CK C RX6 cX6_worthByScore 4 (some .int) 3) (n : Nat) (S : PS)    {o : Int32 × PS} (hf : jX6_worthByScore_11 X.2.1 n S  = some o) (hR : Rt C X cX6_worthByScore (some .int) (some (.int o.1)) o.2) : UW C X S 11 [] [] := by
  unfold jX6_worthByScore_11 at hf
  refine u_iconst (v := (0 : Int32)) hC dX6_worthByScore_11 (by decide) ?_
  cases hf
  exact hR _ _ dX6_worthByScore_12 trivial
theorem wjX6_worthByScore_74 {C : CT} {X : XT} (hC : CK C RX6 cX6_worthByScore 4 (some .int) 3) (n : Nat) (S : PS) (v0 : Nat) (v2 : Int32)  (hTv0 : Ty X.2.1 v0 6) {o : Int32 × PS} (hf : jX6_worthByScore_74 X.2.1 n S v0 v2 = some o) (hR : Rt C X cX6_worthByScore (some .int) (some (.int o.1)) o.2) : UW C X S 74 [(0, .ref (X.1 v0)), (2, .int v2)] [] := by
  unfold jX6_worthByScore_74 at hf
  refine u_aload_n hC dX6_worthByScore_74 0 rfl rfl ?_
  refine u_gr hC lf_X6_31 rfl hTv0 dX6_worthByScore_75 hf (fun b75 hTb75 hf => ?_)
  refine u_iload_n hC dX6_worthByScore_78 1 rfl rfl ?_
  refine u_ai hC hTb75 dX6_worthByScore_79 hf (fun x79 hf => ?_)
  cases hf
  exact hR _ _ dX6_worthByScore_80 trivial
theorem wX6_worthByScore {C : CT} {X : XT} (hC : CK C RX6 cX6_worthByScore 4 (some .int) 3) (n : Nat) (S : PS) (a0 : Nat) (x1_ : Int32) (x2_ : Int32) (hTa0 : Ty X.2.1 a0 6) {o : Int32 × PS} (hf : fX6_worthByScore X.2.1 n S a0 x1_ x2_ = some o) (hR : Rt C X cX6_worthByScore (some .int) (some (.int o.1)) o.2) : UW C X S 0 [(0, .ref (X.1 a0)), (1, .int x1_), (2, .int x2_)] [] := by
  unfold fX6_worthByScore at hf
  refine u_iload_n hC dX6_worthByScore_0 2 rfl rfl ?_
  refine u_iconst (v := (1 : Int32)) hC dX6_worthByScore_1 (by decide) ?_
  refine u_icmp_lt (tgt := 11) hC dX6_worthByScore_2 (by decide) hf (fun h2 hf => ?_) (fun h2 hf => ?_)
  · refine u_sub (lv' := []) [] rfl ?_
    exact wjX6_worthByScore_11 hC n S    hf hR
  · refine u_iload_n hC dX6_worthByScore_5 2 rfl rfl ?_
    refine u_bipush (v := (9 : Int32)) hC dX6_worthByScore_6 (by decide) ?_
    refine u_icmp_le (tgt := 13) hC dX6_worthByScore_8 (by decide) hf (fun h8 hf => ?_) (fun h8 hf => ?_)
    · refine u_aload_n hC dX6_worthByScore_13 0 rfl rfl ?_
      refine u_gr hC lf_X6_12 rfl hTa0 dX6_worthByScore_14 hf (fun b14 hTb14 hf => ?_)
      refine u_gq hC lf_X6_77 rfl hTb14 dX6_worthByScore_17 hf (fun r17 hTr17 hf => ?_)
      refine u_astoreq_n (lv' := [(3, va_rf (Option.map X.1 r17)), (0, .ref (X.1 a0)), (1, .int x1_), (2, .int x2_)]) hC dX6_worthByScore_20 rfl (by decide) rfl ?_
      refine u_aloadq_n hC dX6_worthByScore_21 0 rfl rfl ?_
      refine u_ifnonnull (tgt := 27) hC dX6_worthByScore_22 (by decide) hf (fun he hf => ?_) (fun c22 he hf => ?_)
      · subst he
        refine u_iconst (v := (1 : Int32)) hC dX6_worthByScore_25 (by decide) ?_
        cases hf
        exact hR _ _ dX6_worthByScore_26 trivial
      · subst he
        have hTc22 := hTr17 c22 rfl
        refine u_aload_n hC dX6_worthByScore_27 1 rfl rfl ?_
        refine u_gr hC lf_X6_31 rfl hTa0 dX6_worthByScore_28 hf (fun b28 hTb28 hf => ?_)
        refine u_iload_n hC dX6_worthByScore_31 3 rfl rfl ?_
        refine u_ai hC hTb28 dX6_worthByScore_32 hf (fun x32 hf => ?_)
        refine u_iconst (v := (-1 : Int32)) hC dX6_worthByScore_33 (by decide) ?_
        refine u_icmp_ne (tgt := 74) hC dX6_worthByScore_34 (by decide) hf (fun h34 hf => ?_) (fun h34 hf => ?_)
        · refine u_sub (lv' := [(0, .ref (X.1 a0)), (2, .int x2_)]) [1, 3] rfl ?_
          exact wjX6_worthByScore_74 hC n S a0 x2_  hTa0 hf hR
        · refine u_aload_n hC dX6_worthByScore_37 1 rfl rfl ?_
          refine u_gr hC lf_X6_31 rfl hTa0 dX6_worthByScore_38 hf (fun b38 hTb38 hf => ?_)
          refine u_iload_n hC dX6_worthByScore_41 3 rfl rfl ?_
          refine u_aload_n hC dX6_worthByScore_42 0 rfl rfl ?_
          refine u_iload_n hC dX6_worthByScore_43 3 rfl rfl ?_
          refine u_aload_n hC dX6_worthByScore_44 1 rfl rfl ?_
          refine u_gr hC lf_X6_12 rfl hTa0 dX6_worthByScore_45 hf (fun b45 hTb45 hf => ?_)
          refine u_gr hC lf_X6_81 rfl hTb45 dX6_worthByScore_48 hf (fun b48 hTb48 hf => ?_)
          refine u_iload_n hC dX6_worthByScore_51 2 rfl rfl ?_
          refine u_ai hC hTb48 dX6_worthByScore_52 hf (fun x52 hf => ?_)
          refine u_aload_n hC dX6_worthByScore_53 1 rfl rfl ?_
          refine u_gr hC lf_X6_18 rfl hTa0 dX6_worthByScore_54 hf (fun b54 hTb54 hf => ?_)
          refine u_iload_n hC dX6_worthByScore_57 2 rfl rfl ?_
          refine u_ai hC hTb54 dX6_worthByScore_58 hf (fun x58 hf => ?_)
          refine u_aload_n hC dX6_worthByScore_59 1 rfl rfl ?_
          refine u_gr hC lf_X6_12 rfl hTa0 dX6_worthByScore_60 hf (fun b60 hTb60 hf => ?_)
          refine u_gi hC lf_X6_67 rfl hTb60 dX6_worthByScore_63 hf (fun x63 hf => ?_)
          refine u_aload_n hC dX6_worthByScore_66 1 rfl rfl ?_
          refine u_gr hC lf_X6_36 rfl hTa0 dX6_worthByScore_67 hf (fun b67 hTb67 hf => ?_)
          obtain ⟨q70, hq70, hf⟩ := kc_some hf
          refine u_callV hC (ctX4_worthFor (cL C) hC.tr (cG C) X.1 X.2.1 n S c22 x2_ x52 x58 x63 b67 hTc22 hTb67 hq70) lk_X6_84 rfl hTc22 (by decide) rfl (by decide) (by decide) rfl rfl (Nat.le_of_ble_eq_true rfl) dX6_worthByScore_70 ?_
          refine u_wi hC hTb38 dX6_worthByScore_73 hf (fun S73 hf => ?_)
          refine u_sub (lv' := [(0, .ref (X.1 a0)), (2, .int x2_)]) [1, 3] rfl ?_
          exact wjX6_worthByScore_74 hC n S73 a0 x2_  hTa0 hf hR
    · refine u_sub (lv' := []) [] rfl ?_
      exact wjX6_worthByScore_11 hC n S    hf hR
theorem ctX6_worthByScore (l : Launch) (hl : l.stackTraces = false) (G : GT) (ρ : Nat → Nat) (Y : XS) (n : Nat) (S : PS) (a0 : Nat) (x1_ : Int32) (x2_ : Int32) (hTa0 : Ty Y a0 6) {o : Int32 × PS} (hf : fX6_worthByScore Y n S a0 x1_ x2_ = some o) : Mt l G yX6_worthByScore cX6_worthByScore 4 (some .int) 3 ρ Y [.ref (ρ a0), .int x1_, .int x2_] S (some (.int o.1)) o.2 :=
  Mt_of hl (by decide) (Nat.le_of_ble_eq_true rfl) (fun C _ _ hC hR => wX6_worthByScore (X := (ρ, Y, 0, 0)) hC n S a0 x1_ x2_ hTa0 hf hR)
-- X6_tallyOne
theorem dX6_tallyOne_0 : decode cX6_tallyOne 0 = .ok (.iload_n 1, 1) := by decide +kernel
theorem dX6_tallyOne_1 : decode cX6_tallyOne 1 = .ok (.bipush 24, 2) := by decide +kernel
theorem dX6_tallyOne_3 : decode cX6_tallyOne 3 = .ok (.imul, 1) := by decide +kernel
theorem dX6_tallyOne_4 : decode cX6_tallyOne 4 = .ok (.istore_n 2, 1) := by decide +kernel
theorem dX6_tallyOne_5 : decode cX6_tallyOne 5 = .ok (.aload_n 0, 1) := by decide +kernel
theorem dX6_tallyOne_6 : decode cX6_tallyOne 6 = .ok (.getfield 18, 3) := by decide +kernel
theorem dX6_tallyOne_9 : decode cX6_tallyOne 9 = .ok (.iload_n 1, 1) := by decide +kernel
theorem dX6_tallyOne_10 : decode cX6_tallyOne 10 = .ok (.aload_n 0, 1) := by decide +kernel
theorem dX6_tallyOne_11 : decode cX6_tallyOne 11 = .ok (.iload_n 2, 1) := by decide +kernel
theorem dX6_tallyOne_12 : decode cX6_tallyOne 12 = .ok (.invokevirtual 57, 3) := by decide +kernel
theorem dX6_tallyOne_15 : decode cX6_tallyOne 15 = .ok (.iastore, 1) := by decide +kernel
theorem dX6_tallyOne_16 : decode cX6_tallyOne 16 = .ok (.aload_n 0, 1) := by decide +kernel
theorem dX6_tallyOne_17 : decode cX6_tallyOne 17 = .ok (.getfield 31, 3) := by decide +kernel
theorem dX6_tallyOne_20 : decode cX6_tallyOne 20 = .ok (.iconst (-1), 1) := by decide +kernel
theorem dX6_tallyOne_21 : decode cX6_tallyOne 21 = .ok (.invokestatic 61, 3) := by decide +kernel
theorem dX6_tallyOne_24 : decode cX6_tallyOne 24 = .ok (.iconst 0, 1) := by decide +kernel
theorem dX6_tallyOne_25 : decode cX6_tallyOne 25 = .ok (.istore_n 3, 1) := by decide +kernel
theorem dX6_tallyOne_26 : decode cX6_tallyOne 26 = .ok (.iconst 0, 1) := by decide +kernel
theorem dX6_tallyOne_27 : decode cX6_tallyOne 27 = .ok (.istore 4, 2) := by decide +kernel
theorem dX6_tallyOne_29 : decode cX6_tallyOne 29 = .ok (.iconst 0, 1) := by decide +kernel
theorem dX6_tallyOne_30 : decode cX6_tallyOne 30 = .ok (.istore 5, 2) := by decide +kernel
theorem dX6_tallyOne_32 : decode cX6_tallyOne 32 = .ok (.iload 5, 2) := by decide +kernel
theorem dX6_tallyOne_34 : decode cX6_tallyOne 34 = .ok (.aload_n 0, 1) := by decide +kernel
theorem dX6_tallyOne_35 : decode cX6_tallyOne 35 = .ok (.getfield 12, 3) := by decide +kernel
theorem dX6_tallyOne_38 : decode cX6_tallyOne 38 = .ok (.getfield 67, 3) := by decide +kernel
theorem dX6_tallyOne_41 : decode cX6_tallyOne 41 = .ok (.if_icmp .ge 58, 3) := by decide +kernel
theorem dX6_tallyOne_44 : decode cX6_tallyOne 44 = .ok (.aload_n 0, 1) := by decide +kernel
theorem dX6_tallyOne_45 : decode cX6_tallyOne 45 = .ok (.iload_n 1, 1) := by decide +kernel
theorem dX6_tallyOne_46 : decode cX6_tallyOne 46 = .ok (.aload_n 0, 1) := by decide +kernel
theorem dX6_tallyOne_47 : decode cX6_tallyOne 47 = .ok (.getfield 12, 3) := by decide +kernel
theorem dX6_tallyOne_50 : decode cX6_tallyOne 50 = .ok (.getfield 70, 3) := by decide +kernel
theorem dX6_tallyOne_53 : decode cX6_tallyOne 53 = .ok (.iload_n 2, 1) := by decide +kernel
theorem dX6_tallyOne_54 : decode cX6_tallyOne 54 = .ok (.iload 5, 2) := by decide +kernel
theorem dX6_tallyOne_56 : decode cX6_tallyOne 56 = .ok (.iadd, 1) := by decide +kernel
theorem dX6_tallyOne_57 : decode cX6_tallyOne 57 = .ok (.iaload, 1) := by decide +kernel
theorem dX6_tallyOne_58 : decode cX6_tallyOne 58 = .ok (.invokevirtual 73, 3) := by decide +kernel
theorem dX6_tallyOne_61 : decode cX6_tallyOne 61 = .ok (.istore 6, 2) := by decide +kernel
theorem dX6_tallyOne_63 : decode cX6_tallyOne 63 = .ok (.aload_n 0, 1) := by decide +kernel
theorem dX6_tallyOne_64 : decode cX6_tallyOne 64 = .ok (.getfield 28, 3) := by decide +kernel
theorem dX6_tallyOne_67 : decode cX6_tallyOne 67 = .ok (.iload_n 2, 1) := by decide +kernel
theorem dX6_tallyOne_68 : decode cX6_tallyOne 68 = .ok (.iload 5, 2) := by decide +kernel
theorem dX6_tallyOne_70 : decode cX6_tallyOne 70 = .ok (.iadd, 1) := by decide +kernel
theorem dX6_tallyOne_71 : decode cX6_tallyOne 71 = .ok (.iload 6, 2) := by decide +kernel
theorem dX6_tallyOne_73 : decode cX6_tallyOne 73 = .ok (.iastore, 1) := by decide +kernel
theorem dX6_tallyOne_74 : decode cX6_tallyOne 74 = .ok (.iload_n 3, 1) := by decide +kernel
theorem dX6_tallyOne_75 : decode cX6_tallyOne 75 = .ok (.iload 6, 2) := by decide +kernel
theorem dX6_tallyOne_77 : decode cX6_tallyOne 77 = .ok (.iadd, 1) := by decide +kernel
theorem dX6_tallyOne_78 : decode cX6_tallyOne 78 = .ok (.istore_n 3, 1) := by decide +kernel
theorem dX6_tallyOne_79 : decode cX6_tallyOne 79 = .ok (.iload 6, 2) := by decide +kernel
theorem dX6_tallyOne_81 : decode cX6_tallyOne 81 = .ok (.ifCond .le 12, 3) := by decide +kernel
theorem dX6_tallyOne_84 : decode cX6_tallyOne 84 = .ok (.iload 4, 2) := by decide +kernel
theorem dX6_tallyOne_86 : decode cX6_tallyOne 86 = .ok (.iconst 1, 1) := by decide +kernel
theorem dX6_tallyOne_87 : decode cX6_tallyOne 87 = .ok (.iload 5, 2) := by decide +kernel
theorem dX6_tallyOne_89 : decode cX6_tallyOne 89 = .ok (.ishl, 1) := by decide +kernel
theorem dX6_tallyOne_90 : decode cX6_tallyOne 90 = .ok (.ior, 1) := by decide +kernel
theorem dX6_tallyOne_91 : decode cX6_tallyOne 91 = .ok (.istore 4, 2) := by decide +kernel
theorem dX6_tallyOne_93 : decode cX6_tallyOne 93 = .ok (.iinc 5 1, 3) := by decide +kernel
theorem dX6_tallyOne_96 : decode cX6_tallyOne 96 = .ok (.goto (-64), 3) := by decide +kernel
theorem dX6_tallyOne_99 : decode cX6_tallyOne 99 = .ok (.aload_n 0, 1) := by decide +kernel
theorem dX6_tallyOne_100 : decode cX6_tallyOne 100 = .ok (.getfield 22, 3) := by decide +kernel
theorem dX6_tallyOne_103 : decode cX6_tallyOne 103 = .ok (.iload_n 1, 1) := by decide +kernel
theorem dX6_tallyOne_104 : decode cX6_tallyOne 104 = .ok (.iload_n 3, 1) := by decide +kernel
theorem dX6_tallyOne_105 : decode cX6_tallyOne 105 = .ok (.iastore, 1) := by decide +kernel
theorem dX6_tallyOne_106 : decode cX6_tallyOne 106 = .ok (.aload_n 0, 1) := by decide +kernel
theorem dX6_tallyOne_107 : decode cX6_tallyOne 107 = .ok (.getfield 25, 3) := by decide +kernel
theorem dX6_tallyOne_110 : decode cX6_tallyOne 110 = .ok (.iload_n 1, 1) := by decide +kernel
theorem dX6_tallyOne_111 : decode cX6_tallyOne 111 = .ok (.iload 4, 2) := by decide +kernel
theorem dX6_tallyOne_113 : decode cX6_tallyOne 113 = .ok (.iastore, 1) := by decide +kernel
theorem dX6_tallyOne_114 : decode cX6_tallyOne 114 = .ok (.return_, 1) := by decide +kernel
def jX6_tallyOne_93_32 (Y : XS) (n : Nat) (S : PS) (v0 : Nat) (v1 : Int32) (v2 : Int32) (v3 : Int32) (v4 : Int32) (v5 : Int32) : Option ((Int32 × Int32 × Int32 × PS) ⊕ (Int32 × Int32 × PS)) :=
  some (.inl (v3, v4, v5 + (1 : Int32), S))
def bX6_tallyOne_32 (Y : XS) (n : Nat) (v0 : Nat) (v1 : Int32) (v2 : Int32) (s32 : (Int32 × Int32 × Int32 × PS)) : Option ((Int32 × Int32 × Int32 × PS) ⊕ (Int32 × Int32 × PS)) :=
  kgr s32.2.2.2 v0 0 (fun b35 => kgi s32.2.2.2 b35 2 (fun x38 => (if x38 ≤ s32.2.2.1 then some (.inr (s32.1, s32.2.1, s32.2.2.2)) else kgr s32.2.2.2 v0 0 (fun b47 => kgr s32.2.2.2 b47 6 (fun b50 => kai Y s32.2.2.2 b50 (v2 + s32.2.2.1) (fun x57 => kc (fX6_worthByScore Y n s32.2.2.2 v0 v1 x57) (fun q58 => kgr q58.2 v0 4 (fun b64 => kwi Y q58.2 b64 (v2 + s32.2.2.1) q58.1 (fun S73 => (if q58.1 ≤ 0 then jX6_tallyOne_93_32 Y n S73 v0 v1 v2 (s32.1 + q58.1) s32.2.1 s32.2.2.1 else jX6_tallyOne_93_32 Y n S73 v0 v1 v2 (s32.1 + q58.1) (s32.2.1 ||| ((1 : Int32) <<< (s32.2.2.1 &&& 31))) s32.2.2.1))))))))))
def fX6_tallyOne (Y : XS) (n : Nat) (S : PS) (a0 : Nat) (x1_ : Int32) : Option (PS) :=
  kgr S a0 1 (fun b6 => kc (fX6_countLiked Y n S a0 (x1_ * (24 : Int32))) (fun q12 => kwi Y S b6 x1_ q12 (fun S15 => kgr S15 a0 5 (fun b17 => kc (fJ7_fill_53178 Y n S15 b17 (-1 : Int32)) (fun q21 => kc (iter (bX6_tallyOne_32 Y n a0 x1_ (x1_ * (24 : Int32))) n ((0 : Int32), (0 : Int32), (0 : Int32), q21)) (fun r32 => kgr r32.2.2 a0 2 (fun b100 => kwi Y r32.2.2 b100 x1_ r32.1 (fun S105 => kgr S105 a0 3 (fun b107 => kwi Y S105 b107 x1_ r32.2.1 (fun S113 => some S113))))))))))
theorem wjX6_tallyOne_93_32 {C : CT} {X : XT} (hC : CK C RX6 cX6_tallyOne 7 none 4) (n : Nat) (S : PS) (v0 : Nat) (v1 : Int32) (v2 : Int32) (v3 : Int32) (v4 : Int32) (v5 : Int32)  (hTv0 : Ty X.2.1 v0 6) {o : (Int32 × Int32 × Int32 × PS) ⊕ (Int32 × Int32 × PS)} (hf : jX6_tallyOne_93_32 X.2.1 n S v0 v1 v2 v3 v4 v5 = some o) (hN : ∀ s', o = .inl s' → UW C X s'.2.2.2 32 [(0, .ref (X.1 v0)), (1, .int v1), (2, .int v2), (3, .int s'.1), (4, .int s'.2.1), (5, .int s'.2.2.1)] []) (hO0 : ∀ p', o = .inr p' → UW C X p'.2.2 99 [(0, .ref (X.1 v0)), (1, .int v1), (3, .int p'.1), (4, .int p'.2.1)] []) : UW C X S 93 [(0, .ref (X.1 v0)), (1, .int v1), (2, .int v2), (3, .int v3), (4, .int v4), (5, .int v5)] [] := by
  unfold jX6_tallyOne_93_32 at hf
  refine u_iinc (v := v5 + (1 : Int32)) (lv' := [(5, .int (v5 + (1 : Int32))), (0, .ref (X.1 v0)), (1, .int v1), (2, .int v2), (3, .int v3), (4, .int v4)]) hC dX6_tallyOne_93 5 rfl rfl (by decide) rfl ?_
  refine u_goto (tgt := 32) hC dX6_tallyOne_96 (by decide) ?_
  refine u_sub (lv' := [(0, .ref (X.1 v0)), (1, .int v1), (2, .int v2), (3, .int v3), (4, .int v4), (5, .int (v5 + (1 : Int32)))]) [1, 2, 3, 4, 5, 0] rfl ?_
  exact hN _ (Option.some.inj hf).symm
theorem wbX6_tallyOne_32 {C : CT} {X : XT} (hC : CK C RX6 cX6_tallyOne 7 none 4) (n : Nat) (v0 : Nat) (v1 : Int32) (v2 : Int32) (hTv0 : Ty X.2.1 v0 6) (s32 : (Int32 × Int32 × Int32 × PS)) {o : (Int32 × Int32 × Int32 × PS) ⊕ (Int32 × Int32 × PS)} (hf : bX6_tallyOne_32 X.2.1 n v0 v1 v2 s32 = some o) (hN : ∀ s', o = .inl s' → UW C X s'.2.2.2 32 [(0, .ref (X.1 v0)), (1, .int v1), (2, .int v2), (3, .int s'.1), (4, .int s'.2.1), (5, .int s'.2.2.1)] []) (hO0 : ∀ p', o = .inr p' → UW C X p'.2.2 99 [(0, .ref (X.1 v0)), (1, .int v1), (3, .int p'.1), (4, .int p'.2.1)] []) : UW C X s32.2.2.2 32 [(0, .ref (X.1 v0)), (1, .int v1), (2, .int v2), (3, .int s32.1), (4, .int s32.2.1), (5, .int s32.2.2.1)] [] := by
  unfold bX6_tallyOne_32 at hf
  refine u_iload hC dX6_tallyOne_32 5 rfl ?_
  refine u_aload_n hC dX6_tallyOne_34 0 rfl rfl ?_
  refine u_gr hC lf_X6_12 rfl hTv0 dX6_tallyOne_35 hf (fun b35 hTb35 hf => ?_)
  refine u_gi hC lf_X6_67 rfl hTb35 dX6_tallyOne_38 hf (fun x38 hf => ?_)
  refine u_icmp_ge (tgt := 99) hC dX6_tallyOne_41 (by decide) hf (fun h41 hf => ?_) (fun h41 hf => ?_)
  · refine u_sub (lv' := [(0, .ref (X.1 v0)), (1, .int v1), (3, .int s32.1), (4, .int s32.2.1)]) [0, 1, 3, 4] rfl ?_
    exact hO0 _ (Option.some.inj hf).symm
  · refine u_aload_n hC dX6_tallyOne_44 0 rfl rfl ?_
    refine u_iload_n hC dX6_tallyOne_45 1 rfl rfl ?_
    refine u_aload_n hC dX6_tallyOne_46 0 rfl rfl ?_
    refine u_gr hC lf_X6_12 rfl hTv0 dX6_tallyOne_47 hf (fun b47 hTb47 hf => ?_)
    refine u_gr hC lf_X6_70 rfl hTb47 dX6_tallyOne_50 hf (fun b50 hTb50 hf => ?_)
    refine u_iload_n hC dX6_tallyOne_53 2 rfl rfl ?_
    refine u_iload hC dX6_tallyOne_54 5 rfl ?_
    refine u_iadd hC dX6_tallyOne_56 ?_
    refine u_ai hC hTb50 dX6_tallyOne_57 hf (fun x57 hf => ?_)
    obtain ⟨q58, hq58, hf⟩ := kc_some hf
    refine u_callV hC (ctX6_worthByScore (cL C) hC.tr (cG C) X.1 X.2.1 n s32.2.2.2 v0 v1 x57 hTv0 hq58) lk_X6_73 rfl hTv0 (by decide) rfl (by decide) (by decide) rfl rfl (Nat.le_of_ble_eq_true rfl) dX6_tallyOne_58 ?_
    refine u_istore (lv' := [(6, .int q58.1), (0, .ref (X.1 v0)), (1, .int v1), (2, .int v2), (3, .int s32.1), (4, .int s32.2.1), (5, .int s32.2.2.1)]) hC dX6_tallyOne_61 (by decide) rfl ?_
    refine u_aload_n hC dX6_tallyOne_63 1 rfl rfl ?_
    refine u_gr hC lf_X6_28 rfl hTv0 dX6_tallyOne_64 hf (fun b64 hTb64 hf => ?_)
    refine u_iload_n hC dX6_tallyOne_67 3 rfl rfl ?_
    refine u_iload hC dX6_tallyOne_68 6 rfl ?_
    refine u_iadd hC dX6_tallyOne_70 ?_
    refine u_iload hC dX6_tallyOne_71 0 rfl ?_
    refine u_wi hC hTb64 dX6_tallyOne_73 hf (fun S73 hf => ?_)
    refine u_iload_n hC dX6_tallyOne_74 4 rfl rfl ?_
    refine u_iload hC dX6_tallyOne_75 0 rfl ?_
    refine u_iadd hC dX6_tallyOne_77 ?_
    refine u_istore_n (lv' := [(3, .int (s32.1 + q58.1)), (6, .int q58.1), (0, .ref (X.1 v0)), (1, .int v1), (2, .int v2), (4, .int s32.2.1), (5, .int s32.2.2.1)]) hC dX6_tallyOne_78 rfl (by decide) rfl ?_
    refine u_iload hC dX6_tallyOne_79 1 rfl ?_
    refine u_if_le (tgt := 93) hC dX6_tallyOne_81 (by decide) hf (fun h81 hf => ?_) (fun h81 hf => ?_)
    · refine u_sub (lv' := [(0, .ref (X.1 v0)), (1, .int v1), (2, .int v2), (3, .int (s32.1 + q58.1)), (4, .int s32.2.1), (5, .int s32.2.2.1)]) [2, 3, 4, 0, 5, 6] rfl ?_
      exact wjX6_tallyOne_93_32 hC n S73 v0 v1 v2 (s32.1 + q58.1) s32.2.1 s32.2.2.1  hTv0 hf hN hO0
    · refine u_iload hC dX6_tallyOne_84 5 rfl ?_
      refine u_iconst (v := (1 : Int32)) hC dX6_tallyOne_86 (by decide) ?_
      refine u_iload hC dX6_tallyOne_87 6 rfl ?_
      refine u_ishl hC dX6_tallyOne_89 ?_
      refine u_ior hC dX6_tallyOne_90 ?_
      refine u_istore (lv' := [(4, .int (s32.2.1 ||| ((1 : Int32) <<< (s32.2.2.1 &&& 31)))), (3, .int (s32.1 + q58.1)), (6, .int q58.1), (0, .ref (X.1 v0)), (1, .int v1), (2, .int v2), (5, .int s32.2.2.1)]) hC dX6_tallyOne_91 (by decide) rfl ?_
      refine u_sub (lv' := [(0, .ref (X.1 v0)), (1, .int v1), (2, .int v2), (3, .int (s32.1 + q58.1)), (4, .int (s32.2.1 ||| ((1 : Int32) <<< (s32.2.2.1 &&& 31)))), (5, .int s32.2.2.1)]) [3, 4, 5, 1, 0, 6] rfl ?_
      exact wjX6_tallyOne_93_32 hC n S73 v0 v1 v2 (s32.1 + q58.1) (s32.2.1 ||| ((1 : Int32) <<< (s32.2.2.1 &&& 31))) s32.2.2.1  hTv0 hf hN hO0
theorem wX6_tallyOne {C : CT} {X : XT} (hC : CK C RX6 cX6_tallyOne 7 none 4) (n : Nat) (S : PS) (a0 : Nat) (x1_ : Int32) (hTa0 : Ty X.2.1 a0 6) {o : PS} (hf : fX6_tallyOne X.2.1 n S a0 x1_ = some o) (hR : Rt C X cX6_tallyOne none none o) : UW C X S 0 [(0, .ref (X.1 a0)), (1, .int x1_)] [] := by
  unfold fX6_tallyOne at hf
  refine u_iload_n hC dX6_tallyOne_0 1 rfl rfl ?_
  refine u_bipush (v := (24 : Int32)) hC dX6_tallyOne_1 (by decide) ?_
  refine u_imul hC dX6_tallyOne_3 ?_
  refine u_istore_n (lv' := [(2, .int (x1_ * (24 : Int32))), (0, .ref (X.1 a0)), (1, .int x1_)]) hC dX6_tallyOne_4 rfl (by decide) rfl ?_
  refine u_aload_n hC dX6_tallyOne_5 1 rfl rfl ?_
  refine u_gr hC lf_X6_18 rfl hTa0 dX6_tallyOne_6 hf (fun b6 hTb6 hf => ?_)
  refine u_iload_n hC dX6_tallyOne_9 2 rfl rfl ?_
  refine u_aload_n hC dX6_tallyOne_10 1 rfl rfl ?_
  refine u_iload_n hC dX6_tallyOne_11 0 rfl rfl ?_
  obtain ⟨q12, hq12, hf⟩ := kc_some hf
  refine u_callV hC (ctX6_countLiked (cL C) hC.tr (cG C) X.1 X.2.1 n S a0 (x1_ * (24 : Int32)) hTa0 hq12) lk_X6_57 rfl hTa0 (by decide) rfl (by decide) (by decide) rfl rfl (Nat.le_of_ble_eq_true rfl) dX6_tallyOne_12 ?_
  refine u_wi hC hTb6 dX6_tallyOne_15 hf (fun S15 hf => ?_)
  refine u_aload_n hC dX6_tallyOne_16 1 rfl rfl ?_
  refine u_gr hC lf_X6_31 rfl hTa0 dX6_tallyOne_17 hf (fun b17 hTb17 hf => ?_)
  refine u_iconst (v := (-1 : Int32)) hC dX6_tallyOne_20 (by decide) ?_
  obtain ⟨q21, hq21, hf⟩ := kc_some hf
  refine u_callS hC (ctJ7_fill_53178 (cL C) hC.tr (cG C) X.1 X.2.1 n S15 b17 (-1 : Int32) hTb17 hq21) lk_X6_61 (by decide) (by decide) rfl rfl (Nat.le_of_ble_eq_true rfl) dX6_tallyOne_21 ?_
  refine u_iconst (v := (0 : Int32)) hC dX6_tallyOne_24 (by decide) ?_
  refine u_istore_n (lv' := [(3, .int (0 : Int32)), (2, .int (x1_ * (24 : Int32))), (0, .ref (X.1 a0)), (1, .int x1_)]) hC dX6_tallyOne_25 rfl (by decide) rfl ?_
  refine u_iconst (v := (0 : Int32)) hC dX6_tallyOne_26 (by decide) ?_
  refine u_istore (lv' := [(4, .int (0 : Int32)), (3, .int (0 : Int32)), (2, .int (x1_ * (24 : Int32))), (0, .ref (X.1 a0)), (1, .int x1_)]) hC dX6_tallyOne_27 (by decide) rfl ?_
  refine u_iconst (v := (0 : Int32)) hC dX6_tallyOne_29 (by decide) ?_
  refine u_istore (lv' := [(5, .int (0 : Int32)), (4, .int (0 : Int32)), (3, .int (0 : Int32)), (2, .int (x1_ * (24 : Int32))), (0, .ref (X.1 a0)), (1, .int x1_)]) hC dX6_tallyOne_30 (by decide) rfl ?_
  obtain ⟨r32, hr32, hf⟩ := kc_some hf
  have hk32 : UW C X r32.2.2 99 [(0, .ref (X.1 a0)), (1, .int x1_), (3, .int r32.1), (4, .int r32.2.1)] [] := by
    refine u_aload_n hC dX6_tallyOne_99 0 rfl rfl ?_
    refine u_gr hC lf_X6_22 rfl hTa0 dX6_tallyOne_100 hf (fun b100 hTb100 hf => ?_)
    refine u_iload_n hC dX6_tallyOne_103 1 rfl rfl ?_
    refine u_iload_n hC dX6_tallyOne_104 2 rfl rfl ?_
    refine u_wi hC hTb100 dX6_tallyOne_105 hf (fun S105 hf => ?_)
    refine u_aload_n hC dX6_tallyOne_106 0 rfl rfl ?_
    refine u_gr hC lf_X6_25 rfl hTa0 dX6_tallyOne_107 hf (fun b107 hTb107 hf => ?_)
    refine u_iload_n hC dX6_tallyOne_110 1 rfl rfl ?_
    refine u_iload hC dX6_tallyOne_111 3 rfl ?_
    refine u_wi hC hTb107 dX6_tallyOne_113 hf (fun S113 hf => ?_)
    cases hf
    exact hR _ _ dX6_tallyOne_114 trivial
  refine u_sub (lv' := [(0, .ref (X.1 a0)), (1, .int x1_), (2, .int (x1_ * (24 : Int32))), (3, .int (0 : Int32)), (4, .int (0 : Int32)), (5, .int (0 : Int32))]) [4, 5, 3, 2, 1, 0] rfl ?_
  refine iter_ind (P := fun s32 => UW C X s32.2.2.2 32 [(0, .ref (X.1 a0)), (1, .int x1_), (2, .int (x1_ * (24 : Int32))), (3, .int s32.1), (4, .int s32.2.1), (5, .int s32.2.2.1)] []) (fun s32 o' hb hin hout => ?_) n ((0 : Int32), (0 : Int32), (0 : Int32), q21) hr32
  exact wbX6_tallyOne_32 hC n a0 x1_ (x1_ * (24 : Int32)) hTa0 s32 hb hin (fun p e => by rw [hout p e]; exact hk32)
theorem ctX6_tallyOne (l : Launch) (hl : l.stackTraces = false) (G : GT) (ρ : Nat → Nat) (Y : XS) (n : Nat) (S : PS) (a0 : Nat) (x1_ : Int32) (hTa0 : Ty Y a0 6) {o : PS} (hf : fX6_tallyOne Y n S a0 x1_ = some o) : Mt l G yX6_tallyOne cX6_tallyOne 7 none 4 ρ Y [.ref (ρ a0), .int x1_] S none o :=
  Mt_of hl (by decide) (Nat.le_of_ble_eq_true rfl) (fun C _ _ hC hR => wX6_tallyOne (X := (ρ, Y, 0, 0)) hC n S a0 x1_ hTa0 hf hR)
-- X6_tally
theorem dX6_tally_0 : decode cX6_tally 0 = .ok (.iconst 0, 1) := by decide +kernel
theorem dX6_tally_1 : decode cX6_tally 1 = .ok (.istore_n 1, 1) := by decide +kernel
theorem dX6_tally_2 : decode cX6_tally 2 = .ok (.iload_n 1, 1) := by decide +kernel
theorem dX6_tally_3 : decode cX6_tally 3 = .ok (.aload_n 0, 1) := by decide +kernel
theorem dX6_tally_4 : decode cX6_tally 4 = .ok (.getfield 12, 3) := by decide +kernel
theorem dX6_tally_7 : decode cX6_tally 7 = .ok (.getfield 49, 3) := by decide +kernel
theorem dX6_tally_10 : decode cX6_tally 10 = .ok (.if_icmp .ge 14, 3) := by decide +kernel
theorem dX6_tally_13 : decode cX6_tally 13 = .ok (.aload_n 0, 1) := by decide +kernel
theorem dX6_tally_14 : decode cX6_tally 14 = .ok (.iload_n 1, 1) := by decide +kernel
theorem dX6_tally_15 : decode cX6_tally 15 = .ok (.invokevirtual 53, 3) := by decide +kernel
theorem dX6_tally_18 : decode cX6_tally 18 = .ok (.iinc 1 1, 3) := by decide +kernel
theorem dX6_tally_21 : decode cX6_tally 21 = .ok (.goto (-19), 3) := by decide +kernel
theorem dX6_tally_24 : decode cX6_tally 24 = .ok (.return_, 1) := by decide +kernel
def bX6_tally_2 (Y : XS) (n : Nat) (v0 : Nat) (s2 : (Int32 × PS)) : Option ((Int32 × PS) ⊕ PS) :=
  kgr s2.2 v0 0 (fun b4 => kgi s2.2 b4 1 (fun x7 => (if x7 ≤ s2.1 then some (.inr s2.2) else kc (fX6_tallyOne Y n s2.2 v0 s2.1) (fun q15 => some (.inl (s2.1 + (1 : Int32), q15))))))
def fX6_tally (Y : XS) (n : Nat) (S : PS) (a0 : Nat) : Option (PS) :=
  kc (iter (bX6_tally_2 Y n a0) n ((0 : Int32), S)) (fun r2 => some r2)
theorem wbX6_tally_2 {C : CT} {X : XT} (hC : CK C RX6 cX6_tally 2 none 5) (n : Nat) (v0 : Nat) (hTv0 : Ty X.2.1 v0 6) (s2 : (Int32 × PS)) {o : (Int32 × PS) ⊕ PS} (hf : bX6_tally_2 X.2.1 n v0 s2 = some o) (hN : ∀ s', o = .inl s' → UW C X s'.2 2 [(0, .ref (X.1 v0)), (1, .int s'.1)] []) (hO0 : ∀ p', o = .inr p' → UW C X p' 24 [] []) : UW C X s2.2 2 [(0, .ref (X.1 v0)), (1, .int s2.1)] [] := by
  unfold bX6_tally_2 at hf
  refine u_iload_n hC dX6_tally_2 1 rfl rfl ?_
  refine u_aload_n hC dX6_tally_3 0 rfl rfl ?_
  refine u_gr hC lf_X6_12 rfl hTv0 dX6_tally_4 hf (fun b4 hTb4 hf => ?_)
  refine u_gi hC lf_X6_49 rfl hTb4 dX6_tally_7 hf (fun x7 hf => ?_)
  refine u_icmp_ge (tgt := 24) hC dX6_tally_10 (by decide) hf (fun h10 hf => ?_) (fun h10 hf => ?_)
  · refine u_sub (lv' := []) [] rfl ?_
    exact hO0 _ (Option.some.inj hf).symm
  · refine u_aload_n hC dX6_tally_13 0 rfl rfl ?_
    refine u_iload_n hC dX6_tally_14 1 rfl rfl ?_
    obtain ⟨q15, hq15, hf⟩ := kc_some hf
    refine u_callV hC (ctX6_tallyOne (cL C) hC.tr (cG C) X.1 X.2.1 n s2.2 v0 s2.1 hTv0 hq15) lk_X6_53 rfl hTv0 (by decide) rfl (by decide) (by decide) rfl rfl (Nat.le_of_ble_eq_true rfl) dX6_tally_15 ?_
    refine u_iinc (v := s2.1 + (1 : Int32)) (lv' := [(1, .int (s2.1 + (1 : Int32))), (0, .ref (X.1 v0))]) hC dX6_tally_18 1 rfl rfl (by decide) rfl ?_
    refine u_goto (tgt := 2) hC dX6_tally_21 (by decide) ?_
    refine u_sub (lv' := [(0, .ref (X.1 v0)), (1, .int (s2.1 + (1 : Int32)))]) [1, 0] rfl ?_
    exact hN _ (Option.some.inj hf).symm
theorem wX6_tally {C : CT} {X : XT} (hC : CK C RX6 cX6_tally 2 none 5) (n : Nat) (S : PS) (a0 : Nat) (hTa0 : Ty X.2.1 a0 6) {o : PS} (hf : fX6_tally X.2.1 n S a0 = some o) (hR : Rt C X cX6_tally none none o) : UW C X S 0 [(0, .ref (X.1 a0))] [] := by
  unfold fX6_tally at hf
  refine u_iconst (v := (0 : Int32)) hC dX6_tally_0 (by decide) ?_
  refine u_istore_n (lv' := [(1, .int (0 : Int32)), (0, .ref (X.1 a0))]) hC dX6_tally_1 rfl (by decide) rfl ?_
  obtain ⟨r2, hr2, hf⟩ := kc_some hf
  have hk2 : UW C X r2 24 [] [] := by
    cases hf
    exact hR _ _ dX6_tally_24 trivial
  refine u_sub (lv' := [(0, .ref (X.1 a0)), (1, .int (0 : Int32))]) [1, 0] rfl ?_
  refine iter_ind (P := fun s2 => UW C X s2.2 2 [(0, .ref (X.1 a0)), (1, .int s2.1)] []) (fun s2 o' hb hin hout => ?_) n ((0 : Int32), S) hr2
  exact wbX6_tally_2 hC n a0 hTa0 s2 hb hin (fun p e => by rw [hout p e]; exact hk2)
theorem ctX6_tally (l : Launch) (hl : l.stackTraces = false) (G : GT) (ρ : Nat → Nat) (Y : XS) (n : Nat) (S : PS) (a0 : Nat) (hTa0 : Ty Y a0 6) {o : PS} (hf : fX6_tally Y n S a0 = some o) : Mt l G yX6_tally cX6_tally 2 none 5 ρ Y [.ref (ρ a0)] S none o :=
  Mt_of hl (by decide) (Nat.le_of_ble_eq_true rfl) (fun C _ _ hC hR => wX6_tally (X := (ρ, Y, 0, 0)) hC n S a0 hTa0 hf hR)
-- X6_worthToAll
theorem dX6_worthToAll_0 : decode cX6_worthToAll 0 = .ok (.iconst 0, 1) := by decide +kernel
theorem dX6_worthToAll_1 : decode cX6_worthToAll 1 = .ok (.istore_n 2, 1) := by decide +kernel
theorem dX6_worthToAll_2 : decode cX6_worthToAll 2 = .ok (.iconst 0, 1) := by decide +kernel
theorem dX6_worthToAll_3 : decode cX6_worthToAll 3 = .ok (.istore_n 3, 1) := by decide +kernel
theorem dX6_worthToAll_4 : decode cX6_worthToAll 4 = .ok (.iload_n 3, 1) := by decide +kernel
theorem dX6_worthToAll_5 : decode cX6_worthToAll 5 = .ok (.aload_n 0, 1) := by decide +kernel
theorem dX6_worthToAll_6 : decode cX6_worthToAll 6 = .ok (.getfield 12, 3) := by decide +kernel
theorem dX6_worthToAll_9 : decode cX6_worthToAll 9 = .ok (.getfield 49, 3) := by decide +kernel
theorem dX6_worthToAll_12 : decode cX6_worthToAll 12 = .ok (.if_icmp .ge 26, 3) := by decide +kernel
theorem dX6_worthToAll_15 : decode cX6_worthToAll 15 = .ok (.iload_n 3, 1) := by decide +kernel
theorem dX6_worthToAll_16 : decode cX6_worthToAll 16 = .ok (.iload_n 1, 1) := by decide +kernel
theorem dX6_worthToAll_17 : decode cX6_worthToAll 17 = .ok (.invokestatic 88, 3) := by decide +kernel
theorem dX6_worthToAll_20 : decode cX6_worthToAll 20 = .ok (.ifCond .eq 12, 3) := by decide +kernel
theorem dX6_worthToAll_23 : decode cX6_worthToAll 23 = .ok (.iload_n 2, 1) := by decide +kernel
theorem dX6_worthToAll_24 : decode cX6_worthToAll 24 = .ok (.aload_n 0, 1) := by decide +kernel
theorem dX6_worthToAll_25 : decode cX6_worthToAll 25 = .ok (.getfield 22, 3) := by decide +kernel
theorem dX6_worthToAll_28 : decode cX6_worthToAll 28 = .ok (.iload_n 3, 1) := by decide +kernel
theorem dX6_worthToAll_29 : decode cX6_worthToAll 29 = .ok (.iaload, 1) := by decide +kernel
theorem dX6_worthToAll_30 : decode cX6_worthToAll 30 = .ok (.iadd, 1) := by decide +kernel
theorem dX6_worthToAll_31 : decode cX6_worthToAll 31 = .ok (.istore_n 2, 1) := by decide +kernel
theorem dX6_worthToAll_32 : decode cX6_worthToAll 32 = .ok (.iinc 3 1, 3) := by decide +kernel
theorem dX6_worthToAll_35 : decode cX6_worthToAll 35 = .ok (.goto (-31), 3) := by decide +kernel
theorem dX6_worthToAll_38 : decode cX6_worthToAll 38 = .ok (.iload_n 2, 1) := by decide +kernel
theorem dX6_worthToAll_39 : decode cX6_worthToAll 39 = .ok (.ireturn, 1) := by decide +kernel
def jX6_worthToAll_32_4 (Y : XS) (n : Nat) (S : PS) (v0 : Nat) (v1 : Int32) (v2 : Int32) (v3 : Int32) : Option ((Int32 × Int32) ⊕ Int32) :=
  some (.inl (v2, v3 + (1 : Int32)))
def bX6_worthToAll_4 (Y : XS) (n : Nat) (S : PS) (v0 : Nat) (v1 : Int32) (s4 : (Int32 × Int32)) : Option ((Int32 × Int32) ⊕ Int32) :=
  kgr S v0 0 (fun b6 => kgi S b6 1 (fun x9 => (if x9 ≤ s4.2 then some (.inr s4.1) else kc (fX10_isIn Y n S s4.2 v1) (fun q17 => (if q17 = 0 then jX6_worthToAll_32_4 Y n S v0 v1 s4.1 s4.2 else kgr S v0 2 (fun b25 => kai Y S b25 s4.2 (fun x29 => jX6_worthToAll_32_4 Y n S v0 v1 (s4.1 + x29) s4.2)))))))
def fX6_worthToAll (Y : XS) (n : Nat) (S : PS) (a0 : Nat) (x1_ : Int32) : Option (Int32) :=
  kc (iter (bX6_worthToAll_4 Y n S a0 x1_) n ((0 : Int32), (0 : Int32))) (fun r4 => some r4)
theorem wjX6_worthToAll_32_4 {C : CT} {X : XT} (hC : CK C RX6 cX6_worthToAll 4 (some .int) 2) (n : Nat) (S : PS) (v0 : Nat) (v1 : Int32) (v2 : Int32) (v3 : Int32)  (hTv0 : Ty X.2.1 v0 6) {o : (Int32 × Int32) ⊕ Int32} (hf : jX6_worthToAll_32_4 X.2.1 n S v0 v1 v2 v3 = some o) (hN : ∀ s', o = .inl s' → UW C X S 4 [(0, .ref (X.1 v0)), (1, .int v1), (2, .int s'.1), (3, .int s'.2)] []) (hO0 : ∀ p', o = .inr p' → UW C X S 38 [(2, .int p')] []) : UW C X S 32 [(0, .ref (X.1 v0)), (1, .int v1), (2, .int v2), (3, .int v3)] [] := by
  unfold jX6_worthToAll_32_4 at hf
  refine u_iinc (v := v3 + (1 : Int32)) (lv' := [(3, .int (v3 + (1 : Int32))), (0, .ref (X.1 v0)), (1, .int v1), (2, .int v2)]) hC dX6_worthToAll_32 3 rfl rfl (by decide) rfl ?_
  refine u_goto (tgt := 4) hC dX6_worthToAll_35 (by decide) ?_
  refine u_sub (lv' := [(0, .ref (X.1 v0)), (1, .int v1), (2, .int v2), (3, .int (v3 + (1 : Int32)))]) [1, 2, 3, 0] rfl ?_
  exact hN _ (Option.some.inj hf).symm
theorem wbX6_worthToAll_4 {C : CT} {X : XT} (hC : CK C RX6 cX6_worthToAll 4 (some .int) 2) (n : Nat) (S : PS) (v0 : Nat) (v1 : Int32) (hTv0 : Ty X.2.1 v0 6) (s4 : (Int32 × Int32)) {o : (Int32 × Int32) ⊕ Int32} (hf : bX6_worthToAll_4 X.2.1 n S v0 v1 s4 = some o) (hN : ∀ s', o = .inl s' → UW C X S 4 [(0, .ref (X.1 v0)), (1, .int v1), (2, .int s'.1), (3, .int s'.2)] []) (hO0 : ∀ p', o = .inr p' → UW C X S 38 [(2, .int p')] []) : UW C X S 4 [(0, .ref (X.1 v0)), (1, .int v1), (2, .int s4.1), (3, .int s4.2)] [] := by
  unfold bX6_worthToAll_4 at hf
  refine u_iload_n hC dX6_worthToAll_4 3 rfl rfl ?_
  refine u_aload_n hC dX6_worthToAll_5 0 rfl rfl ?_
  refine u_gr hC lf_X6_12 rfl hTv0 dX6_worthToAll_6 hf (fun b6 hTb6 hf => ?_)
  refine u_gi hC lf_X6_49 rfl hTb6 dX6_worthToAll_9 hf (fun x9 hf => ?_)
  refine u_icmp_ge (tgt := 38) hC dX6_worthToAll_12 (by decide) hf (fun h12 hf => ?_) (fun h12 hf => ?_)
  · refine u_sub (lv' := [(2, .int s4.1)]) [2] rfl ?_
    exact hO0 _ (Option.some.inj hf).symm
  · refine u_iload_n hC dX6_worthToAll_15 3 rfl rfl ?_
    refine u_iload_n hC dX6_worthToAll_16 1 rfl rfl ?_
    obtain ⟨q17, hq17, hf⟩ := kc_some hf
    refine u_callSN hC (ctX10_isIn (cL C) hC.tr (cG C) X.1 X.2.1 n S s4.2 v1  hq17) lk_X6_88 ls_X6_88 (by decide) (by decide) rfl rfl (Nat.le_of_ble_eq_true rfl) dX6_worthToAll_17 ?_
    refine u_if_eq (tgt := 32) hC dX6_worthToAll_20 (by decide) hf (fun h20 hf => ?_) (fun h20 hf => ?_)
    · exact wjX6_worthToAll_32_4 hC n S v0 v1 s4.1 s4.2  hTv0 hf hN hO0
    · refine u_iload_n hC dX6_worthToAll_23 2 rfl rfl ?_
      refine u_aload_n hC dX6_worthToAll_24 0 rfl rfl ?_
      refine u_gr hC lf_X6_22 rfl hTv0 dX6_worthToAll_25 hf (fun b25 hTb25 hf => ?_)
      refine u_iload_n hC dX6_worthToAll_28 3 rfl rfl ?_
      refine u_ai hC hTb25 dX6_worthToAll_29 hf (fun x29 hf => ?_)
      refine u_iadd hC dX6_worthToAll_30 ?_
      refine u_istore_n (lv' := [(2, .int (s4.1 + x29)), (0, .ref (X.1 v0)), (1, .int v1), (3, .int s4.2)]) hC dX6_worthToAll_31 rfl (by decide) rfl ?_
      refine u_sub (lv' := [(0, .ref (X.1 v0)), (1, .int v1), (2, .int (s4.1 + x29)), (3, .int s4.2)]) [1, 2, 0, 3] rfl ?_
      exact wjX6_worthToAll_32_4 hC n S v0 v1 (s4.1 + x29) s4.2  hTv0 hf hN hO0
theorem wX6_worthToAll {C : CT} {X : XT} (hC : CK C RX6 cX6_worthToAll 4 (some .int) 2) (n : Nat) (S : PS) (a0 : Nat) (x1_ : Int32) (hTa0 : Ty X.2.1 a0 6) {o : Int32} (hf : fX6_worthToAll X.2.1 n S a0 x1_ = some o) (hR : Rt C X cX6_worthToAll (some .int) (some (.int o)) S) : UW C X S 0 [(0, .ref (X.1 a0)), (1, .int x1_)] [] := by
  unfold fX6_worthToAll at hf
  refine u_iconst (v := (0 : Int32)) hC dX6_worthToAll_0 (by decide) ?_
  refine u_istore_n (lv' := [(2, .int (0 : Int32)), (0, .ref (X.1 a0)), (1, .int x1_)]) hC dX6_worthToAll_1 rfl (by decide) rfl ?_
  refine u_iconst (v := (0 : Int32)) hC dX6_worthToAll_2 (by decide) ?_
  refine u_istore_n (lv' := [(3, .int (0 : Int32)), (2, .int (0 : Int32)), (0, .ref (X.1 a0)), (1, .int x1_)]) hC dX6_worthToAll_3 rfl (by decide) rfl ?_
  obtain ⟨r4, hr4, hf⟩ := kc_some hf
  have hk4 : UW C X S 38 [(2, .int r4)] [] := by
    refine u_iload_n hC dX6_worthToAll_38 0 rfl rfl ?_
    cases hf
    exact hR _ _ dX6_worthToAll_39 trivial
  refine u_sub (lv' := [(0, .ref (X.1 a0)), (1, .int x1_), (2, .int (0 : Int32)), (3, .int (0 : Int32))]) [2, 3, 1, 0] rfl ?_
  refine iter_ind (P := fun s4 => UW C X S 4 [(0, .ref (X.1 a0)), (1, .int x1_), (2, .int s4.1), (3, .int s4.2)] []) (fun s4 o' hb hin hout => ?_) n ((0 : Int32), (0 : Int32)) hr4
  exact wbX6_worthToAll_4 hC n S a0 x1_ hTa0 s4 hb hin (fun p e => by rw [hout p e]; exact hk4)
theorem ctX6_worthToAll (l : Launch) (hl : l.stackTraces = false) (G : GT) (ρ : Nat → Nat) (Y : XS) (n : Nat) (S : PS) (a0 : Nat) (x1_ : Int32) (hTa0 : Ty Y a0 6) {o : Int32} (hf : fX6_worthToAll Y n S a0 x1_ = some o) : Mt l G yX6_worthToAll cX6_worthToAll 4 (some .int) 2 ρ Y [.ref (ρ a0), .int x1_] S (some (.int o)) S :=
  Mt_of hl (by decide) (Nat.le_of_ble_eq_true rfl) (fun C _ _ hC hR => wX6_worthToAll (X := (ρ, Y, 0, 0)) hC n S a0 x1_ hTa0 hf hR)
-- X6_worthToWorst
theorem dX6_worthToWorst_0 : decode cX6_worthToWorst 0 = .ok (.aload_n 0, 1) := by decide +kernel
theorem dX6_worthToWorst_1 : decode cX6_worthToWorst 1 = .ok (.getfield 12, 3) := by decide +kernel
theorem dX6_worthToWorst_4 : decode cX6_worthToWorst 4 = .ok (.getfield 67, 3) := by decide +kernel
theorem dX6_worthToWorst_7 : decode cX6_worthToWorst 7 = .ok (.ifCond .ne 7, 3) := by decide +kernel
theorem dX6_worthToWorst_10 : decode cX6_worthToWorst 10 = .ok (.iconst 0, 1) := by decide +kernel
theorem dX6_worthToWorst_11 : decode cX6_worthToWorst 11 = .ok (.goto 9, 3) := by decide +kernel
theorem dX6_worthToWorst_14 : decode cX6_worthToWorst 14 = .ok (.aload_n 0, 1) := by decide +kernel
theorem dX6_worthToWorst_15 : decode cX6_worthToWorst 15 = .ok (.iconst 0, 1) := by decide +kernel
theorem dX6_worthToWorst_16 : decode cX6_worthToWorst 16 = .ok (.iload_n 1, 1) := by decide +kernel
theorem dX6_worthToWorst_17 : decode cX6_worthToWorst 17 = .ok (.invokevirtual 92, 3) := by decide +kernel
theorem dX6_worthToWorst_20 : decode cX6_worthToWorst 20 = .ok (.istore_n 2, 1) := by decide +kernel
theorem dX6_worthToWorst_21 : decode cX6_worthToWorst 21 = .ok (.iconst 1, 1) := by decide +kernel
theorem dX6_worthToWorst_22 : decode cX6_worthToWorst 22 = .ok (.istore_n 3, 1) := by decide +kernel
theorem dX6_worthToWorst_23 : decode cX6_worthToWorst 23 = .ok (.iload_n 3, 1) := by decide +kernel
theorem dX6_worthToWorst_24 : decode cX6_worthToWorst 24 = .ok (.aload_n 0, 1) := by decide +kernel
theorem dX6_worthToWorst_25 : decode cX6_worthToWorst 25 = .ok (.getfield 12, 3) := by decide +kernel
theorem dX6_worthToWorst_28 : decode cX6_worthToWorst 28 = .ok (.getfield 67, 3) := by decide +kernel
theorem dX6_worthToWorst_31 : decode cX6_worthToWorst 31 = .ok (.if_icmp .ge 20, 3) := by decide +kernel
theorem dX6_worthToWorst_34 : decode cX6_worthToWorst 34 = .ok (.iload_n 2, 1) := by decide +kernel
theorem dX6_worthToWorst_35 : decode cX6_worthToWorst 35 = .ok (.aload_n 0, 1) := by decide +kernel
theorem dX6_worthToWorst_36 : decode cX6_worthToWorst 36 = .ok (.iload_n 3, 1) := by decide +kernel
theorem dX6_worthToWorst_37 : decode cX6_worthToWorst 37 = .ok (.iload_n 1, 1) := by decide +kernel
theorem dX6_worthToWorst_38 : decode cX6_worthToWorst 38 = .ok (.invokevirtual 92, 3) := by decide +kernel
theorem dX6_worthToWorst_41 : decode cX6_worthToWorst 41 = .ok (.invokestatic 95, 3) := by decide +kernel
theorem dX6_worthToWorst_44 : decode cX6_worthToWorst 44 = .ok (.istore_n 2, 1) := by decide +kernel
theorem dX6_worthToWorst_45 : decode cX6_worthToWorst 45 = .ok (.iinc 3 1, 3) := by decide +kernel
theorem dX6_worthToWorst_48 : decode cX6_worthToWorst 48 = .ok (.goto (-25), 3) := by decide +kernel
theorem dX6_worthToWorst_51 : decode cX6_worthToWorst 51 = .ok (.iload_n 2, 1) := by decide +kernel
theorem dX6_worthToWorst_52 : decode cX6_worthToWorst 52 = .ok (.ireturn, 1) := by decide +kernel
def bX6_worthToWorst_23 (Y : XS) (n : Nat) (S : PS) (v0 : Nat) (v1 : Int32) (s23 : (Int32 × Int32)) : Option ((Int32 × Int32) ⊕ Int32) :=
  kgr S v0 0 (fun b25 => kgi S b25 2 (fun x28 => (if x28 ≤ s23.2 then some (.inr s23.1) else kc (fX6_worthTo Y n S v0 s23.2 v1) (fun q38 => some (.inl (imin s23.1 q38, s23.2 + (1 : Int32)))))))
def jX6_worthToWorst_20 (Y : XS) (n : Nat) (S : PS) (v0 : Nat) (v1 : Int32) (t0 : Int32) : Option (Int32) :=
  kc (iter (bX6_worthToWorst_23 Y n S v0 v1) n (t0, (1 : Int32))) (fun r23 => some r23)
def fX6_worthToWorst (Y : XS) (n : Nat) (S : PS) (a0 : Nat) (x1_ : Int32) : Option (Int32) :=
  kgr S a0 0 (fun b1 => kgi S b1 2 (fun x4 => (if x4 = 0 then jX6_worthToWorst_20 Y n S a0 x1_ (0 : Int32) else kc (fX6_worthTo Y n S a0 (0 : Int32) x1_) (fun q17 => jX6_worthToWorst_20 Y n S a0 x1_ q17))))
theorem wbX6_worthToWorst_23 {C : CT} {X : XT} (hC : CK C RX6 cX6_worthToWorst 4 (some .int) 3) (n : Nat) (S : PS) (v0 : Nat) (v1 : Int32) (hTv0 : Ty X.2.1 v0 6) (s23 : (Int32 × Int32)) {o : (Int32 × Int32) ⊕ Int32} (hf : bX6_worthToWorst_23 X.2.1 n S v0 v1 s23 = some o) (hN : ∀ s', o = .inl s' → UW C X S 23 [(0, .ref (X.1 v0)), (1, .int v1), (2, .int s'.1), (3, .int s'.2)] []) (hO0 : ∀ p', o = .inr p' → UW C X S 51 [(2, .int p')] []) : UW C X S 23 [(0, .ref (X.1 v0)), (1, .int v1), (2, .int s23.1), (3, .int s23.2)] [] := by
  unfold bX6_worthToWorst_23 at hf
  refine u_iload_n hC dX6_worthToWorst_23 3 rfl rfl ?_
  refine u_aload_n hC dX6_worthToWorst_24 0 rfl rfl ?_
  refine u_gr hC lf_X6_12 rfl hTv0 dX6_worthToWorst_25 hf (fun b25 hTb25 hf => ?_)
  refine u_gi hC lf_X6_67 rfl hTb25 dX6_worthToWorst_28 hf (fun x28 hf => ?_)
  refine u_icmp_ge (tgt := 51) hC dX6_worthToWorst_31 (by decide) hf (fun h31 hf => ?_) (fun h31 hf => ?_)
  · refine u_sub (lv' := [(2, .int s23.1)]) [2] rfl ?_
    exact hO0 _ (Option.some.inj hf).symm
  · refine u_iload_n hC dX6_worthToWorst_34 2 rfl rfl ?_
    refine u_aload_n hC dX6_worthToWorst_35 0 rfl rfl ?_
    refine u_iload_n hC dX6_worthToWorst_36 3 rfl rfl ?_
    refine u_iload_n hC dX6_worthToWorst_37 1 rfl rfl ?_
    obtain ⟨q38, hq38, hf⟩ := kc_some hf
    refine u_callV hC (ctX6_worthTo (cL C) hC.tr (cG C) X.1 X.2.1 n S v0 s23.2 v1 hTv0 hq38) lk_X6_92 rfl hTv0 (by decide) rfl (by decide) (by decide) rfl rfl (Nat.le_of_ble_eq_true rfl) dX6_worthToWorst_38 ?_
    refine u_mmin hC (tb_5 20 rfl rfl) (by decide) (Nat.le_of_ble_eq_true rfl) dX6_worthToWorst_41 ?_
    refine u_istore_n (lv' := [(2, .int (imin s23.1 q38)), (0, .ref (X.1 v0)), (1, .int v1), (3, .int s23.2)]) hC dX6_worthToWorst_44 rfl (by decide) rfl ?_
    refine u_iinc (v := s23.2 + (1 : Int32)) (lv' := [(3, .int (s23.2 + (1 : Int32))), (2, .int (imin s23.1 q38)), (0, .ref (X.1 v0)), (1, .int v1)]) hC dX6_worthToWorst_45 3 rfl rfl (by decide) rfl ?_
    refine u_goto (tgt := 23) hC dX6_worthToWorst_48 (by decide) ?_
    refine u_sub (lv' := [(0, .ref (X.1 v0)), (1, .int v1), (2, .int (imin s23.1 q38)), (3, .int (s23.2 + (1 : Int32)))]) [2, 3, 1, 0] rfl ?_
    exact hN _ (Option.some.inj hf).symm
theorem wjX6_worthToWorst_20 {C : CT} {X : XT} (hC : CK C RX6 cX6_worthToWorst 4 (some .int) 3) (n : Nat) (S : PS) (v0 : Nat) (v1 : Int32) (t0 : Int32)  (hTv0 : Ty X.2.1 v0 6) {o : Int32} (hf : jX6_worthToWorst_20 X.2.1 n S v0 v1 t0 = some o) (hR : Rt C X cX6_worthToWorst (some .int) (some (.int o)) S) : UW C X S 20 [(0, .ref (X.1 v0)), (1, .int v1)] [.int t0] := by
  unfold jX6_worthToWorst_20 at hf
  refine u_istore_n (lv' := [(2, .int t0), (0, .ref (X.1 v0)), (1, .int v1)]) hC dX6_worthToWorst_20 rfl (by decide) rfl ?_
  refine u_iconst (v := (1 : Int32)) hC dX6_worthToWorst_21 (by decide) ?_
  refine u_istore_n (lv' := [(3, .int (1 : Int32)), (2, .int t0), (0, .ref (X.1 v0)), (1, .int v1)]) hC dX6_worthToWorst_22 rfl (by decide) rfl ?_
  obtain ⟨r23, hr23, hf⟩ := kc_some hf
  have hk23 : UW C X S 51 [(2, .int r23)] [] := by
    refine u_iload_n hC dX6_worthToWorst_51 0 rfl rfl ?_
    cases hf
    exact hR _ _ dX6_worthToWorst_52 trivial
  refine u_sub (lv' := [(0, .ref (X.1 v0)), (1, .int v1), (2, .int t0), (3, .int (1 : Int32))]) [2, 3, 1, 0] rfl ?_
  refine iter_ind (P := fun s23 => UW C X S 23 [(0, .ref (X.1 v0)), (1, .int v1), (2, .int s23.1), (3, .int s23.2)] []) (fun s23 o' hb hin hout => ?_) n (t0, (1 : Int32)) hr23
  exact wbX6_worthToWorst_23 hC n S v0 v1 hTv0 s23 hb hin (fun p e => by rw [hout p e]; exact hk23)
theorem wX6_worthToWorst {C : CT} {X : XT} (hC : CK C RX6 cX6_worthToWorst 4 (some .int) 3) (n : Nat) (S : PS) (a0 : Nat) (x1_ : Int32) (hTa0 : Ty X.2.1 a0 6) {o : Int32} (hf : fX6_worthToWorst X.2.1 n S a0 x1_ = some o) (hR : Rt C X cX6_worthToWorst (some .int) (some (.int o)) S) : UW C X S 0 [(0, .ref (X.1 a0)), (1, .int x1_)] [] := by
  unfold fX6_worthToWorst at hf
  refine u_aload_n hC dX6_worthToWorst_0 0 rfl rfl ?_
  refine u_gr hC lf_X6_12 rfl hTa0 dX6_worthToWorst_1 hf (fun b1 hTb1 hf => ?_)
  refine u_gi hC lf_X6_67 rfl hTb1 dX6_worthToWorst_4 hf (fun x4 hf => ?_)
  refine u_if_ne (tgt := 14) hC dX6_worthToWorst_7 (by decide) hf (fun h7 hf => ?_) (fun h7 hf => ?_)
  · refine u_aload_n hC dX6_worthToWorst_14 0 rfl rfl ?_
    refine u_iconst (v := (0 : Int32)) hC dX6_worthToWorst_15 (by decide) ?_
    refine u_iload_n hC dX6_worthToWorst_16 1 rfl rfl ?_
    obtain ⟨q17, hq17, hf⟩ := kc_some hf
    refine u_callV hC (ctX6_worthTo (cL C) hC.tr (cG C) X.1 X.2.1 n S a0 (0 : Int32) x1_ hTa0 hq17) lk_X6_92 rfl hTa0 (by decide) rfl (by decide) (by decide) rfl rfl (Nat.le_of_ble_eq_true rfl) dX6_worthToWorst_17 ?_
    exact wjX6_worthToWorst_20 hC n S a0 x1_ q17  hTa0 hf hR
  · refine u_iconst (v := (0 : Int32)) hC dX6_worthToWorst_10 (by decide) ?_
    refine u_goto (tgt := 20) hC dX6_worthToWorst_11 (by decide) ?_
    exact wjX6_worthToWorst_20 hC n S a0 x1_ (0 : Int32)  hTa0 hf hR
theorem ctX6_worthToWorst (l : Launch) (hl : l.stackTraces = false) (G : GT) (ρ : Nat → Nat) (Y : XS) (n : Nat) (S : PS) (a0 : Nat) (x1_ : Int32) (hTa0 : Ty Y a0 6) {o : Int32} (hf : fX6_worthToWorst Y n S a0 x1_ = some o) : Mt l G yX6_worthToWorst cX6_worthToWorst 4 (some .int) 3 ρ Y [.ref (ρ a0), .int x1_] S (some (.int o)) S :=
  Mt_of hl (by decide) (Nat.le_of_ble_eq_true rfl) (fun C _ _ hC hR => wX6_worthToWorst (X := (ρ, Y, 0, 0)) hC n S a0 x1_ hTa0 hf hR)
-- X6_unserved
theorem dX6_unserved_0 : decode cX6_unserved 0 = .ok (.iconst 0, 1) := by decide +kernel
theorem dX6_unserved_1 : decode cX6_unserved 1 = .ok (.istore_n 2, 1) := by decide +kernel
theorem dX6_unserved_2 : decode cX6_unserved 2 = .ok (.iconst 0, 1) := by decide +kernel
theorem dX6_unserved_3 : decode cX6_unserved 3 = .ok (.istore_n 3, 1) := by decide +kernel
theorem dX6_unserved_4 : decode cX6_unserved 4 = .ok (.iload_n 3, 1) := by decide +kernel
theorem dX6_unserved_5 : decode cX6_unserved 5 = .ok (.aload_n 0, 1) := by decide +kernel
theorem dX6_unserved_6 : decode cX6_unserved 6 = .ok (.getfield 12, 3) := by decide +kernel
theorem dX6_unserved_9 : decode cX6_unserved 9 = .ok (.getfield 67, 3) := by decide +kernel
theorem dX6_unserved_12 : decode cX6_unserved 12 = .ok (.if_icmp .ge 21, 3) := by decide +kernel
theorem dX6_unserved_15 : decode cX6_unserved 15 = .ok (.aload_n 0, 1) := by decide +kernel
theorem dX6_unserved_16 : decode cX6_unserved 16 = .ok (.iload_n 3, 1) := by decide +kernel
theorem dX6_unserved_17 : decode cX6_unserved 17 = .ok (.iload_n 1, 1) := by decide +kernel
theorem dX6_unserved_18 : decode cX6_unserved 18 = .ok (.invokevirtual 92, 3) := by decide +kernel
theorem dX6_unserved_21 : decode cX6_unserved 21 = .ok (.ifCond .ne 6, 3) := by decide +kernel
theorem dX6_unserved_24 : decode cX6_unserved 24 = .ok (.iinc 2 1, 3) := by decide +kernel
theorem dX6_unserved_27 : decode cX6_unserved 27 = .ok (.iinc 3 1, 3) := by decide +kernel
theorem dX6_unserved_30 : decode cX6_unserved 30 = .ok (.goto (-26), 3) := by decide +kernel
theorem dX6_unserved_33 : decode cX6_unserved 33 = .ok (.iload_n 2, 1) := by decide +kernel
theorem dX6_unserved_34 : decode cX6_unserved 34 = .ok (.ireturn, 1) := by decide +kernel
def jX6_unserved_27_4 (Y : XS) (n : Nat) (S : PS) (v0 : Nat) (v1 : Int32) (v2 : Int32) (v3 : Int32) : Option ((Int32 × Int32) ⊕ Int32) :=
  some (.inl (v2, v3 + (1 : Int32)))
def bX6_unserved_4 (Y : XS) (n : Nat) (S : PS) (v0 : Nat) (v1 : Int32) (s4 : (Int32 × Int32)) : Option ((Int32 × Int32) ⊕ Int32) :=
  kgr S v0 0 (fun b6 => kgi S b6 2 (fun x9 => (if x9 ≤ s4.2 then some (.inr s4.1) else kc (fX6_worthTo Y n S v0 s4.2 v1) (fun q18 => (if q18 = 0 then jX6_unserved_27_4 Y n S v0 v1 (s4.1 + (1 : Int32)) s4.2 else jX6_unserved_27_4 Y n S v0 v1 s4.1 s4.2)))))
def fX6_unserved (Y : XS) (n : Nat) (S : PS) (a0 : Nat) (x1_ : Int32) : Option (Int32) :=
  kc (iter (bX6_unserved_4 Y n S a0 x1_) n ((0 : Int32), (0 : Int32))) (fun r4 => some r4)
theorem wjX6_unserved_27_4 {C : CT} {X : XT} (hC : CK C RX6 cX6_unserved 4 (some .int) 3) (n : Nat) (S : PS) (v0 : Nat) (v1 : Int32) (v2 : Int32) (v3 : Int32)  (hTv0 : Ty X.2.1 v0 6) {o : (Int32 × Int32) ⊕ Int32} (hf : jX6_unserved_27_4 X.2.1 n S v0 v1 v2 v3 = some o) (hN : ∀ s', o = .inl s' → UW C X S 4 [(0, .ref (X.1 v0)), (1, .int v1), (2, .int s'.1), (3, .int s'.2)] []) (hO0 : ∀ p', o = .inr p' → UW C X S 33 [(2, .int p')] []) : UW C X S 27 [(0, .ref (X.1 v0)), (1, .int v1), (2, .int v2), (3, .int v3)] [] := by
  unfold jX6_unserved_27_4 at hf
  refine u_iinc (v := v3 + (1 : Int32)) (lv' := [(3, .int (v3 + (1 : Int32))), (0, .ref (X.1 v0)), (1, .int v1), (2, .int v2)]) hC dX6_unserved_27 3 rfl rfl (by decide) rfl ?_
  refine u_goto (tgt := 4) hC dX6_unserved_30 (by decide) ?_
  refine u_sub (lv' := [(0, .ref (X.1 v0)), (1, .int v1), (2, .int v2), (3, .int (v3 + (1 : Int32)))]) [1, 2, 3, 0] rfl ?_
  exact hN _ (Option.some.inj hf).symm
theorem wbX6_unserved_4 {C : CT} {X : XT} (hC : CK C RX6 cX6_unserved 4 (some .int) 3) (n : Nat) (S : PS) (v0 : Nat) (v1 : Int32) (hTv0 : Ty X.2.1 v0 6) (s4 : (Int32 × Int32)) {o : (Int32 × Int32) ⊕ Int32} (hf : bX6_unserved_4 X.2.1 n S v0 v1 s4 = some o) (hN : ∀ s', o = .inl s' → UW C X S 4 [(0, .ref (X.1 v0)), (1, .int v1), (2, .int s'.1), (3, .int s'.2)] []) (hO0 : ∀ p', o = .inr p' → UW C X S 33 [(2, .int p')] []) : UW C X S 4 [(0, .ref (X.1 v0)), (1, .int v1), (2, .int s4.1), (3, .int s4.2)] [] := by
  unfold bX6_unserved_4 at hf
  refine u_iload_n hC dX6_unserved_4 3 rfl rfl ?_
  refine u_aload_n hC dX6_unserved_5 0 rfl rfl ?_
  refine u_gr hC lf_X6_12 rfl hTv0 dX6_unserved_6 hf (fun b6 hTb6 hf => ?_)
  refine u_gi hC lf_X6_67 rfl hTb6 dX6_unserved_9 hf (fun x9 hf => ?_)
  refine u_icmp_ge (tgt := 33) hC dX6_unserved_12 (by decide) hf (fun h12 hf => ?_) (fun h12 hf => ?_)
  · refine u_sub (lv' := [(2, .int s4.1)]) [2] rfl ?_
    exact hO0 _ (Option.some.inj hf).symm
  · refine u_aload_n hC dX6_unserved_15 0 rfl rfl ?_
    refine u_iload_n hC dX6_unserved_16 3 rfl rfl ?_
    refine u_iload_n hC dX6_unserved_17 1 rfl rfl ?_
    obtain ⟨q18, hq18, hf⟩ := kc_some hf
    refine u_callV hC (ctX6_worthTo (cL C) hC.tr (cG C) X.1 X.2.1 n S v0 s4.2 v1 hTv0 hq18) lk_X6_92 rfl hTv0 (by decide) rfl (by decide) (by decide) rfl rfl (Nat.le_of_ble_eq_true rfl) dX6_unserved_18 ?_
    refine u_if_ne (tgt := 27) hC dX6_unserved_21 (by decide) hf (fun h21 hf => ?_) (fun h21 hf => ?_)
    · exact wjX6_unserved_27_4 hC n S v0 v1 s4.1 s4.2  hTv0 hf hN hO0
    · refine u_iinc (v := s4.1 + (1 : Int32)) (lv' := [(2, .int (s4.1 + (1 : Int32))), (0, .ref (X.1 v0)), (1, .int v1), (3, .int s4.2)]) hC dX6_unserved_24 2 rfl rfl (by decide) rfl ?_
      refine u_sub (lv' := [(0, .ref (X.1 v0)), (1, .int v1), (2, .int (s4.1 + (1 : Int32))), (3, .int s4.2)]) [1, 2, 0, 3] rfl ?_
      exact wjX6_unserved_27_4 hC n S v0 v1 (s4.1 + (1 : Int32)) s4.2  hTv0 hf hN hO0
theorem wX6_unserved {C : CT} {X : XT} (hC : CK C RX6 cX6_unserved 4 (some .int) 3) (n : Nat) (S : PS) (a0 : Nat) (x1_ : Int32) (hTa0 : Ty X.2.1 a0 6) {o : Int32} (hf : fX6_unserved X.2.1 n S a0 x1_ = some o) (hR : Rt C X cX6_unserved (some .int) (some (.int o)) S) : UW C X S 0 [(0, .ref (X.1 a0)), (1, .int x1_)] [] := by
  unfold fX6_unserved at hf
  refine u_iconst (v := (0 : Int32)) hC dX6_unserved_0 (by decide) ?_
  refine u_istore_n (lv' := [(2, .int (0 : Int32)), (0, .ref (X.1 a0)), (1, .int x1_)]) hC dX6_unserved_1 rfl (by decide) rfl ?_
  refine u_iconst (v := (0 : Int32)) hC dX6_unserved_2 (by decide) ?_
  refine u_istore_n (lv' := [(3, .int (0 : Int32)), (2, .int (0 : Int32)), (0, .ref (X.1 a0)), (1, .int x1_)]) hC dX6_unserved_3 rfl (by decide) rfl ?_
  obtain ⟨r4, hr4, hf⟩ := kc_some hf
  have hk4 : UW C X S 33 [(2, .int r4)] [] := by
    refine u_iload_n hC dX6_unserved_33 0 rfl rfl ?_
    cases hf
    exact hR _ _ dX6_unserved_34 trivial
  refine u_sub (lv' := [(0, .ref (X.1 a0)), (1, .int x1_), (2, .int (0 : Int32)), (3, .int (0 : Int32))]) [2, 3, 1, 0] rfl ?_
  refine iter_ind (P := fun s4 => UW C X S 4 [(0, .ref (X.1 a0)), (1, .int x1_), (2, .int s4.1), (3, .int s4.2)] []) (fun s4 o' hb hin hout => ?_) n ((0 : Int32), (0 : Int32)) hr4
  exact wbX6_unserved_4 hC n S a0 x1_ hTa0 s4 hb hin (fun p e => by rw [hout p e]; exact hk4)
theorem ctX6_unserved (l : Launch) (hl : l.stackTraces = false) (G : GT) (ρ : Nat → Nat) (Y : XS) (n : Nat) (S : PS) (a0 : Nat) (x1_ : Int32) (hTa0 : Ty Y a0 6) {o : Int32} (hf : fX6_unserved Y n S a0 x1_ = some o) : Mt l G yX6_unserved cX6_unserved 4 (some .int) 3 ρ Y [.ref (ρ a0), .int x1_] S (some (.int o)) S :=
  Mt_of hl (by decide) (Nat.le_of_ble_eq_true rfl) (fun C _ _ hC hR => wX6_unserved (X := (ρ, Y, 0, 0)) hC n S a0 x1_ hTa0 hf hR)
