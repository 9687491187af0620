-- X2_mostOf
theorem dX2_mostOf_0 : decode cX2_mostOf 0 = .ok (.iconst 0, 1) := by decide +kernel
theorem dX2_mostOf_1 : decode cX2_mostOf 1 = .ok (.istore_n 3, 1) := by decide +kernel
theorem dX2_mostOf_2 : decode cX2_mostOf 2 = .ok (.iconst 0, 1) := by decide +kernel
theorem dX2_mostOf_3 : decode cX2_mostOf 3 = .ok (.istore 4, 2) := by decide +kernel
theorem dX2_mostOf_5 : decode cX2_mostOf 5 = .ok (.iload 4, 2) := by decide +kernel
theorem dX2_mostOf_7 : decode cX2_mostOf 7 = .ok (.aload_n 0, 1) := by decide +kernel
theorem dX2_mostOf_8 : decode cX2_mostOf 8 = .ok (.getfield 39, 3) := by decide +kernel
theorem dX2_mostOf_11 : decode cX2_mostOf 11 = .ok (.getfield 61, 3) := by decide +kernel
theorem dX2_mostOf_14 : decode cX2_mostOf 14 = .ok (.if_icmp .ge 35, 3) := by decide +kernel
theorem dX2_mostOf_17 : decode cX2_mostOf 17 = .ok (.iload 4, 2) := by decide +kernel
theorem dX2_mostOf_19 : decode cX2_mostOf 19 = .ok (.iload_n 2, 1) := by decide +kernel
theorem dX2_mostOf_20 : decode cX2_mostOf 20 = .ok (.invokestatic 57, 3) := by decide +kernel
theorem dX2_mostOf_23 : decode cX2_mostOf 23 = .ok (.ifCond .eq 20, 3) := by decide +kernel
theorem dX2_mostOf_26 : decode cX2_mostOf 26 = .ok (.iload_n 3, 1) := by decide +kernel
theorem dX2_mostOf_27 : decode cX2_mostOf 27 = .ok (.aload_n 0, 1) := by decide +kernel
theorem dX2_mostOf_28 : decode cX2_mostOf 28 = .ok (.getfield 64, 3) := by decide +kernel
theorem dX2_mostOf_31 : decode cX2_mostOf 31 = .ok (.iload 4, 2) := by decide +kernel
theorem dX2_mostOf_33 : decode cX2_mostOf 33 = .ok (.bipush 24, 2) := by decide +kernel
theorem dX2_mostOf_35 : decode cX2_mostOf 35 = .ok (.imul, 1) := by decide +kernel
theorem dX2_mostOf_36 : decode cX2_mostOf 36 = .ok (.iload_n 1, 1) := by decide +kernel
theorem dX2_mostOf_37 : decode cX2_mostOf 37 = .ok (.iadd, 1) := by decide +kernel
theorem dX2_mostOf_38 : decode cX2_mostOf 38 = .ok (.iaload, 1) := by decide +kernel
theorem dX2_mostOf_39 : decode cX2_mostOf 39 = .ok (.invokestatic 67, 3) := by decide +kernel
theorem dX2_mostOf_42 : decode cX2_mostOf 42 = .ok (.istore_n 3, 1) := by decide +kernel
theorem dX2_mostOf_43 : decode cX2_mostOf 43 = .ok (.iinc 4 1, 3) := by decide +kernel
theorem dX2_mostOf_46 : decode cX2_mostOf 46 = .ok (.goto (-41), 3) := by decide +kernel
theorem dX2_mostOf_49 : decode cX2_mostOf 49 = .ok (.iload_n 3, 1) := by decide +kernel
theorem dX2_mostOf_50 : decode cX2_mostOf 50 = .ok (.ireturn, 1) := by decide +kernel
def jX2_mostOf_43_5 (Y : XS) (n : Nat) (S : PS) (v0 : Nat) (v1 : Int32) (v2 : Int32) (v3 : Int32) (v4 : Int32) : Option ((Int32 × Int32) ⊕ Int32) :=
  some (.inl (v3, v4 + (1 : Int32)))
def bX2_mostOf_5 (Y : XS) (n : Nat) (S : PS) (v0 : Nat) (v1 : Int32) (v2 : Int32) (s5 : (Int32 × Int32)) : Option ((Int32 × Int32) ⊕ Int32) :=
  kgr S v0 0 (fun b8 => kgi S b8 1 (fun x11 => (if x11 ≤ s5.2 then some (.inr s5.1) else kc (fX10_isIn Y n S s5.2 v2) (fun q20 => (if q20 = 0 then jX2_mostOf_43_5 Y n S v0 v1 v2 s5.1 s5.2 else kgr S v0 4 (fun b28 => kai Y S b28 ((s5.2 * (24 : Int32)) + v1) (fun x38 => jX2_mostOf_43_5 Y n S v0 v1 v2 (imax s5.1 x38) s5.2)))))))
def fX2_mostOf (Y : XS) (n : Nat) (S : PS) (a0 : Nat) (x1_ : Int32) (x2_ : Int32) : Option (Int32) :=
  kc (iter (bX2_mostOf_5 Y n S a0 x1_ x2_) n ((0 : Int32), (0 : Int32))) (fun r5 => some r5)
theorem wjX2_mostOf_43_5 {C : CT} {X : XT} (hC : CK C RX2 cX2_mostOf 5 (some .int) 2) (n : Nat) (S : PS) (v0 : Nat) (v1 : Int32) (v2 : Int32) (v3 : Int32) (v4 : Int32)  (hTv0 : Ty X.2.1 v0 6) {o : (Int32 × Int32) ⊕ Int32} (hf : jX2_mostOf_43_5 X.2.1 n S v0 v1 v2 v3 v4 = some o) (hN : ∀ s', o = .inl s' → UW C X S 5 [(0, .ref (X.1 v0)), (1, .int v1), (2, .int v2), (3, .int s'.1), (4, .int s'.2)] []) (hO0 : ∀ p', o = .inr p' → UW C X S 49 [(3, .int p')] []) : UW C X S 43 [(0, .ref (X.1 v0)), (1, .int v1), (2, .int v2), (3, .int v3), (4, .int v4)] [] := by
  unfold jX2_mostOf_43_5 at hf
  refine u_iinc (v := v4 + (1 : Int32)) (lv' := [(4, .int (v4 + (1 : Int32))), (0, .ref (X.1 v0)), (1, .int v1), (2, .int v2), (3, .int v3)]) hC dX2_mostOf_43 4 rfl rfl (by decide) rfl ?_
  refine u_goto (tgt := 5) hC dX2_mostOf_46 (by decide) ?_
  refine u_sub (lv' := [(0, .ref (X.1 v0)), (1, .int v1), (2, .int v2), (3, .int v3), (4, .int (v4 + (1 : Int32)))]) [1, 2, 3, 4, 0] rfl ?_
  exact hN _ (Option.some.inj hf).symm
theorem wbX2_mostOf_5 {C : CT} {X : XT} (hC : CK C RX2 cX2_mostOf 5 (some .int) 2) (n : Nat) (S : PS) (v0 : Nat) (v1 : Int32) (v2 : Int32) (hTv0 : Ty X.2.1 v0 6) (s5 : (Int32 × Int32)) {o : (Int32 × Int32) ⊕ Int32} (hf : bX2_mostOf_5 X.2.1 n S v0 v1 v2 s5 = some o) (hN : ∀ s', o = .inl s' → UW C X S 5 [(0, .ref (X.1 v0)), (1, .int v1), (2, .int v2), (3, .int s'.1), (4, .int s'.2)] []) (hO0 : ∀ p', o = .inr p' → UW C X S 49 [(3, .int p')] []) : UW C X S 5 [(0, .ref (X.1 v0)), (1, .int v1), (2, .int v2), (3, .int s5.1), (4, .int s5.2)] [] := by
  unfold bX2_mostOf_5 at hf
  refine u_iload hC dX2_mostOf_5 4 rfl ?_
  refine u_aload_n hC dX2_mostOf_7 0 rfl rfl ?_
  refine u_gr hC lf_X2_39 rfl hTv0 dX2_mostOf_8 hf (fun b8 hTb8 hf => ?_)
  refine u_gi hC lf_X2_61 rfl hTb8 dX2_mostOf_11 hf (fun x11 hf => ?_)
  refine u_icmp_ge (tgt := 49) hC dX2_mostOf_14 (by decide) hf (fun h14 hf => ?_) (fun h14 hf => ?_)
  · refine u_sub (lv' := [(3, .int s5.1)]) [3] rfl ?_
    exact hO0 _ (Option.some.inj hf).symm
  · refine u_iload hC dX2_mostOf_17 4 rfl ?_
    refine u_iload_n hC dX2_mostOf_19 2 rfl rfl ?_
    obtain ⟨q20, hq20, hf⟩ := kc_some hf
    refine u_callSN hC (ctX10_isIn (cL C) hC.tr (cG C) X.1 X.2.1 n S s5.2 v2  hq20) lk_X2_57 ls_X2_57 (by decide) (by decide) rfl rfl (Nat.le_of_ble_eq_true rfl) dX2_mostOf_20 ?_
    refine u_if_eq (tgt := 43) hC dX2_mostOf_23 (by decide) hf (fun h23 hf => ?_) (fun h23 hf => ?_)
    · exact wjX2_mostOf_43_5 hC n S v0 v1 v2 s5.1 s5.2  hTv0 hf hN hO0
    · refine u_iload_n hC dX2_mostOf_26 3 rfl rfl ?_
      refine u_aload_n hC dX2_mostOf_27 0 rfl rfl ?_
      refine u_gr hC lf_X2_64 rfl hTv0 dX2_mostOf_28 hf (fun b28 hTb28 hf => ?_)
      refine u_iload hC dX2_mostOf_31 4 rfl ?_
      refine u_bipush (v := (24 : Int32)) hC dX2_mostOf_33 (by decide) ?_
      refine u_imul hC dX2_mostOf_35 ?_
      refine u_iload_n hC dX2_mostOf_36 1 rfl rfl ?_
      refine u_iadd hC dX2_mostOf_37 ?_
      refine u_ai hC hTb28 dX2_mostOf_38 hf (fun x38 hf => ?_)
      refine u_mmax hC (tb_5 126 rfl rfl) (by decide) (Nat.le_of_ble_eq_true rfl) dX2_mostOf_39 ?_
      refine u_istore_n (lv' := [(3, .int (imax s5.1 x38)), (0, .ref (X.1 v0)), (1, .int v1), (2, .int v2), (4, .int s5.2)]) hC dX2_mostOf_42 rfl (by decide) rfl ?_
      refine u_sub (lv' := [(0, .ref (X.1 v0)), (1, .int v1), (2, .int v2), (3, .int (imax s5.1 x38)), (4, .int s5.2)]) [1, 2, 3, 0, 4] rfl ?_
      exact wjX2_mostOf_43_5 hC n S v0 v1 v2 (imax s5.1 x38) s5.2  hTv0 hf hN hO0
theorem wX2_mostOf {C : CT} {X : XT} (hC : CK C RX2 cX2_mostOf 5 (some .int) 2) (n : Nat) (S : PS) (a0 : Nat) (x1_ : Int32) (x2_ : Int32) (hTa0 : Ty X.2.1 a0 6) {o : Int32} (hf : fX2_mostOf X.2.1 n S a0 x1_ x2_ = some o) (hR : Rt C X cX2_mostOf (some .int) (some (.int o)) S) : UW C X S 0 [(0, .ref (X.1 a0)), (1, .int x1_), (2, .int x2_)] [] := by
  unfold fX2_mostOf at hf
  refine u_iconst (v := (0 : Int32)) hC dX2_mostOf_0 (by decide) ?_
  refine u_istore_n (lv' := [(3, .int (0 : Int32)), (0, .ref (X.1 a0)), (1, .int x1_), (2, .int x2_)]) hC dX2_mostOf_1 rfl (by decide) rfl ?_
  refine u_iconst (v := (0 : Int32)) hC dX2_mostOf_2 (by decide) ?_
  refine u_istore (lv' := [(4, .int (0 : Int32)), (3, .int (0 : Int32)), (0, .ref (X.1 a0)), (1, .int x1_), (2, .int x2_)]) hC dX2_mostOf_3 (by decide) rfl ?_
  obtain ⟨r5, hr5, hf⟩ := kc_some hf
  have hk5 : UW C X S 49 [(3, .int r5)] [] := by
    refine u_iload_n hC dX2_mostOf_49 0 rfl rfl ?_
    cases hf
    exact hR _ _ dX2_mostOf_50 trivial
  refine u_sub (lv' := [(0, .ref (X.1 a0)), (1, .int x1_), (2, .int x2_), (3, .int (0 : Int32)), (4, .int (0 : Int32))]) [2, 3, 4, 1, 0] rfl ?_
  refine iter_ind (P := fun s5 => UW C X S 5 [(0, .ref (X.1 a0)), (1, .int x1_), (2, .int x2_), (3, .int s5.1), (4, .int s5.2)] []) (fun s5 o' hb hin hout => ?_) n ((0 : Int32), (0 : Int32)) hr5
  exact wbX2_mostOf_5 hC n S a0 x1_ x2_ hTa0 s5 hb hin (fun p e => by rw [hout p e]; exact hk5)
theorem ctX2_mostOf (l : Launch) (hl : l.stackTraces = false) (G : GT) (ρ : Nat → Nat) (Y : XS) (n : Nat) (S : PS) (a0 : Nat) (x1_ : Int32) (x2_ : Int32) (hTa0 : Ty Y a0 6) {o : Int32} (hf : fX2_mostOf Y n S a0 x1_ x2_ = some o) : Mt l G yX2_mostOf cX2_mostOf 5 (some .int) 2 ρ Y [.ref (ρ a0), .int x1_, .int x2_] S (some (.int o)) S :=
  Mt_of hl (by decide) (Nat.le_of_ble_eq_true rfl) (fun C _ _ hC hR => wX2_mostOf (X := (ρ, Y, 0, 0)) hC n S a0 x1_ x2_ hTa0 hf hR)
-- X2_serves
theorem dX2_serves_0 : decode cX2_serves 0 = .ok (.aload_n 1, 1) := by decide +kernel
theorem dX2_serves_1 : decode cX2_serves 1 = .ok (.iload_n 3, 1) := by decide +kernel
theorem dX2_serves_2 : decode cX2_serves 2 = .ok (.invokevirtual 34, 3) := by decide +kernel
theorem dX2_serves_5 : decode cX2_serves 5 = .ok (.istore 5, 2) := by decide +kernel
theorem dX2_serves_7 : decode cX2_serves 7 = .ok (.iconst 0, 1) := by decide +kernel
theorem dX2_serves_8 : decode cX2_serves 8 = .ok (.istore 6, 2) := by decide +kernel
theorem dX2_serves_10 : decode cX2_serves 10 = .ok (.iload 6, 2) := by decide +kernel
theorem dX2_serves_12 : decode cX2_serves 12 = .ok (.aload_n 1, 1) := by decide +kernel
theorem dX2_serves_13 : decode cX2_serves 13 = .ok (.getfield 39, 3) := by decide +kernel
theorem dX2_serves_16 : decode cX2_serves 16 = .ok (.getfield 43, 3) := by decide +kernel
theorem dX2_serves_19 : decode cX2_serves 19 = .ok (.if_icmp .ge 63, 3) := by decide +kernel
theorem dX2_serves_22 : decode cX2_serves 22 = .ok (.aload_n 1, 1) := by decide +kernel
theorem dX2_serves_23 : decode cX2_serves 23 = .ok (.iload 6, 2) := by decide +kernel
theorem dX2_serves_25 : decode cX2_serves 25 = .ok (.iload_n 2, 1) := by decide +kernel
theorem dX2_serves_26 : decode cX2_serves 26 = .ok (.invokevirtual 49, 3) := by decide +kernel
theorem dX2_serves_29 : decode cX2_serves 29 = .ok (.iload 4, 2) := by decide +kernel
theorem dX2_serves_31 : decode cX2_serves 31 = .ok (.ifCond .eq 17, 3) := by decide +kernel
theorem dX2_serves_34 : decode cX2_serves 34 = .ok (.aload_n 1, 1) := by decide +kernel
theorem dX2_serves_35 : decode cX2_serves 35 = .ok (.iload 6, 2) := by decide +kernel
theorem dX2_serves_37 : decode cX2_serves 37 = .ok (.iload_n 3, 1) := by decide +kernel
theorem dX2_serves_38 : decode cX2_serves 38 = .ok (.iload_n 2, 1) := by decide +kernel
theorem dX2_serves_39 : decode cX2_serves 39 = .ok (.iconst (-1), 1) := by decide +kernel
theorem dX2_serves_40 : decode cX2_serves 40 = .ok (.ixor, 1) := by decide +kernel
theorem dX2_serves_41 : decode cX2_serves 41 = .ok (.iand, 1) := by decide +kernel
theorem dX2_serves_42 : decode cX2_serves 42 = .ok (.invokestatic 53, 3) := by decide +kernel
theorem dX2_serves_45 : decode cX2_serves 45 = .ok (.goto 4, 3) := by decide +kernel
theorem dX2_serves_48 : decode cX2_serves 48 = .ok (.iconst 0, 1) := by decide +kernel
theorem dX2_serves_49 : decode cX2_serves 49 = .ok (.iadd, 1) := by decide +kernel
theorem dX2_serves_50 : decode cX2_serves 50 = .ok (.istore 7, 2) := by decide +kernel
theorem dX2_serves_52 : decode cX2_serves 52 = .ok (.iload 6, 2) := by decide +kernel
theorem dX2_serves_54 : decode cX2_serves 54 = .ok (.iload 5, 2) := by decide +kernel
theorem dX2_serves_56 : decode cX2_serves 56 = .ok (.invokestatic 57, 3) := by decide +kernel
theorem dX2_serves_59 : decode cX2_serves 59 = .ok (.ifCond .eq 17, 3) := by decide +kernel
theorem dX2_serves_62 : decode cX2_serves 62 = .ok (.iload 7, 2) := by decide +kernel
theorem dX2_serves_64 : decode cX2_serves 64 = .ok (.aload_n 1, 1) := by decide +kernel
theorem dX2_serves_65 : decode cX2_serves 65 = .ok (.iload 6, 2) := by decide +kernel
theorem dX2_serves_67 : decode cX2_serves 67 = .ok (.iload_n 3, 1) := by decide +kernel
theorem dX2_serves_68 : decode cX2_serves 68 = .ok (.invokevirtual 49, 3) := by decide +kernel
theorem dX2_serves_71 : decode cX2_serves 71 = .ok (.if_icmp .lt 5, 3) := by decide +kernel
theorem dX2_serves_74 : decode cX2_serves 74 = .ok (.iconst 1, 1) := by decide +kernel
theorem dX2_serves_75 : decode cX2_serves 75 = .ok (.ireturn, 1) := by decide +kernel
theorem dX2_serves_76 : decode cX2_serves 76 = .ok (.iinc 6 1, 3) := by decide +kernel
theorem dX2_serves_79 : decode cX2_serves 79 = .ok (.goto (-69), 3) := by decide +kernel
theorem dX2_serves_82 : decode cX2_serves 82 = .ok (.iconst 0, 1) := by decide +kernel
theorem dX2_serves_83 : decode cX2_serves 83 = .ok (.ireturn, 1) := by decide +kernel
def jX2_serves_76_10 (Y : XS) (n : Nat) (S : PS) (v1 : Nat) (v2 : Int32) (v3 : Int32) (v4 : Int32) (v5 : Int32) (v6 : Int32) : Option (Int32 ⊕ (Unit ⊕ (Int32))) :=
  some (.inl (v6 + (1 : Int32)))
def jX2_serves_49_10 (Y : XS) (n : Nat) (S : PS) (v1 : Nat) (v2 : Int32) (v3 : Int32) (v4 : Int32) (v5 : Int32) (v6 : Int32) (t0 : Int32) (t1 : Int32) : Option (Int32 ⊕ (Unit ⊕ (Int32))) :=
  kc (fX10_isIn Y n S v6 v5) (fun q56 => (if q56 = 0 then jX2_serves_76_10 Y n S v1 v2 v3 v4 v5 v6 else kc (fX6_worthTo Y n S v1 v6 v3) (fun q68 => (if (t1 + t0) < q68 then jX2_serves_76_10 Y n S v1 v2 v3 v4 v5 v6 else kzr (1 : Int32) (some (.inr (.inr (1 : Int32))))))))
def bX2_serves_10 (Y : XS) (n : Nat) (S : PS) (v1 : Nat) (v2 : Int32) (v3 : Int32) (v4 : Int32) (v5 : Int32) (s10 : Int32) : Option (Int32 ⊕ (Unit ⊕ (Int32))) :=
  kgr S v1 0 (fun b13 => kgi S b13 2 (fun x16 => (if x16 ≤ s10 then some (.inr (.inl ())) else kc (fX6_worthTo Y n S v1 s10 v2) (fun q26 => (if v4 = 0 then jX2_serves_49_10 Y n S v1 v2 v3 v4 v5 s10 (0 : Int32) q26 else kc (fX2_mostOf Y n S v1 s10 (v3 &&& (v2 ^^^ (-1 : Int32)))) (fun q42 => jX2_serves_49_10 Y n S v1 v2 v3 v4 v5 s10 q42 q26))))))
def fX2_serves (Y : XS) (n : Nat) (S : PS) (a0 : Nat) (a1 : Nat) (x2_ : Int32) (x3_ : Int32) (x4_ : Int32) : Option (Int32) :=
  kc (fX6_members Y n S a1 x3_) (fun q2 => kc (iter (bX2_serves_10 Y n S a1 x2_ x3_ x4_ q2) n (0 : Int32)) (fun r10 => ks r10 (fun p10_0 => kzr (0 : Int32) (some (0 : Int32))) (fun p10_1 => some p10_1)))
theorem wjX2_serves_76_10 {C : CT} {X : XT} (hC : CK C RX2 cX2_serves 8 (some .boolean) 3) (n : Nat) (S : PS) (v1 : Nat) (v2 : Int32) (v3 : Int32) (v4 : Int32) (v5 : Int32) (v6 : Int32)  (hTv1 : Ty X.2.1 v1 6) {o : Int32 ⊕ (Unit ⊕ (Int32))} (hf : jX2_serves_76_10 X.2.1 n S v1 v2 v3 v4 v5 v6 = some o) (hN : ∀ s', o = .inl s' → UW C X S 10 [(1, .ref (X.1 v1)), (2, .int v2), (3, .int v3), (4, .int v4), (5, .int v5), (6, .int s')] []) (hO0 : ∀ p', o = .inr (.inl p') → UW C X S 82 [] []) (hR : ∀ q', o = .inr (.inr q') → Rt C X cX2_serves (some .boolean) (some (.int q')) S) : UW C X S 76 [(1, .ref (X.1 v1)), (2, .int v2), (3, .int v3), (4, .int v4), (5, .int v5), (6, .int v6)] [] := by
  unfold jX2_serves_76_10 at hf
  refine u_iinc (v := v6 + (1 : Int32)) (lv' := [(6, .int (v6 + (1 : Int32))), (1, .ref (X.1 v1)), (2, .int v2), (3, .int v3), (4, .int v4), (5, .int v5)]) hC dX2_serves_76 5 rfl rfl (by decide) rfl ?_
  refine u_goto (tgt := 10) hC dX2_serves_79 (by decide) ?_
  refine u_sub (lv' := [(1, .ref (X.1 v1)), (2, .int v2), (3, .int v3), (4, .int v4), (5, .int v5), (6, .int (v6 + (1 : Int32)))]) [1, 2, 3, 4, 5, 0] rfl ?_
  exact hN _ (Option.some.inj hf).symm
theorem wjX2_serves_49_10 {C : CT} {X : XT} (hC : CK C RX2 cX2_serves 8 (some .boolean) 3) (n : Nat) (S : PS) (v1 : Nat) (v2 : Int32) (v3 : Int32) (v4 : Int32) (v5 : Int32) (v6 : Int32) (t0 : Int32) (t1 : Int32)  (hTv1 : Ty X.2.1 v1 6) {o : Int32 ⊕ (Unit ⊕ (Int32))} (hf : jX2_serves_49_10 X.2.1 n S v1 v2 v3 v4 v5 v6 t0 t1 = some o) (hN : ∀ s', o = .inl s' → UW C X S 10 [(1, .ref (X.1 v1)), (2, .int v2), (3, .int v3), (4, .int v4), (5, .int v5), (6, .int s')] []) (hO0 : ∀ p', o = .inr (.inl p') → UW C X S 82 [] []) (hR : ∀ q', o = .inr (.inr q') → Rt C X cX2_serves (some .boolean) (some (.int q')) S) : UW C X S 49 [(1, .ref (X.1 v1)), (2, .int v2), (3, .int v3), (4, .int v4), (5, .int v5), (6, .int v6)] [.int t0, .int t1] := by
  unfold jX2_serves_49_10 at hf
  refine u_iadd hC dX2_serves_49 ?_
  refine u_istore (lv' := [(7, .int (t1 + t0)), (1, .ref (X.1 v1)), (2, .int v2), (3, .int v3), (4, .int v4), (5, .int v5), (6, .int v6)]) hC dX2_serves_50 (by decide) rfl ?_
  refine u_iload hC dX2_serves_52 6 rfl ?_
  refine u_iload hC dX2_serves_54 5 rfl ?_
  obtain ⟨q56, hq56, hf⟩ := kc_some hf
  refine u_callSN hC (ctX10_isIn (cL C) hC.tr (cG C) X.1 X.2.1 n S v6 v5  hq56) lk_X2_57 ls_X2_57 (by decide) (by decide) rfl rfl (Nat.le_of_ble_eq_true rfl) dX2_serves_56 ?_
  refine u_if_eq (tgt := 76) hC dX2_serves_59 (by decide) hf (fun h59 hf => ?_) (fun h59 hf => ?_)
  · refine u_sub (lv' := [(1, .ref (X.1 v1)), (2, .int v2), (3, .int v3), (4, .int v4), (5, .int v5), (6, .int v6)]) [1, 2, 3, 4, 5, 6] rfl ?_
    exact wjX2_serves_76_10 hC n S v1 v2 v3 v4 v5 v6  hTv1 hf hN hO0 hR
  · refine u_iload hC dX2_serves_62 0 rfl ?_
    refine u_aload_n hC dX2_serves_64 1 rfl rfl ?_
    refine u_iload hC dX2_serves_65 6 rfl ?_
    refine u_iload_n hC dX2_serves_67 3 rfl rfl ?_
    obtain ⟨q68, hq68, hf⟩ := kc_some hf
    refine u_callV hC (ctX6_worthTo (cL C) hC.tr (cG C) X.1 X.2.1 n S v1 v6 v3 hTv1 hq68) lk_X2_49 rfl hTv1 (by decide) rfl (by decide) (by decide) rfl rfl (Nat.le_of_ble_eq_true rfl) dX2_serves_68 ?_
    refine u_icmp_lt (tgt := 76) hC dX2_serves_71 (by decide) hf (fun h71 hf => ?_) (fun h71 hf => ?_)
    · refine u_sub (lv' := [(1, .ref (X.1 v1)), (2, .int v2), (3, .int v3), (4, .int v4), (5, .int v5), (6, .int v6)]) [1, 2, 3, 4, 5, 6] rfl ?_
      exact wjX2_serves_76_10 hC n S v1 v2 v3 v4 v5 v6  hTv1 hf hN hO0 hR
    · refine u_iconst (v := (1 : Int32)) hC dX2_serves_74 (by decide) ?_
      obtain ⟨hz, hf⟩ := kzr_some hf
      exact hR _ (Option.some.inj hf).symm _ _ dX2_serves_75 hz
theorem wbX2_serves_10 {C : CT} {X : XT} (hC : CK C RX2 cX2_serves 8 (some .boolean) 3) (n : Nat) (S : PS) (v1 : Nat) (v2 : Int32) (v3 : Int32) (v4 : Int32) (v5 : Int32) (hTv1 : Ty X.2.1 v1 6) (s10 : Int32) {o : Int32 ⊕ (Unit ⊕ (Int32))} (hf : bX2_serves_10 X.2.1 n S v1 v2 v3 v4 v5 s10 = some o) (hN : ∀ s', o = .inl s' → UW C X S 10 [(1, .ref (X.1 v1)), (2, .int v2), (3, .int v3), (4, .int v4), (5, .int v5), (6, .int s')] []) (hO0 : ∀ p', o = .inr (.inl p') → UW C X S 82 [] []) (hR : ∀ q', o = .inr (.inr q') → Rt C X cX2_serves (some .boolean) (some (.int q')) S) : UW C X S 10 [(1, .ref (X.1 v1)), (2, .int v2), (3, .int v3), (4, .int v4), (5, .int v5), (6, .int s10)] [] := by
  unfold bX2_serves_10 at hf
  refine u_iload hC dX2_serves_10 5 rfl ?_
  refine u_aload_n hC dX2_serves_12 0 rfl rfl ?_
  refine u_gr hC lf_X2_39 rfl hTv1 dX2_serves_13 hf (fun b13 hTb13 hf => ?_)
  refine u_gi hC lf_X2_43 rfl hTb13 dX2_serves_16 hf (fun x16 hf => ?_)
  refine u_icmp_ge (tgt := 82) hC dX2_serves_19 (by decide) hf (fun h19 hf => ?_) (fun h19 hf => ?_)
  · refine u_sub (lv' := []) [] rfl ?_
    exact hO0 _ (Option.some.inj hf).symm
  · refine u_aload_n hC dX2_serves_22 0 rfl rfl ?_
    refine u_iload hC dX2_serves_23 5 rfl ?_
    refine u_iload_n hC dX2_serves_25 1 rfl rfl ?_
    obtain ⟨q26, hq26, hf⟩ := kc_some hf
    refine u_callV hC (ctX6_worthTo (cL C) hC.tr (cG C) X.1 X.2.1 n S v1 s10 v2 hTv1 hq26) lk_X2_49 rfl hTv1 (by decide) rfl (by decide) (by decide) rfl rfl (Nat.le_of_ble_eq_true rfl) dX2_serves_26 ?_
    refine u_iload hC dX2_serves_29 3 rfl ?_
    refine u_if_eq (tgt := 48) hC dX2_serves_31 (by decide) hf (fun h31 hf => ?_) (fun h31 hf => ?_)
    · refine u_iconst (v := (0 : Int32)) hC dX2_serves_48 (by decide) ?_
      exact wjX2_serves_49_10 hC n S v1 v2 v3 v4 v5 s10 (0 : Int32) q26  hTv1 hf hN hO0 hR
    · refine u_aload_n hC dX2_serves_34 0 rfl rfl ?_
      refine u_iload hC dX2_serves_35 5 rfl ?_
      refine u_iload_n hC dX2_serves_37 2 rfl rfl ?_
      refine u_iload_n hC dX2_serves_38 1 rfl rfl ?_
      refine u_iconst (v := (-1 : Int32)) hC dX2_serves_39 (by decide) ?_
      refine u_ixor hC dX2_serves_40 ?_
      refine u_iand hC dX2_serves_41 ?_
      obtain ⟨q42, hq42, hf⟩ := kc_some hf
      refine u_callS hC (ctX2_mostOf (cL C) hC.tr (cG C) X.1 X.2.1 n S v1 s10 (v3 &&& (v2 ^^^ (-1 : Int32))) hTv1 hq42) lk_X2_53 (by decide) (by decide) rfl rfl (Nat.le_of_ble_eq_true rfl) dX2_serves_42 ?_
      refine u_goto (tgt := 49) hC dX2_serves_45 (by decide) ?_
      exact wjX2_serves_49_10 hC n S v1 v2 v3 v4 v5 s10 q42 q26  hTv1 hf hN hO0 hR
theorem wX2_serves {C : CT} {X : XT} (hC : CK C RX2 cX2_serves 8 (some .boolean) 3) (n : Nat) (S : PS) (a0 : Nat) (a1 : Nat) (x2_ : Int32) (x3_ : Int32) (x4_ : Int32) (hTa0 : Ty X.2.1 a0 2) (hTa1 : Ty X.2.1 a1 6) {o : Int32} (hf : fX2_serves X.2.1 n S a0 a1 x2_ x3_ x4_ = some o) (hR : Rt C X cX2_serves (some .boolean) (some (.int o)) S) : UW C X S 0 [(0, .ref (X.1 a0)), (1, .ref (X.1 a1)), (2, .int x2_), (3, .int x3_), (4, .int x4_)] [] := by
  unfold fX2_serves at hf
  refine u_aload_n hC dX2_serves_0 1 rfl rfl ?_
  refine u_iload_n hC dX2_serves_1 3 rfl rfl ?_
  obtain ⟨q2, hq2, hf⟩ := kc_some hf
  refine u_callV hC (ctX6_members (cL C) hC.tr (cG C) X.1 X.2.1 n S a1 x3_ hTa1 hq2) lk_X2_34 rfl hTa1 (by decide) rfl (by decide) (by decide) rfl rfl (Nat.le_of_ble_eq_true rfl) dX2_serves_2 ?_
  refine u_istore (lv' := [(5, .int q2), (0, .ref (X.1 a0)), (1, .ref (X.1 a1)), (2, .int x2_), (3, .int x3_), (4, .int x4_)]) hC dX2_serves_5 (by decide) rfl ?_
  refine u_iconst (v := (0 : Int32)) hC dX2_serves_7 (by decide) ?_
  refine u_istore (lv' := [(6, .int (0 : Int32)), (5, .int q2), (0, .ref (X.1 a0)), (1, .ref (X.1 a1)), (2, .int x2_), (3, .int x3_), (4, .int x4_)]) hC dX2_serves_8 (by decide) rfl ?_
  obtain ⟨r10, hr10, hf⟩ := kc_some hf
  have hk10_0 : ∀ p10_0, r10 = (.inl p10_0) → UW C X S 82 [] [] := by
    intro p10_0 he
    subst he
    have hf := ks_l hf
    refine u_iconst (v := (0 : Int32)) hC dX2_serves_82 (by decide) ?_
    obtain ⟨hz, hf⟩ := kzr_some hf
    cases hf
    exact hR _ _ dX2_serves_83 hz
  have hk10_1 : ∀ p10_1, r10 = (.inr p10_1) → Rt C X cX2_serves (some .boolean) (some (.int p10_1)) S := by
    intro p10_1 he
    subst he
    have hf := ks_r hf
    cases hf
    exact hR
  refine u_sub (lv' := [(1, .ref (X.1 a1)), (2, .int x2_), (3, .int x3_), (4, .int x4_), (5, .int q2), (6, .int (0 : Int32))]) [3, 4, 5, 6, 1, 0] rfl ?_
  refine iter_ind (P := fun s10 => UW C X S 10 [(1, .ref (X.1 a1)), (2, .int x2_), (3, .int x3_), (4, .int x4_), (5, .int q2), (6, .int s10)] []) (fun s10 o' hb hin hout => ?_) n (0 : Int32) hr10
  exact wbX2_serves_10 hC n S a1 x2_ x3_ x4_ q2 hTa1 s10 hb hin (fun p e => hk10_0 p (hout _ e).symm) (fun p e => hk10_1 p (hout _ e).symm)
theorem ctX2_serves (l : Launch) (hl : l.stackTraces = false) (G : GT) (ρ : Nat → Nat) (Y : XS) (n : Nat) (S : PS) (a0 : Nat) (a1 : Nat) (x2_ : Int32) (x3_ : Int32) (x4_ : Int32) (hTa0 : Ty Y a0 2) (hTa1 : Ty Y a1 6) {o : Int32} (hf : fX2_serves Y n S a0 a1 x2_ x3_ x4_ = some o) : Mt l G yX2_serves cX2_serves 8 (some .boolean) 3 ρ Y [.ref (ρ a0), .ref (ρ a1), .int x2_, .int x3_, .int x4_] S (some (.int o)) S :=
  Mt_of hl (by decide) (Nat.le_of_ble_eq_true rfl) (fun C _ _ hC hR => wX2_serves (X := (ρ, Y, 0, 0)) hC n S a0 a1 x2_ x3_ x4_ hTa0 hTa1 hf hR)
-- X2_begin
theorem dX2_begin_0 : decode cX2_begin 0 = .ok (.aload_n 0, 1) := by decide +kernel
theorem dX2_begin_1 : decode cX2_begin 1 = .ok (.getfield 15, 3) := by decide +kernel
theorem dX2_begin_4 : decode cX2_begin 4 = .ok (.bipush 12, 2) := by decide +kernel
theorem dX2_begin_6 : decode cX2_begin 6 = .ok (.iconst 1, 1) := by decide +kernel
theorem dX2_begin_7 : decode cX2_begin 7 = .ok (.aload_n 1, 1) := by decide +kernel
theorem dX2_begin_8 : decode cX2_begin 8 = .ok (.getfield 39, 3) := by decide +kernel
theorem dX2_begin_11 : decode cX2_begin 11 = .ok (.getfield 43, 3) := by decide +kernel
theorem dX2_begin_14 : decode cX2_begin 14 = .ok (.ishl, 1) := by decide +kernel
theorem dX2_begin_15 : decode cX2_begin 15 = .ok (.iconst 1, 1) := by decide +kernel
theorem dX2_begin_16 : decode cX2_begin 16 = .ok (.isub, 1) := by decide +kernel
theorem dX2_begin_17 : decode cX2_begin 17 = .ok (.iastore, 1) := by decide +kernel
theorem dX2_begin_18 : decode cX2_begin 18 = .ok (.iconst 0, 1) := by decide +kernel
theorem dX2_begin_19 : decode cX2_begin 19 = .ok (.istore_n 3, 1) := by decide +kernel
theorem dX2_begin_20 : decode cX2_begin 20 = .ok (.iload_n 3, 1) := by decide +kernel
theorem dX2_begin_21 : decode cX2_begin 21 = .ok (.aload_n 1, 1) := by decide +kernel
theorem dX2_begin_22 : decode cX2_begin 22 = .ok (.getfield 39, 3) := by decide +kernel
theorem dX2_begin_25 : decode cX2_begin 25 = .ok (.getfield 43, 3) := by decide +kernel
theorem dX2_begin_28 : decode cX2_begin 28 = .ok (.if_icmp .ge 24, 3) := by decide +kernel
theorem dX2_begin_31 : decode cX2_begin 31 = .ok (.aload_n 0, 1) := by decide +kernel
theorem dX2_begin_32 : decode cX2_begin 32 = .ok (.getfield 24, 3) := by decide +kernel
theorem dX2_begin_35 : decode cX2_begin 35 = .ok (.iload_n 3, 1) := by decide +kernel
theorem dX2_begin_36 : decode cX2_begin 36 = .ok (.aload_n 1, 1) := by decide +kernel
theorem dX2_begin_37 : decode cX2_begin 37 = .ok (.iload_n 3, 1) := by decide +kernel
theorem dX2_begin_38 : decode cX2_begin 38 = .ok (.aload_n 2, 1) := by decide +kernel
theorem dX2_begin_39 : decode cX2_begin 39 = .ok (.getfield 104, 3) := by decide +kernel
theorem dX2_begin_42 : decode cX2_begin 42 = .ok (.invokevirtual 49, 3) := by decide +kernel
theorem dX2_begin_45 : decode cX2_begin 45 = .ok (.iastore, 1) := by decide +kernel
theorem dX2_begin_46 : decode cX2_begin 46 = .ok (.iinc 3 1, 3) := by decide +kernel
theorem dX2_begin_49 : decode cX2_begin 49 = .ok (.goto (-29), 3) := by decide +kernel
theorem dX2_begin_52 : decode cX2_begin 52 = .ok (.aload_n 2, 1) := by decide +kernel
theorem dX2_begin_53 : decode cX2_begin 53 = .ok (.getfield 97, 3) := by decide +kernel
theorem dX2_begin_56 : decode cX2_begin 56 = .ok (.iconst 0, 1) := by decide +kernel
theorem dX2_begin_57 : decode cX2_begin 57 = .ok (.invokestatic 107, 3) := by decide +kernel
theorem dX2_begin_60 : decode cX2_begin 60 = .ok (.aload_n 2, 1) := by decide +kernel
theorem dX2_begin_61 : decode cX2_begin 61 = .ok (.getfield 97, 3) := by decide +kernel
theorem dX2_begin_64 : decode cX2_begin 64 = .ok (.iconst 3, 1) := by decide +kernel
theorem dX2_begin_65 : decode cX2_begin 65 = .ok (.iconst (-1), 1) := by decide +kernel
theorem dX2_begin_66 : decode cX2_begin 66 = .ok (.iastore, 1) := by decide +kernel
theorem dX2_begin_67 : decode cX2_begin 67 = .ok (.aload_n 2, 1) := by decide +kernel
theorem dX2_begin_68 : decode cX2_begin 68 = .ok (.getfield 97, 3) := by decide +kernel
theorem dX2_begin_71 : decode cX2_begin 71 = .ok (.iconst 4, 1) := by decide +kernel
theorem dX2_begin_72 : decode cX2_begin 72 = .ok (.iconst (-1), 1) := by decide +kernel
theorem dX2_begin_73 : decode cX2_begin 73 = .ok (.iastore, 1) := by decide +kernel
theorem dX2_begin_74 : decode cX2_begin 74 = .ok (.aload_n 2, 1) := by decide +kernel
theorem dX2_begin_75 : decode cX2_begin 75 = .ok (.iconst 1, 1) := by decide +kernel
theorem dX2_begin_76 : decode cX2_begin 76 = .ok (.putfield 112, 3) := by decide +kernel
theorem dX2_begin_79 : decode cX2_begin 79 = .ok (.return_, 1) := by decide +kernel
def bX2_begin_20 (Y : XS) (n : Nat) (v0 : Nat) (v1 : Nat) (v2 : Nat) (s20 : (Int32 × PS)) : Option ((Int32 × PS) ⊕ PS) :=
  kgr s20.2 v1 0 (fun b22 => kgi s20.2 b22 2 (fun x25 => (if x25 ≤ s20.1 then some (.inr s20.2) else kgr s20.2 v0 4 (fun b32 => kgi s20.2 v2 2 (fun x39 => kc (fX6_worthTo Y n s20.2 v1 s20.1 x39) (fun q42 => kwi Y s20.2 b32 s20.1 q42 (fun S45 => some (.inl (s20.1 + (1 : Int32), S45)))))))))
def fX2_begin (Y : XS) (n : Nat) (S : PS) (a0 : Nat) (a1 : Nat) (a2 : Nat) : Option (PS) :=
  kgr S a0 1 (fun b1 => kgr S a1 0 (fun b8 => kgi S b8 2 (fun x11 => kwi Y S b1 (12 : Int32) (((1 : Int32) <<< (x11 &&& 31)) - (1 : Int32)) (fun S17 => kc (iter (bX2_begin_20 Y n a0 a1 a2) n ((0 : Int32), S17)) (fun r20 => kgr r20 a2 12 (fun b53 => kc (fJ7_fill_53178 Y n r20 b53 (0 : Int32)) (fun q57 => kgr q57 a2 12 (fun b61 => kwi Y q57 b61 (3 : Int32) (-1 : Int32) (fun S66 => kgr S66 a2 12 (fun b68 => kwi Y S66 b68 (4 : Int32) (-1 : Int32) (fun S73 => kpz S73 a2 11 (1 : Int32) (fun S76 => some S76))))))))))))
theorem wbX2_begin_20 {C : CT} {X : XT} (hC : CK C RX2 cX2_begin 4 none 3) (n : Nat) (v0 : Nat) (v1 : Nat) (v2 : Nat) (hTv0 : Ty X.2.1 v0 2) (hTv1 : Ty X.2.1 v1 6) (hTv2 : Ty X.2.1 v2 5) (s20 : (Int32 × PS)) {o : (Int32 × PS) ⊕ PS} (hf : bX2_begin_20 X.2.1 n v0 v1 v2 s20 = some o) (hN : ∀ s', o = .inl s' → UW C X s'.2 20 [(0, .ref (X.1 v0)), (1, .ref (X.1 v1)), (2, .ref (X.1 v2)), (3, .int s'.1)] []) (hO0 : ∀ p', o = .inr p' → UW C X p' 52 [(2, .ref (X.1 v2))] []) : UW C X s20.2 20 [(0, .ref (X.1 v0)), (1, .ref (X.1 v1)), (2, .ref (X.1 v2)), (3, .int s20.1)] [] := by
  unfold bX2_begin_20 at hf
  refine u_iload_n hC dX2_begin_20 3 rfl rfl ?_
  refine u_aload_n hC dX2_begin_21 1 rfl rfl ?_
  refine u_gr hC lf_X2_39 rfl hTv1 dX2_begin_22 hf (fun b22 hTb22 hf => ?_)
  refine u_gi hC lf_X2_43 rfl hTb22 dX2_begin_25 hf (fun x25 hf => ?_)
  refine u_icmp_ge (tgt := 52) hC dX2_begin_28 (by decide) hf (fun h28 hf => ?_) (fun h28 hf => ?_)
  · refine u_sub (lv' := [(2, .ref (X.1 v2))]) [2] rfl ?_
    exact hO0 _ (Option.some.inj hf).symm
  · refine u_aload_n hC dX2_begin_31 0 rfl rfl ?_
    refine u_gr hC lf_X2_24 rfl hTv0 dX2_begin_32 hf (fun b32 hTb32 hf => ?_)
    refine u_iload_n hC dX2_begin_35 3 rfl rfl ?_
    refine u_aload_n hC dX2_begin_36 1 rfl rfl ?_
    refine u_iload_n hC dX2_begin_37 3 rfl rfl ?_
    refine u_aload_n hC dX2_begin_38 2 rfl rfl ?_
    refine u_gi hC lf_X2_104 rfl hTv2 dX2_begin_39 hf (fun x39 hf => ?_)
    obtain ⟨q42, hq42, hf⟩ := kc_some hf
    refine u_callV hC (ctX6_worthTo (cL C) hC.tr (cG C) X.1 X.2.1 n s20.2 v1 s20.1 x39 hTv1 hq42) lk_X2_49 rfl hTv1 (by decide) rfl (by decide) (by decide) rfl rfl (Nat.le_of_ble_eq_true rfl) dX2_begin_42 ?_
    refine u_wi hC hTb32 dX2_begin_45 hf (fun S45 hf => ?_)
    refine u_iinc (v := s20.1 + (1 : Int32)) (lv' := [(3, .int (s20.1 + (1 : Int32))), (0, .ref (X.1 v0)), (1, .ref (X.1 v1)), (2, .ref (X.1 v2))]) hC dX2_begin_46 3 rfl rfl (by decide) rfl ?_
    refine u_goto (tgt := 20) hC dX2_begin_49 (by decide) ?_
    refine u_sub (lv' := [(0, .ref (X.1 v0)), (1, .ref (X.1 v1)), (2, .ref (X.1 v2)), (3, .int (s20.1 + (1 : Int32)))]) [1, 2, 3, 0] rfl ?_
    exact hN _ (Option.some.inj hf).symm
theorem wX2_begin {C : CT} {X : XT} (hC : CK C RX2 cX2_begin 4 none 3) (n : Nat) (S : PS) (a0 : Nat) (a1 : Nat) (a2 : Nat) (hTa0 : Ty X.2.1 a0 2) (hTa1 : Ty X.2.1 a1 6) (hTa2 : Ty X.2.1 a2 5) {o : PS} (hf : fX2_begin X.2.1 n S a0 a1 a2 = some o) (hR : Rt C X cX2_begin none none o) : UW C X S 0 [(0, .ref (X.1 a0)), (1, .ref (X.1 a1)), (2, .ref (X.1 a2))] [] := by
  unfold fX2_begin at hf
  refine u_aload_n hC dX2_begin_0 0 rfl rfl ?_
  refine u_gr hC lf_X2_15 rfl hTa0 dX2_begin_1 hf (fun b1 hTb1 hf => ?_)
  refine u_bipush (v := (12 : Int32)) hC dX2_begin_4 (by decide) ?_
  refine u_iconst (v := (1 : Int32)) hC dX2_begin_6 (by decide) ?_
  refine u_aload_n hC dX2_begin_7 1 rfl rfl ?_
  refine u_gr hC lf_X2_39 rfl hTa1 dX2_begin_8 hf (fun b8 hTb8 hf => ?_)
  refine u_gi hC lf_X2_43 rfl hTb8 dX2_begin_11 hf (fun x11 hf => ?_)
  refine u_ishl hC dX2_begin_14 ?_
  refine u_iconst (v := (1 : Int32)) hC dX2_begin_15 (by decide) ?_
  refine u_isub hC dX2_begin_16 ?_
  refine u_wi hC hTb1 dX2_begin_17 hf (fun S17 hf => ?_)
  refine u_iconst (v := (0 : Int32)) hC dX2_begin_18 (by decide) ?_
  refine u_istore_n (lv' := [(3, .int (0 : Int32)), (0, .ref (X.1 a0)), (1, .ref (X.1 a1)), (2, .ref (X.1 a2))]) hC dX2_begin_19 rfl (by decide) rfl ?_
  obtain ⟨r20, hr20, hf⟩ := kc_some hf
  have hk20 : UW C X r20 52 [(2, .ref (X.1 a2))] [] := by
    refine u_aload_n hC dX2_begin_52 0 rfl rfl ?_
    refine u_gr hC lf_X2_97 rfl hTa2 dX2_begin_53 hf (fun b53 hTb53 hf => ?_)
    refine u_iconst (v := (0 : Int32)) hC dX2_begin_56 (by decide) ?_
    obtain ⟨q57, hq57, hf⟩ := kc_some hf
    refine u_callS hC (ctJ7_fill_53178 (cL C) hC.tr (cG C) X.1 X.2.1 n r20 b53 (0 : Int32) hTb53 hq57) lk_X2_107 (by decide) (by decide) rfl rfl (Nat.le_of_ble_eq_true rfl) dX2_begin_57 ?_
    refine u_aload_n hC dX2_begin_60 0 rfl rfl ?_
    refine u_gr hC lf_X2_97 rfl hTa2 dX2_begin_61 hf (fun b61 hTb61 hf => ?_)
    refine u_iconst (v := (3 : Int32)) hC dX2_begin_64 (by decide) ?_
    refine u_iconst (v := (-1 : Int32)) hC dX2_begin_65 (by decide) ?_
    refine u_wi hC hTb61 dX2_begin_66 hf (fun S66 hf => ?_)
    refine u_aload_n hC dX2_begin_67 0 rfl rfl ?_
    refine u_gr hC lf_X2_97 rfl hTa2 dX2_begin_68 hf (fun b68 hTb68 hf => ?_)
    refine u_iconst (v := (4 : Int32)) hC dX2_begin_71 (by decide) ?_
    refine u_iconst (v := (-1 : Int32)) hC dX2_begin_72 (by decide) ?_
    refine u_wi hC hTb68 dX2_begin_73 hf (fun S73 hf => ?_)
    refine u_aload_n hC dX2_begin_74 0 rfl rfl ?_
    refine u_iconst (v := (1 : Int32)) hC dX2_begin_75 (by decide) ?_
    refine u_pz hC lf_X2_112 rfl rfl rfl hTa2 dX2_begin_76 hf (fun S76 hf => ?_)
    cases hf
    exact hR _ _ dX2_begin_79 trivial
  refine u_sub (lv' := [(0, .ref (X.1 a0)), (1, .ref (X.1 a1)), (2, .ref (X.1 a2)), (3, .int (0 : Int32))]) [1, 2, 3, 0] rfl ?_
  refine iter_ind (P := fun s20 => UW C X s20.2 20 [(0, .ref (X.1 a0)), (1, .ref (X.1 a1)), (2, .ref (X.1 a2)), (3, .int s20.1)] []) (fun s20 o' hb hin hout => ?_) n ((0 : Int32), S17) hr20
  exact wbX2_begin_20 hC n a0 a1 a2 hTa0 hTa1 hTa2 s20 hb hin (fun p e => by rw [hout p e]; exact hk20)
theorem ctX2_begin (l : Launch) (hl : l.stackTraces = false) (G : GT) (ρ : Nat → Nat) (Y : XS) (n : Nat) (S : PS) (a0 : Nat) (a1 : Nat) (a2 : Nat) (hTa0 : Ty Y a0 2) (hTa1 : Ty Y a1 6) (hTa2 : Ty Y a2 5) {o : PS} (hf : fX2_begin Y n S a0 a1 a2 = some o) : Mt l G yX2_begin cX2_begin 4 none 3 ρ Y [.ref (ρ a0), .ref (ρ a1), .ref (ρ a2)] S none o :=
  Mt_of hl (by decide) (Nat.le_of_ble_eq_true rfl) (fun C _ _ hC hR => wX2_begin (X := (ρ, Y, 0, 0)) hC n S a0 a1 a2 hTa0 hTa1 hTa2 hf hR)
-- X2_ask
theorem dX2_ask_0 : decode cX2_ask 0 = .ok (.aload_n 0, 1) := by decide +kernel
theorem dX2_ask_1 : decode cX2_ask 1 = .ok (.iconst 0, 1) := by decide +kernel
theorem dX2_ask_2 : decode cX2_ask 2 = .ok (.putfield 27, 3) := by decide +kernel
theorem dX2_ask_5 : decode cX2_ask 5 = .ok (.aload_n 0, 1) := by decide +kernel
theorem dX2_ask_6 : decode cX2_ask 6 = .ok (.iconst 0, 1) := by decide +kernel
theorem dX2_ask_7 : decode cX2_ask 7 = .ok (.putfield 31, 3) := by decide +kernel
theorem dX2_ask_10 : decode cX2_ask 10 = .ok (.iconst 0, 1) := by decide +kernel
theorem dX2_ask_11 : decode cX2_ask 11 = .ok (.istore 5, 2) := by decide +kernel
theorem dX2_ask_13 : decode cX2_ask 13 = .ok (.iload 5, 2) := by decide +kernel
theorem dX2_ask_15 : decode cX2_ask 15 = .ok (.aload_n 1, 1) := by decide +kernel
theorem dX2_ask_16 : decode cX2_ask 16 = .ok (.getfield 39, 3) := by decide +kernel
theorem dX2_ask_19 : decode cX2_ask 19 = .ok (.getfield 43, 3) := by decide +kernel
theorem dX2_ask_22 : decode cX2_ask 22 = .ok (.if_icmp .ge 165, 3) := by decide +kernel
theorem dX2_ask_25 : decode cX2_ask 25 = .ok (.iload 5, 2) := by decide +kernel
theorem dX2_ask_27 : decode cX2_ask 27 = .ok (.aload_n 0, 1) := by decide +kernel
theorem dX2_ask_28 : decode cX2_ask 28 = .ok (.getfield 15, 3) := by decide +kernel
theorem dX2_ask_31 : decode cX2_ask 31 = .ok (.iload_n 2, 1) := by decide +kernel
theorem dX2_ask_32 : decode cX2_ask 32 = .ok (.iaload, 1) := by decide +kernel
theorem dX2_ask_33 : decode cX2_ask 33 = .ok (.invokestatic 57, 3) := by decide +kernel
theorem dX2_ask_36 : decode cX2_ask 36 = .ok (.ifCond .eq 145, 3) := by decide +kernel
theorem dX2_ask_39 : decode cX2_ask 39 = .ok (.aload_n 1, 1) := by decide +kernel
theorem dX2_ask_40 : decode cX2_ask 40 = .ok (.getfield 64, 3) := by decide +kernel
theorem dX2_ask_43 : decode cX2_ask 43 = .ok (.iload_n 2, 1) := by decide +kernel
theorem dX2_ask_44 : decode cX2_ask 44 = .ok (.bipush 24, 2) := by decide +kernel
theorem dX2_ask_46 : decode cX2_ask 46 = .ok (.imul, 1) := by decide +kernel
theorem dX2_ask_47 : decode cX2_ask 47 = .ok (.iload 5, 2) := by decide +kernel
theorem dX2_ask_49 : decode cX2_ask 49 = .ok (.iadd, 1) := by decide +kernel
theorem dX2_ask_50 : decode cX2_ask 50 = .ok (.iaload, 1) := by decide +kernel
theorem dX2_ask_51 : decode cX2_ask 51 = .ok (.istore 6, 2) := by decide +kernel
theorem dX2_ask_53 : decode cX2_ask 53 = .ok (.aload_n 0, 1) := by decide +kernel
theorem dX2_ask_54 : decode cX2_ask 54 = .ok (.getfield 18, 3) := by decide +kernel
theorem dX2_ask_57 : decode cX2_ask 57 = .ok (.iload_n 3, 1) := by decide +kernel
theorem dX2_ask_58 : decode cX2_ask 58 = .ok (.bipush 24, 2) := by decide +kernel
theorem dX2_ask_60 : decode cX2_ask 60 = .ok (.imul, 1) := by decide +kernel
theorem dX2_ask_61 : decode cX2_ask 61 = .ok (.iload 5, 2) := by decide +kernel
theorem dX2_ask_63 : decode cX2_ask 63 = .ok (.iadd, 1) := by decide +kernel
theorem dX2_ask_64 : decode cX2_ask 64 = .ok (.iaload, 1) := by decide +kernel
theorem dX2_ask_65 : decode cX2_ask 65 = .ok (.iload 6, 2) := by decide +kernel
theorem dX2_ask_67 : decode cX2_ask 67 = .ok (.iadd, 1) := by decide +kernel
theorem dX2_ask_68 : decode cX2_ask 68 = .ok (.istore 7, 2) := by decide +kernel
theorem dX2_ask_70 : decode cX2_ask 70 = .ok (.aload_n 0, 1) := by decide +kernel
theorem dX2_ask_71 : decode cX2_ask 71 = .ok (.getfield 21, 3) := by decide +kernel
theorem dX2_ask_74 : decode cX2_ask 74 = .ok (.iload_n 3, 1) := by decide +kernel
theorem dX2_ask_75 : decode cX2_ask 75 = .ok (.bipush 24, 2) := by decide +kernel
theorem dX2_ask_77 : decode cX2_ask 77 = .ok (.imul, 1) := by decide +kernel
theorem dX2_ask_78 : decode cX2_ask 78 = .ok (.iload 5, 2) := by decide +kernel
theorem dX2_ask_80 : decode cX2_ask 80 = .ok (.iadd, 1) := by decide +kernel
theorem dX2_ask_81 : decode cX2_ask 81 = .ok (.iaload, 1) := by decide +kernel
theorem dX2_ask_82 : decode cX2_ask 82 = .ok (.iload 4, 2) := by decide +kernel
theorem dX2_ask_84 : decode cX2_ask 84 = .ok (.ifCond .eq 7, 3) := by decide +kernel
theorem dX2_ask_87 : decode cX2_ask 87 = .ok (.iconst 0, 1) := by decide +kernel
theorem dX2_ask_88 : decode cX2_ask 88 = .ok (.goto 5, 3) := by decide +kernel
theorem dX2_ask_91 : decode cX2_ask 91 = .ok (.iload 6, 2) := by decide +kernel
theorem dX2_ask_93 : decode cX2_ask 93 = .ok (.invokestatic 67, 3) := by decide +kernel
theorem dX2_ask_96 : decode cX2_ask 96 = .ok (.istore 8, 2) := by decide +kernel
theorem dX2_ask_98 : decode cX2_ask 98 = .ok (.aload_n 0, 1) := by decide +kernel
theorem dX2_ask_99 : decode cX2_ask 99 = .ok (.getfield 18, 3) := by decide +kernel
theorem dX2_ask_102 : decode cX2_ask 102 = .ok (.iload_n 2, 1) := by decide +kernel
theorem dX2_ask_103 : decode cX2_ask 103 = .ok (.bipush 24, 2) := by decide +kernel
theorem dX2_ask_105 : decode cX2_ask 105 = .ok (.imul, 1) := by decide +kernel
theorem dX2_ask_106 : decode cX2_ask 106 = .ok (.iload 5, 2) := by decide +kernel
theorem dX2_ask_108 : decode cX2_ask 108 = .ok (.iadd, 1) := by decide +kernel
theorem dX2_ask_109 : decode cX2_ask 109 = .ok (.iload 7, 2) := by decide +kernel
theorem dX2_ask_111 : decode cX2_ask 111 = .ok (.iastore, 1) := by decide +kernel
theorem dX2_ask_112 : decode cX2_ask 112 = .ok (.aload_n 0, 1) := by decide +kernel
theorem dX2_ask_113 : decode cX2_ask 113 = .ok (.getfield 21, 3) := by decide +kernel
theorem dX2_ask_116 : decode cX2_ask 116 = .ok (.iload_n 2, 1) := by decide +kernel
theorem dX2_ask_117 : decode cX2_ask 117 = .ok (.bipush 24, 2) := by decide +kernel
theorem dX2_ask_119 : decode cX2_ask 119 = .ok (.imul, 1) := by decide +kernel
theorem dX2_ask_120 : decode cX2_ask 120 = .ok (.iload 5, 2) := by decide +kernel
theorem dX2_ask_122 : decode cX2_ask 122 = .ok (.iadd, 1) := by decide +kernel
theorem dX2_ask_123 : decode cX2_ask 123 = .ok (.iload 8, 2) := by decide +kernel
theorem dX2_ask_125 : decode cX2_ask 125 = .ok (.iastore, 1) := by decide +kernel
theorem dX2_ask_126 : decode cX2_ask 126 = .ok (.aload_n 0, 1) := by decide +kernel
theorem dX2_ask_127 : decode cX2_ask 127 = .ok (.dup, 1) := by decide +kernel
theorem dX2_ask_128 : decode cX2_ask 128 = .ok (.getfield 27, 3) := by decide +kernel
theorem dX2_ask_131 : decode cX2_ask 131 = .ok (.aload_n 0, 1) := by decide +kernel
theorem dX2_ask_132 : decode cX2_ask 132 = .ok (.getfield 24, 3) := by decide +kernel
theorem dX2_ask_135 : decode cX2_ask 135 = .ok (.iload 5, 2) := by decide +kernel
theorem dX2_ask_137 : decode cX2_ask 137 = .ok (.iaload, 1) := by decide +kernel
theorem dX2_ask_138 : decode cX2_ask 138 = .ok (.iload 7, 2) := by decide +kernel
theorem dX2_ask_140 : decode cX2_ask 140 = .ok (.if_icmp .lt 7, 3) := by decide +kernel
theorem dX2_ask_143 : decode cX2_ask 143 = .ok (.iconst 1, 1) := by decide +kernel
theorem dX2_ask_144 : decode cX2_ask 144 = .ok (.goto 4, 3) := by decide +kernel
theorem dX2_ask_147 : decode cX2_ask 147 = .ok (.iconst 0, 1) := by decide +kernel
theorem dX2_ask_148 : decode cX2_ask 148 = .ok (.ior, 1) := by decide +kernel
theorem dX2_ask_149 : decode cX2_ask 149 = .ok (.putfield 27, 3) := by decide +kernel
theorem dX2_ask_152 : decode cX2_ask 152 = .ok (.aload_n 0, 1) := by decide +kernel
theorem dX2_ask_153 : decode cX2_ask 153 = .ok (.dup, 1) := by decide +kernel
theorem dX2_ask_154 : decode cX2_ask 154 = .ok (.getfield 31, 3) := by decide +kernel
theorem dX2_ask_157 : decode cX2_ask 157 = .ok (.aload_n 0, 1) := by decide +kernel
theorem dX2_ask_158 : decode cX2_ask 158 = .ok (.getfield 24, 3) := by decide +kernel
theorem dX2_ask_161 : decode cX2_ask 161 = .ok (.iload 5, 2) := by decide +kernel
theorem dX2_ask_163 : decode cX2_ask 163 = .ok (.iaload, 1) := by decide +kernel
theorem dX2_ask_164 : decode cX2_ask 164 = .ok (.iload 8, 2) := by decide +kernel
theorem dX2_ask_166 : decode cX2_ask 166 = .ok (.iadd, 1) := by decide +kernel
theorem dX2_ask_167 : decode cX2_ask 167 = .ok (.iload 7, 2) := by decide +kernel
theorem dX2_ask_169 : decode cX2_ask 169 = .ok (.if_icmp .lt 7, 3) := by decide +kernel
theorem dX2_ask_172 : decode cX2_ask 172 = .ok (.iconst 1, 1) := by decide +kernel
theorem dX2_ask_173 : decode cX2_ask 173 = .ok (.goto 4, 3) := by decide +kernel
theorem dX2_ask_176 : decode cX2_ask 176 = .ok (.iconst 0, 1) := by decide +kernel
theorem dX2_ask_177 : decode cX2_ask 177 = .ok (.ior, 1) := by decide +kernel
theorem dX2_ask_178 : decode cX2_ask 178 = .ok (.putfield 31, 3) := by decide +kernel
theorem dX2_ask_181 : decode cX2_ask 181 = .ok (.iinc 5 1, 3) := by decide +kernel
theorem dX2_ask_184 : decode cX2_ask 184 = .ok (.goto (-171), 3) := by decide +kernel
theorem dX2_ask_187 : decode cX2_ask 187 = .ok (.return_, 1) := by decide +kernel
def jX2_ask_181_13 (Y : XS) (n : Nat) (S : PS) (v0 : Nat) (v1 : Nat) (v2 : Int32) (v3 : Int32) (v4 : Int32) (v5 : Int32) : Option ((Int32 × PS) ⊕ PS) :=
  some (.inl (v5 + (1 : Int32), S))
def jX2_ask_177_13 (Y : XS) (n : Nat) (S : PS) (v0 : Nat) (v1 : Nat) (v2 : Int32) (v3 : Int32) (v4 : Int32) (v5 : Int32) (t0 : Int32) (t1 : Int32) (t2 : Nat) : Option ((Int32 × PS) ⊕ PS) :=
  kpz S t2 6 (t1 ||| t0) (fun S178 => jX2_ask_181_13 Y n S178 v0 v1 v2 v3 v4 v5)
def jX2_ask_148_13 (Y : XS) (n : Nat) (S : PS) (v0 : Nat) (v1 : Nat) (v2 : Int32) (v3 : Int32) (v4 : Int32) (v5 : Int32) (v7 : Int32) (v8 : Int32) (t0 : Int32) (t1 : Int32) (t2 : Nat) : Option ((Int32 × PS) ⊕ PS) :=
  kpz S t2 5 (t1 ||| t0) (fun S149 => kgi S149 v0 6 (fun x154 => kgr S149 v0 4 (fun b158 => kai Y S149 b158 v5 (fun x163 => (if (x163 + v8) < v7 then jX2_ask_177_13 Y n S149 v0 v1 v2 v3 v4 v5 (0 : Int32) x154 v0 else jX2_ask_177_13 Y n S149 v0 v1 v2 v3 v4 v5 (1 : Int32) x154 v0)))))
def jX2_ask_93_13 (Y : XS) (n : Nat) (S : PS) (v0 : Nat) (v1 : Nat) (v2 : Int32) (v3 : Int32) (v4 : Int32) (v5 : Int32) (v7 : Int32) (t0 : Int32) (t1 : Int32) : Option ((Int32 × PS) ⊕ PS) :=
  kgr S v0 2 (fun b99 => kwi Y S b99 ((v2 * (24 : Int32)) + v5) v7 (fun S111 => kgr S111 v0 3 (fun b113 => kwi Y S111 b113 ((v2 * (24 : Int32)) + v5) (imax t1 t0) (fun S125 => kgi S125 v0 5 (fun x128 => kgr S125 v0 4 (fun b132 => kai Y S125 b132 v5 (fun x137 => (if x137 < v7 then jX2_ask_148_13 Y n S125 v0 v1 v2 v3 v4 v5 v7 (imax t1 t0) (0 : Int32) x128 v0 else jX2_ask_148_13 Y n S125 v0 v1 v2 v3 v4 v5 v7 (imax t1 t0) (1 : Int32) x128 v0))))))))
def bX2_ask_13 (Y : XS) (n : Nat) (v0 : Nat) (v1 : Nat) (v2 : Int32) (v3 : Int32) (v4 : Int32) (s13 : (Int32 × PS)) : Option ((Int32 × PS) ⊕ PS) :=
  kgr s13.2 v1 0 (fun b16 => kgi s13.2 b16 2 (fun x19 => (if x19 ≤ s13.1 then some (.inr s13.2) else kgr s13.2 v0 1 (fun b28 => kai Y s13.2 b28 v2 (fun x32 => kc (fX10_isIn Y n s13.2 s13.1 x32) (fun q33 => (if q33 = 0 then jX2_ask_181_13 Y n s13.2 v0 v1 v2 v3 v4 s13.1 else kgr s13.2 v1 4 (fun b40 => kai Y s13.2 b40 ((v2 * (24 : Int32)) + s13.1) (fun x50 => kgr s13.2 v0 2 (fun b54 => kai Y s13.2 b54 ((v3 * (24 : Int32)) + s13.1) (fun x64 => kgr s13.2 v0 3 (fun b71 => kai Y s13.2 b71 ((v3 * (24 : Int32)) + s13.1) (fun x81 => (if v4 = 0 then jX2_ask_93_13 Y n s13.2 v0 v1 v2 v3 v4 s13.1 (x64 + x50) x50 x81 else jX2_ask_93_13 Y n s13.2 v0 v1 v2 v3 v4 s13.1 (x64 + x50) (0 : Int32) x81))))))))))))))
def fX2_ask (Y : XS) (n : Nat) (S : PS) (a0 : Nat) (a1 : Nat) (x2_ : Int32) (x3_ : Int32) (x4_ : Int32) : Option (PS) :=
  kpz S a0 5 (0 : Int32) (fun S2 => kpz S2 a0 6 (0 : Int32) (fun S7 => kc (iter (bX2_ask_13 Y n a0 a1 x2_ x3_ x4_) n ((0 : Int32), S7)) (fun r13 => some r13)))
theorem wjX2_ask_181_13 {C : CT} {X : XT} (hC : CK C RX2 cX2_ask 9 none 2) (n : Nat) (S : PS) (v0 : Nat) (v1 : Nat) (v2 : Int32) (v3 : Int32) (v4 : Int32) (v5 : Int32)  (hTv0 : Ty X.2.1 v0 2) (hTv1 : Ty X.2.1 v1 6) {o : (Int32 × PS) ⊕ PS} (hf : jX2_ask_181_13 X.2.1 n S v0 v1 v2 v3 v4 v5 = some o) (hN : ∀ s', o = .inl s' → UW C X s'.2 13 [(0, .ref (X.1 v0)), (1, .ref (X.1 v1)), (2, .int v2), (3, .int v3), (4, .int v4), (5, .int s'.1)] []) (hO0 : ∀ p', o = .inr p' → UW C X p' 187 [] []) : UW C X S 181 [(0, .ref (X.1 v0)), (1, .ref (X.1 v1)), (2, .int v2), (3, .int v3), (4, .int v4), (5, .int v5)] [] := by
  unfold jX2_ask_181_13 at hf
  refine u_iinc (v := v5 + (1 : Int32)) (lv' := [(5, .int (v5 + (1 : Int32))), (0, .ref (X.1 v0)), (1, .ref (X.1 v1)), (2, .int v2), (3, .int v3), (4, .int v4)]) hC dX2_ask_181 5 rfl rfl (by decide) rfl ?_
  refine u_goto (tgt := 13) hC dX2_ask_184 (by decide) ?_
  refine u_sub (lv' := [(0, .ref (X.1 v0)), (1, .ref (X.1 v1)), (2, .int v2), (3, .int v3), (4, .int v4), (5, .int (v5 + (1 : Int32)))]) [1, 2, 3, 4, 5, 0] rfl ?_
  exact hN _ (Option.some.inj hf).symm
theorem wjX2_ask_177_13 {C : CT} {X : XT} (hC : CK C RX2 cX2_ask 9 none 2) (n : Nat) (S : PS) (v0 : Nat) (v1 : Nat) (v2 : Int32) (v3 : Int32) (v4 : Int32) (v5 : Int32) (t0 : Int32) (t1 : Int32) (t2 : Nat)  (hTv0 : Ty X.2.1 v0 2) (hTv1 : Ty X.2.1 v1 6) (hTt2 : Ty X.2.1 t2 2) {o : (Int32 × PS) ⊕ PS} (hf : jX2_ask_177_13 X.2.1 n S v0 v1 v2 v3 v4 v5 t0 t1 t2 = some o) (hN : ∀ s', o = .inl s' → UW C X s'.2 13 [(0, .ref (X.1 v0)), (1, .ref (X.1 v1)), (2, .int v2), (3, .int v3), (4, .int v4), (5, .int s'.1)] []) (hO0 : ∀ p', o = .inr p' → UW C X p' 187 [] []) : UW C X S 177 [(0, .ref (X.1 v0)), (1, .ref (X.1 v1)), (2, .int v2), (3, .int v3), (4, .int v4), (5, .int v5)] [.int t0, .int t1, .ref (X.1 t2)] := by
  unfold jX2_ask_177_13 at hf
  refine u_ior hC dX2_ask_177 ?_
  refine u_pz hC lf_X2_31 rfl rfl rfl hTt2 dX2_ask_178 hf (fun S178 hf => ?_)
  exact wjX2_ask_181_13 hC n S178 v0 v1 v2 v3 v4 v5  hTv0 hTv1 hf hN hO0
theorem wjX2_ask_148_13 {C : CT} {X : XT} (hC : CK C RX2 cX2_ask 9 none 2) (n : Nat) (S : PS) (v0 : Nat) (v1 : Nat) (v2 : Int32) (v3 : Int32) (v4 : Int32) (v5 : Int32) (v7 : Int32) (v8 : Int32) (t0 : Int32) (t1 : Int32) (t2 : Nat)  (hTv0 : Ty X.2.1 v0 2) (hTv1 : Ty X.2.1 v1 6) (hTt2 : Ty X.2.1 t2 2) {o : (Int32 × PS) ⊕ PS} (hf : jX2_ask_148_13 X.2.1 n S v0 v1 v2 v3 v4 v5 v7 v8 t0 t1 t2 = some o) (hN : ∀ s', o = .inl s' → UW C X s'.2 13 [(0, .ref (X.1 v0)), (1, .ref (X.1 v1)), (2, .int v2), (3, .int v3), (4, .int v4), (5, .int s'.1)] []) (hO0 : ∀ p', o = .inr p' → UW C X p' 187 [] []) : UW C X S 148 [(0, .ref (X.1 v0)), (1, .ref (X.1 v1)), (2, .int v2), (3, .int v3), (4, .int v4), (5, .int v5), (7, .int v7), (8, .int v8)] [.int t0, .int t1, .ref (X.1 t2)] := by
  unfold jX2_ask_148_13 at hf
  refine u_ior hC dX2_ask_148 ?_
  refine u_pz hC lf_X2_27 rfl rfl rfl hTt2 dX2_ask_149 hf (fun S149 hf => ?_)
  refine u_aload_n hC dX2_ask_152 0 rfl rfl ?_
  refine u_dup hC dX2_ask_153 rfl ?_
  refine u_gi hC lf_X2_31 rfl hTv0 dX2_ask_154 hf (fun x154 hf => ?_)
  refine u_aload_n hC dX2_ask_157 0 rfl rfl ?_
  refine u_gr hC lf_X2_24 rfl hTv0 dX2_ask_158 hf (fun b158 hTb158 hf => ?_)
  refine u_iload hC dX2_ask_161 5 rfl ?_
  refine u_ai hC hTb158 dX2_ask_163 hf (fun x163 hf => ?_)
  refine u_iload hC dX2_ask_164 7 rfl ?_
  refine u_iadd hC dX2_ask_166 ?_
  refine u_iload hC dX2_ask_167 6 rfl ?_
  refine u_icmp_lt (tgt := 176) hC dX2_ask_169 (by decide) hf (fun h169 hf => ?_) (fun h169 hf => ?_)
  · refine u_iconst (v := (0 : Int32)) hC dX2_ask_176 (by decide) ?_
    refine u_sub (lv' := [(0, .ref (X.1 v0)), (1, .ref (X.1 v1)), (2, .int v2), (3, .int v3), (4, .int v4), (5, .int v5)]) [0, 1, 2, 3, 4, 5] rfl ?_
    exact wjX2_ask_177_13 hC n S149 v0 v1 v2 v3 v4 v5 (0 : Int32) x154 v0  hTv0 hTv1 hTv0 hf hN hO0
  · refine u_iconst (v := (1 : Int32)) hC dX2_ask_172 (by decide) ?_
    refine u_goto (tgt := 177) hC dX2_ask_173 (by decide) ?_
    refine u_sub (lv' := [(0, .ref (X.1 v0)), (1, .ref (X.1 v1)), (2, .int v2), (3, .int v3), (4, .int v4), (5, .int v5)]) [0, 1, 2, 3, 4, 5] rfl ?_
    exact wjX2_ask_177_13 hC n S149 v0 v1 v2 v3 v4 v5 (1 : Int32) x154 v0  hTv0 hTv1 hTv0 hf hN hO0
theorem wjX2_ask_93_13 {C : CT} {X : XT} (hC : CK C RX2 cX2_ask 9 none 2) (n : Nat) (S : PS) (v0 : Nat) (v1 : Nat) (v2 : Int32) (v3 : Int32) (v4 : Int32) (v5 : Int32) (v7 : Int32) (t0 : Int32) (t1 : Int32)  (hTv0 : Ty X.2.1 v0 2) (hTv1 : Ty X.2.1 v1 6) {o : (Int32 × PS) ⊕ PS} (hf : jX2_ask_93_13 X.2.1 n S v0 v1 v2 v3 v4 v5 v7 t0 t1 = some o) (hN : ∀ s', o = .inl s' → UW C X s'.2 13 [(0, .ref (X.1 v0)), (1, .ref (X.1 v1)), (2, .int v2), (3, .int v3), (4, .int v4), (5, .int s'.1)] []) (hO0 : ∀ p', o = .inr p' → UW C X p' 187 [] []) : UW C X S 93 [(0, .ref (X.1 v0)), (1, .ref (X.1 v1)), (2, .int v2), (3, .int v3), (4, .int v4), (5, .int v5), (7, .int v7)] [.int t0, .int t1] := by
  unfold jX2_ask_93_13 at hf
  refine u_mmax hC (tb_5 126 rfl rfl) (by decide) (Nat.le_of_ble_eq_true rfl) dX2_ask_93 ?_
  refine u_istore (lv' := [(8, .int (imax t1 t0)), (0, .ref (X.1 v0)), (1, .ref (X.1 v1)), (2, .int v2), (3, .int v3), (4, .int v4), (5, .int v5), (7, .int v7)]) hC dX2_ask_96 (by decide) rfl ?_
  refine u_aload_n hC dX2_ask_98 1 rfl rfl ?_
  refine u_gr hC lf_X2_18 rfl hTv0 dX2_ask_99 hf (fun b99 hTb99 hf => ?_)
  refine u_iload_n hC dX2_ask_102 3 rfl rfl ?_
  refine u_bipush (v := (24 : Int32)) hC dX2_ask_103 (by decide) ?_
  refine u_imul hC dX2_ask_105 ?_
  refine u_iload hC dX2_ask_106 6 rfl ?_
  refine u_iadd hC dX2_ask_108 ?_
  refine u_iload hC dX2_ask_109 7 rfl ?_
  refine u_wi hC hTb99 dX2_ask_111 hf (fun S111 hf => ?_)
  refine u_aload_n hC dX2_ask_112 1 rfl rfl ?_
  refine u_gr hC lf_X2_21 rfl hTv0 dX2_ask_113 hf (fun b113 hTb113 hf => ?_)
  refine u_iload_n hC dX2_ask_116 3 rfl rfl ?_
  refine u_bipush (v := (24 : Int32)) hC dX2_ask_117 (by decide) ?_
  refine u_imul hC dX2_ask_119 ?_
  refine u_iload hC dX2_ask_120 6 rfl ?_
  refine u_iadd hC dX2_ask_122 ?_
  refine u_iload hC dX2_ask_123 0 rfl ?_
  refine u_wi hC hTb113 dX2_ask_125 hf (fun S125 hf => ?_)
  refine u_aload_n hC dX2_ask_126 1 rfl rfl ?_
  refine u_dup hC dX2_ask_127 rfl ?_
  refine u_gi hC lf_X2_27 rfl hTv0 dX2_ask_128 hf (fun x128 hf => ?_)
  refine u_aload_n hC dX2_ask_131 1 rfl rfl ?_
  refine u_gr hC lf_X2_24 rfl hTv0 dX2_ask_132 hf (fun b132 hTb132 hf => ?_)
  refine u_iload hC dX2_ask_135 6 rfl ?_
  refine u_ai hC hTb132 dX2_ask_137 hf (fun x137 hf => ?_)
  refine u_iload hC dX2_ask_138 7 rfl ?_
  refine u_icmp_lt (tgt := 147) hC dX2_ask_140 (by decide) hf (fun h140 hf => ?_) (fun h140 hf => ?_)
  · refine u_iconst (v := (0 : Int32)) hC dX2_ask_147 (by decide) ?_
    refine u_sub (lv' := [(0, .ref (X.1 v0)), (1, .ref (X.1 v1)), (2, .int v2), (3, .int v3), (4, .int v4), (5, .int v5), (7, .int v7), (8, .int (imax t1 t0))]) [1, 2, 3, 4, 5, 6, 7, 0] rfl ?_
    exact wjX2_ask_148_13 hC n S125 v0 v1 v2 v3 v4 v5 v7 (imax t1 t0) (0 : Int32) x128 v0  hTv0 hTv1 hTv0 hf hN hO0
  · refine u_iconst (v := (1 : Int32)) hC dX2_ask_143 (by decide) ?_
    refine u_goto (tgt := 148) hC dX2_ask_144 (by decide) ?_
    refine u_sub (lv' := [(0, .ref (X.1 v0)), (1, .ref (X.1 v1)), (2, .int v2), (3, .int v3), (4, .int v4), (5, .int v5), (7, .int v7), (8, .int (imax t1 t0))]) [1, 2, 3, 4, 5, 6, 7, 0] rfl ?_
    exact wjX2_ask_148_13 hC n S125 v0 v1 v2 v3 v4 v5 v7 (imax t1 t0) (1 : Int32) x128 v0  hTv0 hTv1 hTv0 hf hN hO0
theorem wbX2_ask_13 {C : CT} {X : XT} (hC : CK C RX2 cX2_ask 9 none 2) (n : Nat) (v0 : Nat) (v1 : Nat) (v2 : Int32) (v3 : Int32) (v4 : Int32) (hTv0 : Ty X.2.1 v0 2) (hTv1 : Ty X.2.1 v1 6) (s13 : (Int32 × PS)) {o : (Int32 × PS) ⊕ PS} (hf : bX2_ask_13 X.2.1 n v0 v1 v2 v3 v4 s13 = some o) (hN : ∀ s', o = .inl s' → UW C X s'.2 13 [(0, .ref (X.1 v0)), (1, .ref (X.1 v1)), (2, .int v2), (3, .int v3), (4, .int v4), (5, .int s'.1)] []) (hO0 : ∀ p', o = .inr p' → UW C X p' 187 [] []) : UW C X s13.2 13 [(0, .ref (X.1 v0)), (1, .ref (X.1 v1)), (2, .int v2), (3, .int v3), (4, .int v4), (5, .int s13.1)] [] := by
  unfold bX2_ask_13 at hf
  refine u_iload hC dX2_ask_13 5 rfl ?_
  refine u_aload_n hC dX2_ask_15 1 rfl rfl ?_
  refine u_gr hC lf_X2_39 rfl hTv1 dX2_ask_16 hf (fun b16 hTb16 hf => ?_)
  refine u_gi hC lf_X2_43 rfl hTb16 dX2_ask_19 hf (fun x19 hf => ?_)
  refine u_icmp_ge (tgt := 187) hC dX2_ask_22 (by decide) hf (fun h22 hf => ?_) (fun h22 hf => ?_)
  · refine u_sub (lv' := []) [] rfl ?_
    exact hO0 _ (Option.some.inj hf).symm
  · refine u_iload hC dX2_ask_25 5 rfl ?_
    refine u_aload_n hC dX2_ask_27 0 rfl rfl ?_
    refine u_gr hC lf_X2_15 rfl hTv0 dX2_ask_28 hf (fun b28 hTb28 hf => ?_)
    refine u_iload_n hC dX2_ask_31 2 rfl rfl ?_
    refine u_ai hC hTb28 dX2_ask_32 hf (fun x32 hf => ?_)
    obtain ⟨q33, hq33, hf⟩ := kc_some hf
    refine u_callSN hC (ctX10_isIn (cL C) hC.tr (cG C) X.1 X.2.1 n s13.2 s13.1 x32  hq33) lk_X2_57 ls_X2_57 (by decide) (by decide) rfl rfl (Nat.le_of_ble_eq_true rfl) dX2_ask_33 ?_
    refine u_if_eq (tgt := 181) hC dX2_ask_36 (by decide) hf (fun h36 hf => ?_) (fun h36 hf => ?_)
    · exact wjX2_ask_181_13 hC n s13.2 v0 v1 v2 v3 v4 s13.1  hTv0 hTv1 hf hN hO0
    · refine u_aload_n hC dX2_ask_39 1 rfl rfl ?_
      refine u_gr hC lf_X2_64 rfl hTv1 dX2_ask_40 hf (fun b40 hTb40 hf => ?_)
      refine u_iload_n hC dX2_ask_43 2 rfl rfl ?_
      refine u_bipush (v := (24 : Int32)) hC dX2_ask_44 (by decide) ?_
      refine u_imul hC dX2_ask_46 ?_
      refine u_iload hC dX2_ask_47 5 rfl ?_
      refine u_iadd hC dX2_ask_49 ?_
      refine u_ai hC hTb40 dX2_ask_50 hf (fun x50 hf => ?_)
      refine u_istore (lv' := [(6, .int x50), (0, .ref (X.1 v0)), (1, .ref (X.1 v1)), (2, .int v2), (3, .int v3), (4, .int v4), (5, .int s13.1)]) hC dX2_ask_51 (by decide) rfl ?_
      refine u_aload_n hC dX2_ask_53 1 rfl rfl ?_
      refine u_gr hC lf_X2_18 rfl hTv0 dX2_ask_54 hf (fun b54 hTb54 hf => ?_)
      refine u_iload_n hC dX2_ask_57 4 rfl rfl ?_
      refine u_bipush (v := (24 : Int32)) hC dX2_ask_58 (by decide) ?_
      refine u_imul hC dX2_ask_60 ?_
      refine u_iload hC dX2_ask_61 6 rfl ?_
      refine u_iadd hC dX2_ask_63 ?_
      refine u_ai hC hTb54 dX2_ask_64 hf (fun x64 hf => ?_)
      refine u_iload hC dX2_ask_65 0 rfl ?_
      refine u_iadd hC dX2_ask_67 ?_
      refine u_istore (lv' := [(7, .int (x64 + x50)), (6, .int x50), (0, .ref (X.1 v0)), (1, .ref (X.1 v1)), (2, .int v2), (3, .int v3), (4, .int v4), (5, .int s13.1)]) hC dX2_ask_68 (by decide) rfl ?_
      refine u_aload_n hC dX2_ask_70 2 rfl rfl ?_
      refine u_gr hC lf_X2_21 rfl hTv0 dX2_ask_71 hf (fun b71 hTb71 hf => ?_)
      refine u_iload_n hC dX2_ask_74 5 rfl rfl ?_
      refine u_bipush (v := (24 : Int32)) hC dX2_ask_75 (by decide) ?_
      refine u_imul hC dX2_ask_77 ?_
      refine u_iload hC dX2_ask_78 7 rfl ?_
      refine u_iadd hC dX2_ask_80 ?_
      refine u_ai hC hTb71 dX2_ask_81 hf (fun x81 hf => ?_)
      refine u_iload hC dX2_ask_82 6 rfl ?_
      refine u_if_eq (tgt := 91) hC dX2_ask_84 (by decide) hf (fun h84 hf => ?_) (fun h84 hf => ?_)
      · refine u_iload hC dX2_ask_91 1 rfl ?_
        refine u_sub (lv' := [(0, .ref (X.1 v0)), (1, .ref (X.1 v1)), (2, .int v2), (3, .int v3), (4, .int v4), (5, .int s13.1), (7, .int (x64 + x50))]) [2, 3, 4, 5, 6, 7, 0] rfl ?_
        exact wjX2_ask_93_13 hC n s13.2 v0 v1 v2 v3 v4 s13.1 (x64 + x50) x50 x81  hTv0 hTv1 hf hN hO0
      · refine u_iconst (v := (0 : Int32)) hC dX2_ask_87 (by decide) ?_
        refine u_goto (tgt := 93) hC dX2_ask_88 (by decide) ?_
        refine u_sub (lv' := [(0, .ref (X.1 v0)), (1, .ref (X.1 v1)), (2, .int v2), (3, .int v3), (4, .int v4), (5, .int s13.1), (7, .int (x64 + x50))]) [2, 3, 4, 5, 6, 7, 0] rfl ?_
        exact wjX2_ask_93_13 hC n s13.2 v0 v1 v2 v3 v4 s13.1 (x64 + x50) (0 : Int32) x81  hTv0 hTv1 hf hN hO0
theorem wX2_ask {C : CT} {X : XT} (hC : CK C RX2 cX2_ask 9 none 2) (n : Nat) (S : PS) (a0 : Nat) (a1 : Nat) (x2_ : Int32) (x3_ : Int32) (x4_ : Int32) (hTa0 : Ty X.2.1 a0 2) (hTa1 : Ty X.2.1 a1 6) {o : PS} (hf : fX2_ask X.2.1 n S a0 a1 x2_ x3_ x4_ = some o) (hR : Rt C X cX2_ask none none o) : UW C X S 0 [(0, .ref (X.1 a0)), (1, .ref (X.1 a1)), (2, .int x2_), (3, .int x3_), (4, .int x4_)] [] := by
  unfold fX2_ask at hf
  refine u_aload_n hC dX2_ask_0 0 rfl rfl ?_
  refine u_iconst (v := (0 : Int32)) hC dX2_ask_1 (by decide) ?_
  refine u_pz hC lf_X2_27 rfl rfl rfl hTa0 dX2_ask_2 hf (fun S2 hf => ?_)
  refine u_aload_n hC dX2_ask_5 0 rfl rfl ?_
  refine u_iconst (v := (0 : Int32)) hC dX2_ask_6 (by decide) ?_
  refine u_pz hC lf_X2_31 rfl rfl rfl hTa0 dX2_ask_7 hf (fun S7 hf => ?_)
  refine u_iconst (v := (0 : Int32)) hC dX2_ask_10 (by decide) ?_
  refine u_istore (lv' := [(5, .int (0 : Int32)), (0, .ref (X.1 a0)), (1, .ref (X.1 a1)), (2, .int x2_), (3, .int x3_), (4, .int x4_)]) hC dX2_ask_11 (by decide) rfl ?_
  obtain ⟨r13, hr13, hf⟩ := kc_some hf
  have hk13 : UW C X r13 187 [] [] := by
    cases hf
    exact hR _ _ dX2_ask_187 trivial
  refine u_sub (lv' := [(0, .ref (X.1 a0)), (1, .ref (X.1 a1)), (2, .int x2_), (3, .int x3_), (4, .int x4_), (5, .int (0 : Int32))]) [1, 2, 3, 4, 5, 0] rfl ?_
  refine iter_ind (P := fun s13 => UW C X s13.2 13 [(0, .ref (X.1 a0)), (1, .ref (X.1 a1)), (2, .int x2_), (3, .int x3_), (4, .int x4_), (5, .int s13.1)] []) (fun s13 o' hb hin hout => ?_) n ((0 : Int32), S7) hr13
  exact wbX2_ask_13 hC n a0 a1 x2_ x3_ x4_ hTa0 hTa1 s13 hb hin (fun p e => by rw [hout p e]; exact hk13)
theorem ctX2_ask (l : Launch) (hl : l.stackTraces = false) (G : GT) (ρ : Nat → Nat) (Y : XS) (n : Nat) (S : PS) (a0 : Nat) (a1 : Nat) (x2_ : Int32) (x3_ : Int32) (x4_ : Int32) (hTa0 : Ty Y a0 2) (hTa1 : Ty Y a1 6) {o : PS} (hf : fX2_ask Y n S a0 a1 x2_ x3_ x4_ = some o) : Mt l G yX2_ask cX2_ask 9 none 2 ρ Y [.ref (ρ a0), .ref (ρ a1), .int x2_, .int x3_, .int x4_] S none o :=
  Mt_of hl (by decide) (Nat.le_of_ble_eq_true rfl) (fun C _ _ hC hR => wX2_ask (X := (ρ, Y, 0, 0)) hC n S a0 a1 x2_ x3_ x4_ hTa0 hTa1 hf hR)
-- X2_note
theorem dX2_note_0 : decode cX2_note 0 = .ok (.aload_n 1, 1) := by decide +kernel
theorem dX2_note_1 : decode cX2_note 1 = .ok (.iconst 0, 1) := by decide +kernel
theorem dX2_note_2 : decode cX2_note 2 = .ok (.dup2, 1) := by decide +kernel
theorem dX2_note_3 : decode cX2_note 3 = .ok (.iaload, 1) := by decide +kernel
theorem dX2_note_4 : decode cX2_note 4 = .ok (.iconst 1, 1) := by decide +kernel
theorem dX2_note_5 : decode cX2_note 5 = .ok (.iadd, 1) := by decide +kernel
theorem dX2_note_6 : decode cX2_note 6 = .ok (.iastore, 1) := by decide +kernel
theorem dX2_note_7 : decode cX2_note 7 = .ok (.aload_n 0, 1) := by decide +kernel
theorem dX2_note_8 : decode cX2_note 8 = .ok (.getfield 27, 3) := by decide +kernel
theorem dX2_note_11 : decode cX2_note 11 = .ok (.ifCond .ne 27, 3) := by decide +kernel
theorem dX2_note_14 : decode cX2_note 14 = .ok (.aload_n 1, 1) := by decide +kernel
theorem dX2_note_15 : decode cX2_note 15 = .ok (.iconst 1, 1) := by decide +kernel
theorem dX2_note_16 : decode cX2_note 16 = .ok (.dup2, 1) := by decide +kernel
theorem dX2_note_17 : decode cX2_note 17 = .ok (.iaload, 1) := by decide +kernel
theorem dX2_note_18 : decode cX2_note 18 = .ok (.iconst 1, 1) := by decide +kernel
theorem dX2_note_19 : decode cX2_note 19 = .ok (.iadd, 1) := by decide +kernel
theorem dX2_note_20 : decode cX2_note 20 = .ok (.iastore, 1) := by decide +kernel
theorem dX2_note_21 : decode cX2_note 21 = .ok (.aload_n 1, 1) := by decide +kernel
theorem dX2_note_22 : decode cX2_note 22 = .ok (.iconst 3, 1) := by decide +kernel
theorem dX2_note_23 : decode cX2_note 23 = .ok (.aload_n 1, 1) := by decide +kernel
theorem dX2_note_24 : decode cX2_note 24 = .ok (.iconst 3, 1) := by decide +kernel
theorem dX2_note_25 : decode cX2_note 25 = .ok (.iaload, 1) := by decide +kernel
theorem dX2_note_26 : decode cX2_note 26 = .ok (.iconst (-1), 1) := by decide +kernel
theorem dX2_note_27 : decode cX2_note 27 = .ok (.if_icmp .ne 7, 3) := by decide +kernel
theorem dX2_note_30 : decode cX2_note 30 = .ok (.iload_n 2, 1) := by decide +kernel
theorem dX2_note_31 : decode cX2_note 31 = .ok (.goto 6, 3) := by decide +kernel
theorem dX2_note_34 : decode cX2_note 34 = .ok (.aload_n 1, 1) := by decide +kernel
theorem dX2_note_35 : decode cX2_note 35 = .ok (.iconst 3, 1) := by decide +kernel
theorem dX2_note_36 : decode cX2_note 36 = .ok (.iaload, 1) := by decide +kernel
theorem dX2_note_37 : decode cX2_note 37 = .ok (.iastore, 1) := by decide +kernel
theorem dX2_note_38 : decode cX2_note 38 = .ok (.aload_n 0, 1) := by decide +kernel
theorem dX2_note_39 : decode cX2_note 39 = .ok (.getfield 31, 3) := by decide +kernel
theorem dX2_note_42 : decode cX2_note 42 = .ok (.ifCond .ne 27, 3) := by decide +kernel
theorem dX2_note_45 : decode cX2_note 45 = .ok (.aload_n 1, 1) := by decide +kernel
theorem dX2_note_46 : decode cX2_note 46 = .ok (.iconst 2, 1) := by decide +kernel
theorem dX2_note_47 : decode cX2_note 47 = .ok (.dup2, 1) := by decide +kernel
theorem dX2_note_48 : decode cX2_note 48 = .ok (.iaload, 1) := by decide +kernel
theorem dX2_note_49 : decode cX2_note 49 = .ok (.iconst 1, 1) := by decide +kernel
theorem dX2_note_50 : decode cX2_note 50 = .ok (.iadd, 1) := by decide +kernel
theorem dX2_note_51 : decode cX2_note 51 = .ok (.iastore, 1) := by decide +kernel
theorem dX2_note_52 : decode cX2_note 52 = .ok (.aload_n 1, 1) := by decide +kernel
theorem dX2_note_53 : decode cX2_note 53 = .ok (.iconst 4, 1) := by decide +kernel
theorem dX2_note_54 : decode cX2_note 54 = .ok (.aload_n 1, 1) := by decide +kernel
theorem dX2_note_55 : decode cX2_note 55 = .ok (.iconst 4, 1) := by decide +kernel
theorem dX2_note_56 : decode cX2_note 56 = .ok (.iaload, 1) := by decide +kernel
theorem dX2_note_57 : decode cX2_note 57 = .ok (.iconst (-1), 1) := by decide +kernel
theorem dX2_note_58 : decode cX2_note 58 = .ok (.if_icmp .ne 7, 3) := by decide +kernel
theorem dX2_note_61 : decode cX2_note 61 = .ok (.iload_n 2, 1) := by decide +kernel
theorem dX2_note_62 : decode cX2_note 62 = .ok (.goto 6, 3) := by decide +kernel
theorem dX2_note_65 : decode cX2_note 65 = .ok (.aload_n 1, 1) := by decide +kernel
theorem dX2_note_66 : decode cX2_note 66 = .ok (.iconst 4, 1) := by decide +kernel
theorem dX2_note_67 : decode cX2_note 67 = .ok (.iaload, 1) := by decide +kernel
theorem dX2_note_68 : decode cX2_note 68 = .ok (.iastore, 1) := by decide +kernel
theorem dX2_note_69 : decode cX2_note 69 = .ok (.return_, 1) := by decide +kernel
def jX2_note_69 (Y : XS) (n : Nat) (S : PS)  : Option (PS) :=
  some S
def jX2_note_68 (Y : XS) (n : Nat) (S : PS) (t0 : Int32) (t1 : Int32) (t2 : Nat) : Option (PS) :=
  kwi Y S t2 t1 t0 (fun S68 => jX2_note_69 Y n S68 )
def jX2_note_38 (Y : XS) (n : Nat) (S : PS) (v0 : Nat) (v1 : Nat) (v2 : Int32) : Option (PS) :=
  kgi S v0 6 (fun x39 => (if x39 = 0 then kai Y S v1 (2 : Int32) (fun x48 => kwi Y S v1 (2 : Int32) (x48 + (1 : Int32)) (fun S51 => kai Y S51 v1 (4 : Int32) (fun x56 => (if x56 = (-1 : Int32) then jX2_note_68 Y n S51 v2 (4 : Int32) v1 else kai Y S51 v1 (4 : Int32) (fun x67 => jX2_note_68 Y n S51 x67 (4 : Int32) v1))))) else jX2_note_69 Y n S ))
def jX2_note_37 (Y : XS) (n : Nat) (S : PS) (v0 : Nat) (v1 : Nat) (v2 : Int32) (t0 : Int32) (t1 : Int32) (t2 : Nat) : Option (PS) :=
  kwi Y S t2 t1 t0 (fun S37 => jX2_note_38 Y n S37 v0 v1 v2)
def fX2_note (Y : XS) (n : Nat) (S : PS) (a0 : Nat) (a1 : Nat) (x2_ : Int32) : Option (PS) :=
  kai Y S a1 (0 : Int32) (fun x3 => kwi Y S a1 (0 : Int32) (x3 + (1 : Int32)) (fun S6 => kgi S6 a0 5 (fun x8 => (if x8 = 0 then kai Y S6 a1 (1 : Int32) (fun x17 => kwi Y S6 a1 (1 : Int32) (x17 + (1 : Int32)) (fun S20 => kai Y S20 a1 (3 : Int32) (fun x25 => (if x25 = (-1 : Int32) then jX2_note_37 Y n S20 a0 a1 x2_ x2_ (3 : Int32) a1 else kai Y S20 a1 (3 : Int32) (fun x36 => jX2_note_37 Y n S20 a0 a1 x2_ x36 (3 : Int32) a1))))) else jX2_note_38 Y n S6 a0 a1 x2_))))
theorem wjX2_note_69 {C : CT} {X : XT} (hC : CK C RX2 cX2_note 3 none 1) (n : Nat) (S : PS)    {o : PS} (hf : jX2_note_69 X.2.1 n S  = some o) (hR : Rt C X cX2_note none none o) : UW C X S 69 [] [] := by
  unfold jX2_note_69 at hf
  cases hf
  exact hR _ _ dX2_note_69 trivial
theorem wjX2_note_68 {C : CT} {X : XT} (hC : CK C RX2 cX2_note 3 none 1) (n : Nat) (S : PS) (t0 : Int32) (t1 : Int32) (t2 : Nat)  (hTt2 : Ty X.2.1 t2 12) {o : PS} (hf : jX2_note_68 X.2.1 n S t0 t1 t2 = some o) (hR : Rt C X cX2_note none none o) : UW C X S 68 [] [.int t0, .int t1, .ref (X.1 t2)] := by
  unfold jX2_note_68 at hf
  refine u_wi hC hTt2 dX2_note_68 hf (fun S68 hf => ?_)
  exact wjX2_note_69 hC n S68    hf hR
theorem wjX2_note_38 {C : CT} {X : XT} (hC : CK C RX2 cX2_note 3 none 1) (n : Nat) (S : PS) (v0 : Nat) (v1 : Nat) (v2 : Int32)  (hTv0 : Ty X.2.1 v0 2) (hTv1 : Ty X.2.1 v1 12) {o : PS} (hf : jX2_note_38 X.2.1 n S v0 v1 v2 = some o) (hR : Rt C X cX2_note none none o) : UW C X S 38 [(0, .ref (X.1 v0)), (1, .ref (X.1 v1)), (2, .int v2)] [] := by
  unfold jX2_note_38 at hf
  refine u_aload_n hC dX2_note_38 0 rfl rfl ?_
  refine u_gi hC lf_X2_31 rfl hTv0 dX2_note_39 hf (fun x39 hf => ?_)
  refine u_if_ne (tgt := 69) hC dX2_note_42 (by decide) hf (fun h42 hf => ?_) (fun h42 hf => ?_)
  · refine u_sub (lv' := []) [] rfl ?_
    exact wjX2_note_69 hC n S    hf hR
  · refine u_aload_n hC dX2_note_45 1 rfl rfl ?_
    refine u_iconst (v := (2 : Int32)) hC dX2_note_46 (by decide) ?_
    refine u_dup2 hC dX2_note_47 rfl rfl ?_
    refine u_ai hC hTv1 dX2_note_48 hf (fun x48 hf => ?_)
    refine u_iconst (v := (1 : Int32)) hC dX2_note_49 (by decide) ?_
    refine u_iadd hC dX2_note_50 ?_
    refine u_wi hC hTv1 dX2_note_51 hf (fun S51 hf => ?_)
    refine u_aload_n hC dX2_note_52 1 rfl rfl ?_
    refine u_iconst (v := (4 : Int32)) hC dX2_note_53 (by decide) ?_
    refine u_aload_n hC dX2_note_54 1 rfl rfl ?_
    refine u_iconst (v := (4 : Int32)) hC dX2_note_55 (by decide) ?_
    refine u_ai hC hTv1 dX2_note_56 hf (fun x56 hf => ?_)
    refine u_iconst (v := (-1 : Int32)) hC dX2_note_57 (by decide) ?_
    refine u_icmp_ne (tgt := 65) hC dX2_note_58 (by decide) hf (fun h58 hf => ?_) (fun h58 hf => ?_)
    · refine u_aload_n hC dX2_note_65 1 rfl rfl ?_
      refine u_iconst (v := (4 : Int32)) hC dX2_note_66 (by decide) ?_
      refine u_ai hC hTv1 dX2_note_67 hf (fun x67 hf => ?_)
      refine u_sub (lv' := []) [] rfl ?_
      exact wjX2_note_68 hC n S51 x67 (4 : Int32) v1  hTv1 hf hR
    · refine u_iload_n hC dX2_note_61 2 rfl rfl ?_
      refine u_goto (tgt := 68) hC dX2_note_62 (by decide) ?_
      refine u_sub (lv' := []) [] rfl ?_
      exact wjX2_note_68 hC n S51 v2 (4 : Int32) v1  hTv1 hf hR
theorem wjX2_note_37 {C : CT} {X : XT} (hC : CK C RX2 cX2_note 3 none 1) (n : Nat) (S : PS) (v0 : Nat) (v1 : Nat) (v2 : Int32) (t0 : Int32) (t1 : Int32) (t2 : Nat)  (hTv0 : Ty X.2.1 v0 2) (hTv1 : Ty X.2.1 v1 12) (hTt2 : Ty X.2.1 t2 12) {o : PS} (hf : jX2_note_37 X.2.1 n S v0 v1 v2 t0 t1 t2 = some o) (hR : Rt C X cX2_note none none o) : UW C X S 37 [(0, .ref (X.1 v0)), (1, .ref (X.1 v1)), (2, .int v2)] [.int t0, .int t1, .ref (X.1 t2)] := by
  unfold jX2_note_37 at hf
  refine u_wi hC hTt2 dX2_note_37 hf (fun S37 hf => ?_)
  exact wjX2_note_38 hC n S37 v0 v1 v2  hTv0 hTv1 hf hR
theorem wX2_note {C : CT} {X : XT} (hC : CK C RX2 cX2_note 3 none 1) (n : Nat) (S : PS) (a0 : Nat) (a1 : Nat) (x2_ : Int32) (hTa0 : Ty X.2.1 a0 2) (hTa1 : Ty X.2.1 a1 12) {o : PS} (hf : fX2_note X.2.1 n S a0 a1 x2_ = some o) (hR : Rt C X cX2_note none none o) : UW C X S 0 [(0, .ref (X.1 a0)), (1, .ref (X.1 a1)), (2, .int x2_)] [] := by
  unfold fX2_note at hf
  refine u_aload_n hC dX2_note_0 1 rfl rfl ?_
  refine u_iconst (v := (0 : Int32)) hC dX2_note_1 (by decide) ?_
  refine u_dup2 hC dX2_note_2 rfl rfl ?_
  refine u_ai hC hTa1 dX2_note_3 hf (fun x3 hf => ?_)
  refine u_iconst (v := (1 : Int32)) hC dX2_note_4 (by decide) ?_
  refine u_iadd hC dX2_note_5 ?_
  refine u_wi hC hTa1 dX2_note_6 hf (fun S6 hf => ?_)
  refine u_aload_n hC dX2_note_7 0 rfl rfl ?_
  refine u_gi hC lf_X2_27 rfl hTa0 dX2_note_8 hf (fun x8 hf => ?_)
  refine u_if_ne (tgt := 38) hC dX2_note_11 (by decide) hf (fun h11 hf => ?_) (fun h11 hf => ?_)
  · exact wjX2_note_38 hC n S6 a0 a1 x2_  hTa0 hTa1 hf hR
  · refine u_aload_n hC dX2_note_14 1 rfl rfl ?_
    refine u_iconst (v := (1 : Int32)) hC dX2_note_15 (by decide) ?_
    refine u_dup2 hC dX2_note_16 rfl rfl ?_
    refine u_ai hC hTa1 dX2_note_17 hf (fun x17 hf => ?_)
    refine u_iconst (v := (1 : Int32)) hC dX2_note_18 (by decide) ?_
    refine u_iadd hC dX2_note_19 ?_
    refine u_wi hC hTa1 dX2_note_20 hf (fun S20 hf => ?_)
    refine u_aload_n hC dX2_note_21 1 rfl rfl ?_
    refine u_iconst (v := (3 : Int32)) hC dX2_note_22 (by decide) ?_
    refine u_aload_n hC dX2_note_23 1 rfl rfl ?_
    refine u_iconst (v := (3 : Int32)) hC dX2_note_24 (by decide) ?_
    refine u_ai hC hTa1 dX2_note_25 hf (fun x25 hf => ?_)
    refine u_iconst (v := (-1 : Int32)) hC dX2_note_26 (by decide) ?_
    refine u_icmp_ne (tgt := 34) hC dX2_note_27 (by decide) hf (fun h27 hf => ?_) (fun h27 hf => ?_)
    · refine u_aload_n hC dX2_note_34 1 rfl rfl ?_
      refine u_iconst (v := (3 : Int32)) hC dX2_note_35 (by decide) ?_
      refine u_ai hC hTa1 dX2_note_36 hf (fun x36 hf => ?_)
      exact wjX2_note_37 hC n S20 a0 a1 x2_ x36 (3 : Int32) a1  hTa0 hTa1 hTa1 hf hR
    · refine u_iload_n hC dX2_note_30 2 rfl rfl ?_
      refine u_goto (tgt := 37) hC dX2_note_31 (by decide) ?_
      exact wjX2_note_37 hC n S20 a0 a1 x2_ x2_ (3 : Int32) a1  hTa0 hTa1 hTa1 hf hR
theorem ctX2_note (l : Launch) (hl : l.stackTraces = false) (G : GT) (ρ : Nat → Nat) (Y : XS) (n : Nat) (S : PS) (a0 : Nat) (a1 : Nat) (x2_ : Int32) (hTa0 : Ty Y a0 2) (hTa1 : Ty Y a1 12) {o : PS} (hf : fX2_note Y n S a0 a1 x2_ = some o) : Mt l G yX2_note cX2_note 3 none 1 ρ Y [.ref (ρ a0), .ref (ρ a1), .int x2_] S none o :=
  Mt_of hl (by decide) (Nat.le_of_ble_eq_true rfl) (fun C _ _ hC hR => wX2_note (X := (ρ, Y, 0, 0)) hC n S a0 a1 x2_ hTa0 hTa1 hf hR)
-- X2_lookAt
theorem dX2_lookAt_0 : decode cX2_lookAt 0 = .ok (.aload_n 0, 1) := by decide +kernel
theorem dX2_lookAt_1 : decode cX2_lookAt 1 = .ok (.aload_n 1, 1) := by decide +kernel
theorem dX2_lookAt_2 : decode cX2_lookAt 2 = .ok (.aload_n 2, 1) := by decide +kernel
theorem dX2_lookAt_3 : decode cX2_lookAt 3 = .ok (.invokevirtual 72, 3) := by decide +kernel
theorem dX2_lookAt_6 : decode cX2_lookAt 6 = .ok (.iconst 1, 1) := by decide +kernel
theorem dX2_lookAt_7 : decode cX2_lookAt 7 = .ok (.istore_n 3, 1) := by decide +kernel
theorem dX2_lookAt_8 : decode cX2_lookAt 8 = .ok (.iconst 1, 1) := by decide +kernel
theorem dX2_lookAt_9 : decode cX2_lookAt 9 = .ok (.istore 4, 2) := by decide +kernel
theorem dX2_lookAt_11 : decode cX2_lookAt 11 = .ok (.iload 4, 2) := by decide +kernel
theorem dX2_lookAt_13 : decode cX2_lookAt 13 = .ok (.iconst 1, 1) := by decide +kernel
theorem dX2_lookAt_14 : decode cX2_lookAt 14 = .ok (.aload_n 1, 1) := by decide +kernel
theorem dX2_lookAt_15 : decode cX2_lookAt 15 = .ok (.getfield 39, 3) := by decide +kernel
theorem dX2_lookAt_18 : decode cX2_lookAt 18 = .ok (.getfield 61, 3) := by decide +kernel
theorem dX2_lookAt_21 : decode cX2_lookAt 21 = .ok (.ishl, 1) := by decide +kernel
theorem dX2_lookAt_22 : decode cX2_lookAt 22 = .ok (.if_icmp .ge 146, 3) := by decide +kernel
theorem dX2_lookAt_25 : decode cX2_lookAt 25 = .ok (.iload 4, 2) := by decide +kernel
theorem dX2_lookAt_27 : decode cX2_lookAt 27 = .ok (.invokestatic 76, 3) := by decide +kernel
theorem dX2_lookAt_30 : decode cX2_lookAt 30 = .ok (.istore 5, 2) := by decide +kernel
theorem dX2_lookAt_32 : decode cX2_lookAt 32 = .ok (.iload 4, 2) := by decide +kernel
theorem dX2_lookAt_34 : decode cX2_lookAt 34 = .ok (.iload 4, 2) := by decide +kernel
theorem dX2_lookAt_36 : decode cX2_lookAt 36 = .ok (.iconst 1, 1) := by decide +kernel
theorem dX2_lookAt_37 : decode cX2_lookAt 37 = .ok (.isub, 1) := by decide +kernel
theorem dX2_lookAt_38 : decode cX2_lookAt 38 = .ok (.iand, 1) := by decide +kernel
theorem dX2_lookAt_39 : decode cX2_lookAt 39 = .ok (.invokestatic 76, 3) := by decide +kernel
theorem dX2_lookAt_42 : decode cX2_lookAt 42 = .ok (.istore 6, 2) := by decide +kernel
theorem dX2_lookAt_44 : decode cX2_lookAt 44 = .ok (.iload 5, 2) := by decide +kernel
theorem dX2_lookAt_46 : decode cX2_lookAt 46 = .ok (.bipush 12, 2) := by decide +kernel
theorem dX2_lookAt_48 : decode cX2_lookAt 48 = .ok (.if_icmp .lt 4, 3) := by decide +kernel
theorem dX2_lookAt_51 : decode cX2_lookAt 51 = .ok (.return_, 1) := by decide +kernel
theorem dX2_lookAt_52 : decode cX2_lookAt 52 = .ok (.aload_n 0, 1) := by decide +kernel
theorem dX2_lookAt_53 : decode cX2_lookAt 53 = .ok (.getfield 9, 3) := by decide +kernel
theorem dX2_lookAt_56 : decode cX2_lookAt 56 = .ok (.iload 6, 2) := by decide +kernel
theorem dX2_lookAt_58 : decode cX2_lookAt 58 = .ok (.iaload, 1) := by decide +kernel
theorem dX2_lookAt_59 : decode cX2_lookAt 59 = .ok (.aload_n 1, 1) := by decide +kernel
theorem dX2_lookAt_60 : decode cX2_lookAt 60 = .ok (.getfield 39, 3) := by decide +kernel
theorem dX2_lookAt_63 : decode cX2_lookAt 63 = .ok (.getfield 81, 3) := by decide +kernel
theorem dX2_lookAt_66 : decode cX2_lookAt 66 = .ok (.iload 5, 2) := by decide +kernel
theorem dX2_lookAt_68 : decode cX2_lookAt 68 = .ok (.iaload, 1) := by decide +kernel
theorem dX2_lookAt_69 : decode cX2_lookAt 69 = .ok (.iadd, 1) := by decide +kernel
theorem dX2_lookAt_70 : decode cX2_lookAt 70 = .ok (.istore 7, 2) := by decide +kernel
theorem dX2_lookAt_72 : decode cX2_lookAt 72 = .ok (.aload_n 0, 1) := by decide +kernel
theorem dX2_lookAt_73 : decode cX2_lookAt 73 = .ok (.getfield 15, 3) := by decide +kernel
theorem dX2_lookAt_76 : decode cX2_lookAt 76 = .ok (.iload 6, 2) := by decide +kernel
theorem dX2_lookAt_78 : decode cX2_lookAt 78 = .ok (.iaload, 1) := by decide +kernel
theorem dX2_lookAt_79 : decode cX2_lookAt 79 = .ok (.aload_n 1, 1) := by decide +kernel
theorem dX2_lookAt_80 : decode cX2_lookAt 80 = .ok (.getfield 82, 3) := by decide +kernel
theorem dX2_lookAt_83 : decode cX2_lookAt 83 = .ok (.iload 5, 2) := by decide +kernel
theorem dX2_lookAt_85 : decode cX2_lookAt 85 = .ok (.iaload, 1) := by decide +kernel
theorem dX2_lookAt_86 : decode cX2_lookAt 86 = .ok (.iand, 1) := by decide +kernel
theorem dX2_lookAt_87 : decode cX2_lookAt 87 = .ok (.istore 8, 2) := by decide +kernel
theorem dX2_lookAt_89 : decode cX2_lookAt 89 = .ok (.aload_n 1, 1) := by decide +kernel
theorem dX2_lookAt_90 : decode cX2_lookAt 90 = .ok (.iload 8, 2) := by decide +kernel
theorem dX2_lookAt_92 : decode cX2_lookAt 92 = .ok (.iload 7, 2) := by decide +kernel
theorem dX2_lookAt_94 : decode cX2_lookAt 94 = .ok (.invokevirtual 85, 3) := by decide +kernel
theorem dX2_lookAt_97 : decode cX2_lookAt 97 = .ok (.ifCond .ne 13, 3) := by decide +kernel
theorem dX2_lookAt_100 : decode cX2_lookAt 100 = .ok (.iload 4, 2) := by decide +kernel
theorem dX2_lookAt_102 : decode cX2_lookAt 102 = .ok (.iload 4, 2) := by decide +kernel
theorem dX2_lookAt_104 : decode cX2_lookAt 104 = .ok (.ineg, 1) := by decide +kernel
theorem dX2_lookAt_105 : decode cX2_lookAt 105 = .ok (.iand, 1) := by decide +kernel
theorem dX2_lookAt_106 : decode cX2_lookAt 106 = .ok (.istore_n 3, 1) := by decide +kernel
theorem dX2_lookAt_107 : decode cX2_lookAt 107 = .ok (.goto 48, 3) := by decide +kernel
theorem dX2_lookAt_110 : decode cX2_lookAt 110 = .ok (.iconst 1, 1) := by decide +kernel
theorem dX2_lookAt_111 : decode cX2_lookAt 111 = .ok (.istore_n 3, 1) := by decide +kernel
theorem dX2_lookAt_112 : decode cX2_lookAt 112 = .ok (.aload_n 0, 1) := by decide +kernel
theorem dX2_lookAt_113 : decode cX2_lookAt 113 = .ok (.getfield 9, 3) := by decide +kernel
theorem dX2_lookAt_116 : decode cX2_lookAt 116 = .ok (.iload 5, 2) := by decide +kernel
theorem dX2_lookAt_118 : decode cX2_lookAt 118 = .ok (.iload 7, 2) := by decide +kernel
theorem dX2_lookAt_120 : decode cX2_lookAt 120 = .ok (.iastore, 1) := by decide +kernel
theorem dX2_lookAt_121 : decode cX2_lookAt 121 = .ok (.aload_n 0, 1) := by decide +kernel
theorem dX2_lookAt_122 : decode cX2_lookAt 122 = .ok (.getfield 15, 3) := by decide +kernel
theorem dX2_lookAt_125 : decode cX2_lookAt 125 = .ok (.iload 5, 2) := by decide +kernel
theorem dX2_lookAt_127 : decode cX2_lookAt 127 = .ok (.iload 8, 2) := by decide +kernel
theorem dX2_lookAt_129 : decode cX2_lookAt 129 = .ok (.iastore, 1) := by decide +kernel
theorem dX2_lookAt_130 : decode cX2_lookAt 130 = .ok (.aload_n 0, 1) := by decide +kernel
theorem dX2_lookAt_131 : decode cX2_lookAt 131 = .ok (.aload_n 1, 1) := by decide +kernel
theorem dX2_lookAt_132 : decode cX2_lookAt 132 = .ok (.iload 5, 2) := by decide +kernel
theorem dX2_lookAt_134 : decode cX2_lookAt 134 = .ok (.iload 6, 2) := by decide +kernel
theorem dX2_lookAt_136 : decode cX2_lookAt 136 = .ok (.aload_n 2, 1) := by decide +kernel
theorem dX2_lookAt_137 : decode cX2_lookAt 137 = .ok (.iload 5, 2) := by decide +kernel
theorem dX2_lookAt_139 : decode cX2_lookAt 139 = .ok (.invokevirtual 88, 3) := by decide +kernel
theorem dX2_lookAt_142 : decode cX2_lookAt 142 = .ok (.invokevirtual 93, 3) := by decide +kernel
theorem dX2_lookAt_145 : decode cX2_lookAt 145 = .ok (.aload_n 0, 1) := by decide +kernel
theorem dX2_lookAt_146 : decode cX2_lookAt 146 = .ok (.aload_n 2, 1) := by decide +kernel
theorem dX2_lookAt_147 : decode cX2_lookAt 147 = .ok (.getfield 97, 3) := by decide +kernel
theorem dX2_lookAt_150 : decode cX2_lookAt 150 = .ok (.iload 4, 2) := by decide +kernel
theorem dX2_lookAt_152 : decode cX2_lookAt 152 = .ok (.invokevirtual 100, 3) := by decide +kernel
theorem dX2_lookAt_155 : decode cX2_lookAt 155 = .ok (.iload 4, 2) := by decide +kernel
theorem dX2_lookAt_157 : decode cX2_lookAt 157 = .ok (.iconst 1, 1) := by decide +kernel
theorem dX2_lookAt_158 : decode cX2_lookAt 158 = .ok (.iload_n 3, 1) := by decide +kernel
theorem dX2_lookAt_159 : decode cX2_lookAt 159 = .ok (.invokestatic 67, 3) := by decide +kernel
theorem dX2_lookAt_162 : decode cX2_lookAt 162 = .ok (.iadd, 1) := by decide +kernel
theorem dX2_lookAt_163 : decode cX2_lookAt 163 = .ok (.istore 4, 2) := by decide +kernel
theorem dX2_lookAt_165 : decode cX2_lookAt 165 = .ok (.goto (-154), 3) := by decide +kernel
theorem dX2_lookAt_168 : decode cX2_lookAt 168 = .ok (.return_, 1) := by decide +kernel
def jX2_lookAt_155_11 (Y : XS) (n : Nat) (S : PS) (v0 : Nat) (v1 : Nat) (v2 : Nat) (v3 : Int32) (v4 : Int32) : Option ((Int32 × PS) ⊕ (PS ⊕ (PS))) :=
  some (.inl (v4 + (imax (1 : Int32) v3), S))
def bX2_lookAt_11 (Y : XS) (n : Nat) (v0 : Nat) (v1 : Nat) (v2 : Nat) (s11 : (Int32 × PS)) : Option ((Int32 × PS) ⊕ (PS ⊕ (PS))) :=
  kgr s11.2 v1 0 (fun b15 => kgi s11.2 b15 1 (fun x18 => (if ((1 : Int32) <<< (x18 &&& 31)) ≤ s11.1 then some (.inr (.inl s11.2)) else kc (fX8_least Y n s11.2 s11.1) (fun q27 => kc (fX8_least Y n s11.2 (s11.1 &&& (s11.1 - (1 : Int32)))) (fun q39 => (if q27 < (12 : Int32) then kgr s11.2 v0 0 (fun b53 => kai Y s11.2 b53 q39 (fun x58 => kgr s11.2 v1 0 (fun b60 => kgr s11.2 b60 4 (fun b63 => kai Y s11.2 b63 q27 (fun x68 => kgr s11.2 v0 1 (fun b73 => kai Y s11.2 b73 q39 (fun x78 => kgr s11.2 v1 3 (fun b80 => kai Y s11.2 b80 q27 (fun x85 => kc (fX6_isDue Y n s11.2 v1 (x78 &&& x85) (x58 + x68)) (fun q94 => (if q94 = 0 then jX2_lookAt_155_11 Y n s11.2 v0 v1 v2 (s11.1 &&& (-s11.1)) s11.1 else kgr s11.2 v0 0 (fun b113 => kwi Y s11.2 b113 q27 (x58 + x68) (fun S120 => kgr S120 v0 1 (fun b122 => kwi Y S120 b122 q27 (x78 &&& x85) (fun S129 => kc (fX5_has Y n S129 v2 q27) (fun q139 => kc (fX2_ask Y n S129 v0 v1 q27 q39 q139) (fun q142 => kgr q142 v2 12 (fun b147 => kc (fX2_note Y n q142 v0 b147 s11.1) (fun q152 => jX2_lookAt_155_11 Y n q152 v0 v1 v2 (1 : Int32) s11.1))))))))))))))))))) else some (.inr (.inr s11.2))))))))
def fX2_lookAt (Y : XS) (n : Nat) (S : PS) (a0 : Nat) (a1 : Nat) (a2 : Nat) : Option (PS) :=
  kc (fX2_begin Y n S a0 a1 a2) (fun q3 => kc (iter (bX2_lookAt_11 Y n a0 a1 a2) n ((1 : Int32), q3)) (fun r11 => ks r11 (fun p11_0 => some p11_0) (fun p11_1 => some p11_1)))
theorem wjX2_lookAt_155_11 {C : CT} {X : XT} (hC : CK C RX2 cX2_lookAt 9 none 4) (n : Nat) (S : PS) (v0 : Nat) (v1 : Nat) (v2 : Nat) (v3 : Int32) (v4 : Int32)  (hTv0 : Ty X.2.1 v0 2) (hTv1 : Ty X.2.1 v1 6) (hTv2 : Ty X.2.1 v2 5) {o : (Int32 × PS) ⊕ (PS ⊕ (PS))} (hf : jX2_lookAt_155_11 X.2.1 n S v0 v1 v2 v3 v4 = some o) (hN : ∀ s', o = .inl s' → UW C X s'.2 11 [(0, .ref (X.1 v0)), (1, .ref (X.1 v1)), (2, .ref (X.1 v2)), (4, .int s'.1)] []) (hO0 : ∀ p', o = .inr (.inl p') → UW C X p' 168 [] []) (hR : ∀ q', o = .inr (.inr q') → Rt C X cX2_lookAt none none q') : UW C X S 155 [(0, .ref (X.1 v0)), (1, .ref (X.1 v1)), (2, .ref (X.1 v2)), (3, .int v3), (4, .int v4)] [] := by
  unfold jX2_lookAt_155_11 at hf
  refine u_iload hC dX2_lookAt_155 4 rfl ?_
  refine u_iconst (v := (1 : Int32)) hC dX2_lookAt_157 (by decide) ?_
  refine u_iload_n hC dX2_lookAt_158 3 rfl rfl ?_
  refine u_mmax hC (tb_5 126 rfl rfl) (by decide) (Nat.le_of_ble_eq_true rfl) dX2_lookAt_159 ?_
  refine u_iadd hC dX2_lookAt_162 ?_
  refine u_istore (lv' := [(4, .int (v4 + (imax (1 : Int32) v3))), (0, .ref (X.1 v0)), (1, .ref (X.1 v1)), (2, .ref (X.1 v2)), (3, .int v3)]) hC dX2_lookAt_163 (by decide) rfl ?_
  refine u_goto (tgt := 11) hC dX2_lookAt_165 (by decide) ?_
  refine u_sub (lv' := [(0, .ref (X.1 v0)), (1, .ref (X.1 v1)), (2, .ref (X.1 v2)), (4, .int (v4 + (imax (1 : Int32) v3)))]) [1, 2, 3, 0] rfl ?_
  exact hN _ (Option.some.inj hf).symm
theorem wbX2_lookAt_11 {C : CT} {X : XT} (hC : CK C RX2 cX2_lookAt 9 none 4) (n : Nat) (v0 : Nat) (v1 : Nat) (v2 : Nat) (hTv0 : Ty X.2.1 v0 2) (hTv1 : Ty X.2.1 v1 6) (hTv2 : Ty X.2.1 v2 5) (s11 : (Int32 × PS)) {o : (Int32 × PS) ⊕ (PS ⊕ (PS))} (hf : bX2_lookAt_11 X.2.1 n v0 v1 v2 s11 = some o) (hN : ∀ s', o = .inl s' → UW C X s'.2 11 [(0, .ref (X.1 v0)), (1, .ref (X.1 v1)), (2, .ref (X.1 v2)), (4, .int s'.1)] []) (hO0 : ∀ p', o = .inr (.inl p') → UW C X p' 168 [] []) (hR : ∀ q', o = .inr (.inr q') → Rt C X cX2_lookAt none none q') : UW C X s11.2 11 [(0, .ref (X.1 v0)), (1, .ref (X.1 v1)), (2, .ref (X.1 v2)), (4, .int s11.1)] [] := by
  unfold bX2_lookAt_11 at hf
  refine u_iload hC dX2_lookAt_11 3 rfl ?_
  refine u_iconst (v := (1 : Int32)) hC dX2_lookAt_13 (by decide) ?_
  refine u_aload_n hC dX2_lookAt_14 1 rfl rfl ?_
  refine u_gr hC lf_X2_39 rfl hTv1 dX2_lookAt_15 hf (fun b15 hTb15 hf => ?_)
  refine u_gi hC lf_X2_61 rfl hTb15 dX2_lookAt_18 hf (fun x18 hf => ?_)
  refine u_ishl hC dX2_lookAt_21 ?_
  refine u_icmp_ge (tgt := 168) hC dX2_lookAt_22 (by decide) hf (fun h22 hf => ?_) (fun h22 hf => ?_)
  · refine u_sub (lv' := []) [] rfl ?_
    exact hO0 _ (Option.some.inj hf).symm
  · refine u_iload hC dX2_lookAt_25 3 rfl ?_
    obtain ⟨q27, hq27, hf⟩ := kc_some hf
    refine u_callS hC (ctX8_least (cL C) hC.tr (cG C) X.1 X.2.1 n s11.2 s11.1  hq27) lk_X2_76 (by decide) (by decide) rfl rfl (Nat.le_of_ble_eq_true rfl) dX2_lookAt_27 ?_
    refine u_istore (lv' := [(5, .int q27), (0, .ref (X.1 v0)), (1, .ref (X.1 v1)), (2, .ref (X.1 v2)), (4, .int s11.1)]) hC dX2_lookAt_30 (by decide) rfl ?_
    refine u_iload hC dX2_lookAt_32 4 rfl ?_
    refine u_iload hC dX2_lookAt_34 4 rfl ?_
    refine u_iconst (v := (1 : Int32)) hC dX2_lookAt_36 (by decide) ?_
    refine u_isub hC dX2_lookAt_37 ?_
    refine u_iand hC dX2_lookAt_38 ?_
    obtain ⟨q39, hq39, hf⟩ := kc_some hf
    refine u_callS hC (ctX8_least (cL C) hC.tr (cG C) X.1 X.2.1 n s11.2 (s11.1 &&& (s11.1 - (1 : Int32)))  hq39) lk_X2_76 (by decide) (by decide) rfl rfl (Nat.le_of_ble_eq_true rfl) dX2_lookAt_39 ?_
    refine u_istore (lv' := [(6, .int q39), (5, .int q27), (0, .ref (X.1 v0)), (1, .ref (X.1 v1)), (2, .ref (X.1 v2)), (4, .int s11.1)]) hC dX2_lookAt_42 (by decide) rfl ?_
    refine u_iload hC dX2_lookAt_44 1 rfl ?_
    refine u_bipush (v := (12 : Int32)) hC dX2_lookAt_46 (by decide) ?_
    refine u_icmp_lt (tgt := 52) hC dX2_lookAt_48 (by decide) hf (fun h48 hf => ?_) (fun h48 hf => ?_)
    · refine u_aload_n hC dX2_lookAt_52 2 rfl rfl ?_
      refine u_gr hC lf_X2_9 rfl hTv0 dX2_lookAt_53 hf (fun b53 hTb53 hf => ?_)
      refine u_iload hC dX2_lookAt_56 0 rfl ?_
      refine u_ai hC hTb53 dX2_lookAt_58 hf (fun x58 hf => ?_)
      refine u_aload_n hC dX2_lookAt_59 3 rfl rfl ?_
      refine u_gr hC lf_X2_39 rfl hTv1 dX2_lookAt_60 hf (fun b60 hTb60 hf => ?_)
      refine u_gr hC lf_X2_81 rfl hTb60 dX2_lookAt_63 hf (fun b63 hTb63 hf => ?_)
      refine u_iload hC dX2_lookAt_66 1 rfl ?_
      refine u_ai hC hTb63 dX2_lookAt_68 hf (fun x68 hf => ?_)
      refine u_iadd hC dX2_lookAt_69 ?_
      refine u_istore (lv' := [(7, .int (x58 + x68)), (6, .int q39), (5, .int q27), (0, .ref (X.1 v0)), (1, .ref (X.1 v1)), (2, .ref (X.1 v2)), (4, .int s11.1)]) hC dX2_lookAt_70 (by decide) rfl ?_
      refine u_aload_n hC dX2_lookAt_72 3 rfl rfl ?_
      refine u_gr hC lf_X2_15 rfl hTv0 dX2_lookAt_73 hf (fun b73 hTb73 hf => ?_)
      refine u_iload hC dX2_lookAt_76 1 rfl ?_
      refine u_ai hC hTb73 dX2_lookAt_78 hf (fun x78 hf => ?_)
      refine u_aload_n hC dX2_lookAt_79 4 rfl rfl ?_
      refine u_gr hC lf_X2_82 rfl hTv1 dX2_lookAt_80 hf (fun b80 hTb80 hf => ?_)
      refine u_iload hC dX2_lookAt_83 2 rfl ?_
      refine u_ai hC hTb80 dX2_lookAt_85 hf (fun x85 hf => ?_)
      refine u_iand hC dX2_lookAt_86 ?_
      refine u_istore (lv' := [(8, .int (x78 &&& x85)), (7, .int (x58 + x68)), (6, .int q39), (5, .int q27), (0, .ref (X.1 v0)), (1, .ref (X.1 v1)), (2, .ref (X.1 v2)), (4, .int s11.1)]) hC dX2_lookAt_87 (by decide) rfl ?_
      refine u_aload_n hC dX2_lookAt_89 5 rfl rfl ?_
      refine u_iload hC dX2_lookAt_90 0 rfl ?_
      refine u_iload hC dX2_lookAt_92 1 rfl ?_
      obtain ⟨q94, hq94, hf⟩ := kc_some hf
      refine u_callV hC (ctX6_isDue (cL C) hC.tr (cG C) X.1 X.2.1 n s11.2 v1 (x78 &&& x85) (x58 + x68) hTv1 hq94) lk_X2_85 rfl hTv1 (by decide) rfl (by decide) (by decide) rfl rfl (Nat.le_of_ble_eq_true rfl) dX2_lookAt_94 ?_
      refine u_if_ne (tgt := 110) hC dX2_lookAt_97 (by decide) hf (fun h97 hf => ?_) (fun h97 hf => ?_)
      · refine u_iconst (v := (1 : Int32)) hC dX2_lookAt_110 (by decide) ?_
        refine u_istore_n (lv' := [(3, .int (1 : Int32)), (8, .int (x78 &&& x85)), (7, .int (x58 + x68)), (6, .int q39), (5, .int q27), (0, .ref (X.1 v0)), (1, .ref (X.1 v1)), (2, .ref (X.1 v2)), (4, .int s11.1)]) hC dX2_lookAt_111 rfl (by decide) rfl ?_
        refine u_aload_n hC dX2_lookAt_112 5 rfl rfl ?_
        refine u_gr hC lf_X2_9 rfl hTv0 dX2_lookAt_113 hf (fun b113 hTb113 hf => ?_)
        refine u_iload hC dX2_lookAt_116 4 rfl ?_
        refine u_iload hC dX2_lookAt_118 2 rfl ?_
        refine u_wi hC hTb113 dX2_lookAt_120 hf (fun S120 hf => ?_)
        refine u_aload_n hC dX2_lookAt_121 5 rfl rfl ?_
        refine u_gr hC lf_X2_15 rfl hTv0 dX2_lookAt_122 hf (fun b122 hTb122 hf => ?_)
        refine u_iload hC dX2_lookAt_125 4 rfl ?_
        refine u_iload hC dX2_lookAt_127 1 rfl ?_
        refine u_wi hC hTb122 dX2_lookAt_129 hf (fun S129 hf => ?_)
        refine u_aload_n hC dX2_lookAt_130 5 rfl rfl ?_
        refine u_aload_n hC dX2_lookAt_131 6 rfl rfl ?_
        refine u_iload hC dX2_lookAt_132 4 rfl ?_
        refine u_iload hC dX2_lookAt_134 3 rfl ?_
        refine u_aload_n hC dX2_lookAt_136 7 rfl rfl ?_
        refine u_iload hC dX2_lookAt_137 4 rfl ?_
        obtain ⟨q139, hq139, hf⟩ := kc_some hf
        refine u_callV hC (ctX5_has (cL C) hC.tr (cG C) X.1 X.2.1 n S129 v2 q27 hTv2 hq139) lk_X2_88 rfl hTv2 (by decide) rfl (by decide) (by decide) rfl rfl (Nat.le_of_ble_eq_true rfl) dX2_lookAt_139 ?_
        obtain ⟨q142, hq142, hf⟩ := kc_some hf
        refine u_callV hC (ctX2_ask (cL C) hC.tr (cG C) X.1 X.2.1 n S129 v0 v1 q27 q39 q139 hTv0 hTv1 hq142) lk_X2_93 rfl hTv0 (by decide) rfl (by decide) (by decide) rfl rfl (Nat.le_of_ble_eq_true rfl) dX2_lookAt_142 ?_
        refine u_aload_n hC dX2_lookAt_145 5 rfl rfl ?_
        refine u_aload_n hC dX2_lookAt_146 7 rfl rfl ?_
        refine u_gr hC lf_X2_97 rfl hTv2 dX2_lookAt_147 hf (fun b147 hTb147 hf => ?_)
        refine u_iload hC dX2_lookAt_150 8 rfl ?_
        obtain ⟨q152, hq152, hf⟩ := kc_some hf
        refine u_callV hC (ctX2_note (cL C) hC.tr (cG C) X.1 X.2.1 n q142 v0 b147 s11.1 hTv0 hTb147 hq152) lk_X2_100 rfl hTv0 (by decide) rfl (by decide) (by decide) rfl rfl (Nat.le_of_ble_eq_true rfl) dX2_lookAt_152 ?_
        refine u_sub (lv' := [(0, .ref (X.1 v0)), (1, .ref (X.1 v1)), (2, .ref (X.1 v2)), (3, .int (1 : Int32)), (4, .int s11.1)]) [5, 6, 7, 0, 8] rfl ?_
        exact wjX2_lookAt_155_11 hC n q152 v0 v1 v2 (1 : Int32) s11.1  hTv0 hTv1 hTv2 hf hN hO0 hR
      · refine u_iload hC dX2_lookAt_100 7 rfl ?_
        refine u_iload hC dX2_lookAt_102 7 rfl ?_
        refine u_ineg hC dX2_lookAt_104 ?_
        refine u_iand hC dX2_lookAt_105 ?_
        refine u_istore_n (lv' := [(3, .int (s11.1 &&& (-s11.1))), (8, .int (x78 &&& x85)), (7, .int (x58 + x68)), (6, .int q39), (5, .int q27), (0, .ref (X.1 v0)), (1, .ref (X.1 v1)), (2, .ref (X.1 v2)), (4, .int s11.1)]) hC dX2_lookAt_106 rfl (by decide) rfl ?_
        refine u_goto (tgt := 155) hC dX2_lookAt_107 (by decide) ?_
        refine u_sub (lv' := [(0, .ref (X.1 v0)), (1, .ref (X.1 v1)), (2, .ref (X.1 v2)), (3, .int (s11.1 &&& (-s11.1))), (4, .int s11.1)]) [5, 6, 7, 0, 8] rfl ?_
        exact wjX2_lookAt_155_11 hC n s11.2 v0 v1 v2 (s11.1 &&& (-s11.1)) s11.1  hTv0 hTv1 hTv2 hf hN hO0 hR
    · exact hR _ (Option.some.inj hf).symm _ _ dX2_lookAt_51 trivial
theorem wX2_lookAt {C : CT} {X : XT} (hC : CK C RX2 cX2_lookAt 9 none 4) (n : Nat) (S : PS) (a0 : Nat) (a1 : Nat) (a2 : Nat) (hTa0 : Ty X.2.1 a0 2) (hTa1 : Ty X.2.1 a1 6) (hTa2 : Ty X.2.1 a2 5) {o : PS} (hf : fX2_lookAt X.2.1 n S a0 a1 a2 = some o) (hR : Rt C X cX2_lookAt none none o) : UW C X S 0 [(0, .ref (X.1 a0)), (1, .ref (X.1 a1)), (2, .ref (X.1 a2))] [] := by
  unfold fX2_lookAt at hf
  refine u_aload_n hC dX2_lookAt_0 0 rfl rfl ?_
  refine u_aload_n hC dX2_lookAt_1 1 rfl rfl ?_
  refine u_aload_n hC dX2_lookAt_2 2 rfl rfl ?_
  obtain ⟨q3, hq3, hf⟩ := kc_some hf
  refine u_callV hC (ctX2_begin (cL C) hC.tr (cG C) X.1 X.2.1 n S a0 a1 a2 hTa0 hTa1 hTa2 hq3) lk_X2_72 rfl hTa0 (by decide) rfl (by decide) (by decide) rfl rfl (Nat.le_of_ble_eq_true rfl) dX2_lookAt_3 ?_
  refine u_iconst (v := (1 : Int32)) hC dX2_lookAt_6 (by decide) ?_
  refine u_istore_n (lv' := [(3, .int (1 : Int32)), (0, .ref (X.1 a0)), (1, .ref (X.1 a1)), (2, .ref (X.1 a2))]) hC dX2_lookAt_7 rfl (by decide) rfl ?_
  refine u_iconst (v := (1 : Int32)) hC dX2_lookAt_8 (by decide) ?_
  refine u_istore (lv' := [(4, .int (1 : Int32)), (3, .int (1 : Int32)), (0, .ref (X.1 a0)), (1, .ref (X.1 a1)), (2, .ref (X.1 a2))]) hC dX2_lookAt_9 (by decide) rfl ?_
  obtain ⟨r11, hr11, hf⟩ := kc_some hf
  have hk11_0 : ∀ p11_0, r11 = (.inl p11_0) → UW C X p11_0 168 [] [] := by
    intro p11_0 he
    subst he
    have hf := ks_l hf
    cases hf
    exact hR _ _ dX2_lookAt_168 trivial
  have hk11_1 : ∀ p11_1, r11 = (.inr p11_1) → Rt C X cX2_lookAt none none p11_1 := by
    intro p11_1 he
    subst he
    have hf := ks_r hf
    cases hf
    exact hR
  refine u_sub (lv' := [(0, .ref (X.1 a0)), (1, .ref (X.1 a1)), (2, .ref (X.1 a2)), (4, .int (1 : Int32))]) [2, 3, 4, 0] rfl ?_
  refine iter_ind (P := fun s11 => UW C X s11.2 11 [(0, .ref (X.1 a0)), (1, .ref (X.1 a1)), (2, .ref (X.1 a2)), (4, .int s11.1)] []) (fun s11 o' hb hin hout => ?_) n ((1 : Int32), q3) hr11
  exact wbX2_lookAt_11 hC n a0 a1 a2 hTa0 hTa1 hTa2 s11 hb hin (fun p e => hk11_0 p (hout _ e).symm) (fun p e => hk11_1 p (hout _ e).symm)
theorem ctX2_lookAt (l : Launch) (hl : l.stackTraces = false) (G : GT) (ρ : Nat → Nat) (Y : XS) (n : Nat) (S : PS) (a0 : Nat) (a1 : Nat) (a2 : Nat) (hTa0 : Ty Y a0 2) (hTa1 : Ty Y a1 6) (hTa2 : Ty Y a2 5) {o : PS} (hf : fX2_lookAt Y n S a0 a1 a2 = some o) : Mt l G yX2_lookAt cX2_lookAt 9 none 4 ρ Y [.ref (ρ a0), .ref (ρ a1), .ref (ρ a2)] S none o :=
  Mt_of hl (by decide) (Nat.le_of_ble_eq_true rfl) (fun C _ _ hC hR => wX2_lookAt (X := (ρ, Y, 0, 0)) hC n S a0 a1 a2 hTa0 hTa1 hTa2 hf hR)
