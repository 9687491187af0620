-- J7_fill_53178
theorem dJ7_fill_53178_0 : decode cJ7_fill_53178 0 = .ok (.iconst 0, 1) := by decide +kernel
theorem dJ7_fill_53178_1 : decode cJ7_fill_53178 1 = .ok (.istore_n 2, 1) := by decide +kernel
theorem dJ7_fill_53178_2 : decode cJ7_fill_53178 2 = .ok (.aload_n 0, 1) := by decide +kernel
theorem dJ7_fill_53178_3 : decode cJ7_fill_53178 3 = .ok (.arraylength, 1) := by decide +kernel
theorem dJ7_fill_53178_4 : decode cJ7_fill_53178 4 = .ok (.istore_n 3, 1) := by decide +kernel
theorem dJ7_fill_53178_5 : decode cJ7_fill_53178 5 = .ok (.iload_n 2, 1) := by decide +kernel
theorem dJ7_fill_53178_6 : decode cJ7_fill_53178 6 = .ok (.iload_n 3, 1) := by decide +kernel
theorem dJ7_fill_53178_7 : decode cJ7_fill_53178 7 = .ok (.if_icmp .ge 13, 3) := by decide +kernel
theorem dJ7_fill_53178_10 : decode cJ7_fill_53178 10 = .ok (.aload_n 0, 1) := by decide +kernel
theorem dJ7_fill_53178_11 : decode cJ7_fill_53178 11 = .ok (.iload_n 2, 1) := by decide +kernel
theorem dJ7_fill_53178_12 : decode cJ7_fill_53178 12 = .ok (.iload_n 1, 1) := by decide +kernel
theorem dJ7_fill_53178_13 : decode cJ7_fill_53178 13 = .ok (.iastore, 1) := by decide +kernel
theorem dJ7_fill_53178_14 : decode cJ7_fill_53178 14 = .ok (.iinc 2 1, 3) := by decide +kernel
theorem dJ7_fill_53178_17 : decode cJ7_fill_53178 17 = .ok (.goto (-12), 3) := by decide +kernel
theorem dJ7_fill_53178_20 : decode cJ7_fill_53178 20 = .ok (.return_, 1) := by decide +kernel
def bJ7_fill_53178_5 (Y : XS) (n : Nat) (v0 : Nat) (v1 : Int32) (v3 : Int32) (s5 : (Int32 × PS)) : Option ((Int32 × PS) ⊕ PS) :=
  (if v3 ≤ s5.1 then some (.inr s5.2) else kwi Y s5.2 v0 s5.1 v1 (fun S13 => some (.inl (s5.1 + (1 : Int32), S13))))
def fJ7_fill_53178 (Y : XS) (n : Nat) (S : PS) (a0 : Nat) (x1_ : Int32) : Option (PS) :=
  kln Y a0 (fun x3 => kc (iter (bJ7_fill_53178_5 Y n a0 x1_ x3) n ((0 : Int32), S)) (fun r5 => some r5))
theorem wbJ7_fill_53178_5 {C : CT} {X : XT} (hC : CK C RJ7 cJ7_fill_53178 4 none 1) (n : Nat) (v0 : Nat) (v1 : Int32) (v3 : Int32) (hTv0 : Ty X.2.1 v0 12) (s5 : (Int32 × PS)) {o : (Int32 × PS) ⊕ PS} (hf : bJ7_fill_53178_5 X.2.1 n v0 v1 v3 s5 = some o) (hN : ∀ s', o = .inl s' → UW C X s'.2 5 [(0, .ref (X.1 v0)), (1, .int v1), (2, .int s'.1), (3, .int v3)] []) (hO0 : ∀ p', o = .inr p' → UW C X p' 20 [] []) : UW C X s5.2 5 [(0, .ref (X.1 v0)), (1, .int v1), (2, .int s5.1), (3, .int v3)] [] := by
  unfold bJ7_fill_53178_5 at hf
  refine u_iload_n hC dJ7_fill_53178_5 2 rfl rfl ?_
  refine u_iload_n hC dJ7_fill_53178_6 3 rfl rfl ?_
  refine u_icmp_ge (tgt := 20) hC dJ7_fill_53178_7 (by decide) hf (fun h7 hf => ?_) (fun h7 hf => ?_)
  · refine u_sub (lv' := []) [] rfl ?_
    exact hO0 _ (Option.some.inj hf).symm
  · refine u_aload_n hC dJ7_fill_53178_10 0 rfl rfl ?_
    refine u_iload_n hC dJ7_fill_53178_11 2 rfl rfl ?_
    refine u_iload_n hC dJ7_fill_53178_12 1 rfl rfl ?_
    refine u_wi hC hTv0 dJ7_fill_53178_13 hf (fun S13 hf => ?_)
    refine u_iinc (v := s5.1 + (1 : Int32)) (lv' := [(2, .int (s5.1 + (1 : Int32))), (0, .ref (X.1 v0)), (1, .int v1), (3, .int v3)]) hC dJ7_fill_53178_14 2 rfl rfl (by decide) rfl ?_
    refine u_goto (tgt := 5) hC dJ7_fill_53178_17 (by decide) ?_
    refine u_sub (lv' := [(0, .ref (X.1 v0)), (1, .int v1), (2, .int (s5.1 + (1 : Int32))), (3, .int v3)]) [1, 2, 0, 3] rfl ?_
    exact hN _ (Option.some.inj hf).symm
theorem wJ7_fill_53178 {C : CT} {X : XT} (hC : CK C RJ7 cJ7_fill_53178 4 none 1) (n : Nat) (S : PS) (a0 : Nat) (x1_ : Int32) (hTa0 : Ty X.2.1 a0 12) {o : PS} (hf : fJ7_fill_53178 X.2.1 n S a0 x1_ = some o) (hR : Rt C X cJ7_fill_53178 none none o) : UW C X S 0 [(0, .ref (X.1 a0)), (1, .int x1_)] [] := by
  unfold fJ7_fill_53178 at hf
  refine u_iconst (v := (0 : Int32)) hC dJ7_fill_53178_0 (by decide) ?_
  refine u_istore_n (lv' := [(2, .int (0 : Int32)), (0, .ref (X.1 a0)), (1, .int x1_)]) hC dJ7_fill_53178_1 rfl (by decide) rfl ?_
  refine u_aload_n hC dJ7_fill_53178_2 1 rfl rfl ?_
  refine u_ln hC hTa0 dJ7_fill_53178_3 hf (fun x3 hf => ?_)
  refine u_istore_n (lv' := [(3, .int x3), (2, .int (0 : Int32)), (0, .ref (X.1 a0)), (1, .int x1_)]) hC dJ7_fill_53178_4 rfl (by decide) rfl ?_
  obtain ⟨r5, hr5, hf⟩ := kc_some hf
  have hk5 : UW C X r5 20 [] [] := by
    cases hf
    exact hR _ _ dJ7_fill_53178_20 trivial
  refine u_sub (lv' := [(0, .ref (X.1 a0)), (1, .int x1_), (2, .int (0 : Int32)), (3, .int x3)]) [2, 3, 1, 0] rfl ?_
  refine iter_ind (P := fun s5 => UW C X s5.2 5 [(0, .ref (X.1 a0)), (1, .int x1_), (2, .int s5.1), (3, .int x3)] []) (fun s5 o' hb hin hout => ?_) n ((0 : Int32), S) hr5
  exact wbJ7_fill_53178_5 hC n a0 x1_ x3 hTa0 s5 hb hin (fun p e => by rw [hout p e]; exact hk5)
theorem ctJ7_fill_53178 (l : Launch) (hl : l.stackTraces = false) (G : GT) (ρ : Nat → Nat) (Y : XS) (n : Nat) (S : PS) (a0 : Nat) (x1_ : Int32) (hTa0 : Ty Y a0 12) {o : PS} (hf : fJ7_fill_53178 Y n S a0 x1_ = some o) : Mt l G yJ7_fill_53178 cJ7_fill_53178 4 none 1 ρ Y [.ref (ρ a0), .int x1_] S none o :=
  Mt_of hl (by decide) (Nat.le_of_ble_eq_true rfl) (fun C _ _ hC hR => wJ7_fill_53178 (X := (ρ, Y, 0, 0)) hC n S a0 x1_ hTa0 hf hR)
-- J6_bitCount_0f7a4
theorem dJ6_bitCount_0f7a4_0 : decode cJ6_bitCount_0f7a4 0 = .ok (.iload_n 0, 1) := by decide +kernel
theorem dJ6_bitCount_0f7a4_1 : decode cJ6_bitCount_0f7a4 1 = .ok (.iload_n 0, 1) := by decide +kernel
theorem dJ6_bitCount_0f7a4_2 : decode cJ6_bitCount_0f7a4 2 = .ok (.iconst 1, 1) := by decide +kernel
theorem dJ6_bitCount_0f7a4_3 : decode cJ6_bitCount_0f7a4 3 = .ok (.iushr, 1) := by decide +kernel
theorem dJ6_bitCount_0f7a4_4 : decode cJ6_bitCount_0f7a4 4 = .ok (.ldc_w 265, 3) := by decide +kernel
theorem dJ6_bitCount_0f7a4_7 : decode cJ6_bitCount_0f7a4 7 = .ok (.iand, 1) := by decide +kernel
theorem dJ6_bitCount_0f7a4_8 : decode cJ6_bitCount_0f7a4 8 = .ok (.isub, 1) := by decide +kernel
theorem dJ6_bitCount_0f7a4_9 : decode cJ6_bitCount_0f7a4 9 = .ok (.istore_n 0, 1) := by decide +kernel
theorem dJ6_bitCount_0f7a4_10 : decode cJ6_bitCount_0f7a4 10 = .ok (.iload_n 0, 1) := by decide +kernel
theorem dJ6_bitCount_0f7a4_11 : decode cJ6_bitCount_0f7a4 11 = .ok (.ldc_w 266, 3) := by decide +kernel
theorem dJ6_bitCount_0f7a4_14 : decode cJ6_bitCount_0f7a4 14 = .ok (.iand, 1) := by decide +kernel
theorem dJ6_bitCount_0f7a4_15 : decode cJ6_bitCount_0f7a4 15 = .ok (.iload_n 0, 1) := by decide +kernel
theorem dJ6_bitCount_0f7a4_16 : decode cJ6_bitCount_0f7a4 16 = .ok (.iconst 2, 1) := by decide +kernel
theorem dJ6_bitCount_0f7a4_17 : decode cJ6_bitCount_0f7a4 17 = .ok (.iushr, 1) := by decide +kernel
theorem dJ6_bitCount_0f7a4_18 : decode cJ6_bitCount_0f7a4 18 = .ok (.ldc_w 266, 3) := by decide +kernel
theorem dJ6_bitCount_0f7a4_21 : decode cJ6_bitCount_0f7a4 21 = .ok (.iand, 1) := by decide +kernel
theorem dJ6_bitCount_0f7a4_22 : decode cJ6_bitCount_0f7a4 22 = .ok (.iadd, 1) := by decide +kernel
theorem dJ6_bitCount_0f7a4_23 : decode cJ6_bitCount_0f7a4 23 = .ok (.istore_n 0, 1) := by decide +kernel
theorem dJ6_bitCount_0f7a4_24 : decode cJ6_bitCount_0f7a4 24 = .ok (.iload_n 0, 1) := by decide +kernel
theorem dJ6_bitCount_0f7a4_25 : decode cJ6_bitCount_0f7a4 25 = .ok (.iload_n 0, 1) := by decide +kernel
theorem dJ6_bitCount_0f7a4_26 : decode cJ6_bitCount_0f7a4 26 = .ok (.iconst 4, 1) := by decide +kernel
theorem dJ6_bitCount_0f7a4_27 : decode cJ6_bitCount_0f7a4 27 = .ok (.iushr, 1) := by decide +kernel
theorem dJ6_bitCount_0f7a4_28 : decode cJ6_bitCount_0f7a4 28 = .ok (.iadd, 1) := by decide +kernel
theorem dJ6_bitCount_0f7a4_29 : decode cJ6_bitCount_0f7a4 29 = .ok (.ldc_w 267, 3) := by decide +kernel
theorem dJ6_bitCount_0f7a4_32 : decode cJ6_bitCount_0f7a4 32 = .ok (.iand, 1) := by decide +kernel
theorem dJ6_bitCount_0f7a4_33 : decode cJ6_bitCount_0f7a4 33 = .ok (.istore_n 0, 1) := by decide +kernel
theorem dJ6_bitCount_0f7a4_34 : decode cJ6_bitCount_0f7a4 34 = .ok (.iload_n 0, 1) := by decide +kernel
theorem dJ6_bitCount_0f7a4_35 : decode cJ6_bitCount_0f7a4 35 = .ok (.iload_n 0, 1) := by decide +kernel
theorem dJ6_bitCount_0f7a4_36 : decode cJ6_bitCount_0f7a4 36 = .ok (.bipush 8, 2) := by decide +kernel
theorem dJ6_bitCount_0f7a4_38 : decode cJ6_bitCount_0f7a4 38 = .ok (.iushr, 1) := by decide +kernel
theorem dJ6_bitCount_0f7a4_39 : decode cJ6_bitCount_0f7a4 39 = .ok (.iadd, 1) := by decide +kernel
theorem dJ6_bitCount_0f7a4_40 : decode cJ6_bitCount_0f7a4 40 = .ok (.istore_n 0, 1) := by decide +kernel
theorem dJ6_bitCount_0f7a4_41 : decode cJ6_bitCount_0f7a4 41 = .ok (.iload_n 0, 1) := by decide +kernel
theorem dJ6_bitCount_0f7a4_42 : decode cJ6_bitCount_0f7a4 42 = .ok (.iload_n 0, 1) := by decide +kernel
theorem dJ6_bitCount_0f7a4_43 : decode cJ6_bitCount_0f7a4 43 = .ok (.bipush 16, 2) := by decide +kernel
theorem dJ6_bitCount_0f7a4_45 : decode cJ6_bitCount_0f7a4 45 = .ok (.iushr, 1) := by decide +kernel
theorem dJ6_bitCount_0f7a4_46 : decode cJ6_bitCount_0f7a4 46 = .ok (.iadd, 1) := by decide +kernel
theorem dJ6_bitCount_0f7a4_47 : decode cJ6_bitCount_0f7a4 47 = .ok (.istore_n 0, 1) := by decide +kernel
theorem dJ6_bitCount_0f7a4_48 : decode cJ6_bitCount_0f7a4 48 = .ok (.iload_n 0, 1) := by decide +kernel
theorem dJ6_bitCount_0f7a4_49 : decode cJ6_bitCount_0f7a4 49 = .ok (.bipush 63, 2) := by decide +kernel
theorem dJ6_bitCount_0f7a4_51 : decode cJ6_bitCount_0f7a4 51 = .ok (.iand, 1) := by decide +kernel
theorem dJ6_bitCount_0f7a4_52 : decode cJ6_bitCount_0f7a4 52 = .ok (.ireturn, 1) := by decide +kernel
def fJ6_bitCount_0f7a4 (Y : XS) (n : Nat) (S : PS) (x0_ : Int32) : Option (Int32) :=
  some ((((((((x0_ - (((Int32.toUInt32 x0_ >>> (Int32.toUInt32 (1 : Int32) &&& Int32.toUInt32 31)).toInt32) &&& (1431655765 : Int32))) &&& (858993459 : Int32)) + (((Int32.toUInt32 (x0_ - (((Int32.toUInt32 x0_ >>> (Int32.toUInt32 (1 : Int32) &&& Int32.toUInt32 31)).toInt32) &&& (1431655765 : Int32))) >>> (Int32.toUInt32 (2 : Int32) &&& Int32.toUInt32 31)).toInt32) &&& (858993459 : Int32))) + ((Int32.toUInt32 (((x0_ - (((Int32.toUInt32 x0_ >>> (Int32.toUInt32 (1 : Int32) &&& Int32.toUInt32 31)).toInt32) &&& (1431655765 : Int32))) &&& (858993459 : Int32)) + (((Int32.toUInt32 (x0_ - (((Int32.toUInt32 x0_ >>> (Int32.toUInt32 (1 : Int32) &&& Int32.toUInt32 31)).toInt32) &&& (1431655765 : Int32))) >>> (Int32.toUInt32 (2 : Int32) &&& Int32.toUInt32 31)).toInt32) &&& (858993459 : Int32))) >>> (Int32.toUInt32 (4 : Int32) &&& Int32.toUInt32 31)).toInt32)) &&& (252645135 : Int32)) + ((Int32.toUInt32 (((((x0_ - (((Int32.toUInt32 x0_ >>> (Int32.toUInt32 (1 : Int32) &&& Int32.toUInt32 31)).toInt32) &&& (1431655765 : Int32))) &&& (858993459 : Int32)) + (((Int32.toUInt32 (x0_ - (((Int32.toUInt32 x0_ >>> (Int32.toUInt32 (1 : Int32) &&& Int32.toUInt32 31)).toInt32) &&& (1431655765 : Int32))) >>> (Int32.toUInt32 (2 : Int32) &&& Int32.toUInt32 31)).toInt32) &&& (858993459 : Int32))) + ((Int32.toUInt32 (((x0_ - (((Int32.toUInt32 x0_ >>> (Int32.toUInt32 (1 : Int32) &&& Int32.toUInt32 31)).toInt32) &&& (1431655765 : Int32))) &&& (858993459 : Int32)) + (((Int32.toUInt32 (x0_ - (((Int32.toUInt32 x0_ >>> (Int32.toUInt32 (1 : Int32) &&& Int32.toUInt32 31)).toInt32) &&& (1431655765 : Int32))) >>> (Int32.toUInt32 (2 : Int32) &&& Int32.toUInt32 31)).toInt32) &&& (858993459 : Int32))) >>> (Int32.toUInt32 (4 : Int32) &&& Int32.toUInt32 31)).toInt32)) &&& (252645135 : Int32)) >>> (Int32.toUInt32 (8 : Int32) &&& Int32.toUInt32 31)).toInt32)) + ((Int32.toUInt32 ((((((x0_ - (((Int32.toUInt32 x0_ >>> (Int32.toUInt32 (1 : Int32) &&& Int32.toUInt32 31)).toInt32) &&& (1431655765 : Int32))) &&& (858993459 : Int32)) + (((Int32.toUInt32 (x0_ - (((Int32.toUInt32 x0_ >>> (Int32.toUInt32 (1 : Int32) &&& Int32.toUInt32 31)).toInt32) &&& (1431655765 : Int32))) >>> (Int32.toUInt32 (2 : Int32) &&& Int32.toUInt32 31)).toInt32) &&& (858993459 : Int32))) + ((Int32.toUInt32 (((x0_ - (((Int32.toUInt32 x0_ >>> (Int32.toUInt32 (1 : Int32) &&& Int32.toUInt32 31)).toInt32) &&& (1431655765 : Int32))) &&& (858993459 : Int32)) + (((Int32.toUInt32 (x0_ - (((Int32.toUInt32 x0_ >>> (Int32.toUInt32 (1 : Int32) &&& Int32.toUInt32 31)).toInt32) &&& (1431655765 : Int32))) >>> (Int32.toUInt32 (2 : Int32) &&& Int32.toUInt32 31)).toInt32) &&& (858993459 : Int32))) >>> (Int32.toUInt32 (4 : Int32) &&& Int32.toUInt32 31)).toInt32)) &&& (252645135 : Int32)) + ((Int32.toUInt32 (((((x0_ - (((Int32.toUInt32 x0_ >>> (Int32.toUInt32 (1 : Int32) &&& Int32.toUInt32 31)).toInt32) &&& (1431655765 : Int32))) &&& (858993459 : Int32)) + (((Int32.toUInt32 (x0_ - (((Int32.toUInt32 x0_ >>> (Int32.toUInt32 (1 : Int32) &&& Int32.toUInt32 31)).toInt32) &&& (1431655765 : Int32))) >>> (Int32.toUInt32 (2 : Int32) &&& Int32.toUInt32 31)).toInt32) &&& (858993459 : Int32))) + ((Int32.toUInt32 (((x0_ - (((Int32.toUInt32 x0_ >>> (Int32.toUInt32 (1 : Int32) &&& Int32.toUInt32 31)).toInt32) &&& (1431655765 : Int32))) &&& (858993459 : Int32)) + (((Int32.toUInt32 (x0_ - (((Int32.toUInt32 x0_ >>> (Int32.toUInt32 (1 : Int32) &&& Int32.toUInt32 31)).toInt32) &&& (1431655765 : Int32))) >>> (Int32.toUInt32 (2 : Int32) &&& Int32.toUInt32 31)).toInt32) &&& (858993459 : Int32))) >>> (Int32.toUInt32 (4 : Int32) &&& Int32.toUInt32 31)).toInt32)) &&& (252645135 : Int32)) >>> (Int32.toUInt32 (8 : Int32) &&& Int32.toUInt32 31)).toInt32)) >>> (Int32.toUInt32 (16 : Int32) &&& Int32.toUInt32 31)).toInt32)) &&& (63 : Int32))
theorem wJ6_bitCount_0f7a4 {C : CT} {X : XT} (hC : CK C RJ6 cJ6_bitCount_0f7a4 1 (some .int) 1) (n : Nat) (S : PS) (x0_ : Int32)  {o : Int32} (hf : fJ6_bitCount_0f7a4 X.2.1 n S x0_ = some o) (hR : Rt C X cJ6_bitCount_0f7a4 (some .int) (some (.int o)) S) : UW C X S 0 [(0, .int x0_)] [] := by
  unfold fJ6_bitCount_0f7a4 at hf
  refine u_iload_n hC dJ6_bitCount_0f7a4_0 0 rfl rfl ?_
  refine u_iload_n hC dJ6_bitCount_0f7a4_1 0 rfl rfl ?_
  refine u_iconst (v := (1 : Int32)) hC dJ6_bitCount_0f7a4_2 (by decide) ?_
  refine u_iushr hC dJ6_bitCount_0f7a4_3 ?_
  refine u_ldcw (v := (1431655765 : Int32)) hC dJ6_bitCount_0f7a4_4 (tb_4 191 rfl rfl) ?_
  refine u_iand hC dJ6_bitCount_0f7a4_7 ?_
  refine u_isub hC dJ6_bitCount_0f7a4_8 ?_
  refine u_istore_n (lv' := [(0, .int (x0_ - (((Int32.toUInt32 x0_ >>> (Int32.toUInt32 (1 : Int32) &&& Int32.toUInt32 31)).toInt32) &&& (1431655765 : Int32))))]) hC dJ6_bitCount_0f7a4_9 rfl (by decide) rfl ?_
  refine u_iload_n hC dJ6_bitCount_0f7a4_10 0 rfl rfl ?_
  refine u_ldcw (v := (858993459 : Int32)) hC dJ6_bitCount_0f7a4_11 (tb_4 192 rfl rfl) ?_
  refine u_iand hC dJ6_bitCount_0f7a4_14 ?_
  refine u_iload_n hC dJ6_bitCount_0f7a4_15 0 rfl rfl ?_
  refine u_iconst (v := (2 : Int32)) hC dJ6_bitCount_0f7a4_16 (by decide) ?_
  refine u_iushr hC dJ6_bitCount_0f7a4_17 ?_
  refine u_ldcw (v := (858993459 : Int32)) hC dJ6_bitCount_0f7a4_18 (tb_4 192 rfl rfl) ?_
  refine u_iand hC dJ6_bitCount_0f7a4_21 ?_
  refine u_iadd hC dJ6_bitCount_0f7a4_22 ?_
  refine u_istore_n (lv' := [(0, .int (((x0_ - (((Int32.toUInt32 x0_ >>> (Int32.toUInt32 (1 : Int32) &&& Int32.toUInt32 31)).toInt32) &&& (1431655765 : Int32))) &&& (858993459 : Int32)) + (((Int32.toUInt32 (x0_ - (((Int32.toUInt32 x0_ >>> (Int32.toUInt32 (1 : Int32) &&& Int32.toUInt32 31)).toInt32) &&& (1431655765 : Int32))) >>> (Int32.toUInt32 (2 : Int32) &&& Int32.toUInt32 31)).toInt32) &&& (858993459 : Int32))))]) hC dJ6_bitCount_0f7a4_23 rfl (by decide) rfl ?_
  refine u_iload_n hC dJ6_bitCount_0f7a4_24 0 rfl rfl ?_
  refine u_iload_n hC dJ6_bitCount_0f7a4_25 0 rfl rfl ?_
  refine u_iconst (v := (4 : Int32)) hC dJ6_bitCount_0f7a4_26 (by decide) ?_
  refine u_iushr hC dJ6_bitCount_0f7a4_27 ?_
  refine u_iadd hC dJ6_bitCount_0f7a4_28 ?_
  refine u_ldcw (v := (252645135 : Int32)) hC dJ6_bitCount_0f7a4_29 (tb_4 193 rfl rfl) ?_
  refine u_iand hC dJ6_bitCount_0f7a4_32 ?_
  refine u_istore_n (lv' := [(0, .int (((((x0_ - (((Int32.toUInt32 x0_ >>> (Int32.toUInt32 (1 : Int32) &&& Int32.toUInt32 31)).toInt32) &&& (1431655765 : Int32))) &&& (858993459 : Int32)) + (((Int32.toUInt32 (x0_ - (((Int32.toUInt32 x0_ >>> (Int32.toUInt32 (1 : Int32) &&& Int32.toUInt32 31)).toInt32) &&& (1431655765 : Int32))) >>> (Int32.toUInt32 (2 : Int32) &&& Int32.toUInt32 31)).toInt32) &&& (858993459 : Int32))) + ((Int32.toUInt32 (((x0_ - (((Int32.toUInt32 x0_ >>> (Int32.toUInt32 (1 : Int32) &&& Int32.toUInt32 31)).toInt32) &&& (1431655765 : Int32))) &&& (858993459 : Int32)) + (((Int32.toUInt32 (x0_ - (((Int32.toUInt32 x0_ >>> (Int32.toUInt32 (1 : Int32) &&& Int32.toUInt32 31)).toInt32) &&& (1431655765 : Int32))) >>> (Int32.toUInt32 (2 : Int32) &&& Int32.toUInt32 31)).toInt32) &&& (858993459 : Int32))) >>> (Int32.toUInt32 (4 : Int32) &&& Int32.toUInt32 31)).toInt32)) &&& (252645135 : Int32)))]) hC dJ6_bitCount_0f7a4_33 rfl (by decide) rfl ?_
  refine u_iload_n hC dJ6_bitCount_0f7a4_34 0 rfl rfl ?_
  refine u_iload_n hC dJ6_bitCount_0f7a4_35 0 rfl rfl ?_
  refine u_bipush (v := (8 : Int32)) hC dJ6_bitCount_0f7a4_36 (by decide) ?_
  refine u_iushr hC dJ6_bitCount_0f7a4_38 ?_
  refine u_iadd hC dJ6_bitCount_0f7a4_39 ?_
  refine u_istore_n (lv' := [(0, .int ((((((x0_ - (((Int32.toUInt32 x0_ >>> (Int32.toUInt32 (1 : Int32) &&& Int32.toUInt32 31)).toInt32) &&& (1431655765 : Int32))) &&& (858993459 : Int32)) + (((Int32.toUInt32 (x0_ - (((Int32.toUInt32 x0_ >>> (Int32.toUInt32 (1 : Int32) &&& Int32.toUInt32 31)).toInt32) &&& (1431655765 : Int32))) >>> (Int32.toUInt32 (2 : Int32) &&& Int32.toUInt32 31)).toInt32) &&& (858993459 : Int32))) + ((Int32.toUInt32 (((x0_ - (((Int32.toUInt32 x0_ >>> (Int32.toUInt32 (1 : Int32) &&& Int32.toUInt32 31)).toInt32) &&& (1431655765 : Int32))) &&& (858993459 : Int32)) + (((Int32.toUInt32 (x0_ - (((Int32.toUInt32 x0_ >>> (Int32.toUInt32 (1 : Int32) &&& Int32.toUInt32 31)).toInt32) &&& (1431655765 : Int32))) >>> (Int32.toUInt32 (2 : Int32) &&& Int32.toUInt32 31)).toInt32) &&& (858993459 : Int32))) >>> (Int32.toUInt32 (4 : Int32) &&& Int32.toUInt32 31)).toInt32)) &&& (252645135 : Int32)) + ((Int32.toUInt32 (((((x0_ - (((Int32.toUInt32 x0_ >>> (Int32.toUInt32 (1 : Int32) &&& Int32.toUInt32 31)).toInt32) &&& (1431655765 : Int32))) &&& (858993459 : Int32)) + (((Int32.toUInt32 (x0_ - (((Int32.toUInt32 x0_ >>> (Int32.toUInt32 (1 : Int32) &&& Int32.toUInt32 31)).toInt32) &&& (1431655765 : Int32))) >>> (Int32.toUInt32 (2 : Int32) &&& Int32.toUInt32 31)).toInt32) &&& (858993459 : Int32))) + ((Int32.toUInt32 (((x0_ - (((Int32.toUInt32 x0_ >>> (Int32.toUInt32 (1 : Int32) &&& Int32.toUInt32 31)).toInt32) &&& (1431655765 : Int32))) &&& (858993459 : Int32)) + (((Int32.toUInt32 (x0_ - (((Int32.toUInt32 x0_ >>> (Int32.toUInt32 (1 : Int32) &&& Int32.toUInt32 31)).toInt32) &&& (1431655765 : Int32))) >>> (Int32.toUInt32 (2 : Int32) &&& Int32.toUInt32 31)).toInt32) &&& (858993459 : Int32))) >>> (Int32.toUInt32 (4 : Int32) &&& Int32.toUInt32 31)).toInt32)) &&& (252645135 : Int32)) >>> (Int32.toUInt32 (8 : Int32) &&& Int32.toUInt32 31)).toInt32)))]) hC dJ6_bitCount_0f7a4_40 rfl (by decide) rfl ?_
  refine u_iload_n hC dJ6_bitCount_0f7a4_41 0 rfl rfl ?_
  refine u_iload_n hC dJ6_bitCount_0f7a4_42 0 rfl rfl ?_
  refine u_bipush (v := (16 : Int32)) hC dJ6_bitCount_0f7a4_43 (by decide) ?_
  refine u_iushr hC dJ6_bitCount_0f7a4_45 ?_
  refine u_iadd hC dJ6_bitCount_0f7a4_46 ?_
  refine u_istore_n (lv' := [(0, .int (((((((x0_ - (((Int32.toUInt32 x0_ >>> (Int32.toUInt32 (1 : Int32) &&& Int32.toUInt32 31)).toInt32) &&& (1431655765 : Int32))) &&& (858993459 : Int32)) + (((Int32.toUInt32 (x0_ - (((Int32.toUInt32 x0_ >>> (Int32.toUInt32 (1 : Int32) &&& Int32.toUInt32 31)).toInt32) &&& (1431655765 : Int32))) >>> (Int32.toUInt32 (2 : Int32) &&& Int32.toUInt32 31)).toInt32) &&& (858993459 : Int32))) + ((Int32.toUInt32 (((x0_ - (((Int32.toUInt32 x0_ >>> (Int32.toUInt32 (1 : Int32) &&& Int32.toUInt32 31)).toInt32) &&& (1431655765 : Int32))) &&& (858993459 : Int32)) + (((Int32.toUInt32 (x0_ - (((Int32.toUInt32 x0_ >>> (Int32.toUInt32 (1 : Int32) &&& Int32.toUInt32 31)).toInt32) &&& (1431655765 : Int32))) >>> (Int32.toUInt32 (2 : Int32) &&& Int32.toUInt32 31)).toInt32) &&& (858993459 : Int32))) >>> (Int32.toUInt32 (4 : Int32) &&& Int32.toUInt32 31)).toInt32)) &&& (252645135 : Int32)) + ((Int32.toUInt32 (((((x0_ - (((Int32.toUInt32 x0_ >>> (Int32.toUInt32 (1 : Int32) &&& Int32.toUInt32 31)).toInt32) &&& (1431655765 : Int32))) &&& (858993459 : Int32)) + (((Int32.toUInt32 (x0_ - (((Int32.toUInt32 x0_ >>> (Int32.toUInt32 (1 : Int32) &&& Int32.toUInt32 31)).toInt32) &&& (1431655765 : Int32))) >>> (Int32.toUInt32 (2 : Int32) &&& Int32.toUInt32 31)).toInt32) &&& (858993459 : Int32))) + ((Int32.toUInt32 (((x0_ - (((Int32.toUInt32 x0_ >>> (Int32.toUInt32 (1 : Int32) &&& Int32.toUInt32 31)).toInt32) &&& (1431655765 : Int32))) &&& (858993459 : Int32)) + (((Int32.toUInt32 (x0_ - (((Int32.toUInt32 x0_ >>> (Int32.toUInt32 (1 : Int32) &&& Int32.toUInt32 31)).toInt32) &&& (1431655765 : Int32))) >>> (Int32.toUInt32 (2 : Int32) &&& Int32.toUInt32 31)).toInt32) &&& (858993459 : Int32))) >>> (Int32.toUInt32 (4 : Int32) &&& Int32.toUInt32 31)).toInt32)) &&& (252645135 : Int32)) >>> (Int32.toUInt32 (8 : Int32) &&& Int32.toUInt32 31)).toInt32)) + ((Int32.toUInt32 ((((((x0_ - (((Int32.toUInt32 x0_ >>> (Int32.toUInt32 (1 : Int32) &&& Int32.toUInt32 31)).toInt32) &&& (1431655765 : Int32))) &&& (858993459 : Int32)) + (((Int32.toUInt32 (x0_ - (((Int32.toUInt32 x0_ >>> (Int32.toUInt32 (1 : Int32) &&& Int32.toUInt32 31)).toInt32) &&& (1431655765 : Int32))) >>> (Int32.toUInt32 (2 : Int32) &&& Int32.toUInt32 31)).toInt32) &&& (858993459 : Int32))) + ((Int32.toUInt32 (((x0_ - (((Int32.toUInt32 x0_ >>> (Int32.toUInt32 (1 : Int32) &&& Int32.toUInt32 31)).toInt32) &&& (1431655765 : Int32))) &&& (858993459 : Int32)) + (((Int32.toUInt32 (x0_ - (((Int32.toUInt32 x0_ >>> (Int32.toUInt32 (1 : Int32) &&& Int32.toUInt32 31)).toInt32) &&& (1431655765 : Int32))) >>> (Int32.toUInt32 (2 : Int32) &&& Int32.toUInt32 31)).toInt32) &&& (858993459 : Int32))) >>> (Int32.toUInt32 (4 : Int32) &&& Int32.toUInt32 31)).toInt32)) &&& (252645135 : Int32)) + ((Int32.toUInt32 (((((x0_ - (((Int32.toUInt32 x0_ >>> (Int32.toUInt32 (1 : Int32) &&& Int32.toUInt32 31)).toInt32) &&& (1431655765 : Int32))) &&& (858993459 : Int32)) + (((Int32.toUInt32 (x0_ - (((Int32.toUInt32 x0_ >>> (Int32.toUInt32 (1 : Int32) &&& Int32.toUInt32 31)).toInt32) &&& (1431655765 : Int32))) >>> (Int32.toUInt32 (2 : Int32) &&& Int32.toUInt32 31)).toInt32) &&& (858993459 : Int32))) + ((Int32.toUInt32 (((x0_ - (((Int32.toUInt32 x0_ >>> (Int32.toUInt32 (1 : Int32) &&& Int32.toUInt32 31)).toInt32) &&& (1431655765 : Int32))) &&& (858993459 : Int32)) + (((Int32.toUInt32 (x0_ - (((Int32.toUInt32 x0_ >>> (Int32.toUInt32 (1 : Int32) &&& Int32.toUInt32 31)).toInt32) &&& (1431655765 : Int32))) >>> (Int32.toUInt32 (2 : Int32) &&& Int32.toUInt32 31)).toInt32) &&& (858993459 : Int32))) >>> (Int32.toUInt32 (4 : Int32) &&& Int32.toUInt32 31)).toInt32)) &&& (252645135 : Int32)) >>> (Int32.toUInt32 (8 : Int32) &&& Int32.toUInt32 31)).toInt32)) >>> (Int32.toUInt32 (16 : Int32) &&& Int32.toUInt32 31)).toInt32)))]) hC dJ6_bitCount_0f7a4_47 rfl (by decide) rfl ?_
  refine u_iload_n hC dJ6_bitCount_0f7a4_48 0 rfl rfl ?_
  refine u_bipush (v := (63 : Int32)) hC dJ6_bitCount_0f7a4_49 (by decide) ?_
  refine u_iand hC dJ6_bitCount_0f7a4_51 ?_
  cases hf
  exact hR _ _ dJ6_bitCount_0f7a4_52 trivial
theorem ctJ6_bitCount_0f7a4 (l : Launch) (hl : l.stackTraces = false) (G : GT) (ρ : Nat → Nat) (Y : XS) (n : Nat) (S : PS) (x0_ : Int32)  {o : Int32} (hf : fJ6_bitCount_0f7a4 Y n S x0_ = some o) : Mt l G yJ6_bitCount_0f7a4 cJ6_bitCount_0f7a4 1 (some .int) 1 ρ Y [.int x0_] S (some (.int o)) S :=
  Mt_of hl (by decide) (Nat.le_of_ble_eq_true rfl) (fun C _ _ hC hR => wJ6_bitCount_0f7a4 (X := (ρ, Y, 0, 0)) hC n S x0_  hf hR)
-- J6_numberOfTrailingZeros_0f7a4
theorem dJ6_numberOfTrailingZeros_0f7a4_0 : decode cJ6_numberOfTrailingZeros_0f7a4 0 = .ok (.iload_n 0, 1) := by decide +kernel
theorem dJ6_numberOfTrailingZeros_0f7a4_1 : decode cJ6_numberOfTrailingZeros_0f7a4 1 = .ok (.iconst (-1), 1) := by decide +kernel
theorem dJ6_numberOfTrailingZeros_0f7a4_2 : decode cJ6_numberOfTrailingZeros_0f7a4 2 = .ok (.ixor, 1) := by decide +kernel
theorem dJ6_numberOfTrailingZeros_0f7a4_3 : decode cJ6_numberOfTrailingZeros_0f7a4 3 = .ok (.iload_n 0, 1) := by decide +kernel
theorem dJ6_numberOfTrailingZeros_0f7a4_4 : decode cJ6_numberOfTrailingZeros_0f7a4 4 = .ok (.iconst 1, 1) := by decide +kernel
theorem dJ6_numberOfTrailingZeros_0f7a4_5 : decode cJ6_numberOfTrailingZeros_0f7a4 5 = .ok (.isub, 1) := by decide +kernel
theorem dJ6_numberOfTrailingZeros_0f7a4_6 : decode cJ6_numberOfTrailingZeros_0f7a4 6 = .ok (.iand, 1) := by decide +kernel
theorem dJ6_numberOfTrailingZeros_0f7a4_7 : decode cJ6_numberOfTrailingZeros_0f7a4 7 = .ok (.istore_n 0, 1) := by decide +kernel
theorem dJ6_numberOfTrailingZeros_0f7a4_8 : decode cJ6_numberOfTrailingZeros_0f7a4 8 = .ok (.iload_n 0, 1) := by decide +kernel
theorem dJ6_numberOfTrailingZeros_0f7a4_9 : decode cJ6_numberOfTrailingZeros_0f7a4 9 = .ok (.ifCond .gt 8, 3) := by decide +kernel
theorem dJ6_numberOfTrailingZeros_0f7a4_12 : decode cJ6_numberOfTrailingZeros_0f7a4 12 = .ok (.iload_n 0, 1) := by decide +kernel
theorem dJ6_numberOfTrailingZeros_0f7a4_13 : decode cJ6_numberOfTrailingZeros_0f7a4 13 = .ok (.bipush 32, 2) := by decide +kernel
theorem dJ6_numberOfTrailingZeros_0f7a4_15 : decode cJ6_numberOfTrailingZeros_0f7a4 15 = .ok (.iand, 1) := by decide +kernel
theorem dJ6_numberOfTrailingZeros_0f7a4_16 : decode cJ6_numberOfTrailingZeros_0f7a4 16 = .ok (.ireturn, 1) := by decide +kernel
theorem dJ6_numberOfTrailingZeros_0f7a4_17 : decode cJ6_numberOfTrailingZeros_0f7a4 17 = .ok (.iconst 1, 1) := by decide +kernel
theorem dJ6_numberOfTrailingZeros_0f7a4_18 : decode cJ6_numberOfTrailingZeros_0f7a4 18 = .ok (.istore_n 1, 1) := by decide +kernel
theorem dJ6_numberOfTrailingZeros_0f7a4_19 : decode cJ6_numberOfTrailingZeros_0f7a4 19 = .ok (.iload_n 0, 1) := by decide +kernel
theorem dJ6_numberOfTrailingZeros_0f7a4_20 : decode cJ6_numberOfTrailingZeros_0f7a4 20 = .ok (.ldc_w 264, 3) := by decide +kernel
theorem dJ6_numberOfTrailingZeros_0f7a4_23 : decode cJ6_numberOfTrailingZeros_0f7a4 23 = .ok (.if_icmp .le 11, 3) := by decide +kernel
theorem dJ6_numberOfTrailingZeros_0f7a4_26 : decode cJ6_numberOfTrailingZeros_0f7a4 26 = .ok (.iinc 1 16, 3) := by decide +kernel
theorem dJ6_numberOfTrailingZeros_0f7a4_29 : decode cJ6_numberOfTrailingZeros_0f7a4 29 = .ok (.iload_n 0, 1) := by decide +kernel
theorem dJ6_numberOfTrailingZeros_0f7a4_30 : decode cJ6_numberOfTrailingZeros_0f7a4 30 = .ok (.bipush 16, 2) := by decide +kernel
theorem dJ6_numberOfTrailingZeros_0f7a4_32 : decode cJ6_numberOfTrailingZeros_0f7a4 32 = .ok (.iushr, 1) := by decide +kernel
theorem dJ6_numberOfTrailingZeros_0f7a4_33 : decode cJ6_numberOfTrailingZeros_0f7a4 33 = .ok (.istore_n 0, 1) := by decide +kernel
theorem dJ6_numberOfTrailingZeros_0f7a4_34 : decode cJ6_numberOfTrailingZeros_0f7a4 34 = .ok (.iload_n 0, 1) := by decide +kernel
theorem dJ6_numberOfTrailingZeros_0f7a4_35 : decode cJ6_numberOfTrailingZeros_0f7a4 35 = .ok (.sipush 256, 3) := by decide +kernel
theorem dJ6_numberOfTrailingZeros_0f7a4_38 : decode cJ6_numberOfTrailingZeros_0f7a4 38 = .ok (.if_icmp .le 11, 3) := by decide +kernel
theorem dJ6_numberOfTrailingZeros_0f7a4_41 : decode cJ6_numberOfTrailingZeros_0f7a4 41 = .ok (.iinc 1 8, 3) := by decide +kernel
theorem dJ6_numberOfTrailingZeros_0f7a4_44 : decode cJ6_numberOfTrailingZeros_0f7a4 44 = .ok (.iload_n 0, 1) := by decide +kernel
theorem dJ6_numberOfTrailingZeros_0f7a4_45 : decode cJ6_numberOfTrailingZeros_0f7a4 45 = .ok (.bipush 8, 2) := by decide +kernel
theorem dJ6_numberOfTrailingZeros_0f7a4_47 : decode cJ6_numberOfTrailingZeros_0f7a4 47 = .ok (.iushr, 1) := by decide +kernel
theorem dJ6_numberOfTrailingZeros_0f7a4_48 : decode cJ6_numberOfTrailingZeros_0f7a4 48 = .ok (.istore_n 0, 1) := by decide +kernel
theorem dJ6_numberOfTrailingZeros_0f7a4_49 : decode cJ6_numberOfTrailingZeros_0f7a4 49 = .ok (.iload_n 0, 1) := by decide +kernel
theorem dJ6_numberOfTrailingZeros_0f7a4_50 : decode cJ6_numberOfTrailingZeros_0f7a4 50 = .ok (.bipush 16, 2) := by decide +kernel
theorem dJ6_numberOfTrailingZeros_0f7a4_52 : decode cJ6_numberOfTrailingZeros_0f7a4 52 = .ok (.if_icmp .le 10, 3) := by decide +kernel
theorem dJ6_numberOfTrailingZeros_0f7a4_55 : decode cJ6_numberOfTrailingZeros_0f7a4 55 = .ok (.iinc 1 4, 3) := by decide +kernel
theorem dJ6_numberOfTrailingZeros_0f7a4_58 : decode cJ6_numberOfTrailingZeros_0f7a4 58 = .ok (.iload_n 0, 1) := by decide +kernel
theorem dJ6_numberOfTrailingZeros_0f7a4_59 : decode cJ6_numberOfTrailingZeros_0f7a4 59 = .ok (.iconst 4, 1) := by decide +kernel
theorem dJ6_numberOfTrailingZeros_0f7a4_60 : decode cJ6_numberOfTrailingZeros_0f7a4 60 = .ok (.iushr, 1) := by decide +kernel
theorem dJ6_numberOfTrailingZeros_0f7a4_61 : decode cJ6_numberOfTrailingZeros_0f7a4 61 = .ok (.istore_n 0, 1) := by decide +kernel
theorem dJ6_numberOfTrailingZeros_0f7a4_62 : decode cJ6_numberOfTrailingZeros_0f7a4 62 = .ok (.iload_n 0, 1) := by decide +kernel
theorem dJ6_numberOfTrailingZeros_0f7a4_63 : decode cJ6_numberOfTrailingZeros_0f7a4 63 = .ok (.iconst 4, 1) := by decide +kernel
theorem dJ6_numberOfTrailingZeros_0f7a4_64 : decode cJ6_numberOfTrailingZeros_0f7a4 64 = .ok (.if_icmp .le 10, 3) := by decide +kernel
theorem dJ6_numberOfTrailingZeros_0f7a4_67 : decode cJ6_numberOfTrailingZeros_0f7a4 67 = .ok (.iinc 1 2, 3) := by decide +kernel
theorem dJ6_numberOfTrailingZeros_0f7a4_70 : decode cJ6_numberOfTrailingZeros_0f7a4 70 = .ok (.iload_n 0, 1) := by decide +kernel
theorem dJ6_numberOfTrailingZeros_0f7a4_71 : decode cJ6_numberOfTrailingZeros_0f7a4 71 = .ok (.iconst 2, 1) := by decide +kernel
theorem dJ6_numberOfTrailingZeros_0f7a4_72 : decode cJ6_numberOfTrailingZeros_0f7a4 72 = .ok (.iushr, 1) := by decide +kernel
theorem dJ6_numberOfTrailingZeros_0f7a4_73 : decode cJ6_numberOfTrailingZeros_0f7a4 73 = .ok (.istore_n 0, 1) := by decide +kernel
theorem dJ6_numberOfTrailingZeros_0f7a4_74 : decode cJ6_numberOfTrailingZeros_0f7a4 74 = .ok (.iload_n 1, 1) := by decide +kernel
theorem dJ6_numberOfTrailingZeros_0f7a4_75 : decode cJ6_numberOfTrailingZeros_0f7a4 75 = .ok (.iload_n 0, 1) := by decide +kernel
theorem dJ6_numberOfTrailingZeros_0f7a4_76 : decode cJ6_numberOfTrailingZeros_0f7a4 76 = .ok (.iconst 1, 1) := by decide +kernel
theorem dJ6_numberOfTrailingZeros_0f7a4_77 : decode cJ6_numberOfTrailingZeros_0f7a4 77 = .ok (.iushr, 1) := by decide +kernel
theorem dJ6_numberOfTrailingZeros_0f7a4_78 : decode cJ6_numberOfTrailingZeros_0f7a4 78 = .ok (.iadd, 1) := by decide +kernel
theorem dJ6_numberOfTrailingZeros_0f7a4_79 : decode cJ6_numberOfTrailingZeros_0f7a4 79 = .ok (.ireturn, 1) := by decide +kernel
def jJ6_numberOfTrailingZeros_0f7a4_74 (Y : XS) (n : Nat) (S : PS) (v0 : Int32) (v1 : Int32) : Option (Int32) :=
  some (v1 + ((Int32.toUInt32 v0 >>> (Int32.toUInt32 (1 : Int32) &&& Int32.toUInt32 31)).toInt32))
def jJ6_numberOfTrailingZeros_0f7a4_62 (Y : XS) (n : Nat) (S : PS) (v0 : Int32) (v1 : Int32) : Option (Int32) :=
  (if v0 ≤ (4 : Int32) then jJ6_numberOfTrailingZeros_0f7a4_74 Y n S v0 v1 else jJ6_numberOfTrailingZeros_0f7a4_74 Y n S ((Int32.toUInt32 v0 >>> (Int32.toUInt32 (2 : Int32) &&& Int32.toUInt32 31)).toInt32) (v1 + (2 : Int32)))
def jJ6_numberOfTrailingZeros_0f7a4_49 (Y : XS) (n : Nat) (S : PS) (v0 : Int32) (v1 : Int32) : Option (Int32) :=
  (if v0 ≤ (16 : Int32) then jJ6_numberOfTrailingZeros_0f7a4_62 Y n S v0 v1 else jJ6_numberOfTrailingZeros_0f7a4_62 Y n S ((Int32.toUInt32 v0 >>> (Int32.toUInt32 (4 : Int32) &&& Int32.toUInt32 31)).toInt32) (v1 + (4 : Int32)))
def jJ6_numberOfTrailingZeros_0f7a4_34 (Y : XS) (n : Nat) (S : PS) (v0 : Int32) (v1 : Int32) : Option (Int32) :=
  (if v0 ≤ (256 : Int32) then jJ6_numberOfTrailingZeros_0f7a4_49 Y n S v0 v1 else jJ6_numberOfTrailingZeros_0f7a4_49 Y n S ((Int32.toUInt32 v0 >>> (Int32.toUInt32 (8 : Int32) &&& Int32.toUInt32 31)).toInt32) (v1 + (8 : Int32)))
def fJ6_numberOfTrailingZeros_0f7a4 (Y : XS) (n : Nat) (S : PS) (x0_ : Int32) : Option (Int32) :=
  (if 0 < ((x0_ ^^^ (-1 : Int32)) &&& (x0_ - (1 : Int32))) then (if ((x0_ ^^^ (-1 : Int32)) &&& (x0_ - (1 : Int32))) ≤ (65536 : Int32) then jJ6_numberOfTrailingZeros_0f7a4_34 Y n S ((x0_ ^^^ (-1 : Int32)) &&& (x0_ - (1 : Int32))) (1 : Int32) else jJ6_numberOfTrailingZeros_0f7a4_34 Y n S ((Int32.toUInt32 ((x0_ ^^^ (-1 : Int32)) &&& (x0_ - (1 : Int32))) >>> (Int32.toUInt32 (16 : Int32) &&& Int32.toUInt32 31)).toInt32) ((1 : Int32) + (16 : Int32))) else some (((x0_ ^^^ (-1 : Int32)) &&& (x0_ - (1 : Int32))) &&& (32 : Int32)))
theorem wjJ6_numberOfTrailingZeros_0f7a4_74 {C : CT} {X : XT} (hC : CK C RJ6 cJ6_numberOfTrailingZeros_0f7a4 2 (some .int) 1) (n : Nat) (S : PS) (v0 : Int32) (v1 : Int32)   {o : Int32} (hf : jJ6_numberOfTrailingZeros_0f7a4_74 X.2.1 n S v0 v1 = some o) (hR : Rt C X cJ6_numberOfTrailingZeros_0f7a4 (some .int) (some (.int o)) S) : UW C X S 74 [(0, .int v0), (1, .int v1)] [] := by
  unfold jJ6_numberOfTrailingZeros_0f7a4_74 at hf
  refine u_iload_n hC dJ6_numberOfTrailingZeros_0f7a4_74 1 rfl rfl ?_
  refine u_iload_n hC dJ6_numberOfTrailingZeros_0f7a4_75 0 rfl rfl ?_
  refine u_iconst (v := (1 : Int32)) hC dJ6_numberOfTrailingZeros_0f7a4_76 (by decide) ?_
  refine u_iushr hC dJ6_numberOfTrailingZeros_0f7a4_77 ?_
  refine u_iadd hC dJ6_numberOfTrailingZeros_0f7a4_78 ?_
  cases hf
  exact hR _ _ dJ6_numberOfTrailingZeros_0f7a4_79 trivial
theorem wjJ6_numberOfTrailingZeros_0f7a4_62 {C : CT} {X : XT} (hC : CK C RJ6 cJ6_numberOfTrailingZeros_0f7a4 2 (some .int) 1) (n : Nat) (S : PS) (v0 : Int32) (v1 : Int32)   {o : Int32} (hf : jJ6_numberOfTrailingZeros_0f7a4_62 X.2.1 n S v0 v1 = some o) (hR : Rt C X cJ6_numberOfTrailingZeros_0f7a4 (some .int) (some (.int o)) S) : UW C X S 62 [(0, .int v0), (1, .int v1)] [] := by
  unfold jJ6_numberOfTrailingZeros_0f7a4_62 at hf
  refine u_iload_n hC dJ6_numberOfTrailingZeros_0f7a4_62 0 rfl rfl ?_
  refine u_iconst (v := (4 : Int32)) hC dJ6_numberOfTrailingZeros_0f7a4_63 (by decide) ?_
  refine u_icmp_le (tgt := 74) hC dJ6_numberOfTrailingZeros_0f7a4_64 (by decide) hf (fun h64 hf => ?_) (fun h64 hf => ?_)
  · exact wjJ6_numberOfTrailingZeros_0f7a4_74 hC n S v0 v1   hf hR
  · refine u_iinc (v := v1 + (2 : Int32)) (lv' := [(1, .int (v1 + (2 : Int32))), (0, .int v0)]) hC dJ6_numberOfTrailingZeros_0f7a4_67 1 rfl rfl (by decide) rfl ?_
    refine u_iload_n hC dJ6_numberOfTrailingZeros_0f7a4_70 1 rfl rfl ?_
    refine u_iconst (v := (2 : Int32)) hC dJ6_numberOfTrailingZeros_0f7a4_71 (by decide) ?_
    refine u_iushr hC dJ6_numberOfTrailingZeros_0f7a4_72 ?_
    refine u_istore_n (lv' := [(0, .int ((Int32.toUInt32 v0 >>> (Int32.toUInt32 (2 : Int32) &&& Int32.toUInt32 31)).toInt32)), (1, .int (v1 + (2 : Int32)))]) hC dJ6_numberOfTrailingZeros_0f7a4_73 rfl (by decide) rfl ?_
    exact wjJ6_numberOfTrailingZeros_0f7a4_74 hC n S ((Int32.toUInt32 v0 >>> (Int32.toUInt32 (2 : Int32) &&& Int32.toUInt32 31)).toInt32) (v1 + (2 : Int32))   hf hR
theorem wjJ6_numberOfTrailingZeros_0f7a4_49 {C : CT} {X : XT} (hC : CK C RJ6 cJ6_numberOfTrailingZeros_0f7a4 2 (some .int) 1) (n : Nat) (S : PS) (v0 : Int32) (v1 : Int32)   {o : Int32} (hf : jJ6_numberOfTrailingZeros_0f7a4_49 X.2.1 n S v0 v1 = some o) (hR : Rt C X cJ6_numberOfTrailingZeros_0f7a4 (some .int) (some (.int o)) S) : UW C X S 49 [(0, .int v0), (1, .int v1)] [] := by
  unfold jJ6_numberOfTrailingZeros_0f7a4_49 at hf
  refine u_iload_n hC dJ6_numberOfTrailingZeros_0f7a4_49 0 rfl rfl ?_
  refine u_bipush (v := (16 : Int32)) hC dJ6_numberOfTrailingZeros_0f7a4_50 (by decide) ?_
  refine u_icmp_le (tgt := 62) hC dJ6_numberOfTrailingZeros_0f7a4_52 (by decide) hf (fun h52 hf => ?_) (fun h52 hf => ?_)
  · exact wjJ6_numberOfTrailingZeros_0f7a4_62 hC n S v0 v1   hf hR
  · refine u_iinc (v := v1 + (4 : Int32)) (lv' := [(1, .int (v1 + (4 : Int32))), (0, .int v0)]) hC dJ6_numberOfTrailingZeros_0f7a4_55 1 rfl rfl (by decide) rfl ?_
    refine u_iload_n hC dJ6_numberOfTrailingZeros_0f7a4_58 1 rfl rfl ?_
    refine u_iconst (v := (4 : Int32)) hC dJ6_numberOfTrailingZeros_0f7a4_59 (by decide) ?_
    refine u_iushr hC dJ6_numberOfTrailingZeros_0f7a4_60 ?_
    refine u_istore_n (lv' := [(0, .int ((Int32.toUInt32 v0 >>> (Int32.toUInt32 (4 : Int32) &&& Int32.toUInt32 31)).toInt32)), (1, .int (v1 + (4 : Int32)))]) hC dJ6_numberOfTrailingZeros_0f7a4_61 rfl (by decide) rfl ?_
    exact wjJ6_numberOfTrailingZeros_0f7a4_62 hC n S ((Int32.toUInt32 v0 >>> (Int32.toUInt32 (4 : Int32) &&& Int32.toUInt32 31)).toInt32) (v1 + (4 : Int32))   hf hR
theorem wjJ6_numberOfTrailingZeros_0f7a4_34 {C : CT} {X : XT} (hC : CK C RJ6 cJ6_numberOfTrailingZeros_0f7a4 2 (some .int) 1) (n : Nat) (S : PS) (v0 : Int32) (v1 : Int32)   {o : Int32} (hf : jJ6_numberOfTrailingZeros_0f7a4_34 X.2.1 n S v0 v1 = some o) (hR : Rt C X cJ6_numberOfTrailingZeros_0f7a4 (some .int) (some (.int o)) S) : UW C X S 34 [(0, .int v0), (1, .int v1)] [] := by
  unfold jJ6_numberOfTrailingZeros_0f7a4_34 at hf
  refine u_iload_n hC dJ6_numberOfTrailingZeros_0f7a4_34 0 rfl rfl ?_
  refine u_sipush (v := (256 : Int32)) hC dJ6_numberOfTrailingZeros_0f7a4_35 (by decide) ?_
  refine u_icmp_le (tgt := 49) hC dJ6_numberOfTrailingZeros_0f7a4_38 (by decide) hf (fun h38 hf => ?_) (fun h38 hf => ?_)
  · exact wjJ6_numberOfTrailingZeros_0f7a4_49 hC n S v0 v1   hf hR
  · refine u_iinc (v := v1 + (8 : Int32)) (lv' := [(1, .int (v1 + (8 : Int32))), (0, .int v0)]) hC dJ6_numberOfTrailingZeros_0f7a4_41 1 rfl rfl (by decide) rfl ?_
    refine u_iload_n hC dJ6_numberOfTrailingZeros_0f7a4_44 1 rfl rfl ?_
    refine u_bipush (v := (8 : Int32)) hC dJ6_numberOfTrailingZeros_0f7a4_45 (by decide) ?_
    refine u_iushr hC dJ6_numberOfTrailingZeros_0f7a4_47 ?_
    refine u_istore_n (lv' := [(0, .int ((Int32.toUInt32 v0 >>> (Int32.toUInt32 (8 : Int32) &&& Int32.toUInt32 31)).toInt32)), (1, .int (v1 + (8 : Int32)))]) hC dJ6_numberOfTrailingZeros_0f7a4_48 rfl (by decide) rfl ?_
    exact wjJ6_numberOfTrailingZeros_0f7a4_49 hC n S ((Int32.toUInt32 v0 >>> (Int32.toUInt32 (8 : Int32) &&& Int32.toUInt32 31)).toInt32) (v1 + (8 : Int32))   hf hR
theorem wJ6_numberOfTrailingZeros_0f7a4 {C : CT} {X : XT} (hC : CK C RJ6 cJ6_numberOfTrailingZeros_0f7a4 2 (some .int) 1) (n : Nat) (S : PS) (x0_ : Int32)  {o : Int32} (hf : fJ6_numberOfTrailingZeros_0f7a4 X.2.1 n S x0_ = some o) (hR : Rt C X cJ6_numberOfTrailingZeros_0f7a4 (some .int) (some (.int o)) S) : UW C X S 0 [(0, .int x0_)] [] := by
  unfold fJ6_numberOfTrailingZeros_0f7a4 at hf
  refine u_iload_n hC dJ6_numberOfTrailingZeros_0f7a4_0 0 rfl rfl ?_
  refine u_iconst (v := (-1 : Int32)) hC dJ6_numberOfTrailingZeros_0f7a4_1 (by decide) ?_
  refine u_ixor hC dJ6_numberOfTrailingZeros_0f7a4_2 ?_
  refine u_iload_n hC dJ6_numberOfTrailingZeros_0f7a4_3 0 rfl rfl ?_
  refine u_iconst (v := (1 : Int32)) hC dJ6_numberOfTrailingZeros_0f7a4_4 (by decide) ?_
  refine u_isub hC dJ6_numberOfTrailingZeros_0f7a4_5 ?_
  refine u_iand hC dJ6_numberOfTrailingZeros_0f7a4_6 ?_
  refine u_istore_n (lv' := [(0, .int ((x0_ ^^^ (-1 : Int32)) &&& (x0_ - (1 : Int32))))]) hC dJ6_numberOfTrailingZeros_0f7a4_7 rfl (by decide) rfl ?_
  refine u_iload_n hC dJ6_numberOfTrailingZeros_0f7a4_8 0 rfl rfl ?_
  refine u_if_gt (tgt := 17) hC dJ6_numberOfTrailingZeros_0f7a4_9 (by decide) hf (fun h9 hf => ?_) (fun h9 hf => ?_)
  · refine u_iconst (v := (1 : Int32)) hC dJ6_numberOfTrailingZeros_0f7a4_17 (by decide) ?_
    refine u_istore_n (lv' := [(1, .int (1 : Int32)), (0, .int ((x0_ ^^^ (-1 : Int32)) &&& (x0_ - (1 : Int32))))]) hC dJ6_numberOfTrailingZeros_0f7a4_18 rfl (by decide) rfl ?_
    refine u_iload_n hC dJ6_numberOfTrailingZeros_0f7a4_19 1 rfl rfl ?_
    refine u_ldcw (v := (65536 : Int32)) hC dJ6_numberOfTrailingZeros_0f7a4_20 (tb_4 210 rfl rfl) ?_
    refine u_icmp_le (tgt := 34) hC dJ6_numberOfTrailingZeros_0f7a4_23 (by decide) hf (fun h23 hf => ?_) (fun h23 hf => ?_)
    · refine u_sub (lv' := [(0, .int ((x0_ ^^^ (-1 : Int32)) &&& (x0_ - (1 : Int32)))), (1, .int (1 : Int32))]) [1, 0] rfl ?_
      exact wjJ6_numberOfTrailingZeros_0f7a4_34 hC n S ((x0_ ^^^ (-1 : Int32)) &&& (x0_ - (1 : Int32))) (1 : Int32)   hf hR
    · refine u_iinc (v := (1 : Int32) + (16 : Int32)) (lv' := [(1, .int ((1 : Int32) + (16 : Int32))), (0, .int ((x0_ ^^^ (-1 : Int32)) &&& (x0_ - (1 : Int32))))]) hC dJ6_numberOfTrailingZeros_0f7a4_26 0 rfl rfl (by decide) rfl ?_
      refine u_iload_n hC dJ6_numberOfTrailingZeros_0f7a4_29 1 rfl rfl ?_
      refine u_bipush (v := (16 : Int32)) hC dJ6_numberOfTrailingZeros_0f7a4_30 (by decide) ?_
      refine u_iushr hC dJ6_numberOfTrailingZeros_0f7a4_32 ?_
      refine u_istore_n (lv' := [(0, .int ((Int32.toUInt32 ((x0_ ^^^ (-1 : Int32)) &&& (x0_ - (1 : Int32))) >>> (Int32.toUInt32 (16 : Int32) &&& Int32.toUInt32 31)).toInt32)), (1, .int ((1 : Int32) + (16 : Int32)))]) hC dJ6_numberOfTrailingZeros_0f7a4_33 rfl (by decide) rfl ?_
      exact wjJ6_numberOfTrailingZeros_0f7a4_34 hC n S ((Int32.toUInt32 ((x0_ ^^^ (-1 : Int32)) &&& (x0_ - (1 : Int32))) >>> (Int32.toUInt32 (16 : Int32) &&& Int32.toUInt32 31)).toInt32) ((1 : Int32) + (16 : Int32))   hf hR
  · refine u_iload_n hC dJ6_numberOfTrailingZeros_0f7a4_12 0 rfl rfl ?_
    refine u_bipush (v := (32 : Int32)) hC dJ6_numberOfTrailingZeros_0f7a4_13 (by decide) ?_
    refine u_iand hC dJ6_numberOfTrailingZeros_0f7a4_15 ?_
    cases hf
    exact hR _ _ dJ6_numberOfTrailingZeros_0f7a4_16 trivial
theorem ctJ6_numberOfTrailingZeros_0f7a4 (l : Launch) (hl : l.stackTraces = false) (G : GT) (ρ : Nat → Nat) (Y : XS) (n : Nat) (S : PS) (x0_ : Int32)  {o : Int32} (hf : fJ6_numberOfTrailingZeros_0f7a4 Y n S x0_ = some o) : Mt l G yJ6_numberOfTrailingZeros_0f7a4 cJ6_numberOfTrailingZeros_0f7a4 2 (some .int) 1 ρ Y [.int x0_] S (some (.int o)) S :=
  Mt_of hl (by decide) (Nat.le_of_ble_eq_true rfl) (fun C _ _ hC hR => wJ6_numberOfTrailingZeros_0f7a4 (X := (ρ, Y, 0, 0)) hC n S x0_  hf hR)
-- J7_fill_d0a16
theorem dJ7_fill_d0a16_0 : decode cJ7_fill_d0a16 0 = .ok (.iconst 0, 1) := by decide +kernel
theorem dJ7_fill_d0a16_1 : decode cJ7_fill_d0a16 1 = .ok (.istore_n 3, 1) := by decide +kernel
theorem dJ7_fill_d0a16_2 : decode cJ7_fill_d0a16 2 = .ok (.aload_n 0, 1) := by decide +kernel
theorem dJ7_fill_d0a16_3 : decode cJ7_fill_d0a16 3 = .ok (.arraylength, 1) := by decide +kernel
theorem dJ7_fill_d0a16_4 : decode cJ7_fill_d0a16 4 = .ok (.istore 4, 2) := by decide +kernel
theorem dJ7_fill_d0a16_6 : decode cJ7_fill_d0a16 6 = .ok (.iload_n 3, 1) := by decide +kernel
theorem dJ7_fill_d0a16_7 : decode cJ7_fill_d0a16 7 = .ok (.iload 4, 2) := by decide +kernel
theorem dJ7_fill_d0a16_9 : decode cJ7_fill_d0a16 9 = .ok (.if_icmp .ge 13, 3) := by decide +kernel
theorem dJ7_fill_d0a16_12 : decode cJ7_fill_d0a16 12 = .ok (.aload_n 0, 1) := by decide +kernel
theorem dJ7_fill_d0a16_13 : decode cJ7_fill_d0a16 13 = .ok (.iload_n 3, 1) := by decide +kernel
theorem dJ7_fill_d0a16_14 : decode cJ7_fill_d0a16 14 = .ok (.lload_n 1, 1) := by decide +kernel
theorem dJ7_fill_d0a16_15 : decode cJ7_fill_d0a16 15 = .ok (.lastore, 1) := by decide +kernel
theorem dJ7_fill_d0a16_16 : decode cJ7_fill_d0a16 16 = .ok (.iinc 3 1, 3) := by decide +kernel
theorem dJ7_fill_d0a16_19 : decode cJ7_fill_d0a16 19 = .ok (.goto (-13), 3) := by decide +kernel
theorem dJ7_fill_d0a16_22 : decode cJ7_fill_d0a16 22 = .ok (.return_, 1) := by decide +kernel
def bJ7_fill_d0a16_6 (Y : XS) (n : Nat) (v0 : Nat) (v1 : Int64) (v4 : Int32) (s6 : (Int32 × PS)) : Option ((Int32 × PS) ⊕ PS) :=
  (if v4 ≤ s6.1 then some (.inr s6.2) else kwl Y s6.2 v0 s6.1 v1 (fun S15 => some (.inl (s6.1 + (1 : Int32), S15))))
def fJ7_fill_d0a16 (Y : XS) (n : Nat) (S : PS) (a0 : Nat) (x1_ : Int64) : Option (PS) :=
  kln Y a0 (fun x3 => kc (iter (bJ7_fill_d0a16_6 Y n a0 x1_ x3) n ((0 : Int32), S)) (fun r6 => some r6))
theorem wbJ7_fill_d0a16_6 {C : CT} {X : XT} (hC : CK C RJ7 cJ7_fill_d0a16 5 none 1) (n : Nat) (v0 : Nat) (v1 : Int64) (v4 : Int32) (hTv0 : Ty X.2.1 v0 15) (s6 : (Int32 × PS)) {o : (Int32 × PS) ⊕ PS} (hf : bJ7_fill_d0a16_6 X.2.1 n v0 v1 v4 s6 = some o) (hN : ∀ s', o = .inl s' → UW C X s'.2 6 [(0, .ref (X.1 v0)), (1, .long v1), (3, .int s'.1), (4, .int v4)] []) (hO0 : ∀ p', o = .inr p' → UW C X p' 22 [] []) : UW C X s6.2 6 [(0, .ref (X.1 v0)), (1, .long v1), (3, .int s6.1), (4, .int v4)] [] := by
  unfold bJ7_fill_d0a16_6 at hf
  refine u_iload_n hC dJ7_fill_d0a16_6 2 rfl rfl ?_
  refine u_iload hC dJ7_fill_d0a16_7 3 rfl ?_
  refine u_icmp_ge (tgt := 22) hC dJ7_fill_d0a16_9 (by decide) hf (fun h9 hf => ?_) (fun h9 hf => ?_)
  · refine u_sub (lv' := []) [] rfl ?_
    exact hO0 _ (Option.some.inj hf).symm
  · refine u_aload_n hC dJ7_fill_d0a16_12 0 rfl rfl ?_
    refine u_iload_n hC dJ7_fill_d0a16_13 2 rfl rfl ?_
    refine u_lload_n hC dJ7_fill_d0a16_14 1 rfl rfl ?_
    refine u_wl hC hTv0 dJ7_fill_d0a16_15 hf (fun S15 hf => ?_)
    refine u_iinc (v := s6.1 + (1 : Int32)) (lv' := [(3, .int (s6.1 + (1 : Int32))), (0, .ref (X.1 v0)), (1, .long v1), (4, .int v4)]) hC dJ7_fill_d0a16_16 2 rfl rfl (by decide) rfl ?_
    refine u_goto (tgt := 6) hC dJ7_fill_d0a16_19 (by decide) ?_
    refine u_sub (lv' := [(0, .ref (X.1 v0)), (1, .long v1), (3, .int (s6.1 + (1 : Int32))), (4, .int v4)]) [1, 2, 0, 3] rfl ?_
    exact hN _ (Option.some.inj hf).symm
theorem wJ7_fill_d0a16 {C : CT} {X : XT} (hC : CK C RJ7 cJ7_fill_d0a16 5 none 1) (n : Nat) (S : PS) (a0 : Nat) (x1_ : Int64) (hTa0 : Ty X.2.1 a0 15) {o : PS} (hf : fJ7_fill_d0a16 X.2.1 n S a0 x1_ = some o) (hR : Rt C X cJ7_fill_d0a16 none none o) : UW C X S 0 [(0, .ref (X.1 a0)), (1, .long x1_)] [] := by
  unfold fJ7_fill_d0a16 at hf
  refine u_iconst (v := (0 : Int32)) hC dJ7_fill_d0a16_0 (by decide) ?_
  refine u_istore_n (lv' := [(3, .int (0 : Int32)), (0, .ref (X.1 a0)), (1, .long x1_)]) hC dJ7_fill_d0a16_1 rfl (by decide) rfl ?_
  refine u_aload_n hC dJ7_fill_d0a16_2 1 rfl rfl ?_
  refine u_lnl hC hTa0 dJ7_fill_d0a16_3 hf (fun x3 hf => ?_)
  refine u_istore (lv' := [(4, .int x3), (3, .int (0 : Int32)), (0, .ref (X.1 a0)), (1, .long x1_)]) hC dJ7_fill_d0a16_4 (by decide) rfl ?_
  obtain ⟨r6, hr6, hf⟩ := kc_some hf
  have hk6 : UW C X r6 22 [] [] := by
    cases hf
    exact hR _ _ dJ7_fill_d0a16_22 trivial
  refine u_sub (lv' := [(0, .ref (X.1 a0)), (1, .long x1_), (3, .int (0 : Int32)), (4, .int x3)]) [2, 3, 1, 0] rfl ?_
  refine iter_ind (P := fun s6 => UW C X s6.2 6 [(0, .ref (X.1 a0)), (1, .long x1_), (3, .int s6.1), (4, .int x3)] []) (fun s6 o' hb hin hout => ?_) n ((0 : Int32), S) hr6
  exact wbJ7_fill_d0a16_6 hC n a0 x1_ x3 hTa0 s6 hb hin (fun p e => by rw [hout p e]; exact hk6)
theorem ctJ7_fill_d0a16 (l : Launch) (hl : l.stackTraces = false) (G : GT) (ρ : Nat → Nat) (Y : XS) (n : Nat) (S : PS) (a0 : Nat) (x1_ : Int64) (hTa0 : Ty Y a0 15) {o : PS} (hf : fJ7_fill_d0a16 Y n S a0 x1_ = some o) : Mt l G yJ7_fill_d0a16 cJ7_fill_d0a16 5 none 1 ρ Y [.ref (ρ a0), .long x1_] S none o :=
  Mt_of hl (by decide) (Nat.le_of_ble_eq_true rfl) (fun C _ _ hC hR => wJ7_fill_d0a16 (X := (ρ, Y, 0, 0)) hC n S a0 x1_ hTa0 hf hR)
