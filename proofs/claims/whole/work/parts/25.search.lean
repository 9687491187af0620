-- X8_sumLesser
theorem dX8_sumLesser_0 : decode cX8_sumLesser 0 = .ok (.iconst 0, 1) := by decide +kernel
theorem dX8_sumLesser_1 : decode cX8_sumLesser 1 = .ok (.istore_n 2, 1) := by decide +kernel
theorem dX8_sumLesser_2 : decode cX8_sumLesser 2 = .ok (.iload_n 2, 1) := by decide +kernel
theorem dX8_sumLesser_3 : decode cX8_sumLesser 3 = .ok (.iconst 1, 1) := by decide +kernel
theorem dX8_sumLesser_4 : decode cX8_sumLesser 4 = .ok (.iadd, 1) := by decide +kernel
theorem dX8_sumLesser_5 : decode cX8_sumLesser 5 = .ok (.aload_n 1, 1) := by decide +kernel
theorem dX8_sumLesser_6 : decode cX8_sumLesser 6 = .ok (.getfield 43, 3) := by decide +kernel
theorem dX8_sumLesser_9 : decode cX8_sumLesser 9 = .ok (.getfield 49, 3) := by decide +kernel
theorem dX8_sumLesser_12 : decode cX8_sumLesser 12 = .ok (.if_icmp .ge 85, 3) := by decide +kernel
theorem dX8_sumLesser_15 : decode cX8_sumLesser 15 = .ok (.aload_n 0, 1) := by decide +kernel
theorem dX8_sumLesser_16 : decode cX8_sumLesser 16 = .ok (.getfield 21, 3) := by decide +kernel
theorem dX8_sumLesser_19 : decode cX8_sumLesser 19 = .ok (.iload_n 2, 1) := by decide +kernel
theorem dX8_sumLesser_20 : decode cX8_sumLesser 20 = .ok (.iconst 1, 1) := by decide +kernel
theorem dX8_sumLesser_21 : decode cX8_sumLesser 21 = .ok (.iadd, 1) := by decide +kernel
theorem dX8_sumLesser_22 : decode cX8_sumLesser 22 = .ok (.aload_n 0, 1) := by decide +kernel
theorem dX8_sumLesser_23 : decode cX8_sumLesser 23 = .ok (.getfield 21, 3) := by decide +kernel
theorem dX8_sumLesser_26 : decode cX8_sumLesser 26 = .ok (.iload_n 2, 1) := by decide +kernel
theorem dX8_sumLesser_27 : decode cX8_sumLesser 27 = .ok (.iaload, 1) := by decide +kernel
theorem dX8_sumLesser_28 : decode cX8_sumLesser 28 = .ok (.aload_n 1, 1) := by decide +kernel
theorem dX8_sumLesser_29 : decode cX8_sumLesser 29 = .ok (.getfield 59, 3) := by decide +kernel
theorem dX8_sumLesser_32 : decode cX8_sumLesser 32 = .ok (.iload_n 2, 1) := by decide +kernel
theorem dX8_sumLesser_33 : decode cX8_sumLesser 33 = .ok (.iaload, 1) := by decide +kernel
theorem dX8_sumLesser_34 : decode cX8_sumLesser 34 = .ok (.iadd, 1) := by decide +kernel
theorem dX8_sumLesser_35 : decode cX8_sumLesser 35 = .ok (.iastore, 1) := by decide +kernel
theorem dX8_sumLesser_36 : decode cX8_sumLesser 36 = .ok (.iconst 0, 1) := by decide +kernel
theorem dX8_sumLesser_37 : decode cX8_sumLesser 37 = .ok (.istore_n 3, 1) := by decide +kernel
theorem dX8_sumLesser_38 : decode cX8_sumLesser 38 = .ok (.iload_n 3, 1) := by decide +kernel
theorem dX8_sumLesser_39 : decode cX8_sumLesser 39 = .ok (.aload_n 1, 1) := by decide +kernel
theorem dX8_sumLesser_40 : decode cX8_sumLesser 40 = .ok (.getfield 43, 3) := by decide +kernel
theorem dX8_sumLesser_43 : decode cX8_sumLesser 43 = .ok (.getfield 72, 3) := by decide +kernel
theorem dX8_sumLesser_46 : decode cX8_sumLesser 46 = .ok (.if_icmp .ge 45, 3) := by decide +kernel
theorem dX8_sumLesser_49 : decode cX8_sumLesser 49 = .ok (.aload_n 0, 1) := by decide +kernel
theorem dX8_sumLesser_50 : decode cX8_sumLesser 50 = .ok (.getfield 24, 3) := by decide +kernel
theorem dX8_sumLesser_53 : decode cX8_sumLesser 53 = .ok (.iload_n 2, 1) := by decide +kernel
theorem dX8_sumLesser_54 : decode cX8_sumLesser 54 = .ok (.iconst 1, 1) := by decide +kernel
theorem dX8_sumLesser_55 : decode cX8_sumLesser 55 = .ok (.iadd, 1) := by decide +kernel
theorem dX8_sumLesser_56 : decode cX8_sumLesser 56 = .ok (.bipush 24, 2) := by decide +kernel
theorem dX8_sumLesser_58 : decode cX8_sumLesser 58 = .ok (.imul, 1) := by decide +kernel
theorem dX8_sumLesser_59 : decode cX8_sumLesser 59 = .ok (.iload_n 3, 1) := by decide +kernel
theorem dX8_sumLesser_60 : decode cX8_sumLesser 60 = .ok (.iadd, 1) := by decide +kernel
theorem dX8_sumLesser_61 : decode cX8_sumLesser 61 = .ok (.aload_n 0, 1) := by decide +kernel
theorem dX8_sumLesser_62 : decode cX8_sumLesser 62 = .ok (.getfield 24, 3) := by decide +kernel
theorem dX8_sumLesser_65 : decode cX8_sumLesser 65 = .ok (.iload_n 2, 1) := by decide +kernel
theorem dX8_sumLesser_66 : decode cX8_sumLesser 66 = .ok (.bipush 24, 2) := by decide +kernel
theorem dX8_sumLesser_68 : decode cX8_sumLesser 68 = .ok (.imul, 1) := by decide +kernel
theorem dX8_sumLesser_69 : decode cX8_sumLesser 69 = .ok (.iload_n 3, 1) := by decide +kernel
theorem dX8_sumLesser_70 : decode cX8_sumLesser 70 = .ok (.iadd, 1) := by decide +kernel
theorem dX8_sumLesser_71 : decode cX8_sumLesser 71 = .ok (.iaload, 1) := by decide +kernel
theorem dX8_sumLesser_72 : decode cX8_sumLesser 72 = .ok (.aload_n 1, 1) := by decide +kernel
theorem dX8_sumLesser_73 : decode cX8_sumLesser 73 = .ok (.getfield 75, 3) := by decide +kernel
theorem dX8_sumLesser_76 : decode cX8_sumLesser 76 = .ok (.iload_n 2, 1) := by decide +kernel
theorem dX8_sumLesser_77 : decode cX8_sumLesser 77 = .ok (.bipush 24, 2) := by decide +kernel
theorem dX8_sumLesser_79 : decode cX8_sumLesser 79 = .ok (.imul, 1) := by decide +kernel
theorem dX8_sumLesser_80 : decode cX8_sumLesser 80 = .ok (.iload_n 3, 1) := by decide +kernel
theorem dX8_sumLesser_81 : decode cX8_sumLesser 81 = .ok (.iadd, 1) := by decide +kernel
theorem dX8_sumLesser_82 : decode cX8_sumLesser 82 = .ok (.iaload, 1) := by decide +kernel
theorem dX8_sumLesser_83 : decode cX8_sumLesser 83 = .ok (.iadd, 1) := by decide +kernel
theorem dX8_sumLesser_84 : decode cX8_sumLesser 84 = .ok (.iastore, 1) := by decide +kernel
theorem dX8_sumLesser_85 : decode cX8_sumLesser 85 = .ok (.iinc 3 1, 3) := by decide +kernel
theorem dX8_sumLesser_88 : decode cX8_sumLesser 88 = .ok (.goto (-50), 3) := by decide +kernel
theorem dX8_sumLesser_91 : decode cX8_sumLesser 91 = .ok (.iinc 2 1, 3) := by decide +kernel
theorem dX8_sumLesser_94 : decode cX8_sumLesser 94 = .ok (.goto (-92), 3) := by decide +kernel
theorem dX8_sumLesser_97 : decode cX8_sumLesser 97 = .ok (.return_, 1) := by decide +kernel
def bX8_sumLesser_38 (Y : XS) (n : Nat) (v0 : Nat) (v1 : Nat) (v2 : Int32) (s38 : (Int32 × PS)) : Option ((Int32 × PS) ⊕ PS) :=
  kgr s38.2 v1 0 (fun b40 => kgi s38.2 b40 2 (fun x43 => (if x43 ≤ s38.1 then some (.inr s38.2) else kgr s38.2 v0 4 (fun b50 => kgr s38.2 v0 4 (fun b62 => kai Y s38.2 b62 ((v2 * (24 : Int32)) + s38.1) (fun x71 => kgr s38.2 v1 4 (fun b73 => kai Y s38.2 b73 ((v2 * (24 : Int32)) + s38.1) (fun x82 => kwi Y s38.2 b50 (((v2 + (1 : Int32)) * (24 : Int32)) + s38.1) (x71 + x82) (fun S84 => some (.inl (s38.1 + (1 : Int32), S84)))))))))))
def bX8_sumLesser_2 (Y : XS) (n : Nat) (v0 : Nat) (v1 : Nat) (s2 : (Int32 × PS)) : Option ((Int32 × PS) ⊕ PS) :=
  kgr s2.2 v1 0 (fun b6 => kgi s2.2 b6 1 (fun x9 => (if x9 ≤ (s2.1 + (1 : Int32)) then some (.inr s2.2) else kgr s2.2 v0 3 (fun b16 => kgr s2.2 v0 3 (fun b23 => kai Y s2.2 b23 s2.1 (fun x27 => kgr s2.2 v1 2 (fun b29 => kai Y s2.2 b29 s2.1 (fun x33 => kwi Y s2.2 b16 (s2.1 + (1 : Int32)) (x27 + x33) (fun S35 => kc (iter (bX8_sumLesser_38 Y n v0 v1 s2.1) n ((0 : Int32), S35)) (fun r38 => some (.inl (s2.1 + (1 : Int32), r38))))))))))))
def fX8_sumLesser (Y : XS) (n : Nat) (S : PS) (a0 : Nat) (a1 : Nat) : Option (PS) :=
  kc (iter (bX8_sumLesser_2 Y n a0 a1) n ((0 : Int32), S)) (fun r2 => some r2)
theorem wbX8_sumLesser_38 {C : CT} {X : XT} (hC : CK C RX8 cX8_sumLesser 4 none 1) (n : Nat) (v0 : Nat) (v1 : Nat) (v2 : Int32) (hTv0 : Ty X.2.1 v0 8) (hTv1 : Ty X.2.1 v1 6) (s38 : (Int32 × PS)) {o : (Int32 × PS) ⊕ PS} (hf : bX8_sumLesser_38 X.2.1 n v0 v1 v2 s38 = some o) (hN : ∀ s', o = .inl s' → UW C X s'.2 38 [(0, .ref (X.1 v0)), (1, .ref (X.1 v1)), (2, .int v2), (3, .int s'.1)] []) (hO0 : ∀ p', o = .inr p' → UW C X p' 91 [(0, .ref (X.1 v0)), (1, .ref (X.1 v1)), (2, .int v2)] []) : UW C X s38.2 38 [(0, .ref (X.1 v0)), (1, .ref (X.1 v1)), (2, .int v2), (3, .int s38.1)] [] := by
  unfold bX8_sumLesser_38 at hf
  refine u_iload_n hC dX8_sumLesser_38 3 rfl rfl ?_
  refine u_aload_n hC dX8_sumLesser_39 1 rfl rfl ?_
  refine u_gr hC lf_X8_43 rfl hTv1 dX8_sumLesser_40 hf (fun b40 hTb40 hf => ?_)
  refine u_gi hC lf_X8_72 rfl hTb40 dX8_sumLesser_43 hf (fun x43 hf => ?_)
  refine u_icmp_ge (tgt := 91) hC dX8_sumLesser_46 (by decide) hf (fun h46 hf => ?_) (fun h46 hf => ?_)
  · refine u_sub (lv' := [(0, .ref (X.1 v0)), (1, .ref (X.1 v1)), (2, .int v2)]) [0, 1, 2] rfl ?_
    exact hO0 _ (Option.some.inj hf).symm
  · refine u_aload_n hC dX8_sumLesser_49 0 rfl rfl ?_
    refine u_gr hC lf_X8_24 rfl hTv0 dX8_sumLesser_50 hf (fun b50 hTb50 hf => ?_)
    refine u_iload_n hC dX8_sumLesser_53 2 rfl rfl ?_
    refine u_iconst (v := (1 : Int32)) hC dX8_sumLesser_54 (by decide) ?_
    refine u_iadd hC dX8_sumLesser_55 ?_
    refine u_bipush (v := (24 : Int32)) hC dX8_sumLesser_56 (by decide) ?_
    refine u_imul hC dX8_sumLesser_58 ?_
    refine u_iload_n hC dX8_sumLesser_59 3 rfl rfl ?_
    refine u_iadd hC dX8_sumLesser_60 ?_
    refine u_aload_n hC dX8_sumLesser_61 0 rfl rfl ?_
    refine u_gr hC lf_X8_24 rfl hTv0 dX8_sumLesser_62 hf (fun b62 hTb62 hf => ?_)
    refine u_iload_n hC dX8_sumLesser_65 2 rfl rfl ?_
    refine u_bipush (v := (24 : Int32)) hC dX8_sumLesser_66 (by decide) ?_
    refine u_imul hC dX8_sumLesser_68 ?_
    refine u_iload_n hC dX8_sumLesser_69 3 rfl rfl ?_
    refine u_iadd hC dX8_sumLesser_70 ?_
    refine u_ai hC hTb62 dX8_sumLesser_71 hf (fun x71 hf => ?_)
    refine u_aload_n hC dX8_sumLesser_72 1 rfl rfl ?_
    refine u_gr hC lf_X8_75 rfl hTv1 dX8_sumLesser_73 hf (fun b73 hTb73 hf => ?_)
    refine u_iload_n hC dX8_sumLesser_76 2 rfl rfl ?_
    refine u_bipush (v := (24 : Int32)) hC dX8_sumLesser_77 (by decide) ?_
    refine u_imul hC dX8_sumLesser_79 ?_
    refine u_iload_n hC dX8_sumLesser_80 3 rfl rfl ?_
    refine u_iadd hC dX8_sumLesser_81 ?_
    refine u_ai hC hTb73 dX8_sumLesser_82 hf (fun x82 hf => ?_)
    refine u_iadd hC dX8_sumLesser_83 ?_
    refine u_wi hC hTb50 dX8_sumLesser_84 hf (fun S84 hf => ?_)
    refine u_iinc (v := s38.1 + (1 : Int32)) (lv' := [(3, .int (s38.1 + (1 : Int32))), (0, .ref (X.1 v0)), (1, .ref (X.1 v1)), (2, .int v2)]) hC dX8_sumLesser_85 3 rfl rfl (by decide) rfl ?_
    refine u_goto (tgt := 38) hC dX8_sumLesser_88 (by decide) ?_
    refine u_sub (lv' := [(0, .ref (X.1 v0)), (1, .ref (X.1 v1)), (2, .int v2), (3, .int (s38.1 + (1 : Int32)))]) [1, 2, 3, 0] rfl ?_
    exact hN _ (Option.some.inj hf).symm
theorem wbX8_sumLesser_2 {C : CT} {X : XT} (hC : CK C RX8 cX8_sumLesser 4 none 1) (n : Nat) (v0 : Nat) (v1 : Nat) (hTv0 : Ty X.2.1 v0 8) (hTv1 : Ty X.2.1 v1 6) (s2 : (Int32 × PS)) {o : (Int32 × PS) ⊕ PS} (hf : bX8_sumLesser_2 X.2.1 n v0 v1 s2 = some o) (hN : ∀ s', o = .inl s' → UW C X s'.2 2 [(0, .ref (X.1 v0)), (1, .ref (X.1 v1)), (2, .int s'.1)] []) (hO0 : ∀ p', o = .inr p' → UW C X p' 97 [] []) : UW C X s2.2 2 [(0, .ref (X.1 v0)), (1, .ref (X.1 v1)), (2, .int s2.1)] [] := by
  unfold bX8_sumLesser_2 at hf
  refine u_iload_n hC dX8_sumLesser_2 2 rfl rfl ?_
  refine u_iconst (v := (1 : Int32)) hC dX8_sumLesser_3 (by decide) ?_
  refine u_iadd hC dX8_sumLesser_4 ?_
  refine u_aload_n hC dX8_sumLesser_5 1 rfl rfl ?_
  refine u_gr hC lf_X8_43 rfl hTv1 dX8_sumLesser_6 hf (fun b6 hTb6 hf => ?_)
  refine u_gi hC lf_X8_49 rfl hTb6 dX8_sumLesser_9 hf (fun x9 hf => ?_)
  refine u_icmp_ge (tgt := 97) hC dX8_sumLesser_12 (by decide) hf (fun h12 hf => ?_) (fun h12 hf => ?_)
  · refine u_sub (lv' := []) [] rfl ?_
    exact hO0 _ (Option.some.inj hf).symm
  · refine u_aload_n hC dX8_sumLesser_15 0 rfl rfl ?_
    refine u_gr hC lf_X8_21 rfl hTv0 dX8_sumLesser_16 hf (fun b16 hTb16 hf => ?_)
    refine u_iload_n hC dX8_sumLesser_19 2 rfl rfl ?_
    refine u_iconst (v := (1 : Int32)) hC dX8_sumLesser_20 (by decide) ?_
    refine u_iadd hC dX8_sumLesser_21 ?_
    refine u_aload_n hC dX8_sumLesser_22 0 rfl rfl ?_
    refine u_gr hC lf_X8_21 rfl hTv0 dX8_sumLesser_23 hf (fun b23 hTb23 hf => ?_)
    refine u_iload_n hC dX8_sumLesser_26 2 rfl rfl ?_
    refine u_ai hC hTb23 dX8_sumLesser_27 hf (fun x27 hf => ?_)
    refine u_aload_n hC dX8_sumLesser_28 1 rfl rfl ?_
    refine u_gr hC lf_X8_59 rfl hTv1 dX8_sumLesser_29 hf (fun b29 hTb29 hf => ?_)
    refine u_iload_n hC dX8_sumLesser_32 2 rfl rfl ?_
    refine u_ai hC hTb29 dX8_sumLesser_33 hf (fun x33 hf => ?_)
    refine u_iadd hC dX8_sumLesser_34 ?_
    refine u_wi hC hTb16 dX8_sumLesser_35 hf (fun S35 hf => ?_)
    refine u_iconst (v := (0 : Int32)) hC dX8_sumLesser_36 (by decide) ?_
    refine u_istore_n (lv' := [(3, .int (0 : Int32)), (0, .ref (X.1 v0)), (1, .ref (X.1 v1)), (2, .int s2.1)]) hC dX8_sumLesser_37 rfl (by decide) rfl ?_
    obtain ⟨r38, hr38, hf⟩ := kc_some hf
    have hk38 : UW C X r38 91 [(0, .ref (X.1 v0)), (1, .ref (X.1 v1)), (2, .int s2.1)] [] := by
      refine u_iinc (v := s2.1 + (1 : Int32)) (lv' := [(2, .int (s2.1 + (1 : Int32))), (0, .ref (X.1 v0)), (1, .ref (X.1 v1))]) hC dX8_sumLesser_91 2 rfl rfl (by decide) rfl ?_
      refine u_goto (tgt := 2) hC dX8_sumLesser_94 (by decide) ?_
      refine u_sub (lv' := [(0, .ref (X.1 v0)), (1, .ref (X.1 v1)), (2, .int (s2.1 + (1 : Int32)))]) [1, 2, 0] rfl ?_
      exact hN _ (Option.some.inj hf).symm
    refine u_sub (lv' := [(0, .ref (X.1 v0)), (1, .ref (X.1 v1)), (2, .int s2.1), (3, .int (0 : Int32))]) [1, 2, 3, 0] rfl ?_
    refine iter_ind (P := fun s38 => UW C X s38.2 38 [(0, .ref (X.1 v0)), (1, .ref (X.1 v1)), (2, .int s2.1), (3, .int s38.1)] []) (fun s38 o' hb hin hout => ?_) n ((0 : Int32), S35) hr38
    exact wbX8_sumLesser_38 hC n v0 v1 s2.1 hTv0 hTv1 s38 hb hin (fun p e => by rw [hout p e]; exact hk38)
theorem wX8_sumLesser {C : CT} {X : XT} (hC : CK C RX8 cX8_sumLesser 4 none 1) (n : Nat) (S : PS) (a0 : Nat) (a1 : Nat) (hTa0 : Ty X.2.1 a0 8) (hTa1 : Ty X.2.1 a1 6) {o : PS} (hf : fX8_sumLesser X.2.1 n S a0 a1 = some o) (hR : Rt C X cX8_sumLesser none none o) : UW C X S 0 [(0, .ref (X.1 a0)), (1, .ref (X.1 a1))] [] := by
  unfold fX8_sumLesser at hf
  refine u_iconst (v := (0 : Int32)) hC dX8_sumLesser_0 (by decide) ?_
  refine u_istore_n (lv' := [(2, .int (0 : Int32)), (0, .ref (X.1 a0)), (1, .ref (X.1 a1))]) hC dX8_sumLesser_1 rfl (by decide) rfl ?_
  obtain ⟨r2, hr2, hf⟩ := kc_some hf
  have hk2 : UW C X r2 97 [] [] := by
    cases hf
    exact hR _ _ dX8_sumLesser_97 trivial
  refine u_sub (lv' := [(0, .ref (X.1 a0)), (1, .ref (X.1 a1)), (2, .int (0 : Int32))]) [1, 2, 0] rfl ?_
  refine iter_ind (P := fun s2 => UW C X s2.2 2 [(0, .ref (X.1 a0)), (1, .ref (X.1 a1)), (2, .int s2.1)] []) (fun s2 o' hb hin hout => ?_) n ((0 : Int32), S) hr2
  exact wbX8_sumLesser_2 hC n a0 a1 hTa0 hTa1 s2 hb hin (fun p e => by rw [hout p e]; exact hk2)
theorem ctX8_sumLesser (l : Launch) (hl : l.stackTraces = false) (G : GT) (ρ : Nat → Nat) (Y : XS) (n : Nat) (S : PS) (a0 : Nat) (a1 : Nat) (hTa0 : Ty Y a0 8) (hTa1 : Ty Y a1 6) {o : PS} (hf : fX8_sumLesser Y n S a0 a1 = some o) : Mt l G yX8_sumLesser cX8_sumLesser 4 none 1 ρ Y [.ref (ρ a0), .ref (ρ a1)] S none o :=
  Mt_of hl (by decide) (Nat.le_of_ble_eq_true rfl) (fun C _ _ hC hR => wX8_sumLesser (X := (ρ, Y, 0, 0)) hC n S a0 a1 hTa0 hTa1 hf hR)
-- X8_least
theorem dX8_least_0 : decode cX8_least 0 = .ok (.iload_n 0, 1) := by decide +kernel
theorem dX8_least_1 : decode cX8_least 1 = .ok (.ifCond .ne 8, 3) := by decide +kernel
theorem dX8_least_4 : decode cX8_least 4 = .ok (.bipush 12, 2) := by decide +kernel
theorem dX8_least_6 : decode cX8_least 6 = .ok (.goto 12, 3) := by decide +kernel
theorem dX8_least_9 : decode cX8_least 9 = .ok (.bipush 12, 2) := by decide +kernel
theorem dX8_least_11 : decode cX8_least 11 = .ok (.iload_n 0, 1) := by decide +kernel
theorem dX8_least_12 : decode cX8_least 12 = .ok (.invokestatic 27, 3) := by decide +kernel
theorem dX8_least_15 : decode cX8_least 15 = .ok (.invokestatic 33, 3) := by decide +kernel
theorem dX8_least_18 : decode cX8_least 18 = .ok (.ireturn, 1) := by decide +kernel
def jX8_least_18 (Y : XS) (n : Nat) (S : PS) (t0 : Int32) : Option (Int32) :=
  some t0
def fX8_least (Y : XS) (n : Nat) (S : PS) (x0_ : Int32) : Option (Int32) :=
  (if x0_ = 0 then jX8_least_18 Y n S (12 : Int32) else kc (fJ6_numberOfTrailingZeros_0f7a4 Y n S x0_) (fun q12 => jX8_least_18 Y n S (imin (12 : Int32) q12)))
theorem wjX8_least_18 {C : CT} {X : XT} (hC : CK C RX8 cX8_least 1 (some .int) 2) (n : Nat) (S : PS) (t0 : Int32)   {o : Int32} (hf : jX8_least_18 X.2.1 n S t0 = some o) (hR : Rt C X cX8_least (some .int) (some (.int o)) S) : UW C X S 18 [] [.int t0] := by
  unfold jX8_least_18 at hf
  cases hf
  exact hR _ _ dX8_least_18 trivial
theorem wX8_least {C : CT} {X : XT} (hC : CK C RX8 cX8_least 1 (some .int) 2) (n : Nat) (S : PS) (x0_ : Int32)  {o : Int32} (hf : fX8_least X.2.1 n S x0_ = some o) (hR : Rt C X cX8_least (some .int) (some (.int o)) S) : UW C X S 0 [(0, .int x0_)] [] := by
  unfold fX8_least at hf
  refine u_iload_n hC dX8_least_0 0 rfl rfl ?_
  refine u_if_ne (tgt := 9) hC dX8_least_1 (by decide) hf (fun h1 hf => ?_) (fun h1 hf => ?_)
  · refine u_bipush (v := (12 : Int32)) hC dX8_least_9 (by decide) ?_
    refine u_iload_n hC dX8_least_11 0 rfl rfl ?_
    obtain ⟨q12, hq12, hf⟩ := kc_some hf
    refine u_callS hC (ctJ6_numberOfTrailingZeros_0f7a4 (cL C) hC.tr (cG C) X.1 X.2.1 n S x0_  hq12) lk_X8_27 (by decide) (by decide) rfl rfl (Nat.le_of_ble_eq_true rfl) dX8_least_12 ?_
    refine u_mmin hC (tb_4 211 rfl rfl) (by decide) (Nat.le_of_ble_eq_true rfl) dX8_least_15 ?_
    refine u_sub (lv' := []) [] rfl ?_
    exact wjX8_least_18 hC n S (imin (12 : Int32) q12)   hf hR
  · refine u_bipush (v := (12 : Int32)) hC dX8_least_4 (by decide) ?_
    refine u_goto (tgt := 18) hC dX8_least_6 (by decide) ?_
    refine u_sub (lv' := []) [] rfl ?_
    exact wjX8_least_18 hC n S (12 : Int32)   hf hR
theorem ctX8_least (l : Launch) (hl : l.stackTraces = false) (G : GT) (ρ : Nat → Nat) (Y : XS) (n : Nat) (S : PS) (x0_ : Int32)  {o : Int32} (hf : fX8_least Y n S x0_ = some o) : Mt l G yX8_least cX8_least 1 (some .int) 2 ρ Y [.int x0_] S (some (.int o)) S :=
  Mt_of hl (by decide) (Nat.le_of_ble_eq_true rfl) (fun C _ _ hC hR => wX8_least (X := (ρ, Y, 0, 0)) hC n S x0_  hf hR)
-- X8_worstWith
theorem dX8_worstWith_0 : decode cX8_worstWith 0 = .ok (.aload_n 1, 1) := by decide +kernel
theorem dX8_worstWith_1 : decode cX8_worstWith 1 = .ok (.getfield 75, 3) := by decide +kernel
theorem dX8_worstWith_4 : decode cX8_worstWith 4 = .ok (.astore 5, 2) := by decide +kernel
theorem dX8_worstWith_6 : decode cX8_worstWith 6 = .ok (.aload_n 1, 1) := by decide +kernel
theorem dX8_worstWith_7 : decode cX8_worstWith 7 = .ok (.getfield 43, 3) := by decide +kernel
theorem dX8_worstWith_10 : decode cX8_worstWith 10 = .ok (.getfield 72, 3) := by decide +kernel
theorem dX8_worstWith_13 : decode cX8_worstWith 13 = .ok (.istore 6, 2) := by decide +kernel
theorem dX8_worstWith_15 : decode cX8_worstWith 15 = .ok (.iload 6, 2) := by decide +kernel
theorem dX8_worstWith_17 : decode cX8_worstWith 17 = .ok (.ifCond .ne 7, 3) := by decide +kernel
theorem dX8_worstWith_20 : decode cX8_worstWith 20 = .ok (.iconst 0, 1) := by decide +kernel
theorem dX8_worstWith_21 : decode cX8_worstWith 21 = .ok (.goto 5, 3) := by decide +kernel
theorem dX8_worstWith_24 : decode cX8_worstWith 24 = .ok (.ldc 78, 2) := by decide +kernel
theorem dX8_worstWith_26 : decode cX8_worstWith 26 = .ok (.istore 7, 2) := by decide +kernel
theorem dX8_worstWith_28 : decode cX8_worstWith 28 = .ok (.iconst 0, 1) := by decide +kernel
theorem dX8_worstWith_29 : decode cX8_worstWith 29 = .ok (.istore 8, 2) := by decide +kernel
theorem dX8_worstWith_31 : decode cX8_worstWith 31 = .ok (.iload 8, 2) := by decide +kernel
theorem dX8_worstWith_33 : decode cX8_worstWith 33 = .ok (.iload 6, 2) := by decide +kernel
theorem dX8_worstWith_35 : decode cX8_worstWith 35 = .ok (.if_icmp .ge 79, 3) := by decide +kernel
theorem dX8_worstWith_38 : decode cX8_worstWith 38 = .ok (.aload_n 0, 1) := by decide +kernel
theorem dX8_worstWith_39 : decode cX8_worstWith 39 = .ok (.getfield 18, 3) := by decide +kernel
theorem dX8_worstWith_42 : decode cX8_worstWith 42 = .ok (.iload_n 3, 1) := by decide +kernel
theorem dX8_worstWith_43 : decode cX8_worstWith 43 = .ok (.bipush 24, 2) := by decide +kernel
theorem dX8_worstWith_45 : decode cX8_worstWith 45 = .ok (.imul, 1) := by decide +kernel
theorem dX8_worstWith_46 : decode cX8_worstWith 46 = .ok (.iload 8, 2) := by decide +kernel
theorem dX8_worstWith_48 : decode cX8_worstWith 48 = .ok (.iadd, 1) := by decide +kernel
theorem dX8_worstWith_49 : decode cX8_worstWith 49 = .ok (.iaload, 1) := by decide +kernel
theorem dX8_worstWith_50 : decode cX8_worstWith 50 = .ok (.aload 5, 2) := by decide +kernel
theorem dX8_worstWith_52 : decode cX8_worstWith 52 = .ok (.iload_n 2, 1) := by decide +kernel
theorem dX8_worstWith_53 : decode cX8_worstWith 53 = .ok (.bipush 24, 2) := by decide +kernel
theorem dX8_worstWith_55 : decode cX8_worstWith 55 = .ok (.imul, 1) := by decide +kernel
theorem dX8_worstWith_56 : decode cX8_worstWith 56 = .ok (.iload 8, 2) := by decide +kernel
theorem dX8_worstWith_58 : decode cX8_worstWith 58 = .ok (.iadd, 1) := by decide +kernel
theorem dX8_worstWith_59 : decode cX8_worstWith 59 = .ok (.iaload, 1) := by decide +kernel
theorem dX8_worstWith_60 : decode cX8_worstWith 60 = .ok (.iadd, 1) := by decide +kernel
theorem dX8_worstWith_61 : decode cX8_worstWith 61 = .ok (.istore 9, 2) := by decide +kernel
theorem dX8_worstWith_63 : decode cX8_worstWith 63 = .ok (.iload 9, 2) := by decide +kernel
theorem dX8_worstWith_65 : decode cX8_worstWith 65 = .ok (.aload_n 0, 1) := by decide +kernel
theorem dX8_worstWith_66 : decode cX8_worstWith 66 = .ok (.getfield 24, 3) := by decide +kernel
theorem dX8_worstWith_69 : decode cX8_worstWith 69 = .ok (.iload_n 2, 1) := by decide +kernel
theorem dX8_worstWith_70 : decode cX8_worstWith 70 = .ok (.bipush 24, 2) := by decide +kernel
theorem dX8_worstWith_72 : decode cX8_worstWith 72 = .ok (.imul, 1) := by decide +kernel
theorem dX8_worstWith_73 : decode cX8_worstWith 73 = .ok (.iload 8, 2) := by decide +kernel
theorem dX8_worstWith_75 : decode cX8_worstWith 75 = .ok (.iadd, 1) := by decide +kernel
theorem dX8_worstWith_76 : decode cX8_worstWith 76 = .ok (.iaload, 1) := by decide +kernel
theorem dX8_worstWith_77 : decode cX8_worstWith 77 = .ok (.iadd, 1) := by decide +kernel
theorem dX8_worstWith_78 : decode cX8_worstWith 78 = .ok (.iload 4, 2) := by decide +kernel
theorem dX8_worstWith_80 : decode cX8_worstWith 80 = .ok (.if_icmp .ge 5, 3) := by decide +kernel
theorem dX8_worstWith_83 : decode cX8_worstWith 83 = .ok (.iconst (-1), 1) := by decide +kernel
theorem dX8_worstWith_84 : decode cX8_worstWith 84 = .ok (.ireturn, 1) := by decide +kernel
theorem dX8_worstWith_85 : decode cX8_worstWith 85 = .ok (.aload_n 0, 1) := by decide +kernel
theorem dX8_worstWith_86 : decode cX8_worstWith 86 = .ok (.getfield 18, 3) := by decide +kernel
theorem dX8_worstWith_89 : decode cX8_worstWith 89 = .ok (.iload_n 2, 1) := by decide +kernel
theorem dX8_worstWith_90 : decode cX8_worstWith 90 = .ok (.bipush 24, 2) := by decide +kernel
theorem dX8_worstWith_92 : decode cX8_worstWith 92 = .ok (.imul, 1) := by decide +kernel
theorem dX8_worstWith_93 : decode cX8_worstWith 93 = .ok (.iload 8, 2) := by decide +kernel
theorem dX8_worstWith_95 : decode cX8_worstWith 95 = .ok (.iadd, 1) := by decide +kernel
theorem dX8_worstWith_96 : decode cX8_worstWith 96 = .ok (.iload 9, 2) := by decide +kernel
theorem dX8_worstWith_98 : decode cX8_worstWith 98 = .ok (.iastore, 1) := by decide +kernel
theorem dX8_worstWith_99 : decode cX8_worstWith 99 = .ok (.iload 7, 2) := by decide +kernel
theorem dX8_worstWith_101 : decode cX8_worstWith 101 = .ok (.iload 9, 2) := by decide +kernel
theorem dX8_worstWith_103 : decode cX8_worstWith 103 = .ok (.invokestatic 33, 3) := by decide +kernel
theorem dX8_worstWith_106 : decode cX8_worstWith 106 = .ok (.istore 7, 2) := by decide +kernel
theorem dX8_worstWith_108 : decode cX8_worstWith 108 = .ok (.iinc 8 1, 3) := by decide +kernel
theorem dX8_worstWith_111 : decode cX8_worstWith 111 = .ok (.goto (-80), 3) := by decide +kernel
theorem dX8_worstWith_114 : decode cX8_worstWith 114 = .ok (.iload 7, 2) := by decide +kernel
theorem dX8_worstWith_116 : decode cX8_worstWith 116 = .ok (.ireturn, 1) := by decide +kernel
def bX8_worstWith_31 (Y : XS) (n : Nat) (v0 : Nat) (v2 : Int32) (v3 : Int32) (v4 : Int32) (v5 : Nat) (v6 : Int32) (s31 : (Int32 × Int32 × PS)) : Option ((Int32 × Int32 × PS) ⊕ ((Int32 × PS) ⊕ (Int32 × PS))) :=
  (if v6 ≤ s31.2.1 then some (.inr (.inl (s31.1, s31.2.2))) else kgr s31.2.2 v0 2 (fun b39 => kai Y s31.2.2 b39 ((v3 * (24 : Int32)) + s31.2.1) (fun x49 => kai Y s31.2.2 v5 ((v2 * (24 : Int32)) + s31.2.1) (fun x59 => kgr s31.2.2 v0 4 (fun b66 => kai Y s31.2.2 b66 ((v2 * (24 : Int32)) + s31.2.1) (fun x76 => (if v4 ≤ ((x49 + x59) + x76) then kgr s31.2.2 v0 2 (fun b86 => kwi Y s31.2.2 b86 ((v2 * (24 : Int32)) + s31.2.1) (x49 + x59) (fun S98 => some (.inl (imin s31.1 (x49 + x59), s31.2.1 + (1 : Int32), S98)))) else some (.inr (.inr ((-1 : Int32), s31.2.2))))))))))
def jX8_worstWith_26 (Y : XS) (n : Nat) (S : PS) (v0 : Nat) (v2 : Int32) (v3 : Int32) (v4 : Int32) (v5 : Nat) (v6 : Int32) (t0 : Int32) : Option (Int32 × PS) :=
  kc (iter (bX8_worstWith_31 Y n v0 v2 v3 v4 v5 v6) n (t0, (0 : Int32), S)) (fun r31 => ks r31 (fun p31_0 => some (p31_0.1, p31_0.2)) (fun p31_1 => some p31_1))
def fX8_worstWith (Y : XS) (n : Nat) (S : PS) (a0 : Nat) (a1 : Nat) (x2_ : Int32) (x3_ : Int32) (x4_ : Int32) : Option (Int32 × PS) :=
  kgr S a1 4 (fun b1 => kgr S a1 0 (fun b7 => kgi S b7 2 (fun x10 => (if x10 = 0 then jX8_worstWith_26 Y n S a0 x2_ x3_ x4_ b1 x10 (0 : Int32) else jX8_worstWith_26 Y n S a0 x2_ x3_ x4_ b1 x10 (119988 : Int32)))))
theorem wbX8_worstWith_31 {C : CT} {X : XT} (hC : CK C RX8 cX8_worstWith 10 (some .int) 1) (n : Nat) (v0 : Nat) (v2 : Int32) (v3 : Int32) (v4 : Int32) (v5 : Nat) (v6 : Int32) (hTv0 : Ty X.2.1 v0 8) (hTv5 : Ty X.2.1 v5 12) (s31 : (Int32 × Int32 × PS)) {o : (Int32 × Int32 × PS) ⊕ ((Int32 × PS) ⊕ (Int32 × PS))} (hf : bX8_worstWith_31 X.2.1 n v0 v2 v3 v4 v5 v6 s31 = some o) (hN : ∀ s', o = .inl s' → UW C X s'.2.2 31 [(0, .ref (X.1 v0)), (2, .int v2), (3, .int v3), (4, .int v4), (5, .ref (X.1 v5)), (6, .int v6), (7, .int s'.1), (8, .int s'.2.1)] []) (hO0 : ∀ p', o = .inr (.inl p') → UW C X p'.2 114 [(7, .int p'.1)] []) (hR : ∀ q', o = .inr (.inr q') → Rt C X cX8_worstWith (some .int) (some (.int q'.1)) q'.2) : UW C X s31.2.2 31 [(0, .ref (X.1 v0)), (2, .int v2), (3, .int v3), (4, .int v4), (5, .ref (X.1 v5)), (6, .int v6), (7, .int s31.1), (8, .int s31.2.1)] [] := by
  unfold bX8_worstWith_31 at hf
  refine u_iload hC dX8_worstWith_31 7 rfl ?_
  refine u_iload hC dX8_worstWith_33 5 rfl ?_
  refine u_icmp_ge (tgt := 114) hC dX8_worstWith_35 (by decide) hf (fun h35 hf => ?_) (fun h35 hf => ?_)
  · refine u_sub (lv' := [(7, .int s31.1)]) [6] rfl ?_
    exact hO0 _ (Option.some.inj hf).symm
  · refine u_aload_n hC dX8_worstWith_38 0 rfl rfl ?_
    refine u_gr hC lf_X8_18 rfl hTv0 dX8_worstWith_39 hf (fun b39 hTb39 hf => ?_)
    refine u_iload_n hC dX8_worstWith_42 2 rfl rfl ?_
    refine u_bipush (v := (24 : Int32)) hC dX8_worstWith_43 (by decide) ?_
    refine u_imul hC dX8_worstWith_45 ?_
    refine u_iload hC dX8_worstWith_46 7 rfl ?_
    refine u_iadd hC dX8_worstWith_48 ?_
    refine u_ai hC hTb39 dX8_worstWith_49 hf (fun x49 hf => ?_)
    refine u_aload hC dX8_worstWith_50 4 rfl ?_
    refine u_iload_n hC dX8_worstWith_52 1 rfl rfl ?_
    refine u_bipush (v := (24 : Int32)) hC dX8_worstWith_53 (by decide) ?_
    refine u_imul hC dX8_worstWith_55 ?_
    refine u_iload hC dX8_worstWith_56 7 rfl ?_
    refine u_iadd hC dX8_worstWith_58 ?_
    refine u_ai hC hTv5 dX8_worstWith_59 hf (fun x59 hf => ?_)
    refine u_iadd hC dX8_worstWith_60 ?_
    refine u_istore (lv' := [(9, .int (x49 + x59)), (0, .ref (X.1 v0)), (2, .int v2), (3, .int v3), (4, .int v4), (5, .ref (X.1 v5)), (6, .int v6), (7, .int s31.1), (8, .int s31.2.1)]) hC dX8_worstWith_61 (by decide) rfl ?_
    refine u_iload hC dX8_worstWith_63 0 rfl ?_
    refine u_aload_n hC dX8_worstWith_65 1 rfl rfl ?_
    refine u_gr hC lf_X8_24 rfl hTv0 dX8_worstWith_66 hf (fun b66 hTb66 hf => ?_)
    refine u_iload_n hC dX8_worstWith_69 2 rfl rfl ?_
    refine u_bipush (v := (24 : Int32)) hC dX8_worstWith_70 (by decide) ?_
    refine u_imul hC dX8_worstWith_72 ?_
    refine u_iload hC dX8_worstWith_73 8 rfl ?_
    refine u_iadd hC dX8_worstWith_75 ?_
    refine u_ai hC hTb66 dX8_worstWith_76 hf (fun x76 hf => ?_)
    refine u_iadd hC dX8_worstWith_77 ?_
    refine u_iload hC dX8_worstWith_78 4 rfl ?_
    refine u_icmp_ge (tgt := 85) hC dX8_worstWith_80 (by decide) hf (fun h80 hf => ?_) (fun h80 hf => ?_)
    · refine u_aload_n hC dX8_worstWith_85 1 rfl rfl ?_
      refine u_gr hC lf_X8_18 rfl hTv0 dX8_worstWith_86 hf (fun b86 hTb86 hf => ?_)
      refine u_iload_n hC dX8_worstWith_89 2 rfl rfl ?_
      refine u_bipush (v := (24 : Int32)) hC dX8_worstWith_90 (by decide) ?_
      refine u_imul hC dX8_worstWith_92 ?_
      refine u_iload hC dX8_worstWith_93 8 rfl ?_
      refine u_iadd hC dX8_worstWith_95 ?_
      refine u_iload hC dX8_worstWith_96 0 rfl ?_
      refine u_wi hC hTb86 dX8_worstWith_98 hf (fun S98 hf => ?_)
      refine u_iload hC dX8_worstWith_99 7 rfl ?_
      refine u_iload hC dX8_worstWith_101 0 rfl ?_
      refine u_mmin hC (tb_4 211 rfl rfl) (by decide) (Nat.le_of_ble_eq_true rfl) dX8_worstWith_103 ?_
      refine u_istore (lv' := [(7, .int (imin s31.1 (x49 + x59))), (9, .int (x49 + x59)), (0, .ref (X.1 v0)), (2, .int v2), (3, .int v3), (4, .int v4), (5, .ref (X.1 v5)), (6, .int v6), (8, .int s31.2.1)]) hC dX8_worstWith_106 (by decide) rfl ?_
      refine u_iinc (v := s31.2.1 + (1 : Int32)) (lv' := [(8, .int (s31.2.1 + (1 : Int32))), (7, .int (imin s31.1 (x49 + x59))), (9, .int (x49 + x59)), (0, .ref (X.1 v0)), (2, .int v2), (3, .int v3), (4, .int v4), (5, .ref (X.1 v5)), (6, .int v6)]) hC dX8_worstWith_108 8 rfl rfl (by decide) rfl ?_
      refine u_goto (tgt := 31) hC dX8_worstWith_111 (by decide) ?_
      refine u_sub (lv' := [(0, .ref (X.1 v0)), (2, .int v2), (3, .int v3), (4, .int v4), (5, .ref (X.1 v5)), (6, .int v6), (7, .int (imin s31.1 (x49 + x59))), (8, .int (s31.2.1 + (1 : Int32)))]) [3, 4, 5, 6, 7, 8, 1, 0] rfl ?_
      exact hN _ (Option.some.inj hf).symm
    · refine u_iconst (v := (-1 : Int32)) hC dX8_worstWith_83 (by decide) ?_
      exact hR _ (Option.some.inj hf).symm _ _ dX8_worstWith_84 trivial
theorem wjX8_worstWith_26 {C : CT} {X : XT} (hC : CK C RX8 cX8_worstWith 10 (some .int) 1) (n : Nat) (S : PS) (v0 : Nat) (v2 : Int32) (v3 : Int32) (v4 : Int32) (v5 : Nat) (v6 : Int32) (t0 : Int32)  (hTv0 : Ty X.2.1 v0 8) (hTv5 : Ty X.2.1 v5 12) {o : Int32 × PS} (hf : jX8_worstWith_26 X.2.1 n S v0 v2 v3 v4 v5 v6 t0 = some o) (hR : Rt C X cX8_worstWith (some .int) (some (.int o.1)) o.2) : UW C X S 26 [(0, .ref (X.1 v0)), (2, .int v2), (3, .int v3), (4, .int v4), (5, .ref (X.1 v5)), (6, .int v6)] [.int t0] := by
  unfold jX8_worstWith_26 at hf
  refine u_istore (lv' := [(7, .int t0), (0, .ref (X.1 v0)), (2, .int v2), (3, .int v3), (4, .int v4), (5, .ref (X.1 v5)), (6, .int v6)]) hC dX8_worstWith_26 (by decide) rfl ?_
  refine u_iconst (v := (0 : Int32)) hC dX8_worstWith_28 (by decide) ?_
  refine u_istore (lv' := [(8, .int (0 : Int32)), (7, .int t0), (0, .ref (X.1 v0)), (2, .int v2), (3, .int v3), (4, .int v4), (5, .ref (X.1 v5)), (6, .int v6)]) hC dX8_worstWith_29 (by decide) rfl ?_
  obtain ⟨r31, hr31, hf⟩ := kc_some hf
  have hk31_0 : ∀ p31_0, r31 = (.inl p31_0) → UW C X p31_0.2 114 [(7, .int p31_0.1)] [] := by
    intro p31_0 he
    subst he
    have hf := ks_l hf
    refine u_iload hC dX8_worstWith_114 0 rfl ?_
    cases hf
    exact hR _ _ dX8_worstWith_116 trivial
  have hk31_1 : ∀ p31_1, r31 = (.inr p31_1) → Rt C X cX8_worstWith (some .int) (some (.int p31_1.1)) p31_1.2 := by
    intro p31_1 he
    subst he
    have hf := ks_r hf
    cases hf
    exact hR
  refine u_sub (lv' := [(0, .ref (X.1 v0)), (2, .int v2), (3, .int v3), (4, .int v4), (5, .ref (X.1 v5)), (6, .int v6), (7, .int t0), (8, .int (0 : Int32))]) [2, 3, 4, 5, 6, 7, 1, 0] rfl ?_
  refine iter_ind (P := fun s31 => UW C X s31.2.2 31 [(0, .ref (X.1 v0)), (2, .int v2), (3, .int v3), (4, .int v4), (5, .ref (X.1 v5)), (6, .int v6), (7, .int s31.1), (8, .int s31.2.1)] []) (fun s31 o' hb hin hout => ?_) n (t0, (0 : Int32), S) hr31
  exact wbX8_worstWith_31 hC n v0 v2 v3 v4 v5 v6 hTv0 hTv5 s31 hb hin (fun p e => hk31_0 p (hout _ e).symm) (fun p e => hk31_1 p (hout _ e).symm)
theorem wX8_worstWith {C : CT} {X : XT} (hC : CK C RX8 cX8_worstWith 10 (some .int) 1) (n : Nat) (S : PS) (a0 : Nat) (a1 : Nat) (x2_ : Int32) (x3_ : Int32) (x4_ : Int32) (hTa0 : Ty X.2.1 a0 8) (hTa1 : Ty X.2.1 a1 6) {o : Int32 × PS} (hf : fX8_worstWith X.2.1 n S a0 a1 x2_ x3_ x4_ = some o) (hR : Rt C X cX8_worstWith (some .int) (some (.int o.1)) o.2) : UW C X S 0 [(0, .ref (X.1 a0)), (1, .ref (X.1 a1)), (2, .int x2_), (3, .int x3_), (4, .int x4_)] [] := by
  unfold fX8_worstWith at hf
  refine u_aload_n hC dX8_worstWith_0 1 rfl rfl ?_
  refine u_gr hC lf_X8_75 rfl hTa1 dX8_worstWith_1 hf (fun b1 hTb1 hf => ?_)
  refine u_astore (lv' := [(5, .ref (X.1 b1)), (0, .ref (X.1 a0)), (1, .ref (X.1 a1)), (2, .int x2_), (3, .int x3_), (4, .int x4_)]) hC dX8_worstWith_4 (by decide) rfl ?_
  refine u_aload_n hC dX8_worstWith_6 2 rfl rfl ?_
  refine u_gr hC lf_X8_43 rfl hTa1 dX8_worstWith_7 hf (fun b7 hTb7 hf => ?_)
  refine u_gi hC lf_X8_72 rfl hTb7 dX8_worstWith_10 hf (fun x10 hf => ?_)
  refine u_istore (lv' := [(6, .int x10), (5, .ref (X.1 b1)), (0, .ref (X.1 a0)), (1, .ref (X.1 a1)), (2, .int x2_), (3, .int x3_), (4, .int x4_)]) hC dX8_worstWith_13 (by decide) rfl ?_
  refine u_iload hC dX8_worstWith_15 0 rfl ?_
  refine u_if_ne (tgt := 24) hC dX8_worstWith_17 (by decide) hf (fun h17 hf => ?_) (fun h17 hf => ?_)
  · refine u_ldc (v := (119988 : Int32)) hC dX8_worstWith_24 (tb_4 216 rfl rfl) ?_
    refine u_sub (lv' := [(0, .ref (X.1 a0)), (2, .int x2_), (3, .int x3_), (4, .int x4_), (5, .ref (X.1 b1)), (6, .int x10)]) [2, 4, 5, 6, 1, 0] rfl ?_
    exact wjX8_worstWith_26 hC n S a0 x2_ x3_ x4_ b1 x10 (119988 : Int32)  hTa0 hTb1 hf hR
  · refine u_iconst (v := (0 : Int32)) hC dX8_worstWith_20 (by decide) ?_
    refine u_goto (tgt := 26) hC dX8_worstWith_21 (by decide) ?_
    refine u_sub (lv' := [(0, .ref (X.1 a0)), (2, .int x2_), (3, .int x3_), (4, .int x4_), (5, .ref (X.1 b1)), (6, .int x10)]) [2, 4, 5, 6, 1, 0] rfl ?_
    exact wjX8_worstWith_26 hC n S a0 x2_ x3_ x4_ b1 x10 (0 : Int32)  hTa0 hTb1 hf hR
theorem ctX8_worstWith (l : Launch) (hl : l.stackTraces = false) (G : GT) (ρ : Nat → Nat) (Y : XS) (n : Nat) (S : PS) (a0 : Nat) (a1 : Nat) (x2_ : Int32) (x3_ : Int32) (x4_ : Int32) (hTa0 : Ty Y a0 8) (hTa1 : Ty Y a1 6) {o : Int32 × PS} (hf : fX8_worstWith Y n S a0 a1 x2_ x3_ x4_ = some o) : Mt l G yX8_worstWith cX8_worstWith 10 (some .int) 1 ρ Y [.ref (ρ a0), .ref (ρ a1), .int x2_, .int x3_, .int x4_] S (some (.int o.1)) o.2 :=
  Mt_of hl (by decide) (Nat.le_of_ble_eq_true rfl) (fun C _ _ hC hR => wX8_worstWith (X := (ρ, Y, 0, 0)) hC n S a0 a1 x2_ x3_ x4_ hTa0 hTa1 hf hR)
-- X8_bestSet
theorem dX8_bestSet_0 : decode cX8_bestSet 0 = .ok (.aload_n 0, 1) := by decide +kernel
theorem dX8_bestSet_1 : decode cX8_bestSet 1 = .ok (.aload_n 1, 1) := by decide +kernel
theorem dX8_bestSet_2 : decode cX8_bestSet 2 = .ok (.invokevirtual 39, 3) := by decide +kernel
theorem dX8_bestSet_5 : decode cX8_bestSet 5 = .ok (.iconst 0, 1) := by decide +kernel
theorem dX8_bestSet_6 : decode cX8_bestSet 6 = .ok (.istore_n 3, 1) := by decide +kernel
theorem dX8_bestSet_7 : decode cX8_bestSet 7 = .ok (.iconst 0, 1) := by decide +kernel
theorem dX8_bestSet_8 : decode cX8_bestSet 8 = .ok (.istore 4, 2) := by decide +kernel
theorem dX8_bestSet_10 : decode cX8_bestSet 10 = .ok (.iconst 0, 1) := by decide +kernel
theorem dX8_bestSet_11 : decode cX8_bestSet 11 = .ok (.istore 5, 2) := by decide +kernel
theorem dX8_bestSet_13 : decode cX8_bestSet 13 = .ok (.iconst 0, 1) := by decide +kernel
theorem dX8_bestSet_14 : decode cX8_bestSet 14 = .ok (.istore 6, 2) := by decide +kernel
theorem dX8_bestSet_16 : decode cX8_bestSet 16 = .ok (.iconst 1, 1) := by decide +kernel
theorem dX8_bestSet_17 : decode cX8_bestSet 17 = .ok (.istore 7, 2) := by decide +kernel
theorem dX8_bestSet_19 : decode cX8_bestSet 19 = .ok (.iconst 1, 1) := by decide +kernel
theorem dX8_bestSet_20 : decode cX8_bestSet 20 = .ok (.istore 8, 2) := by decide +kernel
theorem dX8_bestSet_22 : decode cX8_bestSet 22 = .ok (.iload 8, 2) := by decide +kernel
theorem dX8_bestSet_24 : decode cX8_bestSet 24 = .ok (.iconst 1, 1) := by decide +kernel
theorem dX8_bestSet_25 : decode cX8_bestSet 25 = .ok (.aload_n 1, 1) := by decide +kernel
theorem dX8_bestSet_26 : decode cX8_bestSet 26 = .ok (.getfield 43, 3) := by decide +kernel
theorem dX8_bestSet_29 : decode cX8_bestSet 29 = .ok (.getfield 49, 3) := by decide +kernel
theorem dX8_bestSet_32 : decode cX8_bestSet 32 = .ok (.ishl, 1) := by decide +kernel
theorem dX8_bestSet_33 : decode cX8_bestSet 33 = .ok (.if_icmp .ge 251, 3) := by decide +kernel
theorem dX8_bestSet_36 : decode cX8_bestSet 36 = .ok (.iload 8, 2) := by decide +kernel
theorem dX8_bestSet_38 : decode cX8_bestSet 38 = .ok (.invokestatic 55, 3) := by decide +kernel
theorem dX8_bestSet_41 : decode cX8_bestSet 41 = .ok (.istore 9, 2) := by decide +kernel
theorem dX8_bestSet_43 : decode cX8_bestSet 43 = .ok (.iload 8, 2) := by decide +kernel
theorem dX8_bestSet_45 : decode cX8_bestSet 45 = .ok (.iload 8, 2) := by decide +kernel
theorem dX8_bestSet_47 : decode cX8_bestSet 47 = .ok (.iconst 1, 1) := by decide +kernel
theorem dX8_bestSet_48 : decode cX8_bestSet 48 = .ok (.isub, 1) := by decide +kernel
theorem dX8_bestSet_49 : decode cX8_bestSet 49 = .ok (.iand, 1) := by decide +kernel
theorem dX8_bestSet_50 : decode cX8_bestSet 50 = .ok (.invokestatic 55, 3) := by decide +kernel
theorem dX8_bestSet_53 : decode cX8_bestSet 53 = .ok (.istore 10, 2) := by decide +kernel
theorem dX8_bestSet_55 : decode cX8_bestSet 55 = .ok (.iload 9, 2) := by decide +kernel
theorem dX8_bestSet_57 : decode cX8_bestSet 57 = .ok (.bipush 12, 2) := by decide +kernel
theorem dX8_bestSet_59 : decode cX8_bestSet 59 = .ok (.if_icmp .lt 5, 3) := by decide +kernel
theorem dX8_bestSet_62 : decode cX8_bestSet 62 = .ok (.iload_n 3, 1) := by decide +kernel
theorem dX8_bestSet_63 : decode cX8_bestSet 63 = .ok (.ireturn, 1) := by decide +kernel
theorem dX8_bestSet_64 : decode cX8_bestSet 64 = .ok (.aload_n 0, 1) := by decide +kernel
theorem dX8_bestSet_65 : decode cX8_bestSet 65 = .ok (.getfield 9, 3) := by decide +kernel
theorem dX8_bestSet_68 : decode cX8_bestSet 68 = .ok (.iload 10, 2) := by decide +kernel
theorem dX8_bestSet_70 : decode cX8_bestSet 70 = .ok (.iaload, 1) := by decide +kernel
theorem dX8_bestSet_71 : decode cX8_bestSet 71 = .ok (.aload_n 1, 1) := by decide +kernel
theorem dX8_bestSet_72 : decode cX8_bestSet 72 = .ok (.getfield 43, 3) := by decide +kernel
theorem dX8_bestSet_75 : decode cX8_bestSet 75 = .ok (.getfield 58, 3) := by decide +kernel
theorem dX8_bestSet_78 : decode cX8_bestSet 78 = .ok (.iload 9, 2) := by decide +kernel
theorem dX8_bestSet_80 : decode cX8_bestSet 80 = .ok (.iaload, 1) := by decide +kernel
theorem dX8_bestSet_81 : decode cX8_bestSet 81 = .ok (.iadd, 1) := by decide +kernel
theorem dX8_bestSet_82 : decode cX8_bestSet 82 = .ok (.istore 11, 2) := by decide +kernel
theorem dX8_bestSet_84 : decode cX8_bestSet 84 = .ok (.aload_n 0, 1) := by decide +kernel
theorem dX8_bestSet_85 : decode cX8_bestSet 85 = .ok (.getfield 15, 3) := by decide +kernel
theorem dX8_bestSet_88 : decode cX8_bestSet 88 = .ok (.iload 10, 2) := by decide +kernel
theorem dX8_bestSet_90 : decode cX8_bestSet 90 = .ok (.iaload, 1) := by decide +kernel
theorem dX8_bestSet_91 : decode cX8_bestSet 91 = .ok (.aload_n 1, 1) := by decide +kernel
theorem dX8_bestSet_92 : decode cX8_bestSet 92 = .ok (.getfield 59, 3) := by decide +kernel
theorem dX8_bestSet_95 : decode cX8_bestSet 95 = .ok (.iload 9, 2) := by decide +kernel
theorem dX8_bestSet_97 : decode cX8_bestSet 97 = .ok (.iaload, 1) := by decide +kernel
theorem dX8_bestSet_98 : decode cX8_bestSet 98 = .ok (.iadd, 1) := by decide +kernel
theorem dX8_bestSet_99 : decode cX8_bestSet 99 = .ok (.istore 12, 2) := by decide +kernel
theorem dX8_bestSet_101 : decode cX8_bestSet 101 = .ok (.iload 11, 2) := by decide +kernel
theorem dX8_bestSet_103 : decode cX8_bestSet 103 = .ok (.aload_n 1, 1) := by decide +kernel
theorem dX8_bestSet_104 : decode cX8_bestSet 104 = .ok (.getfield 43, 3) := by decide +kernel
theorem dX8_bestSet_107 : decode cX8_bestSet 107 = .ok (.getfield 62, 3) := by decide +kernel
theorem dX8_bestSet_110 : decode cX8_bestSet 110 = .ok (.if_icmp .gt 22, 3) := by decide +kernel
theorem dX8_bestSet_113 : decode cX8_bestSet 113 = .ok (.iload_n 2, 1) := by decide +kernel
theorem dX8_bestSet_114 : decode cX8_bestSet 114 = .ok (.ifCond .ne 22, 3) := by decide +kernel
theorem dX8_bestSet_117 : decode cX8_bestSet 117 = .ok (.iload 12, 2) := by decide +kernel
theorem dX8_bestSet_119 : decode cX8_bestSet 119 = .ok (.aload_n 0, 1) := by decide +kernel
theorem dX8_bestSet_120 : decode cX8_bestSet 120 = .ok (.getfield 21, 3) := by decide +kernel
theorem dX8_bestSet_123 : decode cX8_bestSet 123 = .ok (.iload 9, 2) := by decide +kernel
theorem dX8_bestSet_125 : decode cX8_bestSet 125 = .ok (.iaload, 1) := by decide +kernel
theorem dX8_bestSet_126 : decode cX8_bestSet 126 = .ok (.iadd, 1) := by decide +kernel
theorem dX8_bestSet_127 : decode cX8_bestSet 127 = .ok (.iload 5, 2) := by decide +kernel
theorem dX8_bestSet_129 : decode cX8_bestSet 129 = .ok (.if_icmp .ge 7, 3) := by decide +kernel
theorem dX8_bestSet_132 : decode cX8_bestSet 132 = .ok (.iconst 1, 1) := by decide +kernel
theorem dX8_bestSet_133 : decode cX8_bestSet 133 = .ok (.goto 4, 3) := by decide +kernel
theorem dX8_bestSet_136 : decode cX8_bestSet 136 = .ok (.iconst 0, 1) := by decide +kernel
theorem dX8_bestSet_137 : decode cX8_bestSet 137 = .ok (.istore 13, 2) := by decide +kernel
theorem dX8_bestSet_139 : decode cX8_bestSet 139 = .ok (.iload 13, 2) := by decide +kernel
theorem dX8_bestSet_141 : decode cX8_bestSet 141 = .ok (.ifCond .ne 7, 3) := by decide +kernel
theorem dX8_bestSet_144 : decode cX8_bestSet 144 = .ok (.iload_n 2, 1) := by decide +kernel
theorem dX8_bestSet_145 : decode cX8_bestSet 145 = .ok (.ifCond .ne 7, 3) := by decide +kernel
theorem dX8_bestSet_148 : decode cX8_bestSet 148 = .ok (.iconst 0, 1) := by decide +kernel
theorem dX8_bestSet_149 : decode cX8_bestSet 149 = .ok (.goto 14, 3) := by decide +kernel
theorem dX8_bestSet_152 : decode cX8_bestSet 152 = .ok (.aload_n 0, 1) := by decide +kernel
theorem dX8_bestSet_153 : decode cX8_bestSet 153 = .ok (.aload_n 1, 1) := by decide +kernel
theorem dX8_bestSet_154 : decode cX8_bestSet 154 = .ok (.iload 9, 2) := by decide +kernel
theorem dX8_bestSet_156 : decode cX8_bestSet 156 = .ok (.iload 10, 2) := by decide +kernel
theorem dX8_bestSet_158 : decode cX8_bestSet 158 = .ok (.iload 4, 2) := by decide +kernel
theorem dX8_bestSet_160 : decode cX8_bestSet 160 = .ok (.invokevirtual 65, 3) := by decide +kernel
theorem dX8_bestSet_163 : decode cX8_bestSet 163 = .ok (.istore 14, 2) := by decide +kernel
theorem dX8_bestSet_165 : decode cX8_bestSet 165 = .ok (.iload 13, 2) := by decide +kernel
theorem dX8_bestSet_167 : decode cX8_bestSet 167 = .ok (.ifCond .ne 9, 3) := by decide +kernel
theorem dX8_bestSet_170 : decode cX8_bestSet 170 = .ok (.iload 14, 2) := by decide +kernel
theorem dX8_bestSet_172 : decode cX8_bestSet 172 = .ok (.iconst (-1), 1) := by decide +kernel
theorem dX8_bestSet_173 : decode cX8_bestSet 173 = .ok (.if_icmp .ne 14, 3) := by decide +kernel
theorem dX8_bestSet_176 : decode cX8_bestSet 176 = .ok (.iload 8, 2) := by decide +kernel
theorem dX8_bestSet_178 : decode cX8_bestSet 178 = .ok (.iload 8, 2) := by decide +kernel
theorem dX8_bestSet_180 : decode cX8_bestSet 180 = .ok (.ineg, 1) := by decide +kernel
theorem dX8_bestSet_181 : decode cX8_bestSet 181 = .ok (.iand, 1) := by decide +kernel
theorem dX8_bestSet_182 : decode cX8_bestSet 182 = .ok (.istore 7, 2) := by decide +kernel
theorem dX8_bestSet_184 : decode cX8_bestSet 184 = .ok (.goto 86, 3) := by decide +kernel
theorem dX8_bestSet_187 : decode cX8_bestSet 187 = .ok (.iconst 1, 1) := by decide +kernel
theorem dX8_bestSet_188 : decode cX8_bestSet 188 = .ok (.istore 7, 2) := by decide +kernel
theorem dX8_bestSet_190 : decode cX8_bestSet 190 = .ok (.aload_n 0, 1) := by decide +kernel
theorem dX8_bestSet_191 : decode cX8_bestSet 191 = .ok (.getfield 9, 3) := by decide +kernel
theorem dX8_bestSet_194 : decode cX8_bestSet 194 = .ok (.iload 9, 2) := by decide +kernel
theorem dX8_bestSet_196 : decode cX8_bestSet 196 = .ok (.iload 11, 2) := by decide +kernel
theorem dX8_bestSet_198 : decode cX8_bestSet 198 = .ok (.iastore, 1) := by decide +kernel
theorem dX8_bestSet_199 : decode cX8_bestSet 199 = .ok (.aload_n 0, 1) := by decide +kernel
theorem dX8_bestSet_200 : decode cX8_bestSet 200 = .ok (.getfield 15, 3) := by decide +kernel
theorem dX8_bestSet_203 : decode cX8_bestSet 203 = .ok (.iload 9, 2) := by decide +kernel
theorem dX8_bestSet_205 : decode cX8_bestSet 205 = .ok (.iload 12, 2) := by decide +kernel
theorem dX8_bestSet_207 : decode cX8_bestSet 207 = .ok (.iastore, 1) := by decide +kernel
theorem dX8_bestSet_208 : decode cX8_bestSet 208 = .ok (.iload 12, 2) := by decide +kernel
theorem dX8_bestSet_210 : decode cX8_bestSet 210 = .ok (.iload 5, 2) := by decide +kernel
theorem dX8_bestSet_212 : decode cX8_bestSet 212 = .ok (.if_icmp .gt 17, 3) := by decide +kernel
theorem dX8_bestSet_215 : decode cX8_bestSet 215 = .ok (.iload 12, 2) := by decide +kernel
theorem dX8_bestSet_217 : decode cX8_bestSet 217 = .ok (.iload 5, 2) := by decide +kernel
theorem dX8_bestSet_219 : decode cX8_bestSet 219 = .ok (.if_icmp .ne 14, 3) := by decide +kernel
theorem dX8_bestSet_222 : decode cX8_bestSet 222 = .ok (.iload 11, 2) := by decide +kernel
theorem dX8_bestSet_224 : decode cX8_bestSet 224 = .ok (.iload 6, 2) := by decide +kernel
theorem dX8_bestSet_226 : decode cX8_bestSet 226 = .ok (.if_icmp .ge 7, 3) := by decide +kernel
theorem dX8_bestSet_229 : decode cX8_bestSet 229 = .ok (.iconst 1, 1) := by decide +kernel
theorem dX8_bestSet_230 : decode cX8_bestSet 230 = .ok (.goto 4, 3) := by decide +kernel
theorem dX8_bestSet_233 : decode cX8_bestSet 233 = .ok (.iconst 0, 1) := by decide +kernel
theorem dX8_bestSet_234 : decode cX8_bestSet 234 = .ok (.istore 15, 2) := by decide +kernel
theorem dX8_bestSet_236 : decode cX8_bestSet 236 = .ok (.iload 14, 2) := by decide +kernel
theorem dX8_bestSet_238 : decode cX8_bestSet 238 = .ok (.iload 4, 2) := by decide +kernel
theorem dX8_bestSet_240 : decode cX8_bestSet 240 = .ok (.if_icmp .gt 15, 3) := by decide +kernel
theorem dX8_bestSet_243 : decode cX8_bestSet 243 = .ok (.iload 14, 2) := by decide +kernel
theorem dX8_bestSet_245 : decode cX8_bestSet 245 = .ok (.iload 4, 2) := by decide +kernel
theorem dX8_bestSet_247 : decode cX8_bestSet 247 = .ok (.if_icmp .ne 23, 3) := by decide +kernel
theorem dX8_bestSet_250 : decode cX8_bestSet 250 = .ok (.iload 15, 2) := by decide +kernel
theorem dX8_bestSet_252 : decode cX8_bestSet 252 = .ok (.ifCond .eq 18, 3) := by decide +kernel
theorem dX8_bestSet_255 : decode cX8_bestSet 255 = .ok (.iload 8, 2) := by decide +kernel
theorem dX8_bestSet_257 : decode cX8_bestSet 257 = .ok (.istore_n 3, 1) := by decide +kernel
theorem dX8_bestSet_258 : decode cX8_bestSet 258 = .ok (.iload 14, 2) := by decide +kernel
theorem dX8_bestSet_260 : decode cX8_bestSet 260 = .ok (.istore 4, 2) := by decide +kernel
theorem dX8_bestSet_262 : decode cX8_bestSet 262 = .ok (.iload 12, 2) := by decide +kernel
theorem dX8_bestSet_264 : decode cX8_bestSet 264 = .ok (.istore 5, 2) := by decide +kernel
theorem dX8_bestSet_266 : decode cX8_bestSet 266 = .ok (.iload 11, 2) := by decide +kernel
theorem dX8_bestSet_268 : decode cX8_bestSet 268 = .ok (.istore 6, 2) := by decide +kernel
theorem dX8_bestSet_270 : decode cX8_bestSet 270 = .ok (.iload 8, 2) := by decide +kernel
theorem dX8_bestSet_272 : decode cX8_bestSet 272 = .ok (.iconst 1, 1) := by decide +kernel
theorem dX8_bestSet_273 : decode cX8_bestSet 273 = .ok (.iload 7, 2) := by decide +kernel
theorem dX8_bestSet_275 : decode cX8_bestSet 275 = .ok (.invokestatic 69, 3) := by decide +kernel
theorem dX8_bestSet_278 : decode cX8_bestSet 278 = .ok (.iadd, 1) := by decide +kernel
theorem dX8_bestSet_279 : decode cX8_bestSet 279 = .ok (.istore 8, 2) := by decide +kernel
theorem dX8_bestSet_281 : decode cX8_bestSet 281 = .ok (.goto (-259), 3) := by decide +kernel
theorem dX8_bestSet_284 : decode cX8_bestSet 284 = .ok (.iload_n 3, 1) := by decide +kernel
theorem dX8_bestSet_285 : decode cX8_bestSet 285 = .ok (.ireturn, 1) := by decide +kernel
def jX8_bestSet_270_22 (Y : XS) (n : Nat) (S : PS) (v0 : Nat) (v1 : Nat) (v2 : Int32) (v3 : Int32) (v4 : Int32) (v5 : Int32) (v6 : Int32) (v7 : Int32) (v8 : Int32) : Option ((Int32 × Int32 × Int32 × Int32 × Int32 × PS) ⊕ ((Int32 × PS) ⊕ (Int32 × PS))) :=
  some (.inl (v3, v4, v5, v6, v8 + (imax (1 : Int32) v7), S))
def jX8_bestSet_176_22 (Y : XS) (n : Nat) (S : PS) (v0 : Nat) (v1 : Nat) (v2 : Int32) (v3 : Int32) (v4 : Int32) (v5 : Int32) (v6 : Int32) (v8 : Int32) : Option ((Int32 × Int32 × Int32 × Int32 × Int32 × PS) ⊕ ((Int32 × PS) ⊕ (Int32 × PS))) :=
  jX8_bestSet_270_22 Y n S v0 v1 v2 v3 v4 v5 v6 (v8 &&& (-v8)) v8
def jX8_bestSet_255_22 (Y : XS) (n : Nat) (S : PS) (v0 : Nat) (v1 : Nat) (v2 : Int32) (v7 : Int32) (v8 : Int32) (v11 : Int32) (v12 : Int32) (v14 : Int32) : Option ((Int32 × Int32 × Int32 × Int32 × Int32 × PS) ⊕ ((Int32 × PS) ⊕ (Int32 × PS))) :=
  jX8_bestSet_270_22 Y n S v0 v1 v2 v8 v14 v12 v11 v7 v8
def jX8_bestSet_234_22 (Y : XS) (n : Nat) (S : PS) (v0 : Nat) (v1 : Nat) (v2 : Int32) (v3 : Int32) (v4 : Int32) (v5 : Int32) (v6 : Int32) (v7 : Int32) (v8 : Int32) (v11 : Int32) (v12 : Int32) (v14 : Int32) (t0 : Int32) : Option ((Int32 × Int32 × Int32 × Int32 × Int32 × PS) ⊕ ((Int32 × PS) ⊕ (Int32 × PS))) :=
  (if v4 < v14 then jX8_bestSet_255_22 Y n S v0 v1 v2 v7 v8 v11 v12 v14 else (if v14 = v4 then (if t0 = 0 then jX8_bestSet_270_22 Y n S v0 v1 v2 v3 v4 v5 v6 v7 v8 else jX8_bestSet_255_22 Y n S v0 v1 v2 v7 v8 v11 v12 v14) else jX8_bestSet_270_22 Y n S v0 v1 v2 v3 v4 v5 v6 v7 v8))
def jX8_bestSet_229_22 (Y : XS) (n : Nat) (S : PS) (v0 : Nat) (v1 : Nat) (v2 : Int32) (v3 : Int32) (v4 : Int32) (v5 : Int32) (v6 : Int32) (v7 : Int32) (v8 : Int32) (v11 : Int32) (v12 : Int32) (v14 : Int32) : Option ((Int32 × Int32 × Int32 × Int32 × Int32 × PS) ⊕ ((Int32 × PS) ⊕ (Int32 × PS))) :=
  jX8_bestSet_234_22 Y n S v0 v1 v2 v3 v4 v5 v6 v7 v8 v11 v12 v14 (1 : Int32)
def jX8_bestSet_233_22 (Y : XS) (n : Nat) (S : PS) (v0 : Nat) (v1 : Nat) (v2 : Int32) (v3 : Int32) (v4 : Int32) (v5 : Int32) (v6 : Int32) (v7 : Int32) (v8 : Int32) (v11 : Int32) (v12 : Int32) (v14 : Int32) : Option ((Int32 × Int32 × Int32 × Int32 × Int32 × PS) ⊕ ((Int32 × PS) ⊕ (Int32 × PS))) :=
  jX8_bestSet_234_22 Y n S v0 v1 v2 v3 v4 v5 v6 v7 v8 v11 v12 v14 (0 : Int32)
def jX8_bestSet_163_22 (Y : XS) (n : Nat) (S : PS) (v0 : Nat) (v1 : Nat) (v2 : Int32) (v3 : Int32) (v4 : Int32) (v5 : Int32) (v6 : Int32) (v8 : Int32) (v9 : Int32) (v11 : Int32) (v12 : Int32) (v13 : Int32) (t0 : Int32) : Option ((Int32 × Int32 × Int32 × Int32 × Int32 × PS) ⊕ ((Int32 × PS) ⊕ (Int32 × PS))) :=
  (if v13 = 0 then (if t0 = (-1 : Int32) then jX8_bestSet_176_22 Y n S v0 v1 v2 v3 v4 v5 v6 v8 else kgr S v0 0 (fun b191 => kwi Y S b191 v9 v11 (fun S198 => kgr S198 v0 1 (fun b200 => kwi Y S198 b200 v9 v12 (fun S207 => (if v5 < v12 then jX8_bestSet_229_22 Y n S207 v0 v1 v2 v3 v4 v5 v6 (1 : Int32) v8 v11 v12 t0 else (if v12 = v5 then (if v6 ≤ v11 then jX8_bestSet_233_22 Y n S207 v0 v1 v2 v3 v4 v5 v6 (1 : Int32) v8 v11 v12 t0 else jX8_bestSet_229_22 Y n S207 v0 v1 v2 v3 v4 v5 v6 (1 : Int32) v8 v11 v12 t0) else jX8_bestSet_233_22 Y n S207 v0 v1 v2 v3 v4 v5 v6 (1 : Int32) v8 v11 v12 t0))))))) else jX8_bestSet_176_22 Y n S v0 v1 v2 v3 v4 v5 v6 v8)
def jX8_bestSet_148_22 (Y : XS) (n : Nat) (S : PS) (v0 : Nat) (v1 : Nat) (v2 : Int32) (v3 : Int32) (v4 : Int32) (v5 : Int32) (v6 : Int32) (v8 : Int32) (v9 : Int32) (v11 : Int32) (v12 : Int32) (v13 : Int32) : Option ((Int32 × Int32 × Int32 × Int32 × Int32 × PS) ⊕ ((Int32 × PS) ⊕ (Int32 × PS))) :=
  jX8_bestSet_163_22 Y n S v0 v1 v2 v3 v4 v5 v6 v8 v9 v11 v12 v13 (0 : Int32)
def jX8_bestSet_137_22 (Y : XS) (n : Nat) (S : PS) (v0 : Nat) (v1 : Nat) (v2 : Int32) (v3 : Int32) (v4 : Int32) (v5 : Int32) (v6 : Int32) (v8 : Int32) (v9 : Int32) (v10 : Int32) (v11 : Int32) (v12 : Int32) (t0 : Int32) : Option ((Int32 × Int32 × Int32 × Int32 × Int32 × PS) ⊕ ((Int32 × PS) ⊕ (Int32 × PS))) :=
  (if t0 = 0 then (if v2 = 0 then jX8_bestSet_148_22 Y n S v0 v1 v2 v3 v4 v5 v6 v8 v9 v11 v12 t0 else kc (fX8_worstWith Y n S v0 v1 v9 v10 v4) (fun q160 => jX8_bestSet_163_22 Y n q160.2 v0 v1 v2 v3 v4 v5 v6 v8 v9 v11 v12 t0 q160.1)) else jX8_bestSet_148_22 Y n S v0 v1 v2 v3 v4 v5 v6 v8 v9 v11 v12 t0)
def jX8_bestSet_132_22 (Y : XS) (n : Nat) (S : PS) (v0 : Nat) (v1 : Nat) (v2 : Int32) (v3 : Int32) (v4 : Int32) (v5 : Int32) (v6 : Int32) (v8 : Int32) (v9 : Int32) (v10 : Int32) (v11 : Int32) (v12 : Int32) : Option ((Int32 × Int32 × Int32 × Int32 × Int32 × PS) ⊕ ((Int32 × PS) ⊕ (Int32 × PS))) :=
  jX8_bestSet_137_22 Y n S v0 v1 v2 v3 v4 v5 v6 v8 v9 v10 v11 v12 (1 : Int32)
def jX8_bestSet_136_22 (Y : XS) (n : Nat) (S : PS) (v0 : Nat) (v1 : Nat) (v2 : Int32) (v3 : Int32) (v4 : Int32) (v5 : Int32) (v6 : Int32) (v8 : Int32) (v9 : Int32) (v10 : Int32) (v11 : Int32) (v12 : Int32) : Option ((Int32 × Int32 × Int32 × Int32 × Int32 × PS) ⊕ ((Int32 × PS) ⊕ (Int32 × PS))) :=
  jX8_bestSet_137_22 Y n S v0 v1 v2 v3 v4 v5 v6 v8 v9 v10 v11 v12 (0 : Int32)
def bX8_bestSet_22 (Y : XS) (n : Nat) (v0 : Nat) (v1 : Nat) (v2 : Int32) (s22 : (Int32 × Int32 × Int32 × Int32 × Int32 × PS)) : Option ((Int32 × Int32 × Int32 × Int32 × Int32 × PS) ⊕ ((Int32 × PS) ⊕ (Int32 × PS))) :=
  kgr s22.2.2.2.2.2 v1 0 (fun b26 => kgi s22.2.2.2.2.2 b26 1 (fun x29 => (if ((1 : Int32) <<< (x29 &&& 31)) ≤ s22.2.2.2.2.1 then some (.inr (.inl (s22.1, s22.2.2.2.2.2))) else kc (fX8_least Y n s22.2.2.2.2.2 s22.2.2.2.2.1) (fun q38 => kc (fX8_least Y n s22.2.2.2.2.2 (s22.2.2.2.2.1 &&& (s22.2.2.2.2.1 - (1 : Int32)))) (fun q50 => (if q38 < (12 : Int32) then kgr s22.2.2.2.2.2 v0 0 (fun b65 => kai Y s22.2.2.2.2.2 b65 q50 (fun x70 => kgr s22.2.2.2.2.2 v1 0 (fun b72 => kgr s22.2.2.2.2.2 b72 4 (fun b75 => kai Y s22.2.2.2.2.2 b75 q38 (fun x80 => kgr s22.2.2.2.2.2 v0 1 (fun b85 => kai Y s22.2.2.2.2.2 b85 q50 (fun x90 => kgr s22.2.2.2.2.2 v1 2 (fun b92 => kai Y s22.2.2.2.2.2 b92 q38 (fun x97 => kgr s22.2.2.2.2.2 v1 0 (fun b104 => kgi s22.2.2.2.2.2 b104 0 (fun x107 => (if x107 < (x70 + x80) then jX8_bestSet_132_22 Y n s22.2.2.2.2.2 v0 v1 v2 s22.1 s22.2.1 s22.2.2.1 s22.2.2.2.1 s22.2.2.2.2.1 q38 q50 (x70 + x80) (x90 + x97) else (if v2 = 0 then kgr s22.2.2.2.2.2 v0 3 (fun b120 => kai Y s22.2.2.2.2.2 b120 q38 (fun x125 => (if s22.2.2.1 ≤ ((x90 + x97) + x125) then jX8_bestSet_136_22 Y n s22.2.2.2.2.2 v0 v1 v2 s22.1 s22.2.1 s22.2.2.1 s22.2.2.2.1 s22.2.2.2.2.1 q38 q50 (x70 + x80) (x90 + x97) else jX8_bestSet_132_22 Y n s22.2.2.2.2.2 v0 v1 v2 s22.1 s22.2.1 s22.2.2.1 s22.2.2.2.1 s22.2.2.2.2.1 q38 q50 (x70 + x80) (x90 + x97)))) else jX8_bestSet_136_22 Y n s22.2.2.2.2.2 v0 v1 v2 s22.1 s22.2.1 s22.2.2.1 s22.2.2.2.1 s22.2.2.2.2.1 q38 q50 (x70 + x80) (x90 + x97)))))))))))))) else some (.inr (.inr (s22.1, s22.2.2.2.2.2)))))))))
def fX8_bestSet (Y : XS) (n : Nat) (S : PS) (a0 : Nat) (a1 : Nat) (x2_ : Int32) : Option (Int32 × PS) :=
  kc (fX8_sumLesser Y n S a0 a1) (fun q2 => kc (iter (bX8_bestSet_22 Y n a0 a1 x2_) n ((0 : Int32), (0 : Int32), (0 : Int32), (0 : Int32), (1 : Int32), q2)) (fun r22 => ks r22 (fun p22_0 => some (p22_0.1, p22_0.2)) (fun p22_1 => some p22_1)))
theorem wjX8_bestSet_270_22 {C : CT} {X : XT} (hC : CK C RX8 cX8_bestSet 16 (some .int) 3) (n : Nat) (S : PS) (v0 : Nat) (v1 : Nat) (v2 : Int32) (v3 : Int32) (v4 : Int32) (v5 : Int32) (v6 : Int32) (v7 : Int32) (v8 : Int32)  (hTv0 : Ty X.2.1 v0 8) (hTv1 : Ty X.2.1 v1 6) {o : (Int32 × Int32 × Int32 × Int32 × Int32 × PS) ⊕ ((Int32 × PS) ⊕ (Int32 × PS))} (hf : jX8_bestSet_270_22 X.2.1 n S v0 v1 v2 v3 v4 v5 v6 v7 v8 = some o) (hN : ∀ s', o = .inl s' → UW C X s'.2.2.2.2.2 22 [(0, .ref (X.1 v0)), (1, .ref (X.1 v1)), (2, .int v2), (3, .int s'.1), (4, .int s'.2.1), (5, .int s'.2.2.1), (6, .int s'.2.2.2.1), (8, .int s'.2.2.2.2.1)] []) (hO0 : ∀ p', o = .inr (.inl p') → UW C X p'.2 284 [(3, .int p'.1)] []) (hR : ∀ q', o = .inr (.inr q') → Rt C X cX8_bestSet (some .int) (some (.int q'.1)) q'.2) : UW C X S 270 [(0, .ref (X.1 v0)), (1, .ref (X.1 v1)), (2, .int v2), (3, .int v3), (4, .int v4), (5, .int v5), (6, .int v6), (7, .int v7), (8, .int v8)] [] := by
  unfold jX8_bestSet_270_22 at hf
  refine u_iload hC dX8_bestSet_270 8 rfl ?_
  refine u_iconst (v := (1 : Int32)) hC dX8_bestSet_272 (by decide) ?_
  refine u_iload hC dX8_bestSet_273 7 rfl ?_
  refine u_mmax hC (tb_4 217 rfl rfl) (by decide) (Nat.le_of_ble_eq_true rfl) dX8_bestSet_275 ?_
  refine u_iadd hC dX8_bestSet_278 ?_
  refine u_istore (lv' := [(8, .int (v8 + (imax (1 : Int32) v7))), (0, .ref (X.1 v0)), (1, .ref (X.1 v1)), (2, .int v2), (3, .int v3), (4, .int v4), (5, .int v5), (6, .int v6), (7, .int v7)]) hC dX8_bestSet_279 (by decide) rfl ?_
  refine u_goto (tgt := 22) hC dX8_bestSet_281 (by decide) ?_
  refine u_sub (lv' := [(0, .ref (X.1 v0)), (1, .ref (X.1 v1)), (2, .int v2), (3, .int v3), (4, .int v4), (5, .int v5), (6, .int v6), (8, .int (v8 + (imax (1 : Int32) v7)))]) [1, 2, 3, 4, 5, 6, 7, 0] rfl ?_
  exact hN _ (Option.some.inj hf).symm
theorem wjX8_bestSet_176_22 {C : CT} {X : XT} (hC : CK C RX8 cX8_bestSet 16 (some .int) 3) (n : Nat) (S : PS) (v0 : Nat) (v1 : Nat) (v2 : Int32) (v3 : Int32) (v4 : Int32) (v5 : Int32) (v6 : Int32) (v8 : Int32)  (hTv0 : Ty X.2.1 v0 8) (hTv1 : Ty X.2.1 v1 6) {o : (Int32 × Int32 × Int32 × Int32 × Int32 × PS) ⊕ ((Int32 × PS) ⊕ (Int32 × PS))} (hf : jX8_bestSet_176_22 X.2.1 n S v0 v1 v2 v3 v4 v5 v6 v8 = some o) (hN : ∀ s', o = .inl s' → UW C X s'.2.2.2.2.2 22 [(0, .ref (X.1 v0)), (1, .ref (X.1 v1)), (2, .int v2), (3, .int s'.1), (4, .int s'.2.1), (5, .int s'.2.2.1), (6, .int s'.2.2.2.1), (8, .int s'.2.2.2.2.1)] []) (hO0 : ∀ p', o = .inr (.inl p') → UW C X p'.2 284 [(3, .int p'.1)] []) (hR : ∀ q', o = .inr (.inr q') → Rt C X cX8_bestSet (some .int) (some (.int q'.1)) q'.2) : UW C X S 176 [(0, .ref (X.1 v0)), (1, .ref (X.1 v1)), (2, .int v2), (3, .int v3), (4, .int v4), (5, .int v5), (6, .int v6), (8, .int v8)] [] := by
  unfold jX8_bestSet_176_22 at hf
  refine u_iload hC dX8_bestSet_176 7 rfl ?_
  refine u_iload hC dX8_bestSet_178 7 rfl ?_
  refine u_ineg hC dX8_bestSet_180 ?_
  refine u_iand hC dX8_bestSet_181 ?_
  refine u_istore (lv' := [(7, .int (v8 &&& (-v8))), (0, .ref (X.1 v0)), (1, .ref (X.1 v1)), (2, .int v2), (3, .int v3), (4, .int v4), (5, .int v5), (6, .int v6), (8, .int v8)]) hC dX8_bestSet_182 (by decide) rfl ?_
  refine u_goto (tgt := 270) hC dX8_bestSet_184 (by decide) ?_
  refine u_sub (lv' := [(0, .ref (X.1 v0)), (1, .ref (X.1 v1)), (2, .int v2), (3, .int v3), (4, .int v4), (5, .int v5), (6, .int v6), (7, .int (v8 &&& (-v8))), (8, .int v8)]) [1, 2, 3, 4, 5, 6, 7, 0, 8] rfl ?_
  exact wjX8_bestSet_270_22 hC n S v0 v1 v2 v3 v4 v5 v6 (v8 &&& (-v8)) v8  hTv0 hTv1 hf hN hO0 hR
theorem wjX8_bestSet_255_22 {C : CT} {X : XT} (hC : CK C RX8 cX8_bestSet 16 (some .int) 3) (n : Nat) (S : PS) (v0 : Nat) (v1 : Nat) (v2 : Int32) (v7 : Int32) (v8 : Int32) (v11 : Int32) (v12 : Int32) (v14 : Int32)  (hTv0 : Ty X.2.1 v0 8) (hTv1 : Ty X.2.1 v1 6) {o : (Int32 × Int32 × Int32 × Int32 × Int32 × PS) ⊕ ((Int32 × PS) ⊕ (Int32 × PS))} (hf : jX8_bestSet_255_22 X.2.1 n S v0 v1 v2 v7 v8 v11 v12 v14 = some o) (hN : ∀ s', o = .inl s' → UW C X s'.2.2.2.2.2 22 [(0, .ref (X.1 v0)), (1, .ref (X.1 v1)), (2, .int v2), (3, .int s'.1), (4, .int s'.2.1), (5, .int s'.2.2.1), (6, .int s'.2.2.2.1), (8, .int s'.2.2.2.2.1)] []) (hO0 : ∀ p', o = .inr (.inl p') → UW C X p'.2 284 [(3, .int p'.1)] []) (hR : ∀ q', o = .inr (.inr q') → Rt C X cX8_bestSet (some .int) (some (.int q'.1)) q'.2) : UW C X S 255 [(0, .ref (X.1 v0)), (1, .ref (X.1 v1)), (2, .int v2), (7, .int v7), (8, .int v8), (11, .int v11), (12, .int v12), (14, .int v14)] [] := by
  unfold jX8_bestSet_255_22 at hf
  refine u_iload hC dX8_bestSet_255 4 rfl ?_
  refine u_istore_n (lv' := [(3, .int v8), (0, .ref (X.1 v0)), (1, .ref (X.1 v1)), (2, .int v2), (7, .int v7), (8, .int v8), (11, .int v11), (12, .int v12), (14, .int v14)]) hC dX8_bestSet_257 rfl (by decide) rfl ?_
  refine u_iload hC dX8_bestSet_258 8 rfl ?_
  refine u_istore (lv' := [(4, .int v14), (3, .int v8), (0, .ref (X.1 v0)), (1, .ref (X.1 v1)), (2, .int v2), (7, .int v7), (8, .int v8), (11, .int v11), (12, .int v12), (14, .int v14)]) hC dX8_bestSet_260 (by decide) rfl ?_
  refine u_iload hC dX8_bestSet_262 8 rfl ?_
  refine u_istore (lv' := [(5, .int v12), (4, .int v14), (3, .int v8), (0, .ref (X.1 v0)), (1, .ref (X.1 v1)), (2, .int v2), (7, .int v7), (8, .int v8), (11, .int v11), (12, .int v12), (14, .int v14)]) hC dX8_bestSet_264 (by decide) rfl ?_
  refine u_iload hC dX8_bestSet_266 8 rfl ?_
  refine u_istore (lv' := [(6, .int v11), (5, .int v12), (4, .int v14), (3, .int v8), (0, .ref (X.1 v0)), (1, .ref (X.1 v1)), (2, .int v2), (7, .int v7), (8, .int v8), (11, .int v11), (12, .int v12), (14, .int v14)]) hC dX8_bestSet_268 (by decide) rfl ?_
  refine u_sub (lv' := [(0, .ref (X.1 v0)), (1, .ref (X.1 v1)), (2, .int v2), (3, .int v8), (4, .int v14), (5, .int v12), (6, .int v11), (7, .int v7), (8, .int v8)]) [4, 5, 6, 3, 2, 1, 0, 7, 8] rfl ?_
  exact wjX8_bestSet_270_22 hC n S v0 v1 v2 v8 v14 v12 v11 v7 v8  hTv0 hTv1 hf hN hO0 hR
theorem wjX8_bestSet_234_22 {C : CT} {X : XT} (hC : CK C RX8 cX8_bestSet 16 (some .int) 3) (n : Nat) (S : PS) (v0 : Nat) (v1 : Nat) (v2 : Int32) (v3 : Int32) (v4 : Int32) (v5 : Int32) (v6 : Int32) (v7 : Int32) (v8 : Int32) (v11 : Int32) (v12 : Int32) (v14 : Int32) (t0 : Int32)  (hTv0 : Ty X.2.1 v0 8) (hTv1 : Ty X.2.1 v1 6) {o : (Int32 × Int32 × Int32 × Int32 × Int32 × PS) ⊕ ((Int32 × PS) ⊕ (Int32 × PS))} (hf : jX8_bestSet_234_22 X.2.1 n S v0 v1 v2 v3 v4 v5 v6 v7 v8 v11 v12 v14 t0 = some o) (hN : ∀ s', o = .inl s' → UW C X s'.2.2.2.2.2 22 [(0, .ref (X.1 v0)), (1, .ref (X.1 v1)), (2, .int v2), (3, .int s'.1), (4, .int s'.2.1), (5, .int s'.2.2.1), (6, .int s'.2.2.2.1), (8, .int s'.2.2.2.2.1)] []) (hO0 : ∀ p', o = .inr (.inl p') → UW C X p'.2 284 [(3, .int p'.1)] []) (hR : ∀ q', o = .inr (.inr q') → Rt C X cX8_bestSet (some .int) (some (.int q'.1)) q'.2) : UW C X S 234 [(0, .ref (X.1 v0)), (1, .ref (X.1 v1)), (2, .int v2), (3, .int v3), (4, .int v4), (5, .int v5), (6, .int v6), (7, .int v7), (8, .int v8), (11, .int v11), (12, .int v12), (14, .int v14)] [.int t0] := by
  unfold jX8_bestSet_234_22 at hf
  refine u_istore (lv' := [(15, .int t0), (0, .ref (X.1 v0)), (1, .ref (X.1 v1)), (2, .int v2), (3, .int v3), (4, .int v4), (5, .int v5), (6, .int v6), (7, .int v7), (8, .int v8), (11, .int v11), (12, .int v12), (14, .int v14)]) hC dX8_bestSet_234 (by decide) rfl ?_
  refine u_iload hC dX8_bestSet_236 12 rfl ?_
  refine u_iload hC dX8_bestSet_238 5 rfl ?_
  refine u_icmp_gt (tgt := 255) hC dX8_bestSet_240 (by decide) hf (fun h240 hf => ?_) (fun h240 hf => ?_)
  · refine u_sub (lv' := [(0, .ref (X.1 v0)), (1, .ref (X.1 v1)), (2, .int v2), (7, .int v7), (8, .int v8), (11, .int v11), (12, .int v12), (14, .int v14)]) [1, 2, 3, 8, 9, 10, 11, 12] rfl ?_
    exact wjX8_bestSet_255_22 hC n S v0 v1 v2 v7 v8 v11 v12 v14  hTv0 hTv1 hf hN hO0 hR
  · refine u_iload hC dX8_bestSet_243 12 rfl ?_
    refine u_iload hC dX8_bestSet_245 5 rfl ?_
    refine u_icmp_ne (tgt := 270) hC dX8_bestSet_247 (by decide) hf (fun h247 hf => ?_) (fun h247 hf => ?_)
    · refine u_sub (lv' := [(0, .ref (X.1 v0)), (1, .ref (X.1 v1)), (2, .int v2), (3, .int v3), (4, .int v4), (5, .int v5), (6, .int v6), (7, .int v7), (8, .int v8)]) [1, 2, 3, 4, 5, 6, 7, 8, 9] rfl ?_
      exact wjX8_bestSet_270_22 hC n S v0 v1 v2 v3 v4 v5 v6 v7 v8  hTv0 hTv1 hf hN hO0 hR
    · refine u_iload hC dX8_bestSet_250 0 rfl ?_
      refine u_if_eq (tgt := 270) hC dX8_bestSet_252 (by decide) hf (fun h252 hf => ?_) (fun h252 hf => ?_)
      · refine u_sub (lv' := [(0, .ref (X.1 v0)), (1, .ref (X.1 v1)), (2, .int v2), (3, .int v3), (4, .int v4), (5, .int v5), (6, .int v6), (7, .int v7), (8, .int v8)]) [1, 2, 3, 4, 5, 6, 7, 8, 9] rfl ?_
        exact wjX8_bestSet_270_22 hC n S v0 v1 v2 v3 v4 v5 v6 v7 v8  hTv0 hTv1 hf hN hO0 hR
      · refine u_sub (lv' := [(0, .ref (X.1 v0)), (1, .ref (X.1 v1)), (2, .int v2), (7, .int v7), (8, .int v8), (11, .int v11), (12, .int v12), (14, .int v14)]) [1, 2, 3, 8, 9, 10, 11, 12] rfl ?_
        exact wjX8_bestSet_255_22 hC n S v0 v1 v2 v7 v8 v11 v12 v14  hTv0 hTv1 hf hN hO0 hR
theorem wjX8_bestSet_229_22 {C : CT} {X : XT} (hC : CK C RX8 cX8_bestSet 16 (some .int) 3) (n : Nat) (S : PS) (v0 : Nat) (v1 : Nat) (v2 : Int32) (v3 : Int32) (v4 : Int32) (v5 : Int32) (v6 : Int32) (v7 : Int32) (v8 : Int32) (v11 : Int32) (v12 : Int32) (v14 : Int32)  (hTv0 : Ty X.2.1 v0 8) (hTv1 : Ty X.2.1 v1 6) {o : (Int32 × Int32 × Int32 × Int32 × Int32 × PS) ⊕ ((Int32 × PS) ⊕ (Int32 × PS))} (hf : jX8_bestSet_229_22 X.2.1 n S v0 v1 v2 v3 v4 v5 v6 v7 v8 v11 v12 v14 = some o) (hN : ∀ s', o = .inl s' → UW C X s'.2.2.2.2.2 22 [(0, .ref (X.1 v0)), (1, .ref (X.1 v1)), (2, .int v2), (3, .int s'.1), (4, .int s'.2.1), (5, .int s'.2.2.1), (6, .int s'.2.2.2.1), (8, .int s'.2.2.2.2.1)] []) (hO0 : ∀ p', o = .inr (.inl p') → UW C X p'.2 284 [(3, .int p'.1)] []) (hR : ∀ q', o = .inr (.inr q') → Rt C X cX8_bestSet (some .int) (some (.int q'.1)) q'.2) : UW C X S 229 [(0, .ref (X.1 v0)), (1, .ref (X.1 v1)), (2, .int v2), (3, .int v3), (4, .int v4), (5, .int v5), (6, .int v6), (7, .int v7), (8, .int v8), (11, .int v11), (12, .int v12), (14, .int v14)] [] := by
  unfold jX8_bestSet_229_22 at hf
  refine u_iconst (v := (1 : Int32)) hC dX8_bestSet_229 (by decide) ?_
  refine u_goto (tgt := 234) hC dX8_bestSet_230 (by decide) ?_
  exact wjX8_bestSet_234_22 hC n S v0 v1 v2 v3 v4 v5 v6 v7 v8 v11 v12 v14 (1 : Int32)  hTv0 hTv1 hf hN hO0 hR
theorem wjX8_bestSet_233_22 {C : CT} {X : XT} (hC : CK C RX8 cX8_bestSet 16 (some .int) 3) (n : Nat) (S : PS) (v0 : Nat) (v1 : Nat) (v2 : Int32) (v3 : Int32) (v4 : Int32) (v5 : Int32) (v6 : Int32) (v7 : Int32) (v8 : Int32) (v11 : Int32) (v12 : Int32) (v14 : Int32)  (hTv0 : Ty X.2.1 v0 8) (hTv1 : Ty X.2.1 v1 6) {o : (Int32 × Int32 × Int32 × Int32 × Int32 × PS) ⊕ ((Int32 × PS) ⊕ (Int32 × PS))} (hf : jX8_bestSet_233_22 X.2.1 n S v0 v1 v2 v3 v4 v5 v6 v7 v8 v11 v12 v14 = some o) (hN : ∀ s', o = .inl s' → UW C X s'.2.2.2.2.2 22 [(0, .ref (X.1 v0)), (1, .ref (X.1 v1)), (2, .int v2), (3, .int s'.1), (4, .int s'.2.1), (5, .int s'.2.2.1), (6, .int s'.2.2.2.1), (8, .int s'.2.2.2.2.1)] []) (hO0 : ∀ p', o = .inr (.inl p') → UW C X p'.2 284 [(3, .int p'.1)] []) (hR : ∀ q', o = .inr (.inr q') → Rt C X cX8_bestSet (some .int) (some (.int q'.1)) q'.2) : UW C X S 233 [(0, .ref (X.1 v0)), (1, .ref (X.1 v1)), (2, .int v2), (3, .int v3), (4, .int v4), (5, .int v5), (6, .int v6), (7, .int v7), (8, .int v8), (11, .int v11), (12, .int v12), (14, .int v14)] [] := by
  unfold jX8_bestSet_233_22 at hf
  refine u_iconst (v := (0 : Int32)) hC dX8_bestSet_233 (by decide) ?_
  exact wjX8_bestSet_234_22 hC n S v0 v1 v2 v3 v4 v5 v6 v7 v8 v11 v12 v14 (0 : Int32)  hTv0 hTv1 hf hN hO0 hR
theorem wjX8_bestSet_163_22 {C : CT} {X : XT} (hC : CK C RX8 cX8_bestSet 16 (some .int) 3) (n : Nat) (S : PS) (v0 : Nat) (v1 : Nat) (v2 : Int32) (v3 : Int32) (v4 : Int32) (v5 : Int32) (v6 : Int32) (v8 : Int32) (v9 : Int32) (v11 : Int32) (v12 : Int32) (v13 : Int32) (t0 : Int32)  (hTv0 : Ty X.2.1 v0 8) (hTv1 : Ty X.2.1 v1 6) {o : (Int32 × Int32 × Int32 × Int32 × Int32 × PS) ⊕ ((Int32 × PS) ⊕ (Int32 × PS))} (hf : jX8_bestSet_163_22 X.2.1 n S v0 v1 v2 v3 v4 v5 v6 v8 v9 v11 v12 v13 t0 = some o) (hN : ∀ s', o = .inl s' → UW C X s'.2.2.2.2.2 22 [(0, .ref (X.1 v0)), (1, .ref (X.1 v1)), (2, .int v2), (3, .int s'.1), (4, .int s'.2.1), (5, .int s'.2.2.1), (6, .int s'.2.2.2.1), (8, .int s'.2.2.2.2.1)] []) (hO0 : ∀ p', o = .inr (.inl p') → UW C X p'.2 284 [(3, .int p'.1)] []) (hR : ∀ q', o = .inr (.inr q') → Rt C X cX8_bestSet (some .int) (some (.int q'.1)) q'.2) : UW C X S 163 [(0, .ref (X.1 v0)), (1, .ref (X.1 v1)), (2, .int v2), (3, .int v3), (4, .int v4), (5, .int v5), (6, .int v6), (8, .int v8), (9, .int v9), (11, .int v11), (12, .int v12), (13, .int v13)] [.int t0] := by
  unfold jX8_bestSet_163_22 at hf
  refine u_istore (lv' := [(14, .int t0), (0, .ref (X.1 v0)), (1, .ref (X.1 v1)), (2, .int v2), (3, .int v3), (4, .int v4), (5, .int v5), (6, .int v6), (8, .int v8), (9, .int v9), (11, .int v11), (12, .int v12), (13, .int v13)]) hC dX8_bestSet_163 (by decide) rfl ?_
  refine u_iload hC dX8_bestSet_165 12 rfl ?_
  refine u_if_ne (tgt := 176) hC dX8_bestSet_167 (by decide) hf (fun h167 hf => ?_) (fun h167 hf => ?_)
  · refine u_sub (lv' := [(0, .ref (X.1 v0)), (1, .ref (X.1 v1)), (2, .int v2), (3, .int v3), (4, .int v4), (5, .int v5), (6, .int v6), (8, .int v8)]) [1, 2, 3, 4, 5, 6, 7, 8] rfl ?_
    exact wjX8_bestSet_176_22 hC n S v0 v1 v2 v3 v4 v5 v6 v8  hTv0 hTv1 hf hN hO0 hR
  · refine u_iload hC dX8_bestSet_170 0 rfl ?_
    refine u_iconst (v := (-1 : Int32)) hC dX8_bestSet_172 (by decide) ?_
    refine u_icmp_ne (tgt := 187) hC dX8_bestSet_173 (by decide) hf (fun h173 hf => ?_) (fun h173 hf => ?_)
    · refine u_iconst (v := (1 : Int32)) hC dX8_bestSet_187 (by decide) ?_
      refine u_istore (lv' := [(7, .int (1 : Int32)), (14, .int t0), (0, .ref (X.1 v0)), (1, .ref (X.1 v1)), (2, .int v2), (3, .int v3), (4, .int v4), (5, .int v5), (6, .int v6), (8, .int v8), (9, .int v9), (11, .int v11), (12, .int v12), (13, .int v13)]) hC dX8_bestSet_188 (by decide) rfl ?_
      refine u_aload_n hC dX8_bestSet_190 2 rfl rfl ?_
      refine u_gr hC lf_X8_9 rfl hTv0 dX8_bestSet_191 hf (fun b191 hTb191 hf => ?_)
      refine u_iload hC dX8_bestSet_194 10 rfl ?_
      refine u_iload hC dX8_bestSet_196 11 rfl ?_
      refine u_wi hC hTb191 dX8_bestSet_198 hf (fun S198 hf => ?_)
      refine u_aload_n hC dX8_bestSet_199 2 rfl rfl ?_
      refine u_gr hC lf_X8_15 rfl hTv0 dX8_bestSet_200 hf (fun b200 hTb200 hf => ?_)
      refine u_iload hC dX8_bestSet_203 10 rfl ?_
      refine u_iload hC dX8_bestSet_205 12 rfl ?_
      refine u_wi hC hTb200 dX8_bestSet_207 hf (fun S207 hf => ?_)
      refine u_iload hC dX8_bestSet_208 12 rfl ?_
      refine u_iload hC dX8_bestSet_210 7 rfl ?_
      refine u_icmp_gt (tgt := 229) hC dX8_bestSet_212 (by decide) hf (fun h212 hf => ?_) (fun h212 hf => ?_)
      · refine u_sub (lv' := [(0, .ref (X.1 v0)), (1, .ref (X.1 v1)), (2, .int v2), (3, .int v3), (4, .int v4), (5, .int v5), (6, .int v6), (7, .int (1 : Int32)), (8, .int v8), (11, .int v11), (12, .int v12), (14, .int t0)]) [2, 3, 4, 5, 6, 7, 8, 0, 9, 11, 12, 1] rfl ?_
        exact wjX8_bestSet_229_22 hC n S207 v0 v1 v2 v3 v4 v5 v6 (1 : Int32) v8 v11 v12 t0  hTv0 hTv1 hf hN hO0 hR
      · refine u_iload hC dX8_bestSet_215 12 rfl ?_
        refine u_iload hC dX8_bestSet_217 7 rfl ?_
        refine u_icmp_ne (tgt := 233) hC dX8_bestSet_219 (by decide) hf (fun h219 hf => ?_) (fun h219 hf => ?_)
        · refine u_sub (lv' := [(0, .ref (X.1 v0)), (1, .ref (X.1 v1)), (2, .int v2), (3, .int v3), (4, .int v4), (5, .int v5), (6, .int v6), (7, .int (1 : Int32)), (8, .int v8), (11, .int v11), (12, .int v12), (14, .int t0)]) [2, 3, 4, 5, 6, 7, 8, 0, 9, 11, 12, 1] rfl ?_
          exact wjX8_bestSet_233_22 hC n S207 v0 v1 v2 v3 v4 v5 v6 (1 : Int32) v8 v11 v12 t0  hTv0 hTv1 hf hN hO0 hR
        · refine u_iload hC dX8_bestSet_222 11 rfl ?_
          refine u_iload hC dX8_bestSet_224 8 rfl ?_
          refine u_icmp_ge (tgt := 233) hC dX8_bestSet_226 (by decide) hf (fun h226 hf => ?_) (fun h226 hf => ?_)
          · refine u_sub (lv' := [(0, .ref (X.1 v0)), (1, .ref (X.1 v1)), (2, .int v2), (3, .int v3), (4, .int v4), (5, .int v5), (6, .int v6), (7, .int (1 : Int32)), (8, .int v8), (11, .int v11), (12, .int v12), (14, .int t0)]) [2, 3, 4, 5, 6, 7, 8, 0, 9, 11, 12, 1] rfl ?_
            exact wjX8_bestSet_233_22 hC n S207 v0 v1 v2 v3 v4 v5 v6 (1 : Int32) v8 v11 v12 t0  hTv0 hTv1 hf hN hO0 hR
          · refine u_sub (lv' := [(0, .ref (X.1 v0)), (1, .ref (X.1 v1)), (2, .int v2), (3, .int v3), (4, .int v4), (5, .int v5), (6, .int v6), (7, .int (1 : Int32)), (8, .int v8), (11, .int v11), (12, .int v12), (14, .int t0)]) [2, 3, 4, 5, 6, 7, 8, 0, 9, 11, 12, 1] rfl ?_
            exact wjX8_bestSet_229_22 hC n S207 v0 v1 v2 v3 v4 v5 v6 (1 : Int32) v8 v11 v12 t0  hTv0 hTv1 hf hN hO0 hR
    · refine u_sub (lv' := [(0, .ref (X.1 v0)), (1, .ref (X.1 v1)), (2, .int v2), (3, .int v3), (4, .int v4), (5, .int v5), (6, .int v6), (8, .int v8)]) [1, 2, 3, 4, 5, 6, 7, 8] rfl ?_
      exact wjX8_bestSet_176_22 hC n S v0 v1 v2 v3 v4 v5 v6 v8  hTv0 hTv1 hf hN hO0 hR
theorem wjX8_bestSet_148_22 {C : CT} {X : XT} (hC : CK C RX8 cX8_bestSet 16 (some .int) 3) (n : Nat) (S : PS) (v0 : Nat) (v1 : Nat) (v2 : Int32) (v3 : Int32) (v4 : Int32) (v5 : Int32) (v6 : Int32) (v8 : Int32) (v9 : Int32) (v11 : Int32) (v12 : Int32) (v13 : Int32)  (hTv0 : Ty X.2.1 v0 8) (hTv1 : Ty X.2.1 v1 6) {o : (Int32 × Int32 × Int32 × Int32 × Int32 × PS) ⊕ ((Int32 × PS) ⊕ (Int32 × PS))} (hf : jX8_bestSet_148_22 X.2.1 n S v0 v1 v2 v3 v4 v5 v6 v8 v9 v11 v12 v13 = some o) (hN : ∀ s', o = .inl s' → UW C X s'.2.2.2.2.2 22 [(0, .ref (X.1 v0)), (1, .ref (X.1 v1)), (2, .int v2), (3, .int s'.1), (4, .int s'.2.1), (5, .int s'.2.2.1), (6, .int s'.2.2.2.1), (8, .int s'.2.2.2.2.1)] []) (hO0 : ∀ p', o = .inr (.inl p') → UW C X p'.2 284 [(3, .int p'.1)] []) (hR : ∀ q', o = .inr (.inr q') → Rt C X cX8_bestSet (some .int) (some (.int q'.1)) q'.2) : UW C X S 148 [(0, .ref (X.1 v0)), (1, .ref (X.1 v1)), (2, .int v2), (3, .int v3), (4, .int v4), (5, .int v5), (6, .int v6), (8, .int v8), (9, .int v9), (11, .int v11), (12, .int v12), (13, .int v13)] [] := by
  unfold jX8_bestSet_148_22 at hf
  refine u_iconst (v := (0 : Int32)) hC dX8_bestSet_148 (by decide) ?_
  refine u_goto (tgt := 163) hC dX8_bestSet_149 (by decide) ?_
  exact wjX8_bestSet_163_22 hC n S v0 v1 v2 v3 v4 v5 v6 v8 v9 v11 v12 v13 (0 : Int32)  hTv0 hTv1 hf hN hO0 hR
theorem wjX8_bestSet_137_22 {C : CT} {X : XT} (hC : CK C RX8 cX8_bestSet 16 (some .int) 3) (n : Nat) (S : PS) (v0 : Nat) (v1 : Nat) (v2 : Int32) (v3 : Int32) (v4 : Int32) (v5 : Int32) (v6 : Int32) (v8 : Int32) (v9 : Int32) (v10 : Int32) (v11 : Int32) (v12 : Int32) (t0 : Int32)  (hTv0 : Ty X.2.1 v0 8) (hTv1 : Ty X.2.1 v1 6) {o : (Int32 × Int32 × Int32 × Int32 × Int32 × PS) ⊕ ((Int32 × PS) ⊕ (Int32 × PS))} (hf : jX8_bestSet_137_22 X.2.1 n S v0 v1 v2 v3 v4 v5 v6 v8 v9 v10 v11 v12 t0 = some o) (hN : ∀ s', o = .inl s' → UW C X s'.2.2.2.2.2 22 [(0, .ref (X.1 v0)), (1, .ref (X.1 v1)), (2, .int v2), (3, .int s'.1), (4, .int s'.2.1), (5, .int s'.2.2.1), (6, .int s'.2.2.2.1), (8, .int s'.2.2.2.2.1)] []) (hO0 : ∀ p', o = .inr (.inl p') → UW C X p'.2 284 [(3, .int p'.1)] []) (hR : ∀ q', o = .inr (.inr q') → Rt C X cX8_bestSet (some .int) (some (.int q'.1)) q'.2) : UW C X S 137 [(0, .ref (X.1 v0)), (1, .ref (X.1 v1)), (2, .int v2), (3, .int v3), (4, .int v4), (5, .int v5), (6, .int v6), (8, .int v8), (9, .int v9), (10, .int v10), (11, .int v11), (12, .int v12)] [.int t0] := by
  unfold jX8_bestSet_137_22 at hf
  refine u_istore (lv' := [(13, .int t0), (0, .ref (X.1 v0)), (1, .ref (X.1 v1)), (2, .int v2), (3, .int v3), (4, .int v4), (5, .int v5), (6, .int v6), (8, .int v8), (9, .int v9), (10, .int v10), (11, .int v11), (12, .int v12)]) hC dX8_bestSet_137 (by decide) rfl ?_
  refine u_iload hC dX8_bestSet_139 0 rfl ?_
  refine u_if_ne (tgt := 148) hC dX8_bestSet_141 (by decide) hf (fun h141 hf => ?_) (fun h141 hf => ?_)
  · refine u_sub (lv' := [(0, .ref (X.1 v0)), (1, .ref (X.1 v1)), (2, .int v2), (3, .int v3), (4, .int v4), (5, .int v5), (6, .int v6), (8, .int v8), (9, .int v9), (11, .int v11), (12, .int v12), (13, .int t0)]) [1, 2, 3, 4, 5, 6, 7, 8, 9, 11, 12, 0] rfl ?_
    exact wjX8_bestSet_148_22 hC n S v0 v1 v2 v3 v4 v5 v6 v8 v9 v11 v12 t0  hTv0 hTv1 hf hN hO0 hR
  · refine u_iload_n hC dX8_bestSet_144 3 rfl rfl ?_
    refine u_if_ne (tgt := 152) hC dX8_bestSet_145 (by decide) hf (fun h145 hf => ?_) (fun h145 hf => ?_)
    · refine u_aload_n hC dX8_bestSet_152 1 rfl rfl ?_
      refine u_aload_n hC dX8_bestSet_153 2 rfl rfl ?_
      refine u_iload hC dX8_bestSet_154 9 rfl ?_
      refine u_iload hC dX8_bestSet_156 10 rfl ?_
      refine u_iload hC dX8_bestSet_158 5 rfl ?_
      obtain ⟨q160, hq160, hf⟩ := kc_some hf
      refine u_callV hC (ctX8_worstWith (cL C) hC.tr (cG C) X.1 X.2.1 n S v0 v1 v9 v10 v4 hTv0 hTv1 hq160) lk_X8_65 rfl hTv0 (by decide) rfl (by decide) (by decide) rfl rfl (Nat.le_of_ble_eq_true rfl) dX8_bestSet_160 ?_
      refine u_sub (lv' := [(0, .ref (X.1 v0)), (1, .ref (X.1 v1)), (2, .int v2), (3, .int v3), (4, .int v4), (5, .int v5), (6, .int v6), (8, .int v8), (9, .int v9), (11, .int v11), (12, .int v12), (13, .int t0)]) [1, 2, 3, 4, 5, 6, 7, 8, 9, 11, 12, 0] rfl ?_
      exact wjX8_bestSet_163_22 hC n q160.2 v0 v1 v2 v3 v4 v5 v6 v8 v9 v11 v12 t0 q160.1  hTv0 hTv1 hf hN hO0 hR
    · refine u_sub (lv' := [(0, .ref (X.1 v0)), (1, .ref (X.1 v1)), (2, .int v2), (3, .int v3), (4, .int v4), (5, .int v5), (6, .int v6), (8, .int v8), (9, .int v9), (11, .int v11), (12, .int v12), (13, .int t0)]) [1, 2, 3, 4, 5, 6, 7, 8, 9, 11, 12, 0] rfl ?_
      exact wjX8_bestSet_148_22 hC n S v0 v1 v2 v3 v4 v5 v6 v8 v9 v11 v12 t0  hTv0 hTv1 hf hN hO0 hR
theorem wjX8_bestSet_132_22 {C : CT} {X : XT} (hC : CK C RX8 cX8_bestSet 16 (some .int) 3) (n : Nat) (S : PS) (v0 : Nat) (v1 : Nat) (v2 : Int32) (v3 : Int32) (v4 : Int32) (v5 : Int32) (v6 : Int32) (v8 : Int32) (v9 : Int32) (v10 : Int32) (v11 : Int32) (v12 : Int32)  (hTv0 : Ty X.2.1 v0 8) (hTv1 : Ty X.2.1 v1 6) {o : (Int32 × Int32 × Int32 × Int32 × Int32 × PS) ⊕ ((Int32 × PS) ⊕ (Int32 × PS))} (hf : jX8_bestSet_132_22 X.2.1 n S v0 v1 v2 v3 v4 v5 v6 v8 v9 v10 v11 v12 = some o) (hN : ∀ s', o = .inl s' → UW C X s'.2.2.2.2.2 22 [(0, .ref (X.1 v0)), (1, .ref (X.1 v1)), (2, .int v2), (3, .int s'.1), (4, .int s'.2.1), (5, .int s'.2.2.1), (6, .int s'.2.2.2.1), (8, .int s'.2.2.2.2.1)] []) (hO0 : ∀ p', o = .inr (.inl p') → UW C X p'.2 284 [(3, .int p'.1)] []) (hR : ∀ q', o = .inr (.inr q') → Rt C X cX8_bestSet (some .int) (some (.int q'.1)) q'.2) : UW C X S 132 [(0, .ref (X.1 v0)), (1, .ref (X.1 v1)), (2, .int v2), (3, .int v3), (4, .int v4), (5, .int v5), (6, .int v6), (8, .int v8), (9, .int v9), (10, .int v10), (11, .int v11), (12, .int v12)] [] := by
  unfold jX8_bestSet_132_22 at hf
  refine u_iconst (v := (1 : Int32)) hC dX8_bestSet_132 (by decide) ?_
  refine u_goto (tgt := 137) hC dX8_bestSet_133 (by decide) ?_
  exact wjX8_bestSet_137_22 hC n S v0 v1 v2 v3 v4 v5 v6 v8 v9 v10 v11 v12 (1 : Int32)  hTv0 hTv1 hf hN hO0 hR
theorem wjX8_bestSet_136_22 {C : CT} {X : XT} (hC : CK C RX8 cX8_bestSet 16 (some .int) 3) (n : Nat) (S : PS) (v0 : Nat) (v1 : Nat) (v2 : Int32) (v3 : Int32) (v4 : Int32) (v5 : Int32) (v6 : Int32) (v8 : Int32) (v9 : Int32) (v10 : Int32) (v11 : Int32) (v12 : Int32)  (hTv0 : Ty X.2.1 v0 8) (hTv1 : Ty X.2.1 v1 6) {o : (Int32 × Int32 × Int32 × Int32 × Int32 × PS) ⊕ ((Int32 × PS) ⊕ (Int32 × PS))} (hf : jX8_bestSet_136_22 X.2.1 n S v0 v1 v2 v3 v4 v5 v6 v8 v9 v10 v11 v12 = some o) (hN : ∀ s', o = .inl s' → UW C X s'.2.2.2.2.2 22 [(0, .ref (X.1 v0)), (1, .ref (X.1 v1)), (2, .int v2), (3, .int s'.1), (4, .int s'.2.1), (5, .int s'.2.2.1), (6, .int s'.2.2.2.1), (8, .int s'.2.2.2.2.1)] []) (hO0 : ∀ p', o = .inr (.inl p') → UW C X p'.2 284 [(3, .int p'.1)] []) (hR : ∀ q', o = .inr (.inr q') → Rt C X cX8_bestSet (some .int) (some (.int q'.1)) q'.2) : UW C X S 136 [(0, .ref (X.1 v0)), (1, .ref (X.1 v1)), (2, .int v2), (3, .int v3), (4, .int v4), (5, .int v5), (6, .int v6), (8, .int v8), (9, .int v9), (10, .int v10), (11, .int v11), (12, .int v12)] [] := by
  unfold jX8_bestSet_136_22 at hf
  refine u_iconst (v := (0 : Int32)) hC dX8_bestSet_136 (by decide) ?_
  exact wjX8_bestSet_137_22 hC n S v0 v1 v2 v3 v4 v5 v6 v8 v9 v10 v11 v12 (0 : Int32)  hTv0 hTv1 hf hN hO0 hR
theorem wbX8_bestSet_22 {C : CT} {X : XT} (hC : CK C RX8 cX8_bestSet 16 (some .int) 3) (n : Nat) (v0 : Nat) (v1 : Nat) (v2 : Int32) (hTv0 : Ty X.2.1 v0 8) (hTv1 : Ty X.2.1 v1 6) (s22 : (Int32 × Int32 × Int32 × Int32 × Int32 × PS)) {o : (Int32 × Int32 × Int32 × Int32 × Int32 × PS) ⊕ ((Int32 × PS) ⊕ (Int32 × PS))} (hf : bX8_bestSet_22 X.2.1 n v0 v1 v2 s22 = some o) (hN : ∀ s', o = .inl s' → UW C X s'.2.2.2.2.2 22 [(0, .ref (X.1 v0)), (1, .ref (X.1 v1)), (2, .int v2), (3, .int s'.1), (4, .int s'.2.1), (5, .int s'.2.2.1), (6, .int s'.2.2.2.1), (8, .int s'.2.2.2.2.1)] []) (hO0 : ∀ p', o = .inr (.inl p') → UW C X p'.2 284 [(3, .int p'.1)] []) (hR : ∀ q', o = .inr (.inr q') → Rt C X cX8_bestSet (some .int) (some (.int q'.1)) q'.2) : UW C X s22.2.2.2.2.2 22 [(0, .ref (X.1 v0)), (1, .ref (X.1 v1)), (2, .int v2), (3, .int s22.1), (4, .int s22.2.1), (5, .int s22.2.2.1), (6, .int s22.2.2.2.1), (8, .int s22.2.2.2.2.1)] [] := by
  unfold bX8_bestSet_22 at hf
  refine u_iload hC dX8_bestSet_22 7 rfl ?_
  refine u_iconst (v := (1 : Int32)) hC dX8_bestSet_24 (by decide) ?_
  refine u_aload_n hC dX8_bestSet_25 1 rfl rfl ?_
  refine u_gr hC lf_X8_43 rfl hTv1 dX8_bestSet_26 hf (fun b26 hTb26 hf => ?_)
  refine u_gi hC lf_X8_49 rfl hTb26 dX8_bestSet_29 hf (fun x29 hf => ?_)
  refine u_ishl hC dX8_bestSet_32 ?_
  refine u_icmp_ge (tgt := 284) hC dX8_bestSet_33 (by decide) hf (fun h33 hf => ?_) (fun h33 hf => ?_)
  · refine u_sub (lv' := [(3, .int s22.1)]) [3] rfl ?_
    exact hO0 _ (Option.some.inj hf).symm
  · refine u_iload hC dX8_bestSet_36 7 rfl ?_
    obtain ⟨q38, hq38, hf⟩ := kc_some hf
    refine u_callS hC (ctX8_least (cL C) hC.tr (cG C) X.1 X.2.1 n s22.2.2.2.2.2 s22.2.2.2.2.1  hq38) lk_X8_55 (by decide) (by decide) rfl rfl (Nat.le_of_ble_eq_true rfl) dX8_bestSet_38 ?_
    refine u_istore (lv' := [(9, .int q38), (0, .ref (X.1 v0)), (1, .ref (X.1 v1)), (2, .int v2), (3, .int s22.1), (4, .int s22.2.1), (5, .int s22.2.2.1), (6, .int s22.2.2.2.1), (8, .int s22.2.2.2.2.1)]) hC dX8_bestSet_41 (by decide) rfl ?_
    refine u_iload hC dX8_bestSet_43 8 rfl ?_
    refine u_iload hC dX8_bestSet_45 8 rfl ?_
    refine u_iconst (v := (1 : Int32)) hC dX8_bestSet_47 (by decide) ?_
    refine u_isub hC dX8_bestSet_48 ?_
    refine u_iand hC dX8_bestSet_49 ?_
    obtain ⟨q50, hq50, hf⟩ := kc_some hf
    refine u_callS hC (ctX8_least (cL C) hC.tr (cG C) X.1 X.2.1 n s22.2.2.2.2.2 (s22.2.2.2.2.1 &&& (s22.2.2.2.2.1 - (1 : Int32)))  hq50) lk_X8_55 (by decide) (by decide) rfl rfl (Nat.le_of_ble_eq_true rfl) dX8_bestSet_50 ?_
    refine u_istore (lv' := [(10, .int q50), (9, .int q38), (0, .ref (X.1 v0)), (1, .ref (X.1 v1)), (2, .int v2), (3, .int s22.1), (4, .int s22.2.1), (5, .int s22.2.2.1), (6, .int s22.2.2.2.1), (8, .int s22.2.2.2.2.1)]) hC dX8_bestSet_53 (by decide) rfl ?_
    refine u_iload hC dX8_bestSet_55 1 rfl ?_
    refine u_bipush (v := (12 : Int32)) hC dX8_bestSet_57 (by decide) ?_
    refine u_icmp_lt (tgt := 64) hC dX8_bestSet_59 (by decide) hf (fun h59 hf => ?_) (fun h59 hf => ?_)
    · refine u_aload_n hC dX8_bestSet_64 2 rfl rfl ?_
      refine u_gr hC lf_X8_9 rfl hTv0 dX8_bestSet_65 hf (fun b65 hTb65 hf => ?_)
      refine u_iload hC dX8_bestSet_68 0 rfl ?_
      refine u_ai hC hTb65 dX8_bestSet_70 hf (fun x70 hf => ?_)
      refine u_aload_n hC dX8_bestSet_71 3 rfl rfl ?_
      refine u_gr hC lf_X8_43 rfl hTv1 dX8_bestSet_72 hf (fun b72 hTb72 hf => ?_)
      refine u_gr hC lf_X8_58 rfl hTb72 dX8_bestSet_75 hf (fun b75 hTb75 hf => ?_)
      refine u_iload hC dX8_bestSet_78 1 rfl ?_
      refine u_ai hC hTb75 dX8_bestSet_80 hf (fun x80 hf => ?_)
      refine u_iadd hC dX8_bestSet_81 ?_
      refine u_istore (lv' := [(11, .int (x70 + x80)), (10, .int q50), (9, .int q38), (0, .ref (X.1 v0)), (1, .ref (X.1 v1)), (2, .int v2), (3, .int s22.1), (4, .int s22.2.1), (5, .int s22.2.2.1), (6, .int s22.2.2.2.1), (8, .int s22.2.2.2.2.1)]) hC dX8_bestSet_82 (by decide) rfl ?_
      refine u_aload_n hC dX8_bestSet_84 3 rfl rfl ?_
      refine u_gr hC lf_X8_15 rfl hTv0 dX8_bestSet_85 hf (fun b85 hTb85 hf => ?_)
      refine u_iload hC dX8_bestSet_88 1 rfl ?_
      refine u_ai hC hTb85 dX8_bestSet_90 hf (fun x90 hf => ?_)
      refine u_aload_n hC dX8_bestSet_91 4 rfl rfl ?_
      refine u_gr hC lf_X8_59 rfl hTv1 dX8_bestSet_92 hf (fun b92 hTb92 hf => ?_)
      refine u_iload hC dX8_bestSet_95 2 rfl ?_
      refine u_ai hC hTb92 dX8_bestSet_97 hf (fun x97 hf => ?_)
      refine u_iadd hC dX8_bestSet_98 ?_
      refine u_istore (lv' := [(12, .int (x90 + x97)), (11, .int (x70 + x80)), (10, .int q50), (9, .int q38), (0, .ref (X.1 v0)), (1, .ref (X.1 v1)), (2, .int v2), (3, .int s22.1), (4, .int s22.2.1), (5, .int s22.2.2.1), (6, .int s22.2.2.2.1), (8, .int s22.2.2.2.2.1)]) hC dX8_bestSet_99 (by decide) rfl ?_
      refine u_iload hC dX8_bestSet_101 1 rfl ?_
      refine u_aload_n hC dX8_bestSet_103 5 rfl rfl ?_
      refine u_gr hC lf_X8_43 rfl hTv1 dX8_bestSet_104 hf (fun b104 hTb104 hf => ?_)
      refine u_gi hC lf_X8_62 rfl hTb104 dX8_bestSet_107 hf (fun x107 hf => ?_)
      refine u_icmp_gt (tgt := 132) hC dX8_bestSet_110 (by decide) hf (fun h110 hf => ?_) (fun h110 hf => ?_)
      · refine u_sub (lv' := [(0, .ref (X.1 v0)), (1, .ref (X.1 v1)), (2, .int v2), (3, .int s22.1), (4, .int s22.2.1), (5, .int s22.2.2.1), (6, .int s22.2.2.2.1), (8, .int s22.2.2.2.2.1), (9, .int q38), (10, .int q50), (11, .int (x70 + x80)), (12, .int (x90 + x97))]) [4, 5, 6, 7, 8, 9, 10, 11, 3, 2, 1, 0] rfl ?_
        exact wjX8_bestSet_132_22 hC n s22.2.2.2.2.2 v0 v1 v2 s22.1 s22.2.1 s22.2.2.1 s22.2.2.2.1 s22.2.2.2.2.1 q38 q50 (x70 + x80) (x90 + x97)  hTv0 hTv1 hf hN hO0 hR
      · refine u_iload_n hC dX8_bestSet_113 6 rfl rfl ?_
        refine u_if_ne (tgt := 136) hC dX8_bestSet_114 (by decide) hf (fun h114 hf => ?_) (fun h114 hf => ?_)
        · refine u_sub (lv' := [(0, .ref (X.1 v0)), (1, .ref (X.1 v1)), (2, .int v2), (3, .int s22.1), (4, .int s22.2.1), (5, .int s22.2.2.1), (6, .int s22.2.2.2.1), (8, .int s22.2.2.2.2.1), (9, .int q38), (10, .int q50), (11, .int (x70 + x80)), (12, .int (x90 + x97))]) [4, 5, 6, 7, 8, 9, 10, 11, 3, 2, 1, 0] rfl ?_
          exact wjX8_bestSet_136_22 hC n s22.2.2.2.2.2 v0 v1 v2 s22.1 s22.2.1 s22.2.2.1 s22.2.2.2.1 s22.2.2.2.2.1 q38 q50 (x70 + x80) (x90 + x97)  hTv0 hTv1 hf hN hO0 hR
        · refine u_iload hC dX8_bestSet_117 0 rfl ?_
          refine u_aload_n hC dX8_bestSet_119 4 rfl rfl ?_
          refine u_gr hC lf_X8_21 rfl hTv0 dX8_bestSet_120 hf (fun b120 hTb120 hf => ?_)
          refine u_iload hC dX8_bestSet_123 3 rfl ?_
          refine u_ai hC hTb120 dX8_bestSet_125 hf (fun x125 hf => ?_)
          refine u_iadd hC dX8_bestSet_126 ?_
          refine u_iload hC dX8_bestSet_127 9 rfl ?_
          refine u_icmp_ge (tgt := 136) hC dX8_bestSet_129 (by decide) hf (fun h129 hf => ?_) (fun h129 hf => ?_)
          · refine u_sub (lv' := [(0, .ref (X.1 v0)), (1, .ref (X.1 v1)), (2, .int v2), (3, .int s22.1), (4, .int s22.2.1), (5, .int s22.2.2.1), (6, .int s22.2.2.2.1), (8, .int s22.2.2.2.2.1), (9, .int q38), (10, .int q50), (11, .int (x70 + x80)), (12, .int (x90 + x97))]) [4, 5, 6, 7, 8, 9, 10, 11, 3, 2, 1, 0] rfl ?_
            exact wjX8_bestSet_136_22 hC n s22.2.2.2.2.2 v0 v1 v2 s22.1 s22.2.1 s22.2.2.1 s22.2.2.2.1 s22.2.2.2.2.1 q38 q50 (x70 + x80) (x90 + x97)  hTv0 hTv1 hf hN hO0 hR
          · refine u_sub (lv' := [(0, .ref (X.1 v0)), (1, .ref (X.1 v1)), (2, .int v2), (3, .int s22.1), (4, .int s22.2.1), (5, .int s22.2.2.1), (6, .int s22.2.2.2.1), (8, .int s22.2.2.2.2.1), (9, .int q38), (10, .int q50), (11, .int (x70 + x80)), (12, .int (x90 + x97))]) [4, 5, 6, 7, 8, 9, 10, 11, 3, 2, 1, 0] rfl ?_
            exact wjX8_bestSet_132_22 hC n s22.2.2.2.2.2 v0 v1 v2 s22.1 s22.2.1 s22.2.2.1 s22.2.2.2.1 s22.2.2.2.2.1 q38 q50 (x70 + x80) (x90 + x97)  hTv0 hTv1 hf hN hO0 hR
    · refine u_iload_n hC dX8_bestSet_62 5 rfl rfl ?_
      exact hR _ (Option.some.inj hf).symm _ _ dX8_bestSet_63 trivial
theorem wX8_bestSet {C : CT} {X : XT} (hC : CK C RX8 cX8_bestSet 16 (some .int) 3) (n : Nat) (S : PS) (a0 : Nat) (a1 : Nat) (x2_ : Int32) (hTa0 : Ty X.2.1 a0 8) (hTa1 : Ty X.2.1 a1 6) {o : Int32 × PS} (hf : fX8_bestSet X.2.1 n S a0 a1 x2_ = some o) (hR : Rt C X cX8_bestSet (some .int) (some (.int o.1)) o.2) : UW C X S 0 [(0, .ref (X.1 a0)), (1, .ref (X.1 a1)), (2, .int x2_)] [] := by
  unfold fX8_bestSet at hf
  refine u_aload_n hC dX8_bestSet_0 0 rfl rfl ?_
  refine u_aload_n hC dX8_bestSet_1 1 rfl rfl ?_
  obtain ⟨q2, hq2, hf⟩ := kc_some hf
  refine u_callV hC (ctX8_sumLesser (cL C) hC.tr (cG C) X.1 X.2.1 n S a0 a1 hTa0 hTa1 hq2) lk_X8_39 rfl hTa0 (by decide) rfl (by decide) (by decide) rfl rfl (Nat.le_of_ble_eq_true rfl) dX8_bestSet_2 ?_
  refine u_iconst (v := (0 : Int32)) hC dX8_bestSet_5 (by decide) ?_
  refine u_istore_n (lv' := [(3, .int (0 : Int32)), (0, .ref (X.1 a0)), (1, .ref (X.1 a1)), (2, .int x2_)]) hC dX8_bestSet_6 rfl (by decide) rfl ?_
  refine u_iconst (v := (0 : Int32)) hC dX8_bestSet_7 (by decide) ?_
  refine u_istore (lv' := [(4, .int (0 : Int32)), (3, .int (0 : Int32)), (0, .ref (X.1 a0)), (1, .ref (X.1 a1)), (2, .int x2_)]) hC dX8_bestSet_8 (by decide) rfl ?_
  refine u_iconst (v := (0 : Int32)) hC dX8_bestSet_10 (by decide) ?_
  refine u_istore (lv' := [(5, .int (0 : Int32)), (4, .int (0 : Int32)), (3, .int (0 : Int32)), (0, .ref (X.1 a0)), (1, .ref (X.1 a1)), (2, .int x2_)]) hC dX8_bestSet_11 (by decide) rfl ?_
  refine u_iconst (v := (0 : Int32)) hC dX8_bestSet_13 (by decide) ?_
  refine u_istore (lv' := [(6, .int (0 : Int32)), (5, .int (0 : Int32)), (4, .int (0 : Int32)), (3, .int (0 : Int32)), (0, .ref (X.1 a0)), (1, .ref (X.1 a1)), (2, .int x2_)]) hC dX8_bestSet_14 (by decide) rfl ?_
  refine u_iconst (v := (1 : Int32)) hC dX8_bestSet_16 (by decide) ?_
  refine u_istore (lv' := [(7, .int (1 : Int32)), (6, .int (0 : Int32)), (5, .int (0 : Int32)), (4, .int (0 : Int32)), (3, .int (0 : Int32)), (0, .ref (X.1 a0)), (1, .ref (X.1 a1)), (2, .int x2_)]) hC dX8_bestSet_17 (by decide) rfl ?_
  refine u_iconst (v := (1 : Int32)) hC dX8_bestSet_19 (by decide) ?_
  refine u_istore (lv' := [(8, .int (1 : Int32)), (7, .int (1 : Int32)), (6, .int (0 : Int32)), (5, .int (0 : Int32)), (4, .int (0 : Int32)), (3, .int (0 : Int32)), (0, .ref (X.1 a0)), (1, .ref (X.1 a1)), (2, .int x2_)]) hC dX8_bestSet_20 (by decide) rfl ?_
  obtain ⟨r22, hr22, hf⟩ := kc_some hf
  have hk22_0 : ∀ p22_0, r22 = (.inl p22_0) → UW C X p22_0.2 284 [(3, .int p22_0.1)] [] := by
    intro p22_0 he
    subst he
    have hf := ks_l hf
    refine u_iload_n hC dX8_bestSet_284 0 rfl rfl ?_
    cases hf
    exact hR _ _ dX8_bestSet_285 trivial
  have hk22_1 : ∀ p22_1, r22 = (.inr p22_1) → Rt C X cX8_bestSet (some .int) (some (.int p22_1.1)) p22_1.2 := by
    intro p22_1 he
    subst he
    have hf := ks_r hf
    cases hf
    exact hR
  refine u_sub (lv' := [(0, .ref (X.1 a0)), (1, .ref (X.1 a1)), (2, .int x2_), (3, .int (0 : Int32)), (4, .int (0 : Int32)), (5, .int (0 : Int32)), (6, .int (0 : Int32)), (8, .int (1 : Int32))]) [6, 7, 8, 5, 4, 3, 2, 0] rfl ?_
  refine iter_ind (P := fun s22 => UW C X s22.2.2.2.2.2 22 [(0, .ref (X.1 a0)), (1, .ref (X.1 a1)), (2, .int x2_), (3, .int s22.1), (4, .int s22.2.1), (5, .int s22.2.2.1), (6, .int s22.2.2.2.1), (8, .int s22.2.2.2.2.1)] []) (fun s22 o' hb hin hout => ?_) n ((0 : Int32), (0 : Int32), (0 : Int32), (0 : Int32), (1 : Int32), q2) hr22
  exact wbX8_bestSet_22 hC n a0 a1 x2_ hTa0 hTa1 s22 hb hin (fun p e => hk22_0 p (hout _ e).symm) (fun p e => hk22_1 p (hout _ e).symm)
theorem ctX8_bestSet (l : Launch) (hl : l.stackTraces = false) (G : GT) (ρ : Nat → Nat) (Y : XS) (n : Nat) (S : PS) (a0 : Nat) (a1 : Nat) (x2_ : Int32) (hTa0 : Ty Y a0 8) (hTa1 : Ty Y a1 6) {o : Int32 × PS} (hf : fX8_bestSet Y n S a0 a1 x2_ = some o) : Mt l G yX8_bestSet cX8_bestSet 16 (some .int) 3 ρ Y [.ref (ρ a0), .ref (ρ a1), .int x2_] S (some (.int o.1)) o.2 :=
  Mt_of hl (by decide) (Nat.le_of_ble_eq_true rfl) (fun C _ _ hC hR => wX8_bestSet (X := (ρ, Y, 0, 0)) hC n S a0 a1 x2_ hTa0 hTa1 hf hR)
