-- X11_pushed
theorem dX11_pushed_0 : decode cX11_pushed 0 = .ok (.aload_n 0, 1) := by decide +kernel
theorem dX11_pushed_1 : decode cX11_pushed 1 = .ok (.iload_n 1, 1) := by decide +kernel
theorem dX11_pushed_2 : decode cX11_pushed 2 = .ok (.invokevirtual 302, 3) := by decide +kernel
theorem dX11_pushed_5 : decode cX11_pushed 5 = .ok (.iload_n 2, 1) := by decide +kernel
theorem dX11_pushed_6 : decode cX11_pushed 6 = .ok (.invokestatic 147, 3) := by decide +kernel
theorem dX11_pushed_9 : decode cX11_pushed 9 = .ok (.ifCond .eq 5, 3) := by decide +kernel
theorem dX11_pushed_12 : decode cX11_pushed 12 = .ok (.iconst 0, 1) := by decide +kernel
theorem dX11_pushed_13 : decode cX11_pushed 13 = .ok (.ireturn, 1) := by decide +kernel
theorem dX11_pushed_14 : decode cX11_pushed 14 = .ok (.iconst 0, 1) := by decide +kernel
theorem dX11_pushed_15 : decode cX11_pushed 15 = .ok (.istore_n 3, 1) := by decide +kernel
theorem dX11_pushed_16 : decode cX11_pushed 16 = .ok (.iconst 0, 1) := by decide +kernel
theorem dX11_pushed_17 : decode cX11_pushed 17 = .ok (.istore 4, 2) := by decide +kernel
theorem dX11_pushed_19 : decode cX11_pushed 19 = .ok (.iload 4, 2) := by decide +kernel
theorem dX11_pushed_21 : decode cX11_pushed 21 = .ok (.aload_n 0, 1) := by decide +kernel
theorem dX11_pushed_22 : decode cX11_pushed 22 = .ok (.invokevirtual 85, 3) := by decide +kernel
theorem dX11_pushed_25 : decode cX11_pushed 25 = .ok (.if_icmp .ge 52, 3) := by decide +kernel
theorem dX11_pushed_28 : decode cX11_pushed 28 = .ok (.aload_n 0, 1) := by decide +kernel
theorem dX11_pushed_29 : decode cX11_pushed 29 = .ok (.iload 4, 2) := by decide +kernel
theorem dX11_pushed_31 : decode cX11_pushed 31 = .ok (.iload_n 2, 1) := by decide +kernel
theorem dX11_pushed_32 : decode cX11_pushed 32 = .ok (.invokevirtual 88, 3) := by decide +kernel
theorem dX11_pushed_35 : decode cX11_pushed 35 = .ok (.ifCond .le 6, 3) := by decide +kernel
theorem dX11_pushed_38 : decode cX11_pushed 38 = .ok (.goto 33, 3) := by decide +kernel
theorem dX11_pushed_41 : decode cX11_pushed 41 = .ok (.aload_n 0, 1) := by decide +kernel
theorem dX11_pushed_42 : decode cX11_pushed 42 = .ok (.getfield 9, 3) := by decide +kernel
theorem dX11_pushed_45 : decode cX11_pushed 45 = .ok (.iload 4, 2) := by decide +kernel
theorem dX11_pushed_47 : decode cX11_pushed 47 = .ok (.iload_n 2, 1) := by decide +kernel
theorem dX11_pushed_48 : decode cX11_pushed 48 = .ok (.invokestatic 73, 3) := by decide +kernel
theorem dX11_pushed_51 : decode cX11_pushed 51 = .ok (.bipush 9, 2) := by decide +kernel
theorem dX11_pushed_53 : decode cX11_pushed 53 = .ok (.iastore, 1) := by decide +kernel
theorem dX11_pushed_54 : decode cX11_pushed 54 = .ok (.iinc 3 1, 3) := by decide +kernel
theorem dX11_pushed_57 : decode cX11_pushed 57 = .ok (.aload_n 0, 1) := by decide +kernel
theorem dX11_pushed_58 : decode cX11_pushed 58 = .ok (.iload_n 1, 1) := by decide +kernel
theorem dX11_pushed_59 : decode cX11_pushed 59 = .ok (.invokevirtual 302, 3) := by decide +kernel
theorem dX11_pushed_62 : decode cX11_pushed 62 = .ok (.iload_n 2, 1) := by decide +kernel
theorem dX11_pushed_63 : decode cX11_pushed 63 = .ok (.invokestatic 147, 3) := by decide +kernel
theorem dX11_pushed_66 : decode cX11_pushed 66 = .ok (.ifCond .eq 5, 3) := by decide +kernel
theorem dX11_pushed_69 : decode cX11_pushed 69 = .ok (.iload_n 3, 1) := by decide +kernel
theorem dX11_pushed_70 : decode cX11_pushed 70 = .ok (.ireturn, 1) := by decide +kernel
theorem dX11_pushed_71 : decode cX11_pushed 71 = .ok (.iinc 4 1, 3) := by decide +kernel
theorem dX11_pushed_74 : decode cX11_pushed 74 = .ok (.goto (-55), 3) := by decide +kernel
theorem dX11_pushed_77 : decode cX11_pushed 77 = .ok (.iconst (-1), 1) := by decide +kernel
theorem dX11_pushed_78 : decode cX11_pushed 78 = .ok (.ireturn, 1) := by decide +kernel
def jX11_pushed_71_19 (Y : XS) (n : Nat) (S : PS) (v0 : Nat) (v1 : Int32) (v2 : Int32) (v3 : Int32) (v4 : Int32) : Option ((Int32 × Int32 × PS) ⊕ (PS ⊕ (Int32 × PS))) :=
  some (.inl (v3, v4 + (1 : Int32), S))
def bX11_pushed_19 (Y : XS) (n : Nat) (v0 : Nat) (v1 : Int32) (v2 : Int32) (s19 : (Int32 × Int32 × PS)) : Option ((Int32 × Int32 × PS) ⊕ (PS ⊕ (Int32 × PS))) :=
  kc (fX11_people Y n s19.2.2 v0) (fun q22 => (if q22 ≤ s19.2.1 then some (.inr (.inl s19.2.2)) else kc (fX11_scoreOf Y n s19.2.2 v0 s19.2.1 v2) (fun q32 => (if q32 ≤ 0 then kgr s19.2.2 v0 0 (fun b42 => kc (fX11_scoreAt Y n s19.2.2 s19.2.1 v2) (fun q48 => kwi Y s19.2.2 b42 q48 (9 : Int32) (fun S53 => kc (fX11_chosenBy Y n S53 v0 v1) (fun q59 => kc (fX11_isOf Y n q59.2 q59.1 v2) (fun q63 => (if q63 = 0 then jX11_pushed_71_19 Y n q59.2 v0 v1 v2 (s19.1 + (1 : Int32)) s19.2.1 else some (.inr (.inr (s19.1 + (1 : Int32), q59.2))))))))) else jX11_pushed_71_19 Y n s19.2.2 v0 v1 v2 s19.1 s19.2.1))))
def fX11_pushed (Y : XS) (n : Nat) (S : PS) (a0 : Nat) (x1_ : Int32) (x2_ : Int32) : Option (Int32 × PS) :=
  kc (fX11_chosenBy Y n S a0 x1_) (fun q2 => kc (fX11_isOf Y n q2.2 q2.1 x2_) (fun q6 => (if q6 = 0 then kc (iter (bX11_pushed_19 Y n a0 x1_ x2_) n ((0 : Int32), (0 : Int32), q2.2)) (fun r19 => ks r19 (fun p19_0 => some ((-1 : Int32), p19_0)) (fun p19_1 => some p19_1)) else some ((0 : Int32), q2.2))))
theorem wjX11_pushed_71_19 {C : CT} {X : XT} (hC : CK C RX11 cX11_pushed 5 (some .int) 55) (n : Nat) (S : PS) (v0 : Nat) (v1 : Int32) (v2 : Int32) (v3 : Int32) (v4 : Int32)  (hTv0 : Ty X.2.1 v0 11) {o : (Int32 × Int32 × PS) ⊕ (PS ⊕ (Int32 × PS))} (hf : jX11_pushed_71_19 X.2.1 n S v0 v1 v2 v3 v4 = some o) (hN : ∀ s', o = .inl s' → UW C X s'.2.2 19 [(0, .ref (X.1 v0)), (1, .int v1), (2, .int v2), (3, .int s'.1), (4, .int s'.2.1)] []) (hO0 : ∀ p', o = .inr (.inl p') → UW C X p' 77 [] []) (hR : ∀ q', o = .inr (.inr q') → Rt C X cX11_pushed (some .int) (some (.int q'.1)) q'.2) : UW C X S 71 [(0, .ref (X.1 v0)), (1, .int v1), (2, .int v2), (3, .int v3), (4, .int v4)] [] := by
  unfold jX11_pushed_71_19 at hf
  refine u_iinc (v := v4 + (1 : Int32)) (lv' := [(4, .int (v4 + (1 : Int32))), (0, .ref (X.1 v0)), (1, .int v1), (2, .int v2), (3, .int v3)]) hC dX11_pushed_71 4 rfl rfl (by decide) rfl ?_
  refine u_goto (tgt := 19) hC dX11_pushed_74 (by decide) ?_
  refine u_sub (lv' := [(0, .ref (X.1 v0)), (1, .int v1), (2, .int v2), (3, .int v3), (4, .int (v4 + (1 : Int32)))]) [1, 2, 3, 4, 0] rfl ?_
  exact hN _ (Option.some.inj hf).symm
theorem wbX11_pushed_19 {C : CT} {X : XT} (hC : CK C RX11 cX11_pushed 5 (some .int) 55) (n : Nat) (v0 : Nat) (v1 : Int32) (v2 : Int32) (hTv0 : Ty X.2.1 v0 11) (s19 : (Int32 × Int32 × PS)) {o : (Int32 × Int32 × PS) ⊕ (PS ⊕ (Int32 × PS))} (hf : bX11_pushed_19 X.2.1 n v0 v1 v2 s19 = some o) (hN : ∀ s', o = .inl s' → UW C X s'.2.2 19 [(0, .ref (X.1 v0)), (1, .int v1), (2, .int v2), (3, .int s'.1), (4, .int s'.2.1)] []) (hO0 : ∀ p', o = .inr (.inl p') → UW C X p' 77 [] []) (hR : ∀ q', o = .inr (.inr q') → Rt C X cX11_pushed (some .int) (some (.int q'.1)) q'.2) : UW C X s19.2.2 19 [(0, .ref (X.1 v0)), (1, .int v1), (2, .int v2), (3, .int s19.1), (4, .int s19.2.1)] [] := by
  unfold bX11_pushed_19 at hf
  refine u_iload hC dX11_pushed_19 4 rfl ?_
  refine u_aload_n hC dX11_pushed_21 0 rfl rfl ?_
  obtain ⟨q22, hq22, hf⟩ := kc_some hf
  refine u_callV hC (ctX11_people (cL C) hC.tr (cG C) X.1 X.2.1 n s19.2.2 v0 hTv0 hq22) lk_X11_85 rfl hTv0 (by decide) rfl (by decide) (by decide) rfl rfl (Nat.le_of_ble_eq_true rfl) dX11_pushed_22 ?_
  refine u_icmp_ge (tgt := 77) hC dX11_pushed_25 (by decide) hf (fun h25 hf => ?_) (fun h25 hf => ?_)
  · refine u_sub (lv' := []) [] rfl ?_
    exact hO0 _ (Option.some.inj hf).symm
  · refine u_aload_n hC dX11_pushed_28 0 rfl rfl ?_
    refine u_iload hC dX11_pushed_29 4 rfl ?_
    refine u_iload_n hC dX11_pushed_31 2 rfl rfl ?_
    obtain ⟨q32, hq32, hf⟩ := kc_some hf
    refine u_callV hC (ctX11_scoreOf (cL C) hC.tr (cG C) X.1 X.2.1 n s19.2.2 v0 s19.2.1 v2 hTv0 hq32) lk_X11_88 rfl hTv0 (by decide) rfl (by decide) (by decide) rfl rfl (Nat.le_of_ble_eq_true rfl) dX11_pushed_32 ?_
    refine u_if_le (tgt := 41) hC dX11_pushed_35 (by decide) hf (fun h35 hf => ?_) (fun h35 hf => ?_)
    · refine u_aload_n hC dX11_pushed_41 0 rfl rfl ?_
      refine u_gr hC lf_X11_9 rfl hTv0 dX11_pushed_42 hf (fun b42 hTb42 hf => ?_)
      refine u_iload hC dX11_pushed_45 4 rfl ?_
      refine u_iload_n hC dX11_pushed_47 2 rfl rfl ?_
      obtain ⟨q48, hq48, hf⟩ := kc_some hf
      refine u_callS hC (ctX11_scoreAt (cL C) hC.tr (cG C) X.1 X.2.1 n s19.2.2 s19.2.1 v2  hq48) lk_X11_73 (by decide) (by decide) rfl rfl (Nat.le_of_ble_eq_true rfl) dX11_pushed_48 ?_
      refine u_bipush (v := (9 : Int32)) hC dX11_pushed_51 (by decide) ?_
      refine u_wi hC hTb42 dX11_pushed_53 hf (fun S53 hf => ?_)
      refine u_iinc (v := s19.1 + (1 : Int32)) (lv' := [(3, .int (s19.1 + (1 : Int32))), (0, .ref (X.1 v0)), (1, .int v1), (2, .int v2), (4, .int s19.2.1)]) hC dX11_pushed_54 3 rfl rfl (by decide) rfl ?_
      refine u_aload_n hC dX11_pushed_57 1 rfl rfl ?_
      refine u_iload_n hC dX11_pushed_58 2 rfl rfl ?_
      obtain ⟨q59, hq59, hf⟩ := kc_some hf
      refine u_callV hC (ctX11_chosenBy (cL C) hC.tr (cG C) X.1 X.2.1 n S53 v0 v1 hTv0 hq59) lk_X11_302 rfl hTv0 (by decide) rfl (by decide) (by decide) rfl rfl (Nat.le_of_ble_eq_true rfl) dX11_pushed_59 ?_
      refine u_iload_n hC dX11_pushed_62 3 rfl rfl ?_
      obtain ⟨q63, hq63, hf⟩ := kc_some hf
      refine u_callS hC (ctX11_isOf (cL C) hC.tr (cG C) X.1 X.2.1 n q59.2 q59.1 v2  hq63) lk_X11_147 (by decide) (by decide) rfl rfl (Nat.le_of_ble_eq_true rfl) dX11_pushed_63 ?_
      refine u_if_eq (tgt := 71) hC dX11_pushed_66 (by decide) hf (fun h66 hf => ?_) (fun h66 hf => ?_)
      · refine u_sub (lv' := [(0, .ref (X.1 v0)), (1, .int v1), (2, .int v2), (3, .int (s19.1 + (1 : Int32))), (4, .int s19.2.1)]) [1, 2, 3, 0, 4] rfl ?_
        exact wjX11_pushed_71_19 hC n q59.2 v0 v1 v2 (s19.1 + (1 : Int32)) s19.2.1  hTv0 hf hN hO0 hR
      · refine u_iload_n hC dX11_pushed_69 0 rfl rfl ?_
        exact hR _ (Option.some.inj hf).symm _ _ dX11_pushed_70 trivial
    · refine u_goto (tgt := 71) hC dX11_pushed_38 (by decide) ?_
      exact wjX11_pushed_71_19 hC n s19.2.2 v0 v1 v2 s19.1 s19.2.1  hTv0 hf hN hO0 hR
theorem wX11_pushed {C : CT} {X : XT} (hC : CK C RX11 cX11_pushed 5 (some .int) 55) (n : Nat) (S : PS) (a0 : Nat) (x1_ : Int32) (x2_ : Int32) (hTa0 : Ty X.2.1 a0 11) {o : Int32 × PS} (hf : fX11_pushed X.2.1 n S a0 x1_ x2_ = some o) (hR : Rt C X cX11_pushed (some .int) (some (.int o.1)) o.2) : UW C X S 0 [(0, .ref (X.1 a0)), (1, .int x1_), (2, .int x2_)] [] := by
  unfold fX11_pushed at hf
  refine u_aload_n hC dX11_pushed_0 0 rfl rfl ?_
  refine u_iload_n hC dX11_pushed_1 1 rfl rfl ?_
  obtain ⟨q2, hq2, hf⟩ := kc_some hf
  refine u_callV hC (ctX11_chosenBy (cL C) hC.tr (cG C) X.1 X.2.1 n S a0 x1_ hTa0 hq2) lk_X11_302 rfl hTa0 (by decide) rfl (by decide) (by decide) rfl rfl (Nat.le_of_ble_eq_true rfl) dX11_pushed_2 ?_
  refine u_iload_n hC dX11_pushed_5 2 rfl rfl ?_
  obtain ⟨q6, hq6, hf⟩ := kc_some hf
  refine u_callS hC (ctX11_isOf (cL C) hC.tr (cG C) X.1 X.2.1 n q2.2 q2.1 x2_  hq6) lk_X11_147 (by decide) (by decide) rfl rfl (Nat.le_of_ble_eq_true rfl) dX11_pushed_6 ?_
  refine u_if_eq (tgt := 14) hC dX11_pushed_9 (by decide) hf (fun h9 hf => ?_) (fun h9 hf => ?_)
  · refine u_iconst (v := (0 : Int32)) hC dX11_pushed_14 (by decide) ?_
    refine u_istore_n (lv' := [(3, .int (0 : Int32)), (0, .ref (X.1 a0)), (1, .int x1_), (2, .int x2_)]) hC dX11_pushed_15 rfl (by decide) rfl ?_
    refine u_iconst (v := (0 : Int32)) hC dX11_pushed_16 (by decide) ?_
    refine u_istore (lv' := [(4, .int (0 : Int32)), (3, .int (0 : Int32)), (0, .ref (X.1 a0)), (1, .int x1_), (2, .int x2_)]) hC dX11_pushed_17 (by decide) rfl ?_
    obtain ⟨r19, hr19, hf⟩ := kc_some hf
    have hk19_0 : ∀ p19_0, r19 = (.inl p19_0) → UW C X p19_0 77 [] [] := by
      intro p19_0 he
      subst he
      have hf := ks_l hf
      refine u_iconst (v := (-1 : Int32)) hC dX11_pushed_77 (by decide) ?_
      cases hf
      exact hR _ _ dX11_pushed_78 trivial
    have hk19_1 : ∀ p19_1, r19 = (.inr p19_1) → Rt C X cX11_pushed (some .int) (some (.int p19_1.1)) p19_1.2 := by
      intro p19_1 he
      subst he
      have hf := ks_r hf
      cases hf
      exact hR
    refine u_sub (lv' := [(0, .ref (X.1 a0)), (1, .int x1_), (2, .int x2_), (3, .int (0 : Int32)), (4, .int (0 : Int32))]) [2, 3, 4, 1, 0] rfl ?_
    refine iter_ind (P := fun s19 => UW C X s19.2.2 19 [(0, .ref (X.1 a0)), (1, .int x1_), (2, .int x2_), (3, .int s19.1), (4, .int s19.2.1)] []) (fun s19 o' hb hin hout => ?_) n ((0 : Int32), (0 : Int32), q2.2) hr19
    exact wbX11_pushed_19 hC n a0 x1_ x2_ hTa0 s19 hb hin (fun p e => hk19_0 p (hout _ e).symm) (fun p e => hk19_1 p (hout _ e).symm)
  · refine u_iconst (v := (0 : Int32)) hC dX11_pushed_12 (by decide) ?_
    cases hf
    exact hR _ _ dX11_pushed_13 trivial
theorem ctX11_pushed (l : Launch) (hl : l.stackTraces = false) (G : GT) (ρ : Nat → Nat) (Y : XS) (n : Nat) (S : PS) (a0 : Nat) (x1_ : Int32) (x2_ : Int32) (hTa0 : Ty Y a0 11) {o : Int32 × PS} (hf : fX11_pushed Y n S a0 x1_ x2_ = some o) : Mt l G yX11_pushed cX11_pushed 5 (some .int) 55 ρ Y [.ref (ρ a0), .int x1_, .int x2_] S (some (.int o.1)) o.2 :=
  Mt_of hl (by decide) (Nat.le_of_ble_eq_true rfl) (fun C _ _ hC hR => wX11_pushed (X := (ρ, Y, 0, 0)) hC n S a0 x1_ x2_ hTa0 hf hR)
-- X11_push
theorem dX11_push_0 : decode cX11_push 0 = .ok (.aload_n 0, 1) := by decide +kernel
theorem dX11_push_1 : decode cX11_push 1 = .ok (.iconst 0, 1) := by decide +kernel
theorem dX11_push_2 : decode cX11_push 2 = .ok (.putfield 70, 3) := by decide +kernel
theorem dX11_push_5 : decode cX11_push 5 = .ok (.iload_n 1, 1) := by decide +kernel
theorem dX11_push_6 : decode cX11_push 6 = .ok (.invokestatic 261, 3) := by decide +kernel
theorem dX11_push_9 : decode cX11_push 9 = .ok (.ifCond .eq 11, 3) := by decide +kernel
theorem dX11_push_12 : decode cX11_push 12 = .ok (.aload_n 0, 1) := by decide +kernel
theorem dX11_push_13 : decode cX11_push 13 = .ok (.iload_n 2, 1) := by decide +kernel
theorem dX11_push_14 : decode cX11_push 14 = .ok (.invokevirtual 255, 3) := by decide +kernel
theorem dX11_push_17 : decode cX11_push 17 = .ok (.ifCond .ne 9, 3) := by decide +kernel
theorem dX11_push_20 : decode cX11_push 20 = .ok (.aload_n 0, 1) := by decide +kernel
theorem dX11_push_21 : decode cX11_push 21 = .ok (.iconst 1, 1) := by decide +kernel
theorem dX11_push_22 : decode cX11_push 22 = .ok (.invokevirtual 252, 3) := by decide +kernel
theorem dX11_push_25 : decode cX11_push 25 = .ok (.ireturn, 1) := by decide +kernel
theorem dX11_push_26 : decode cX11_push 26 = .ok (.aload_n 0, 1) := by decide +kernel
theorem dX11_push_27 : decode cX11_push 27 = .ok (.getfield 16, 3) := by decide +kernel
theorem dX11_push_30 : decode cX11_push 30 = .ok (.aload_n 0, 1) := by decide +kernel
theorem dX11_push_31 : decode cX11_push 31 = .ok (.getfield 9, 3) := by decide +kernel
theorem dX11_push_34 : decode cX11_push 34 = .ok (.invokestatic 295, 3) := by decide +kernel
theorem dX11_push_37 : decode cX11_push 37 = .ok (.aload_n 0, 1) := by decide +kernel
theorem dX11_push_38 : decode cX11_push 38 = .ok (.iload_n 1, 1) := by decide +kernel
theorem dX11_push_39 : decode cX11_push 39 = .ok (.iload_n 2, 1) := by decide +kernel
theorem dX11_push_40 : decode cX11_push 40 = .ok (.invokevirtual 312, 3) := by decide +kernel
theorem dX11_push_43 : decode cX11_push 43 = .ok (.istore_n 3, 1) := by decide +kernel
theorem dX11_push_44 : decode cX11_push 44 = .ok (.aload_n 0, 1) := by decide +kernel
theorem dX11_push_45 : decode cX11_push 45 = .ok (.getfield 9, 3) := by decide +kernel
theorem dX11_push_48 : decode cX11_push 48 = .ok (.aload_n 0, 1) := by decide +kernel
theorem dX11_push_49 : decode cX11_push 49 = .ok (.getfield 16, 3) := by decide +kernel
theorem dX11_push_52 : decode cX11_push 52 = .ok (.invokestatic 295, 3) := by decide +kernel
theorem dX11_push_55 : decode cX11_push 55 = .ok (.iload_n 3, 1) := by decide +kernel
theorem dX11_push_56 : decode cX11_push 56 = .ok (.ireturn, 1) := by decide +kernel
def jX11_push_20 (Y : XS) (n : Nat) (S : PS) (v0 : Nat) : Option (Int32 × PS) :=
  kc (fX11_fail Y n S v0 (1 : Int32)) (fun q22 => some (q22.1, q22.2))
def fX11_push (Y : XS) (n : Nat) (S : PS) (a0 : Nat) (x1_ : Int32) (x2_ : Int32) : Option (Int32 × PS) :=
  kpi S a0 7 (0 : Int32) (fun S2 => kc (fX11_isRule Y n S2 x1_) (fun q6 => (if q6 = 0 then jX11_push_20 Y n S2 a0 else kc (fX11_isProject Y n S2 a0 x2_) (fun q14 => (if q14 = 0 then jX11_push_20 Y n S2 a0 else kgr S2 a0 2 (fun b27 => kgr S2 a0 0 (fun b31 => kc (fX11_copy Y n S2 b27 b31) (fun q34 => kc (fX11_pushed Y n q34 a0 x1_ x2_) (fun q40 => kgr q40.2 a0 0 (fun b45 => kgr q40.2 a0 2 (fun b49 => kc (fX11_copy Y n q40.2 b45 b49) (fun q52 => some (q40.1, q52)))))))))))))
theorem wjX11_push_20 {C : CT} {X : XT} (hC : CK C RX11 cX11_push 4 (some .int) 56) (n : Nat) (S : PS) (v0 : Nat)  (hTv0 : Ty X.2.1 v0 11) {o : Int32 × PS} (hf : jX11_push_20 X.2.1 n S v0 = some o) (hR : Rt C X cX11_push (some .int) (some (.int o.1)) o.2) : UW C X S 20 [(0, .ref (X.1 v0))] [] := by
  unfold jX11_push_20 at hf
  refine u_aload_n hC dX11_push_20 0 rfl rfl ?_
  refine u_iconst (v := (1 : Int32)) hC dX11_push_21 (by decide) ?_
  obtain ⟨q22, hq22, hf⟩ := kc_some hf
  refine u_callV hC (ctX11_fail (cL C) hC.tr (cG C) X.1 X.2.1 n S v0 (1 : Int32) hTv0 hq22) lk_X11_252 rfl hTv0 (by decide) rfl (by decide) (by decide) rfl rfl (Nat.le_of_ble_eq_true rfl) dX11_push_22 ?_
  cases hf
  exact hR _ _ dX11_push_25 trivial
theorem wX11_push {C : CT} {X : XT} (hC : CK C RX11 cX11_push 4 (some .int) 56) (n : Nat) (S : PS) (a0 : Nat) (x1_ : Int32) (x2_ : Int32) (hTa0 : Ty X.2.1 a0 11) {o : Int32 × PS} (hf : fX11_push X.2.1 n S a0 x1_ x2_ = some o) (hR : Rt C X cX11_push (some .int) (some (.int o.1)) o.2) : UW C X S 0 [(0, .ref (X.1 a0)), (1, .int x1_), (2, .int x2_)] [] := by
  unfold fX11_push at hf
  refine u_aload_n hC dX11_push_0 0 rfl rfl ?_
  refine u_iconst (v := (0 : Int32)) hC dX11_push_1 (by decide) ?_
  refine u_pi hC lf_X11_70 rfl rfl rfl hTa0 dX11_push_2 hf (fun S2 hf => ?_)
  refine u_iload_n hC dX11_push_5 1 rfl rfl ?_
  obtain ⟨q6, hq6, hf⟩ := kc_some hf
  refine u_callS hC (ctX11_isRule (cL C) hC.tr (cG C) X.1 X.2.1 n S2 x1_  hq6) lk_X11_261 (by decide) (by decide) rfl rfl (Nat.le_of_ble_eq_true rfl) dX11_push_6 ?_
  refine u_if_eq (tgt := 20) hC dX11_push_9 (by decide) hf (fun h9 hf => ?_) (fun h9 hf => ?_)
  · refine u_sub (lv' := [(0, .ref (X.1 a0))]) [0] rfl ?_
    exact wjX11_push_20 hC n S2 a0  hTa0 hf hR
  · refine u_aload_n hC dX11_push_12 0 rfl rfl ?_
    refine u_iload_n hC dX11_push_13 2 rfl rfl ?_
    obtain ⟨q14, hq14, hf⟩ := kc_some hf
    refine u_callV hC (ctX11_isProject (cL C) hC.tr (cG C) X.1 X.2.1 n S2 a0 x2_ hTa0 hq14) lk_X11_255 rfl hTa0 (by decide) rfl (by decide) (by decide) rfl rfl (Nat.le_of_ble_eq_true rfl) dX11_push_14 ?_
    refine u_if_ne (tgt := 26) hC dX11_push_17 (by decide) hf (fun h17 hf => ?_) (fun h17 hf => ?_)
    · refine u_aload_n hC dX11_push_26 0 rfl rfl ?_
      refine u_gr hC lf_X11_16 rfl hTa0 dX11_push_27 hf (fun b27 hTb27 hf => ?_)
      refine u_aload_n hC dX11_push_30 0 rfl rfl ?_
      refine u_gr hC lf_X11_9 rfl hTa0 dX11_push_31 hf (fun b31 hTb31 hf => ?_)
      obtain ⟨q34, hq34, hf⟩ := kc_some hf
      refine u_callS hC (ctX11_copy (cL C) hC.tr (cG C) X.1 X.2.1 n S2 b27 b31 hTb27 hTb31 hq34) lk_X11_295 (by decide) (by decide) rfl rfl (Nat.le_of_ble_eq_true rfl) dX11_push_34 ?_
      refine u_aload_n hC dX11_push_37 0 rfl rfl ?_
      refine u_iload_n hC dX11_push_38 1 rfl rfl ?_
      refine u_iload_n hC dX11_push_39 2 rfl rfl ?_
      obtain ⟨q40, hq40, hf⟩ := kc_some hf
      refine u_callV hC (ctX11_pushed (cL C) hC.tr (cG C) X.1 X.2.1 n q34 a0 x1_ x2_ hTa0 hq40) lk_X11_312 rfl hTa0 (by decide) rfl (by decide) (by decide) rfl rfl (Nat.le_of_ble_eq_true rfl) dX11_push_40 ?_
      refine u_istore_n (lv' := [(3, .int q40.1), (0, .ref (X.1 a0)), (1, .int x1_), (2, .int x2_)]) hC dX11_push_43 rfl (by decide) rfl ?_
      refine u_aload_n hC dX11_push_44 1 rfl rfl ?_
      refine u_gr hC lf_X11_9 rfl hTa0 dX11_push_45 hf (fun b45 hTb45 hf => ?_)
      refine u_aload_n hC dX11_push_48 1 rfl rfl ?_
      refine u_gr hC lf_X11_16 rfl hTa0 dX11_push_49 hf (fun b49 hTb49 hf => ?_)
      obtain ⟨q52, hq52, hf⟩ := kc_some hf
      refine u_callS hC (ctX11_copy (cL C) hC.tr (cG C) X.1 X.2.1 n q40.2 b45 b49 hTb45 hTb49 hq52) lk_X11_295 (by decide) (by decide) rfl rfl (Nat.le_of_ble_eq_true rfl) dX11_push_52 ?_
      refine u_iload_n hC dX11_push_55 0 rfl rfl ?_
      cases hf
      exact hR _ _ dX11_push_56 trivial
    · refine u_sub (lv' := [(0, .ref (X.1 a0))]) [0] rfl ?_
      exact wjX11_push_20 hC n S2 a0  hTa0 hf hR
theorem ctX11_push (l : Launch) (hl : l.stackTraces = false) (G : GT) (ρ : Nat → Nat) (Y : XS) (n : Nat) (S : PS) (a0 : Nat) (x1_ : Int32) (x2_ : Int32) (hTa0 : Ty Y a0 11) {o : Int32 × PS} (hf : fX11_push Y n S a0 x1_ x2_ = some o) : Mt l G yX11_push cX11_push 4 (some .int) 56 ρ Y [.ref (ρ a0), .int x1_, .int x2_] S (some (.int o.1)) o.2 :=
  Mt_of hl (by decide) (Nat.le_of_ble_eq_true rfl) (fun C _ _ hC hR => wX11_push (X := (ρ, Y, 0, 0)) hC n S a0 x1_ x2_ hTa0 hf hR)
-- X11_discount
theorem dX11_discount_0 : decode cX11_discount 0 = .ok (.aload_n 0, 1) := by decide +kernel
theorem dX11_discount_1 : decode cX11_discount 1 = .ok (.iconst 0, 1) := by decide +kernel
theorem dX11_discount_2 : decode cX11_discount 2 = .ok (.putfield 70, 3) := by decide +kernel
theorem dX11_discount_5 : decode cX11_discount 5 = .ok (.iload_n 1, 1) := by decide +kernel
theorem dX11_discount_6 : decode cX11_discount 6 = .ok (.invokestatic 261, 3) := by decide +kernel
theorem dX11_discount_9 : decode cX11_discount 9 = .ok (.ifCond .eq 11, 3) := by decide +kernel
theorem dX11_discount_12 : decode cX11_discount 12 = .ok (.aload_n 0, 1) := by decide +kernel
theorem dX11_discount_13 : decode cX11_discount 13 = .ok (.iload_n 2, 1) := by decide +kernel
theorem dX11_discount_14 : decode cX11_discount 14 = .ok (.invokevirtual 255, 3) := by decide +kernel
theorem dX11_discount_17 : decode cX11_discount 17 = .ok (.ifCond .ne 9, 3) := by decide +kernel
theorem dX11_discount_20 : decode cX11_discount 20 = .ok (.aload_n 0, 1) := by decide +kernel
theorem dX11_discount_21 : decode cX11_discount 21 = .ok (.iconst 1, 1) := by decide +kernel
theorem dX11_discount_22 : decode cX11_discount 22 = .ok (.invokevirtual 252, 3) := by decide +kernel
theorem dX11_discount_25 : decode cX11_discount 25 = .ok (.ireturn, 1) := by decide +kernel
theorem dX11_discount_26 : decode cX11_discount 26 = .ok (.aload_n 0, 1) := by decide +kernel
theorem dX11_discount_27 : decode cX11_discount 27 = .ok (.iload_n 2, 1) := by decide +kernel
theorem dX11_discount_28 : decode cX11_discount 28 = .ok (.invokevirtual 134, 3) := by decide +kernel
theorem dX11_discount_31 : decode cX11_discount 31 = .ok (.istore_n 3, 1) := by decide +kernel
theorem dX11_discount_32 : decode cX11_discount 32 = .ok (.iconst 0, 1) := by decide +kernel
theorem dX11_discount_33 : decode cX11_discount 33 = .ok (.istore 4, 2) := by decide +kernel
theorem dX11_discount_35 : decode cX11_discount 35 = .ok (.iload 4, 2) := by decide +kernel
theorem dX11_discount_37 : decode cX11_discount 37 = .ok (.bipush 10, 2) := by decide +kernel
theorem dX11_discount_39 : decode cX11_discount 39 = .ok (.if_icmp .ge 45, 3) := by decide +kernel
theorem dX11_discount_42 : decode cX11_discount 42 = .ok (.iconst 1, 1) := by decide +kernel
theorem dX11_discount_43 : decode cX11_discount 43 = .ok (.iload_n 3, 1) := by decide +kernel
theorem dX11_discount_44 : decode cX11_discount 44 = .ok (.bipush 10, 2) := by decide +kernel
theorem dX11_discount_46 : decode cX11_discount 46 = .ok (.iload 4, 2) := by decide +kernel
theorem dX11_discount_48 : decode cX11_discount 48 = .ok (.isub, 1) := by decide +kernel
theorem dX11_discount_49 : decode cX11_discount 49 = .ok (.imul, 1) := by decide +kernel
theorem dX11_discount_50 : decode cX11_discount 50 = .ok (.bipush 10, 2) := by decide +kernel
theorem dX11_discount_52 : decode cX11_discount 52 = .ok (.idiv, 1) := by decide +kernel
theorem dX11_discount_53 : decode cX11_discount 53 = .ok (.invokestatic 137, 3) := by decide +kernel
theorem dX11_discount_56 : decode cX11_discount 56 = .ok (.istore 5, 2) := by decide +kernel
theorem dX11_discount_58 : decode cX11_discount 58 = .ok (.aload_n 0, 1) := by decide +kernel
theorem dX11_discount_59 : decode cX11_discount 59 = .ok (.iload_n 1, 1) := by decide +kernel
theorem dX11_discount_60 : decode cX11_discount 60 = .ok (.iconst 3, 1) := by decide +kernel
theorem dX11_discount_61 : decode cX11_discount 61 = .ok (.iload_n 2, 1) := by decide +kernel
theorem dX11_discount_62 : decode cX11_discount 62 = .ok (.iadd, 1) := by decide +kernel
theorem dX11_discount_63 : decode cX11_discount 63 = .ok (.iload 5, 2) := by decide +kernel
theorem dX11_discount_65 : decode cX11_discount 65 = .ok (.invokevirtual 306, 3) := by decide +kernel
theorem dX11_discount_68 : decode cX11_discount 68 = .ok (.iload_n 2, 1) := by decide +kernel
theorem dX11_discount_69 : decode cX11_discount 69 = .ok (.invokestatic 147, 3) := by decide +kernel
theorem dX11_discount_72 : decode cX11_discount 72 = .ok (.ifCond .eq 6, 3) := by decide +kernel
theorem dX11_discount_75 : decode cX11_discount 75 = .ok (.iload 4, 2) := by decide +kernel
theorem dX11_discount_77 : decode cX11_discount 77 = .ok (.ireturn, 1) := by decide +kernel
theorem dX11_discount_78 : decode cX11_discount 78 = .ok (.iinc 4 1, 3) := by decide +kernel
theorem dX11_discount_81 : decode cX11_discount 81 = .ok (.goto (-46), 3) := by decide +kernel
theorem dX11_discount_84 : decode cX11_discount 84 = .ok (.iconst (-1), 1) := by decide +kernel
theorem dX11_discount_85 : decode cX11_discount 85 = .ok (.ireturn, 1) := by decide +kernel
def jX11_discount_20 (Y : XS) (n : Nat) (S : PS) (v0 : Nat) : Option (Int32 × PS) :=
  kc (fX11_fail Y n S v0 (1 : Int32)) (fun q22 => some (q22.1, q22.2))
def bX11_discount_35 (Y : XS) (n : Nat) (v0 : Nat) (v1 : Int32) (v2 : Int32) (v3 : Int32) (s35 : (Int32 × PS)) : Option ((Int32 × PS) ⊕ (PS ⊕ (Int32 × PS))) :=
  (if (10 : Int32) ≤ s35.1 then some (.inr (.inl s35.2)) else kidiv (v3 * ((10 : Int32) - s35.1)) (10 : Int32) (fun z52 => kc (fX11_chosenWith Y n s35.2 v0 v1 ((3 : Int32) + v2) (imax (1 : Int32) z52)) (fun q65 => kc (fX11_isOf Y n q65.2 q65.1 v2) (fun q69 => (if q69 = 0 then some (.inl (s35.1 + (1 : Int32), q65.2)) else some (.inr (.inr (s35.1, q65.2))))))))
def fX11_discount (Y : XS) (n : Nat) (S : PS) (a0 : Nat) (x1_ : Int32) (x2_ : Int32) : Option (Int32 × PS) :=
  kpi S a0 7 (0 : Int32) (fun S2 => kc (fX11_isRule Y n S2 x1_) (fun q6 => (if q6 = 0 then jX11_discount_20 Y n S2 a0 else kc (fX11_isProject Y n S2 a0 x2_) (fun q14 => (if q14 = 0 then jX11_discount_20 Y n S2 a0 else kc (fX11_costOf Y n S2 a0 x2_) (fun q28 => kc (iter (bX11_discount_35 Y n a0 x1_ x2_ q28) n ((0 : Int32), S2)) (fun r35 => ks r35 (fun p35_0 => some ((-1 : Int32), p35_0)) (fun p35_1 => some p35_1))))))))
theorem wjX11_discount_20 {C : CT} {X : XT} (hC : CK C RX11 cX11_discount 6 (some .int) 56) (n : Nat) (S : PS) (v0 : Nat)  (hTv0 : Ty X.2.1 v0 11) {o : Int32 × PS} (hf : jX11_discount_20 X.2.1 n S v0 = some o) (hR : Rt C X cX11_discount (some .int) (some (.int o.1)) o.2) : UW C X S 20 [(0, .ref (X.1 v0))] [] := by
  unfold jX11_discount_20 at hf
  refine u_aload_n hC dX11_discount_20 0 rfl rfl ?_
  refine u_iconst (v := (1 : Int32)) hC dX11_discount_21 (by decide) ?_
  obtain ⟨q22, hq22, hf⟩ := kc_some hf
  refine u_callV hC (ctX11_fail (cL C) hC.tr (cG C) X.1 X.2.1 n S v0 (1 : Int32) hTv0 hq22) lk_X11_252 rfl hTv0 (by decide) rfl (by decide) (by decide) rfl rfl (Nat.le_of_ble_eq_true rfl) dX11_discount_22 ?_
  cases hf
  exact hR _ _ dX11_discount_25 trivial
theorem wbX11_discount_35 {C : CT} {X : XT} (hC : CK C RX11 cX11_discount 6 (some .int) 56) (n : Nat) (v0 : Nat) (v1 : Int32) (v2 : Int32) (v3 : Int32) (hTv0 : Ty X.2.1 v0 11) (s35 : (Int32 × PS)) {o : (Int32 × PS) ⊕ (PS ⊕ (Int32 × PS))} (hf : bX11_discount_35 X.2.1 n v0 v1 v2 v3 s35 = some o) (hN : ∀ s', o = .inl s' → UW C X s'.2 35 [(0, .ref (X.1 v0)), (1, .int v1), (2, .int v2), (3, .int v3), (4, .int s'.1)] []) (hO0 : ∀ p', o = .inr (.inl p') → UW C X p' 84 [] []) (hR : ∀ q', o = .inr (.inr q') → Rt C X cX11_discount (some .int) (some (.int q'.1)) q'.2) : UW C X s35.2 35 [(0, .ref (X.1 v0)), (1, .int v1), (2, .int v2), (3, .int v3), (4, .int s35.1)] [] := by
  unfold bX11_discount_35 at hf
  refine u_iload hC dX11_discount_35 4 rfl ?_
  refine u_bipush (v := (10 : Int32)) hC dX11_discount_37 (by decide) ?_
  refine u_icmp_ge (tgt := 84) hC dX11_discount_39 (by decide) hf (fun h39 hf => ?_) (fun h39 hf => ?_)
  · refine u_sub (lv' := []) [] rfl ?_
    exact hO0 _ (Option.some.inj hf).symm
  · refine u_iconst (v := (1 : Int32)) hC dX11_discount_42 (by decide) ?_
    refine u_iload_n hC dX11_discount_43 3 rfl rfl ?_
    refine u_bipush (v := (10 : Int32)) hC dX11_discount_44 (by decide) ?_
    refine u_iload hC dX11_discount_46 4 rfl ?_
    refine u_isub hC dX11_discount_48 ?_
    refine u_imul hC dX11_discount_49 ?_
    refine u_bipush (v := (10 : Int32)) hC dX11_discount_50 (by decide) ?_
    refine u_idiv hC dX11_discount_52 hf (fun z52 hf => ?_)
    refine u_mmax hC (tb_6 234 rfl rfl) (by decide) (Nat.le_of_ble_eq_true rfl) dX11_discount_53 ?_
    refine u_istore (lv' := [(5, .int (imax (1 : Int32) z52)), (0, .ref (X.1 v0)), (1, .int v1), (2, .int v2), (3, .int v3), (4, .int s35.1)]) hC dX11_discount_56 (by decide) rfl ?_
    refine u_aload_n hC dX11_discount_58 1 rfl rfl ?_
    refine u_iload_n hC dX11_discount_59 2 rfl rfl ?_
    refine u_iconst (v := (3 : Int32)) hC dX11_discount_60 (by decide) ?_
    refine u_iload_n hC dX11_discount_61 3 rfl rfl ?_
    refine u_iadd hC dX11_discount_62 ?_
    refine u_iload hC dX11_discount_63 0 rfl ?_
    obtain ⟨q65, hq65, hf⟩ := kc_some hf
    refine u_callV hC (ctX11_chosenWith (cL C) hC.tr (cG C) X.1 X.2.1 n s35.2 v0 v1 ((3 : Int32) + v2) (imax (1 : Int32) z52) hTv0 hq65) lk_X11_306 rfl hTv0 (by decide) rfl (by decide) (by decide) rfl rfl (Nat.le_of_ble_eq_true rfl) dX11_discount_65 ?_
    refine u_iload_n hC dX11_discount_68 3 rfl rfl ?_
    obtain ⟨q69, hq69, hf⟩ := kc_some hf
    refine u_callS hC (ctX11_isOf (cL C) hC.tr (cG C) X.1 X.2.1 n q65.2 q65.1 v2  hq69) lk_X11_147 (by decide) (by decide) rfl rfl (Nat.le_of_ble_eq_true rfl) dX11_discount_69 ?_
    refine u_if_eq (tgt := 78) hC dX11_discount_72 (by decide) hf (fun h72 hf => ?_) (fun h72 hf => ?_)
    · refine u_iinc (v := s35.1 + (1 : Int32)) (lv' := [(4, .int (s35.1 + (1 : Int32))), (5, .int (imax (1 : Int32) z52)), (0, .ref (X.1 v0)), (1, .int v1), (2, .int v2), (3, .int v3)]) hC dX11_discount_78 5 rfl rfl (by decide) rfl ?_
      refine u_goto (tgt := 35) hC dX11_discount_81 (by decide) ?_
      refine u_sub (lv' := [(0, .ref (X.1 v0)), (1, .int v1), (2, .int v2), (3, .int v3), (4, .int (s35.1 + (1 : Int32)))]) [2, 3, 4, 5, 0] rfl ?_
      exact hN _ (Option.some.inj hf).symm
    · refine u_iload hC dX11_discount_75 5 rfl ?_
      exact hR _ (Option.some.inj hf).symm _ _ dX11_discount_77 trivial
theorem wX11_discount {C : CT} {X : XT} (hC : CK C RX11 cX11_discount 6 (some .int) 56) (n : Nat) (S : PS) (a0 : Nat) (x1_ : Int32) (x2_ : Int32) (hTa0 : Ty X.2.1 a0 11) {o : Int32 × PS} (hf : fX11_discount X.2.1 n S a0 x1_ x2_ = some o) (hR : Rt C X cX11_discount (some .int) (some (.int o.1)) o.2) : UW C X S 0 [(0, .ref (X.1 a0)), (1, .int x1_), (2, .int x2_)] [] := by
  unfold fX11_discount at hf
  refine u_aload_n hC dX11_discount_0 0 rfl rfl ?_
  refine u_iconst (v := (0 : Int32)) hC dX11_discount_1 (by decide) ?_
  refine u_pi hC lf_X11_70 rfl rfl rfl hTa0 dX11_discount_2 hf (fun S2 hf => ?_)
  refine u_iload_n hC dX11_discount_5 1 rfl rfl ?_
  obtain ⟨q6, hq6, hf⟩ := kc_some hf
  refine u_callS hC (ctX11_isRule (cL C) hC.tr (cG C) X.1 X.2.1 n S2 x1_  hq6) lk_X11_261 (by decide) (by decide) rfl rfl (Nat.le_of_ble_eq_true rfl) dX11_discount_6 ?_
  refine u_if_eq (tgt := 20) hC dX11_discount_9 (by decide) hf (fun h9 hf => ?_) (fun h9 hf => ?_)
  · refine u_sub (lv' := [(0, .ref (X.1 a0))]) [0] rfl ?_
    exact wjX11_discount_20 hC n S2 a0  hTa0 hf hR
  · refine u_aload_n hC dX11_discount_12 0 rfl rfl ?_
    refine u_iload_n hC dX11_discount_13 2 rfl rfl ?_
    obtain ⟨q14, hq14, hf⟩ := kc_some hf
    refine u_callV hC (ctX11_isProject (cL C) hC.tr (cG C) X.1 X.2.1 n S2 a0 x2_ hTa0 hq14) lk_X11_255 rfl hTa0 (by decide) rfl (by decide) (by decide) rfl rfl (Nat.le_of_ble_eq_true rfl) dX11_discount_14 ?_
    refine u_if_ne (tgt := 26) hC dX11_discount_17 (by decide) hf (fun h17 hf => ?_) (fun h17 hf => ?_)
    · refine u_aload_n hC dX11_discount_26 0 rfl rfl ?_
      refine u_iload_n hC dX11_discount_27 2 rfl rfl ?_
      obtain ⟨q28, hq28, hf⟩ := kc_some hf
      refine u_callV hC (ctX11_costOf (cL C) hC.tr (cG C) X.1 X.2.1 n S2 a0 x2_ hTa0 hq28) lk_X11_134 rfl hTa0 (by decide) rfl (by decide) (by decide) rfl rfl (Nat.le_of_ble_eq_true rfl) dX11_discount_28 ?_
      refine u_istore_n (lv' := [(3, .int q28), (0, .ref (X.1 a0)), (1, .int x1_), (2, .int x2_)]) hC dX11_discount_31 rfl (by decide) rfl ?_
      refine u_iconst (v := (0 : Int32)) hC dX11_discount_32 (by decide) ?_
      refine u_istore (lv' := [(4, .int (0 : Int32)), (3, .int q28), (0, .ref (X.1 a0)), (1, .int x1_), (2, .int x2_)]) hC dX11_discount_33 (by decide) rfl ?_
      obtain ⟨r35, hr35, hf⟩ := kc_some hf
      have hk35_0 : ∀ p35_0, r35 = (.inl p35_0) → UW C X p35_0 84 [] [] := by
        intro p35_0 he
        subst he
        have hf := ks_l hf
        refine u_iconst (v := (-1 : Int32)) hC dX11_discount_84 (by decide) ?_
        cases hf
        exact hR _ _ dX11_discount_85 trivial
      have hk35_1 : ∀ p35_1, r35 = (.inr p35_1) → Rt C X cX11_discount (some .int) (some (.int p35_1.1)) p35_1.2 := by
        intro p35_1 he
        subst he
        have hf := ks_r hf
        cases hf
        exact hR
      refine u_sub (lv' := [(0, .ref (X.1 a0)), (1, .int x1_), (2, .int x2_), (3, .int q28), (4, .int (0 : Int32))]) [2, 3, 4, 1, 0] rfl ?_
      refine iter_ind (P := fun s35 => UW C X s35.2 35 [(0, .ref (X.1 a0)), (1, .int x1_), (2, .int x2_), (3, .int q28), (4, .int s35.1)] []) (fun s35 o' hb hin hout => ?_) n ((0 : Int32), S2) hr35
      exact wbX11_discount_35 hC n a0 x1_ x2_ q28 hTa0 s35 hb hin (fun p e => hk35_0 p (hout _ e).symm) (fun p e => hk35_1 p (hout _ e).symm)
    · refine u_sub (lv' := [(0, .ref (X.1 a0))]) [0] rfl ?_
      exact wjX11_discount_20 hC n S2 a0  hTa0 hf hR
theorem ctX11_discount (l : Launch) (hl : l.stackTraces = false) (G : GT) (ρ : Nat → Nat) (Y : XS) (n : Nat) (S : PS) (a0 : Nat) (x1_ : Int32) (x2_ : Int32) (hTa0 : Ty Y a0 11) {o : Int32 × PS} (hf : fX11_discount Y n S a0 x1_ x2_ = some o) : Mt l G yX11_discount cX11_discount 6 (some .int) 56 ρ Y [.ref (ρ a0), .int x1_, .int x2_] S (some (.int o.1)) o.2 :=
  Mt_of hl (by decide) (Nat.le_of_ble_eq_true rfl) (fun C _ _ hC hR => wX11_discount (X := (ρ, Y, 0, 0)) hC n S a0 x1_ x2_ hTa0 hf hR)
-- X11_keep
theorem dX11_keep_0 : decode cX11_keep 0 = .ok (.aload_n 0, 1) := by decide +kernel
theorem dX11_keep_1 : decode cX11_keep 1 = .ok (.getfield 246, 3) := by decide +kernel
theorem dX11_keep_4 : decode cX11_keep 4 = .ok (.bipush 20, 2) := by decide +kernel
theorem dX11_keep_6 : decode cX11_keep 6 = .ok (.if_icmp .ne 46, 3) := by decide +kernel
theorem dX11_keep_9 : decode cX11_keep 9 = .ok (.sipush 877, 3) := by decide +kernel
theorem dX11_keep_12 : decode cX11_keep 12 = .ok (.istore_n 1, 1) := by decide +kernel
theorem dX11_keep_13 : decode cX11_keep 13 = .ok (.iload_n 1, 1) := by decide +kernel
theorem dX11_keep_14 : decode cX11_keep 14 = .ok (.sipush 17540, 3) := by decide +kernel
theorem dX11_keep_17 : decode cX11_keep 17 = .ok (.if_icmp .ge 25, 3) := by decide +kernel
theorem dX11_keep_20 : decode cX11_keep 20 = .ok (.aload_n 0, 1) := by decide +kernel
theorem dX11_keep_21 : decode cX11_keep 21 = .ok (.getfield 22, 3) := by decide +kernel
theorem dX11_keep_24 : decode cX11_keep 24 = .ok (.iload_n 1, 1) := by decide +kernel
theorem dX11_keep_25 : decode cX11_keep 25 = .ok (.sipush 877, 3) := by decide +kernel
theorem dX11_keep_28 : decode cX11_keep 28 = .ok (.isub, 1) := by decide +kernel
theorem dX11_keep_29 : decode cX11_keep 29 = .ok (.aload_n 0, 1) := by decide +kernel
theorem dX11_keep_30 : decode cX11_keep 30 = .ok (.getfield 22, 3) := by decide +kernel
theorem dX11_keep_33 : decode cX11_keep 33 = .ok (.iload_n 1, 1) := by decide +kernel
theorem dX11_keep_34 : decode cX11_keep 34 = .ok (.iaload, 1) := by decide +kernel
theorem dX11_keep_35 : decode cX11_keep 35 = .ok (.iastore, 1) := by decide +kernel
theorem dX11_keep_36 : decode cX11_keep 36 = .ok (.iinc 1 1, 3) := by decide +kernel
theorem dX11_keep_39 : decode cX11_keep 39 = .ok (.goto (-26), 3) := by decide +kernel
theorem dX11_keep_42 : decode cX11_keep 42 = .ok (.aload_n 0, 1) := by decide +kernel
theorem dX11_keep_43 : decode cX11_keep 43 = .ok (.dup, 1) := by decide +kernel
theorem dX11_keep_44 : decode cX11_keep 44 = .ok (.getfield 246, 3) := by decide +kernel
theorem dX11_keep_47 : decode cX11_keep 47 = .ok (.iconst 1, 1) := by decide +kernel
theorem dX11_keep_48 : decode cX11_keep 48 = .ok (.isub, 1) := by decide +kernel
theorem dX11_keep_49 : decode cX11_keep 49 = .ok (.putfield 246, 3) := by decide +kernel
theorem dX11_keep_52 : decode cX11_keep 52 = .ok (.iconst 0, 1) := by decide +kernel
theorem dX11_keep_53 : decode cX11_keep 53 = .ok (.istore_n 1, 1) := by decide +kernel
theorem dX11_keep_54 : decode cX11_keep 54 = .ok (.iload_n 1, 1) := by decide +kernel
theorem dX11_keep_55 : decode cX11_keep 55 = .ok (.sipush 877, 3) := by decide +kernel
theorem dX11_keep_58 : decode cX11_keep 58 = .ok (.if_icmp .ge 30, 3) := by decide +kernel
theorem dX11_keep_61 : decode cX11_keep 61 = .ok (.aload_n 0, 1) := by decide +kernel
theorem dX11_keep_62 : decode cX11_keep 62 = .ok (.getfield 22, 3) := by decide +kernel
theorem dX11_keep_65 : decode cX11_keep 65 = .ok (.sipush 877, 3) := by decide +kernel
theorem dX11_keep_68 : decode cX11_keep 68 = .ok (.aload_n 0, 1) := by decide +kernel
theorem dX11_keep_69 : decode cX11_keep 69 = .ok (.getfield 246, 3) := by decide +kernel
theorem dX11_keep_72 : decode cX11_keep 72 = .ok (.imul, 1) := by decide +kernel
theorem dX11_keep_73 : decode cX11_keep 73 = .ok (.iload_n 1, 1) := by decide +kernel
theorem dX11_keep_74 : decode cX11_keep 74 = .ok (.iadd, 1) := by decide +kernel
theorem dX11_keep_75 : decode cX11_keep 75 = .ok (.aload_n 0, 1) := by decide +kernel
theorem dX11_keep_76 : decode cX11_keep 76 = .ok (.getfield 9, 3) := by decide +kernel
theorem dX11_keep_79 : decode cX11_keep 79 = .ok (.iload_n 1, 1) := by decide +kernel
theorem dX11_keep_80 : decode cX11_keep 80 = .ok (.iaload, 1) := by decide +kernel
theorem dX11_keep_81 : decode cX11_keep 81 = .ok (.iastore, 1) := by decide +kernel
theorem dX11_keep_82 : decode cX11_keep 82 = .ok (.iinc 1 1, 3) := by decide +kernel
theorem dX11_keep_85 : decode cX11_keep 85 = .ok (.goto (-31), 3) := by decide +kernel
theorem dX11_keep_88 : decode cX11_keep 88 = .ok (.aload_n 0, 1) := by decide +kernel
theorem dX11_keep_89 : decode cX11_keep 89 = .ok (.dup, 1) := by decide +kernel
theorem dX11_keep_90 : decode cX11_keep 90 = .ok (.getfield 246, 3) := by decide +kernel
theorem dX11_keep_93 : decode cX11_keep 93 = .ok (.iconst 1, 1) := by decide +kernel
theorem dX11_keep_94 : decode cX11_keep 94 = .ok (.iadd, 1) := by decide +kernel
theorem dX11_keep_95 : decode cX11_keep 95 = .ok (.putfield 246, 3) := by decide +kernel
theorem dX11_keep_98 : decode cX11_keep 98 = .ok (.return_, 1) := by decide +kernel
def bX11_keep_54 (Y : XS) (n : Nat) (v0 : Nat) (s54 : (Int32 × PS)) : Option ((Int32 × PS) ⊕ PS) :=
  (if (877 : Int32) ≤ s54.1 then some (.inr s54.2) else kgr s54.2 v0 4 (fun b62 => kgi s54.2 v0 6 (fun x69 => kgr s54.2 v0 0 (fun b76 => kai Y s54.2 b76 s54.1 (fun x80 => kwi Y s54.2 b62 (((877 : Int32) * x69) + s54.1) x80 (fun S81 => some (.inl (s54.1 + (1 : Int32), S81))))))))
def jX11_keep_52 (Y : XS) (n : Nat) (S : PS) (v0 : Nat) : Option (PS) :=
  kc (iter (bX11_keep_54 Y n v0) n ((0 : Int32), S)) (fun r54 => kgi r54 v0 6 (fun x90 => kpi r54 v0 6 (x90 + (1 : Int32)) (fun S95 => some S95)))
def bX11_keep_13 (Y : XS) (n : Nat) (v0 : Nat) (s13 : (Int32 × PS)) : Option ((Int32 × PS) ⊕ PS) :=
  (if (17540 : Int32) ≤ s13.1 then some (.inr s13.2) else kgr s13.2 v0 4 (fun b21 => kgr s13.2 v0 4 (fun b30 => kai Y s13.2 b30 s13.1 (fun x34 => kwi Y s13.2 b21 (s13.1 - (877 : Int32)) x34 (fun S35 => some (.inl (s13.1 + (1 : Int32), S35)))))))
def fX11_keep (Y : XS) (n : Nat) (S : PS) (a0 : Nat) : Option (PS) :=
  kgi S a0 6 (fun x1 => (if x1 = (20 : Int32) then kc (iter (bX11_keep_13 Y n a0) n ((877 : Int32), S)) (fun r13 => kgi r13 a0 6 (fun x44 => kpi r13 a0 6 (x44 - (1 : Int32)) (fun S49 => jX11_keep_52 Y n S49 a0))) else jX11_keep_52 Y n S a0))
theorem wbX11_keep_54 {C : CT} {X : XT} (hC : CK C RX11 cX11_keep 2 none 1) (n : Nat) (v0 : Nat) (hTv0 : Ty X.2.1 v0 11) (s54 : (Int32 × PS)) {o : (Int32 × PS) ⊕ PS} (hf : bX11_keep_54 X.2.1 n v0 s54 = some o) (hN : ∀ s', o = .inl s' → UW C X s'.2 54 [(0, .ref (X.1 v0)), (1, .int s'.1)] []) (hO0 : ∀ p', o = .inr p' → UW C X p' 88 [(0, .ref (X.1 v0))] []) : UW C X s54.2 54 [(0, .ref (X.1 v0)), (1, .int s54.1)] [] := by
  unfold bX11_keep_54 at hf
  refine u_iload_n hC dX11_keep_54 1 rfl rfl ?_
  refine u_sipush (v := (877 : Int32)) hC dX11_keep_55 (by decide) ?_
  refine u_icmp_ge (tgt := 88) hC dX11_keep_58 (by decide) hf (fun h58 hf => ?_) (fun h58 hf => ?_)
  · refine u_sub (lv' := [(0, .ref (X.1 v0))]) [0] rfl ?_
    exact hO0 _ (Option.some.inj hf).symm
  · refine u_aload_n hC dX11_keep_61 0 rfl rfl ?_
    refine u_gr hC lf_X11_22 rfl hTv0 dX11_keep_62 hf (fun b62 hTb62 hf => ?_)
    refine u_sipush (v := (877 : Int32)) hC dX11_keep_65 (by decide) ?_
    refine u_aload_n hC dX11_keep_68 0 rfl rfl ?_
    refine u_gi hC lf_X11_246 rfl hTv0 dX11_keep_69 hf (fun x69 hf => ?_)
    refine u_imul hC dX11_keep_72 ?_
    refine u_iload_n hC dX11_keep_73 1 rfl rfl ?_
    refine u_iadd hC dX11_keep_74 ?_
    refine u_aload_n hC dX11_keep_75 0 rfl rfl ?_
    refine u_gr hC lf_X11_9 rfl hTv0 dX11_keep_76 hf (fun b76 hTb76 hf => ?_)
    refine u_iload_n hC dX11_keep_79 1 rfl rfl ?_
    refine u_ai hC hTb76 dX11_keep_80 hf (fun x80 hf => ?_)
    refine u_wi hC hTb62 dX11_keep_81 hf (fun S81 hf => ?_)
    refine u_iinc (v := s54.1 + (1 : Int32)) (lv' := [(1, .int (s54.1 + (1 : Int32))), (0, .ref (X.1 v0))]) hC dX11_keep_82 1 rfl rfl (by decide) rfl ?_
    refine u_goto (tgt := 54) hC dX11_keep_85 (by decide) ?_
    refine u_sub (lv' := [(0, .ref (X.1 v0)), (1, .int (s54.1 + (1 : Int32)))]) [1, 0] rfl ?_
    exact hN _ (Option.some.inj hf).symm
theorem wjX11_keep_52 {C : CT} {X : XT} (hC : CK C RX11 cX11_keep 2 none 1) (n : Nat) (S : PS) (v0 : Nat)  (hTv0 : Ty X.2.1 v0 11) {o : PS} (hf : jX11_keep_52 X.2.1 n S v0 = some o) (hR : Rt C X cX11_keep none none o) : UW C X S 52 [(0, .ref (X.1 v0))] [] := by
  unfold jX11_keep_52 at hf
  refine u_iconst (v := (0 : Int32)) hC dX11_keep_52 (by decide) ?_
  refine u_istore_n (lv' := [(1, .int (0 : Int32)), (0, .ref (X.1 v0))]) hC dX11_keep_53 rfl (by decide) rfl ?_
  obtain ⟨r54, hr54, hf⟩ := kc_some hf
  have hk54 : UW C X r54 88 [(0, .ref (X.1 v0))] [] := by
    refine u_aload_n hC dX11_keep_88 0 rfl rfl ?_
    refine u_dup hC dX11_keep_89 rfl ?_
    refine u_gi hC lf_X11_246 rfl hTv0 dX11_keep_90 hf (fun x90 hf => ?_)
    refine u_iconst (v := (1 : Int32)) hC dX11_keep_93 (by decide) ?_
    refine u_iadd hC dX11_keep_94 ?_
    refine u_pi hC lf_X11_246 rfl rfl rfl hTv0 dX11_keep_95 hf (fun S95 hf => ?_)
    cases hf
    exact hR _ _ dX11_keep_98 trivial
  refine u_sub (lv' := [(0, .ref (X.1 v0)), (1, .int (0 : Int32))]) [1, 0] rfl ?_
  refine iter_ind (P := fun s54 => UW C X s54.2 54 [(0, .ref (X.1 v0)), (1, .int s54.1)] []) (fun s54 o' hb hin hout => ?_) n ((0 : Int32), S) hr54
  exact wbX11_keep_54 hC n v0 hTv0 s54 hb hin (fun p e => by rw [hout p e]; exact hk54)
theorem wbX11_keep_13 {C : CT} {X : XT} (hC : CK C RX11 cX11_keep 2 none 1) (n : Nat) (v0 : Nat) (hTv0 : Ty X.2.1 v0 11) (s13 : (Int32 × PS)) {o : (Int32 × PS) ⊕ PS} (hf : bX11_keep_13 X.2.1 n v0 s13 = some o) (hN : ∀ s', o = .inl s' → UW C X s'.2 13 [(0, .ref (X.1 v0)), (1, .int s'.1)] []) (hO0 : ∀ p', o = .inr p' → UW C X p' 42 [(0, .ref (X.1 v0))] []) : UW C X s13.2 13 [(0, .ref (X.1 v0)), (1, .int s13.1)] [] := by
  unfold bX11_keep_13 at hf
  refine u_iload_n hC dX11_keep_13 1 rfl rfl ?_
  refine u_sipush (v := (17540 : Int32)) hC dX11_keep_14 (by decide) ?_
  refine u_icmp_ge (tgt := 42) hC dX11_keep_17 (by decide) hf (fun h17 hf => ?_) (fun h17 hf => ?_)
  · refine u_sub (lv' := [(0, .ref (X.1 v0))]) [0] rfl ?_
    exact hO0 _ (Option.some.inj hf).symm
  · refine u_aload_n hC dX11_keep_20 0 rfl rfl ?_
    refine u_gr hC lf_X11_22 rfl hTv0 dX11_keep_21 hf (fun b21 hTb21 hf => ?_)
    refine u_iload_n hC dX11_keep_24 1 rfl rfl ?_
    refine u_sipush (v := (877 : Int32)) hC dX11_keep_25 (by decide) ?_
    refine u_isub hC dX11_keep_28 ?_
    refine u_aload_n hC dX11_keep_29 0 rfl rfl ?_
    refine u_gr hC lf_X11_22 rfl hTv0 dX11_keep_30 hf (fun b30 hTb30 hf => ?_)
    refine u_iload_n hC dX11_keep_33 1 rfl rfl ?_
    refine u_ai hC hTb30 dX11_keep_34 hf (fun x34 hf => ?_)
    refine u_wi hC hTb21 dX11_keep_35 hf (fun S35 hf => ?_)
    refine u_iinc (v := s13.1 + (1 : Int32)) (lv' := [(1, .int (s13.1 + (1 : Int32))), (0, .ref (X.1 v0))]) hC dX11_keep_36 1 rfl rfl (by decide) rfl ?_
    refine u_goto (tgt := 13) hC dX11_keep_39 (by decide) ?_
    refine u_sub (lv' := [(0, .ref (X.1 v0)), (1, .int (s13.1 + (1 : Int32)))]) [1, 0] rfl ?_
    exact hN _ (Option.some.inj hf).symm
theorem wX11_keep {C : CT} {X : XT} (hC : CK C RX11 cX11_keep 2 none 1) (n : Nat) (S : PS) (a0 : Nat) (hTa0 : Ty X.2.1 a0 11) {o : PS} (hf : fX11_keep X.2.1 n S a0 = some o) (hR : Rt C X cX11_keep none none o) : UW C X S 0 [(0, .ref (X.1 a0))] [] := by
  unfold fX11_keep at hf
  refine u_aload_n hC dX11_keep_0 0 rfl rfl ?_
  refine u_gi hC lf_X11_246 rfl hTa0 dX11_keep_1 hf (fun x1 hf => ?_)
  refine u_bipush (v := (20 : Int32)) hC dX11_keep_4 (by decide) ?_
  refine u_icmp_ne (tgt := 52) hC dX11_keep_6 (by decide) hf (fun h6 hf => ?_) (fun h6 hf => ?_)
  · exact wjX11_keep_52 hC n S a0  hTa0 hf hR
  · refine u_sipush (v := (877 : Int32)) hC dX11_keep_9 (by decide) ?_
    refine u_istore_n (lv' := [(1, .int (877 : Int32)), (0, .ref (X.1 a0))]) hC dX11_keep_12 rfl (by decide) rfl ?_
    obtain ⟨r13, hr13, hf⟩ := kc_some hf
    have hk13 : UW C X r13 42 [(0, .ref (X.1 a0))] [] := by
      refine u_aload_n hC dX11_keep_42 0 rfl rfl ?_
      refine u_dup hC dX11_keep_43 rfl ?_
      refine u_gi hC lf_X11_246 rfl hTa0 dX11_keep_44 hf (fun x44 hf => ?_)
      refine u_iconst (v := (1 : Int32)) hC dX11_keep_47 (by decide) ?_
      refine u_isub hC dX11_keep_48 ?_
      refine u_pi hC lf_X11_246 rfl rfl rfl hTa0 dX11_keep_49 hf (fun S49 hf => ?_)
      exact wjX11_keep_52 hC n S49 a0  hTa0 hf hR
    refine u_sub (lv' := [(0, .ref (X.1 a0)), (1, .int (877 : Int32))]) [1, 0] rfl ?_
    refine iter_ind (P := fun s13 => UW C X s13.2 13 [(0, .ref (X.1 a0)), (1, .int s13.1)] []) (fun s13 o' hb hin hout => ?_) n ((877 : Int32), S) hr13
    exact wbX11_keep_13 hC n a0 hTa0 s13 hb hin (fun p e => by rw [hout p e]; exact hk13)
theorem ctX11_keep (l : Launch) (hl : l.stackTraces = false) (G : GT) (ρ : Nat → Nat) (Y : XS) (n : Nat) (S : PS) (a0 : Nat) (hTa0 : Ty Y a0 11) {o : PS} (hf : fX11_keep Y n S a0 = some o) : Mt l G yX11_keep cX11_keep 2 none 1 ρ Y [.ref (ρ a0)] S none o :=
  Mt_of hl (by decide) (Nat.le_of_ble_eq_true rfl) (fun C _ _ hC hR => wX11_keep (X := (ρ, Y, 0, 0)) hC n S a0 hTa0 hf hR)
-- X11_becomes
theorem dX11_becomes_0 : decode cX11_becomes 0 = .ok (.aload_n 0, 1) := by decide +kernel
theorem dX11_becomes_1 : decode cX11_becomes 1 = .ok (.invokevirtual 315, 3) := by decide +kernel
theorem dX11_becomes_4 : decode cX11_becomes 4 = .ok (.aload_n 0, 1) := by decide +kernel
theorem dX11_becomes_5 : decode cX11_becomes 5 = .ok (.getfield 9, 3) := by decide +kernel
theorem dX11_becomes_8 : decode cX11_becomes 8 = .ok (.iload_n 1, 1) := by decide +kernel
theorem dX11_becomes_9 : decode cX11_becomes 9 = .ok (.iaload, 1) := by decide +kernel
theorem dX11_becomes_10 : decode cX11_becomes 10 = .ok (.istore_n 3, 1) := by decide +kernel
theorem dX11_becomes_11 : decode cX11_becomes 11 = .ok (.aload_n 0, 1) := by decide +kernel
theorem dX11_becomes_12 : decode cX11_becomes 12 = .ok (.getfield 9, 3) := by decide +kernel
theorem dX11_becomes_15 : decode cX11_becomes 15 = .ok (.iload_n 1, 1) := by decide +kernel
theorem dX11_becomes_16 : decode cX11_becomes 16 = .ok (.iload_n 2, 1) := by decide +kernel
theorem dX11_becomes_17 : decode cX11_becomes 17 = .ok (.iastore, 1) := by decide +kernel
theorem dX11_becomes_18 : decode cX11_becomes 18 = .ok (.iload_n 3, 1) := by decide +kernel
theorem dX11_becomes_19 : decode cX11_becomes 19 = .ok (.ireturn, 1) := by decide +kernel
def fX11_becomes (Y : XS) (n : Nat) (S : PS) (a0 : Nat) (x1_ : Int32) (x2_ : Int32) : Option (Int32 × PS) :=
  kc (fX11_keep Y n S a0) (fun q1 => kgr q1 a0 0 (fun b5 => kai Y q1 b5 x1_ (fun x9 => kgr q1 a0 0 (fun b12 => kwi Y q1 b12 x1_ x2_ (fun S17 => some (x9, S17))))))
theorem wX11_becomes {C : CT} {X : XT} (hC : CK C RX11 cX11_becomes 4 (some .int) 2) (n : Nat) (S : PS) (a0 : Nat) (x1_ : Int32) (x2_ : Int32) (hTa0 : Ty X.2.1 a0 11) {o : Int32 × PS} (hf : fX11_becomes X.2.1 n S a0 x1_ x2_ = some o) (hR : Rt C X cX11_becomes (some .int) (some (.int o.1)) o.2) : UW C X S 0 [(0, .ref (X.1 a0)), (1, .int x1_), (2, .int x2_)] [] := by
  unfold fX11_becomes at hf
  refine u_aload_n hC dX11_becomes_0 0 rfl rfl ?_
  obtain ⟨q1, hq1, hf⟩ := kc_some hf
  refine u_callV hC (ctX11_keep (cL C) hC.tr (cG C) X.1 X.2.1 n S a0 hTa0 hq1) lk_X11_315 rfl hTa0 (by decide) rfl (by decide) (by decide) rfl rfl (Nat.le_of_ble_eq_true rfl) dX11_becomes_1 ?_
  refine u_aload_n hC dX11_becomes_4 0 rfl rfl ?_
  refine u_gr hC lf_X11_9 rfl hTa0 dX11_becomes_5 hf (fun b5 hTb5 hf => ?_)
  refine u_iload_n hC dX11_becomes_8 1 rfl rfl ?_
  refine u_ai hC hTb5 dX11_becomes_9 hf (fun x9 hf => ?_)
  refine u_istore_n (lv' := [(3, .int x9), (0, .ref (X.1 a0)), (1, .int x1_), (2, .int x2_)]) hC dX11_becomes_10 rfl (by decide) rfl ?_
  refine u_aload_n hC dX11_becomes_11 1 rfl rfl ?_
  refine u_gr hC lf_X11_9 rfl hTa0 dX11_becomes_12 hf (fun b12 hTb12 hf => ?_)
  refine u_iload_n hC dX11_becomes_15 2 rfl rfl ?_
  refine u_iload_n hC dX11_becomes_16 3 rfl rfl ?_
  refine u_wi hC hTb12 dX11_becomes_17 hf (fun S17 hf => ?_)
  refine u_iload_n hC dX11_becomes_18 0 rfl rfl ?_
  cases hf
  exact hR _ _ dX11_becomes_19 trivial
theorem ctX11_becomes (l : Launch) (hl : l.stackTraces = false) (G : GT) (ρ : Nat → Nat) (Y : XS) (n : Nat) (S : PS) (a0 : Nat) (x1_ : Int32) (x2_ : Int32) (hTa0 : Ty Y a0 11) {o : Int32 × PS} (hf : fX11_becomes Y n S a0 x1_ x2_ = some o) : Mt l G yX11_becomes cX11_becomes 4 (some .int) 2 ρ Y [.ref (ρ a0), .int x1_, .int x2_] S (some (.int o.1)) o.2 :=
  Mt_of hl (by decide) (Nat.le_of_ble_eq_true rfl) (fun C _ _ hC hR => wX11_becomes (X := (ρ, Y, 0, 0)) hC n S a0 x1_ x2_ hTa0 hf hR)
-- X11_budget
theorem dX11_budget_0 : decode cX11_budget 0 = .ok (.aload_n 0, 1) := by decide +kernel
theorem dX11_budget_1 : decode cX11_budget 1 = .ok (.iconst 0, 1) := by decide +kernel
theorem dX11_budget_2 : decode cX11_budget 2 = .ok (.putfield 70, 3) := by decide +kernel
theorem dX11_budget_5 : decode cX11_budget 5 = .ok (.iload_n 1, 1) := by decide +kernel
theorem dX11_budget_6 : decode cX11_budget 6 = .ok (.iconst 0, 1) := by decide +kernel
theorem dX11_budget_7 : decode cX11_budget 7 = .ok (.ldc_w 305, 3) := by decide +kernel
theorem dX11_budget_10 : decode cX11_budget 10 = .ok (.invokestatic 81, 3) := by decide +kernel
theorem dX11_budget_13 : decode cX11_budget 13 = .ok (.ifCond .eq 12, 3) := by decide +kernel
theorem dX11_budget_16 : decode cX11_budget 16 = .ok (.aload_n 0, 1) := by decide +kernel
theorem dX11_budget_17 : decode cX11_budget 17 = .ok (.iconst 0, 1) := by decide +kernel
theorem dX11_budget_18 : decode cX11_budget 18 = .ok (.iload_n 1, 1) := by decide +kernel
theorem dX11_budget_19 : decode cX11_budget 19 = .ok (.invokevirtual 318, 3) := by decide +kernel
theorem dX11_budget_22 : decode cX11_budget 22 = .ok (.goto 8, 3) := by decide +kernel
theorem dX11_budget_25 : decode cX11_budget 25 = .ok (.aload_n 0, 1) := by decide +kernel
theorem dX11_budget_26 : decode cX11_budget 26 = .ok (.iconst 1, 1) := by decide +kernel
theorem dX11_budget_27 : decode cX11_budget 27 = .ok (.invokevirtual 252, 3) := by decide +kernel
theorem dX11_budget_30 : decode cX11_budget 30 = .ok (.ireturn, 1) := by decide +kernel
def jX11_budget_30 (Y : XS) (n : Nat) (S : PS) (t0 : Int32) : Option (Int32 × PS) :=
  some (t0, S)
def fX11_budget (Y : XS) (n : Nat) (S : PS) (a0 : Nat) (x1_ : Int32) : Option (Int32 × PS) :=
  kpi S a0 7 (0 : Int32) (fun S2 => kc (fX11_isIn Y n S2 x1_ (0 : Int32) (99999 : Int32)) (fun q10 => (if q10 = 0 then kc (fX11_fail Y n S2 a0 (1 : Int32)) (fun q27 => jX11_budget_30 Y n q27.2 q27.1) else kc (fX11_becomes Y n S2 a0 (0 : Int32) x1_) (fun q19 => jX11_budget_30 Y n q19.2 q19.1))))
theorem wjX11_budget_30 {C : CT} {X : XT} (hC : CK C RX11 cX11_budget 2 (some .int) 3) (n : Nat) (S : PS) (t0 : Int32)   {o : Int32 × PS} (hf : jX11_budget_30 X.2.1 n S t0 = some o) (hR : Rt C X cX11_budget (some .int) (some (.int o.1)) o.2) : UW C X S 30 [] [.int t0] := by
  unfold jX11_budget_30 at hf
  cases hf
  exact hR _ _ dX11_budget_30 trivial
theorem wX11_budget {C : CT} {X : XT} (hC : CK C RX11 cX11_budget 2 (some .int) 3) (n : Nat) (S : PS) (a0 : Nat) (x1_ : Int32) (hTa0 : Ty X.2.1 a0 11) {o : Int32 × PS} (hf : fX11_budget X.2.1 n S a0 x1_ = some o) (hR : Rt C X cX11_budget (some .int) (some (.int o.1)) o.2) : UW C X S 0 [(0, .ref (X.1 a0)), (1, .int x1_)] [] := by
  unfold fX11_budget at hf
  refine u_aload_n hC dX11_budget_0 0 rfl rfl ?_
  refine u_iconst (v := (0 : Int32)) hC dX11_budget_1 (by decide) ?_
  refine u_pi hC lf_X11_70 rfl rfl rfl hTa0 dX11_budget_2 hf (fun S2 hf => ?_)
  refine u_iload_n hC dX11_budget_5 1 rfl rfl ?_
  refine u_iconst (v := (0 : Int32)) hC dX11_budget_6 (by decide) ?_
  refine u_ldcw (v := (99999 : Int32)) hC dX11_budget_7 (tb_7 197 rfl rfl) ?_
  obtain ⟨q10, hq10, hf⟩ := kc_some hf
  refine u_callS hC (ctX11_isIn (cL C) hC.tr (cG C) X.1 X.2.1 n S2 x1_ (0 : Int32) (99999 : Int32)  hq10) lk_X11_81 (by decide) (by decide) rfl rfl (Nat.le_of_ble_eq_true rfl) dX11_budget_10 ?_
  refine u_if_eq (tgt := 25) hC dX11_budget_13 (by decide) hf (fun h13 hf => ?_) (fun h13 hf => ?_)
  · refine u_aload_n hC dX11_budget_25 0 rfl rfl ?_
    refine u_iconst (v := (1 : Int32)) hC dX11_budget_26 (by decide) ?_
    obtain ⟨q27, hq27, hf⟩ := kc_some hf
    refine u_callV hC (ctX11_fail (cL C) hC.tr (cG C) X.1 X.2.1 n S2 a0 (1 : Int32) hTa0 hq27) lk_X11_252 rfl hTa0 (by decide) rfl (by decide) (by decide) rfl rfl (Nat.le_of_ble_eq_true rfl) dX11_budget_27 ?_
    refine u_sub (lv' := []) [] rfl ?_
    exact wjX11_budget_30 hC n q27.2 q27.1   hf hR
  · refine u_aload_n hC dX11_budget_16 0 rfl rfl ?_
    refine u_iconst (v := (0 : Int32)) hC dX11_budget_17 (by decide) ?_
    refine u_iload_n hC dX11_budget_18 1 rfl rfl ?_
    obtain ⟨q19, hq19, hf⟩ := kc_some hf
    refine u_callV hC (ctX11_becomes (cL C) hC.tr (cG C) X.1 X.2.1 n S2 a0 (0 : Int32) x1_ hTa0 hq19) lk_X11_318 rfl hTa0 (by decide) rfl (by decide) (by decide) rfl rfl (Nat.le_of_ble_eq_true rfl) dX11_budget_19 ?_
    refine u_goto (tgt := 30) hC dX11_budget_22 (by decide) ?_
    refine u_sub (lv' := []) [] rfl ?_
    exact wjX11_budget_30 hC n q19.2 q19.1   hf hR
theorem ctX11_budget (l : Launch) (hl : l.stackTraces = false) (G : GT) (ρ : Nat → Nat) (Y : XS) (n : Nat) (S : PS) (a0 : Nat) (x1_ : Int32) (hTa0 : Ty Y a0 11) {o : Int32 × PS} (hf : fX11_budget Y n S a0 x1_ = some o) : Mt l G yX11_budget cX11_budget 2 (some .int) 3 ρ Y [.ref (ρ a0), .int x1_] S (some (.int o.1)) o.2 :=
  Mt_of hl (by decide) (Nat.le_of_ble_eq_true rfl) (fun C _ _ hC hR => wX11_budget (X := (ρ, Y, 0, 0)) hC n S a0 x1_ hTa0 hf hR)
-- X11_cost
theorem dX11_cost_0 : decode cX11_cost 0 = .ok (.aload_n 0, 1) := by decide +kernel
theorem dX11_cost_1 : decode cX11_cost 1 = .ok (.aload_n 0, 1) := by decide +kernel
theorem dX11_cost_2 : decode cX11_cost 2 = .ok (.iload_n 1, 1) := by decide +kernel
theorem dX11_cost_3 : decode cX11_cost 3 = .ok (.invokevirtual 255, 3) := by decide +kernel
theorem dX11_cost_6 : decode cX11_cost 6 = .ok (.ifCond .ne 7, 3) := by decide +kernel
theorem dX11_cost_9 : decode cX11_cost 9 = .ok (.iconst 1, 1) := by decide +kernel
theorem dX11_cost_10 : decode cX11_cost 10 = .ok (.goto 19, 3) := by decide +kernel
theorem dX11_cost_13 : decode cX11_cost 13 = .ok (.iload_n 2, 1) := by decide +kernel
theorem dX11_cost_14 : decode cX11_cost 14 = .ok (.iconst 1, 1) := by decide +kernel
theorem dX11_cost_15 : decode cX11_cost 15 = .ok (.sipush 9999, 3) := by decide +kernel
theorem dX11_cost_18 : decode cX11_cost 18 = .ok (.invokestatic 81, 3) := by decide +kernel
theorem dX11_cost_21 : decode cX11_cost 21 = .ok (.ifCond .ne 7, 3) := by decide +kernel
theorem dX11_cost_24 : decode cX11_cost 24 = .ok (.iconst 2, 1) := by decide +kernel
theorem dX11_cost_25 : decode cX11_cost 25 = .ok (.goto 4, 3) := by decide +kernel
theorem dX11_cost_28 : decode cX11_cost 28 = .ok (.iconst 0, 1) := by decide +kernel
theorem dX11_cost_29 : decode cX11_cost 29 = .ok (.putfield 70, 3) := by decide +kernel
theorem dX11_cost_32 : decode cX11_cost 32 = .ok (.aload_n 0, 1) := by decide +kernel
theorem dX11_cost_33 : decode cX11_cost 33 = .ok (.getfield 70, 3) := by decide +kernel
theorem dX11_cost_36 : decode cX11_cost 36 = .ok (.ifCond .le 7, 3) := by decide +kernel
theorem dX11_cost_39 : decode cX11_cost 39 = .ok (.iconst 0, 1) := by decide +kernel
theorem dX11_cost_40 : decode cX11_cost 40 = .ok (.goto 11, 3) := by decide +kernel
theorem dX11_cost_43 : decode cX11_cost 43 = .ok (.aload_n 0, 1) := by decide +kernel
theorem dX11_cost_44 : decode cX11_cost 44 = .ok (.iconst 3, 1) := by decide +kernel
theorem dX11_cost_45 : decode cX11_cost 45 = .ok (.iload_n 1, 1) := by decide +kernel
theorem dX11_cost_46 : decode cX11_cost 46 = .ok (.iadd, 1) := by decide +kernel
theorem dX11_cost_47 : decode cX11_cost 47 = .ok (.iload_n 2, 1) := by decide +kernel
theorem dX11_cost_48 : decode cX11_cost 48 = .ok (.invokevirtual 318, 3) := by decide +kernel
theorem dX11_cost_51 : decode cX11_cost 51 = .ok (.ireturn, 1) := by decide +kernel
def jX11_cost_51 (Y : XS) (n : Nat) (S : PS) (t0 : Int32) : Option (Int32 × PS) :=
  some (t0, S)
def jX11_cost_29 (Y : XS) (n : Nat) (S : PS) (v0 : Nat) (v1 : Int32) (v2 : Int32) (t0 : Int32) (t1 : Nat) : Option (Int32 × PS) :=
  kpi S t1 7 t0 (fun S29 => kgi S29 v0 7 (fun x33 => (if x33 ≤ 0 then kc (fX11_becomes Y n S29 v0 ((3 : Int32) + v1) v2) (fun q48 => jX11_cost_51 Y n q48.2 q48.1) else jX11_cost_51 Y n S29 (0 : Int32))))
def fX11_cost (Y : XS) (n : Nat) (S : PS) (a0 : Nat) (x1_ : Int32) (x2_ : Int32) : Option (Int32 × PS) :=
  kc (fX11_isProject Y n S a0 x1_) (fun q3 => (if q3 = 0 then jX11_cost_29 Y n S a0 x1_ x2_ (1 : Int32) a0 else kc (fX11_isIn Y n S x2_ (1 : Int32) (9999 : Int32)) (fun q18 => (if q18 = 0 then jX11_cost_29 Y n S a0 x1_ x2_ (2 : Int32) a0 else jX11_cost_29 Y n S a0 x1_ x2_ (0 : Int32) a0))))
theorem wjX11_cost_51 {C : CT} {X : XT} (hC : CK C RX11 cX11_cost 3 (some .int) 3) (n : Nat) (S : PS) (t0 : Int32)   {o : Int32 × PS} (hf : jX11_cost_51 X.2.1 n S t0 = some o) (hR : Rt C X cX11_cost (some .int) (some (.int o.1)) o.2) : UW C X S 51 [] [.int t0] := by
  unfold jX11_cost_51 at hf
  cases hf
  exact hR _ _ dX11_cost_51 trivial
theorem wjX11_cost_29 {C : CT} {X : XT} (hC : CK C RX11 cX11_cost 3 (some .int) 3) (n : Nat) (S : PS) (v0 : Nat) (v1 : Int32) (v2 : Int32) (t0 : Int32) (t1 : Nat)  (hTv0 : Ty X.2.1 v0 11) (hTt1 : Ty X.2.1 t1 11) {o : Int32 × PS} (hf : jX11_cost_29 X.2.1 n S v0 v1 v2 t0 t1 = some o) (hR : Rt C X cX11_cost (some .int) (some (.int o.1)) o.2) : UW C X S 29 [(0, .ref (X.1 v0)), (1, .int v1), (2, .int v2)] [.int t0, .ref (X.1 t1)] := by
  unfold jX11_cost_29 at hf
  refine u_pi hC lf_X11_70 rfl rfl rfl hTt1 dX11_cost_29 hf (fun S29 hf => ?_)
  refine u_aload_n hC dX11_cost_32 0 rfl rfl ?_
  refine u_gi hC lf_X11_70 rfl hTv0 dX11_cost_33 hf (fun x33 hf => ?_)
  refine u_if_le (tgt := 43) hC dX11_cost_36 (by decide) hf (fun h36 hf => ?_) (fun h36 hf => ?_)
  · refine u_aload_n hC dX11_cost_43 0 rfl rfl ?_
    refine u_iconst (v := (3 : Int32)) hC dX11_cost_44 (by decide) ?_
    refine u_iload_n hC dX11_cost_45 1 rfl rfl ?_
    refine u_iadd hC dX11_cost_46 ?_
    refine u_iload_n hC dX11_cost_47 2 rfl rfl ?_
    obtain ⟨q48, hq48, hf⟩ := kc_some hf
    refine u_callV hC (ctX11_becomes (cL C) hC.tr (cG C) X.1 X.2.1 n S29 v0 ((3 : Int32) + v1) v2 hTv0 hq48) lk_X11_318 rfl hTv0 (by decide) rfl (by decide) (by decide) rfl rfl (Nat.le_of_ble_eq_true rfl) dX11_cost_48 ?_
    refine u_sub (lv' := []) [] rfl ?_
    exact wjX11_cost_51 hC n q48.2 q48.1   hf hR
  · refine u_iconst (v := (0 : Int32)) hC dX11_cost_39 (by decide) ?_
    refine u_goto (tgt := 51) hC dX11_cost_40 (by decide) ?_
    refine u_sub (lv' := []) [] rfl ?_
    exact wjX11_cost_51 hC n S29 (0 : Int32)   hf hR
theorem wX11_cost {C : CT} {X : XT} (hC : CK C RX11 cX11_cost 3 (some .int) 3) (n : Nat) (S : PS) (a0 : Nat) (x1_ : Int32) (x2_ : Int32) (hTa0 : Ty X.2.1 a0 11) {o : Int32 × PS} (hf : fX11_cost X.2.1 n S a0 x1_ x2_ = some o) (hR : Rt C X cX11_cost (some .int) (some (.int o.1)) o.2) : UW C X S 0 [(0, .ref (X.1 a0)), (1, .int x1_), (2, .int x2_)] [] := by
  unfold fX11_cost at hf
  refine u_aload_n hC dX11_cost_0 0 rfl rfl ?_
  refine u_aload_n hC dX11_cost_1 0 rfl rfl ?_
  refine u_iload_n hC dX11_cost_2 1 rfl rfl ?_
  obtain ⟨q3, hq3, hf⟩ := kc_some hf
  refine u_callV hC (ctX11_isProject (cL C) hC.tr (cG C) X.1 X.2.1 n S a0 x1_ hTa0 hq3) lk_X11_255 rfl hTa0 (by decide) rfl (by decide) (by decide) rfl rfl (Nat.le_of_ble_eq_true rfl) dX11_cost_3 ?_
  refine u_if_ne (tgt := 13) hC dX11_cost_6 (by decide) hf (fun h6 hf => ?_) (fun h6 hf => ?_)
  · refine u_iload_n hC dX11_cost_13 2 rfl rfl ?_
    refine u_iconst (v := (1 : Int32)) hC dX11_cost_14 (by decide) ?_
    refine u_sipush (v := (9999 : Int32)) hC dX11_cost_15 (by decide) ?_
    obtain ⟨q18, hq18, hf⟩ := kc_some hf
    refine u_callS hC (ctX11_isIn (cL C) hC.tr (cG C) X.1 X.2.1 n S x2_ (1 : Int32) (9999 : Int32)  hq18) lk_X11_81 (by decide) (by decide) rfl rfl (Nat.le_of_ble_eq_true rfl) dX11_cost_18 ?_
    refine u_if_ne (tgt := 28) hC dX11_cost_21 (by decide) hf (fun h21 hf => ?_) (fun h21 hf => ?_)
    · refine u_iconst (v := (0 : Int32)) hC dX11_cost_28 (by decide) ?_
      exact wjX11_cost_29 hC n S a0 x1_ x2_ (0 : Int32) a0  hTa0 hTa0 hf hR
    · refine u_iconst (v := (2 : Int32)) hC dX11_cost_24 (by decide) ?_
      refine u_goto (tgt := 29) hC dX11_cost_25 (by decide) ?_
      exact wjX11_cost_29 hC n S a0 x1_ x2_ (2 : Int32) a0  hTa0 hTa0 hf hR
  · refine u_iconst (v := (1 : Int32)) hC dX11_cost_9 (by decide) ?_
    refine u_goto (tgt := 29) hC dX11_cost_10 (by decide) ?_
    exact wjX11_cost_29 hC n S a0 x1_ x2_ (1 : Int32) a0  hTa0 hTa0 hf hR
theorem ctX11_cost (l : Launch) (hl : l.stackTraces = false) (G : GT) (ρ : Nat → Nat) (Y : XS) (n : Nat) (S : PS) (a0 : Nat) (x1_ : Int32) (x2_ : Int32) (hTa0 : Ty Y a0 11) {o : Int32 × PS} (hf : fX11_cost Y n S a0 x1_ x2_ = some o) : Mt l G yX11_cost cX11_cost 3 (some .int) 3 ρ Y [.ref (ρ a0), .int x1_, .int x2_] S (some (.int o.1)) o.2 :=
  Mt_of hl (by decide) (Nat.le_of_ble_eq_true rfl) (fun C _ _ hC hR => wX11_cost (X := (ρ, Y, 0, 0)) hC n S a0 x1_ x2_ hTa0 hf hR)
-- X11_score
theorem dX11_score_0 : decode cX11_score 0 = .ok (.aload_n 0, 1) := by decide +kernel
theorem dX11_score_1 : decode cX11_score 1 = .ok (.aload_n 0, 1) := by decide +kernel
theorem dX11_score_2 : decode cX11_score 2 = .ok (.iload_n 1, 1) := by decide +kernel
theorem dX11_score_3 : decode cX11_score 3 = .ok (.invokevirtual 258, 3) := by decide +kernel
theorem dX11_score_6 : decode cX11_score 6 = .ok (.ifCond .eq 11, 3) := by decide +kernel
theorem dX11_score_9 : decode cX11_score 9 = .ok (.aload_n 0, 1) := by decide +kernel
theorem dX11_score_10 : decode cX11_score 10 = .ok (.iload_n 2, 1) := by decide +kernel
theorem dX11_score_11 : decode cX11_score 11 = .ok (.invokevirtual 255, 3) := by decide +kernel
theorem dX11_score_14 : decode cX11_score 14 = .ok (.ifCond .ne 7, 3) := by decide +kernel
theorem dX11_score_17 : decode cX11_score 17 = .ok (.iconst 1, 1) := by decide +kernel
theorem dX11_score_18 : decode cX11_score 18 = .ok (.goto 18, 3) := by decide +kernel
theorem dX11_score_21 : decode cX11_score 21 = .ok (.iload_n 3, 1) := by decide +kernel
theorem dX11_score_22 : decode cX11_score 22 = .ok (.iconst 0, 1) := by decide +kernel
theorem dX11_score_23 : decode cX11_score 23 = .ok (.bipush 9, 2) := by decide +kernel
theorem dX11_score_25 : decode cX11_score 25 = .ok (.invokestatic 81, 3) := by decide +kernel
theorem dX11_score_28 : decode cX11_score 28 = .ok (.ifCond .ne 7, 3) := by decide +kernel
theorem dX11_score_31 : decode cX11_score 31 = .ok (.iconst 2, 1) := by decide +kernel
theorem dX11_score_32 : decode cX11_score 32 = .ok (.goto 4, 3) := by decide +kernel
theorem dX11_score_35 : decode cX11_score 35 = .ok (.iconst 0, 1) := by decide +kernel
theorem dX11_score_36 : decode cX11_score 36 = .ok (.putfield 70, 3) := by decide +kernel
theorem dX11_score_39 : decode cX11_score 39 = .ok (.aload_n 0, 1) := by decide +kernel
theorem dX11_score_40 : decode cX11_score 40 = .ok (.getfield 70, 3) := by decide +kernel
theorem dX11_score_43 : decode cX11_score 43 = .ok (.ifCond .le 7, 3) := by decide +kernel
theorem dX11_score_46 : decode cX11_score 46 = .ok (.iconst 0, 1) := by decide +kernel
theorem dX11_score_47 : decode cX11_score 47 = .ok (.goto 13, 3) := by decide +kernel
theorem dX11_score_50 : decode cX11_score 50 = .ok (.aload_n 0, 1) := by decide +kernel
theorem dX11_score_51 : decode cX11_score 51 = .ok (.iload_n 1, 1) := by decide +kernel
theorem dX11_score_52 : decode cX11_score 52 = .ok (.iload_n 2, 1) := by decide +kernel
theorem dX11_score_53 : decode cX11_score 53 = .ok (.invokestatic 73, 3) := by decide +kernel
theorem dX11_score_56 : decode cX11_score 56 = .ok (.iload_n 3, 1) := by decide +kernel
theorem dX11_score_57 : decode cX11_score 57 = .ok (.invokevirtual 318, 3) := by decide +kernel
theorem dX11_score_60 : decode cX11_score 60 = .ok (.ireturn, 1) := by decide +kernel
def jX11_score_60 (Y : XS) (n : Nat) (S : PS) (t0 : Int32) : Option (Int32 × PS) :=
  some (t0, S)
def jX11_score_36 (Y : XS) (n : Nat) (S : PS) (v0 : Nat) (v1 : Int32) (v2 : Int32) (v3 : Int32) (t0 : Int32) (t1 : Nat) : Option (Int32 × PS) :=
  kpi S t1 7 t0 (fun S36 => kgi S36 v0 7 (fun x40 => (if x40 ≤ 0 then kc (fX11_scoreAt Y n S36 v1 v2) (fun q53 => kc (fX11_becomes Y n S36 v0 q53 v3) (fun q57 => jX11_score_60 Y n q57.2 q57.1)) else jX11_score_60 Y n S36 (0 : Int32))))
def jX11_score_17 (Y : XS) (n : Nat) (S : PS) (v0 : Nat) (v1 : Int32) (v2 : Int32) (v3 : Int32) (t0 : Nat) : Option (Int32 × PS) :=
  jX11_score_36 Y n S v0 v1 v2 v3 (1 : Int32) t0
def fX11_score (Y : XS) (n : Nat) (S : PS) (a0 : Nat) (x1_ : Int32) (x2_ : Int32) (x3_ : Int32) : Option (Int32 × PS) :=
  kc (fX11_isVoter Y n S a0 x1_) (fun q3 => (if q3 = 0 then jX11_score_17 Y n S a0 x1_ x2_ x3_ a0 else kc (fX11_isProject Y n S a0 x2_) (fun q11 => (if q11 = 0 then jX11_score_17 Y n S a0 x1_ x2_ x3_ a0 else kc (fX11_isIn Y n S x3_ (0 : Int32) (9 : Int32)) (fun q25 => (if q25 = 0 then jX11_score_36 Y n S a0 x1_ x2_ x3_ (2 : Int32) a0 else jX11_score_36 Y n S a0 x1_ x2_ x3_ (0 : Int32) a0))))))
theorem wjX11_score_60 {C : CT} {X : XT} (hC : CK C RX11 cX11_score 4 (some .int) 3) (n : Nat) (S : PS) (t0 : Int32)   {o : Int32 × PS} (hf : jX11_score_60 X.2.1 n S t0 = some o) (hR : Rt C X cX11_score (some .int) (some (.int o.1)) o.2) : UW C X S 60 [] [.int t0] := by
  unfold jX11_score_60 at hf
  cases hf
  exact hR _ _ dX11_score_60 trivial
theorem wjX11_score_36 {C : CT} {X : XT} (hC : CK C RX11 cX11_score 4 (some .int) 3) (n : Nat) (S : PS) (v0 : Nat) (v1 : Int32) (v2 : Int32) (v3 : Int32) (t0 : Int32) (t1 : Nat)  (hTv0 : Ty X.2.1 v0 11) (hTt1 : Ty X.2.1 t1 11) {o : Int32 × PS} (hf : jX11_score_36 X.2.1 n S v0 v1 v2 v3 t0 t1 = some o) (hR : Rt C X cX11_score (some .int) (some (.int o.1)) o.2) : UW C X S 36 [(0, .ref (X.1 v0)), (1, .int v1), (2, .int v2), (3, .int v3)] [.int t0, .ref (X.1 t1)] := by
  unfold jX11_score_36 at hf
  refine u_pi hC lf_X11_70 rfl rfl rfl hTt1 dX11_score_36 hf (fun S36 hf => ?_)
  refine u_aload_n hC dX11_score_39 0 rfl rfl ?_
  refine u_gi hC lf_X11_70 rfl hTv0 dX11_score_40 hf (fun x40 hf => ?_)
  refine u_if_le (tgt := 50) hC dX11_score_43 (by decide) hf (fun h43 hf => ?_) (fun h43 hf => ?_)
  · refine u_aload_n hC dX11_score_50 0 rfl rfl ?_
    refine u_iload_n hC dX11_score_51 1 rfl rfl ?_
    refine u_iload_n hC dX11_score_52 2 rfl rfl ?_
    obtain ⟨q53, hq53, hf⟩ := kc_some hf
    refine u_callS hC (ctX11_scoreAt (cL C) hC.tr (cG C) X.1 X.2.1 n S36 v1 v2  hq53) lk_X11_73 (by decide) (by decide) rfl rfl (Nat.le_of_ble_eq_true rfl) dX11_score_53 ?_
    refine u_iload_n hC dX11_score_56 3 rfl rfl ?_
    obtain ⟨q57, hq57, hf⟩ := kc_some hf
    refine u_callV hC (ctX11_becomes (cL C) hC.tr (cG C) X.1 X.2.1 n S36 v0 q53 v3 hTv0 hq57) lk_X11_318 rfl hTv0 (by decide) rfl (by decide) (by decide) rfl rfl (Nat.le_of_ble_eq_true rfl) dX11_score_57 ?_
    refine u_sub (lv' := []) [] rfl ?_
    exact wjX11_score_60 hC n q57.2 q57.1   hf hR
  · refine u_iconst (v := (0 : Int32)) hC dX11_score_46 (by decide) ?_
    refine u_goto (tgt := 60) hC dX11_score_47 (by decide) ?_
    refine u_sub (lv' := []) [] rfl ?_
    exact wjX11_score_60 hC n S36 (0 : Int32)   hf hR
theorem wjX11_score_17 {C : CT} {X : XT} (hC : CK C RX11 cX11_score 4 (some .int) 3) (n : Nat) (S : PS) (v0 : Nat) (v1 : Int32) (v2 : Int32) (v3 : Int32) (t0 : Nat)  (hTv0 : Ty X.2.1 v0 11) (hTt0 : Ty X.2.1 t0 11) {o : Int32 × PS} (hf : jX11_score_17 X.2.1 n S v0 v1 v2 v3 t0 = some o) (hR : Rt C X cX11_score (some .int) (some (.int o.1)) o.2) : UW C X S 17 [(0, .ref (X.1 v0)), (1, .int v1), (2, .int v2), (3, .int v3)] [.ref (X.1 t0)] := by
  unfold jX11_score_17 at hf
  refine u_iconst (v := (1 : Int32)) hC dX11_score_17 (by decide) ?_
  refine u_goto (tgt := 36) hC dX11_score_18 (by decide) ?_
  exact wjX11_score_36 hC n S v0 v1 v2 v3 (1 : Int32) t0  hTv0 hTt0 hf hR
theorem wX11_score {C : CT} {X : XT} (hC : CK C RX11 cX11_score 4 (some .int) 3) (n : Nat) (S : PS) (a0 : Nat) (x1_ : Int32) (x2_ : Int32) (x3_ : Int32) (hTa0 : Ty X.2.1 a0 11) {o : Int32 × PS} (hf : fX11_score X.2.1 n S a0 x1_ x2_ x3_ = some o) (hR : Rt C X cX11_score (some .int) (some (.int o.1)) o.2) : UW C X S 0 [(0, .ref (X.1 a0)), (1, .int x1_), (2, .int x2_), (3, .int x3_)] [] := by
  unfold fX11_score at hf
  refine u_aload_n hC dX11_score_0 0 rfl rfl ?_
  refine u_aload_n hC dX11_score_1 0 rfl rfl ?_
  refine u_iload_n hC dX11_score_2 1 rfl rfl ?_
  obtain ⟨q3, hq3, hf⟩ := kc_some hf
  refine u_callV hC (ctX11_isVoter (cL C) hC.tr (cG C) X.1 X.2.1 n S a0 x1_ hTa0 hq3) lk_X11_258 rfl hTa0 (by decide) rfl (by decide) (by decide) rfl rfl (Nat.le_of_ble_eq_true rfl) dX11_score_3 ?_
  refine u_if_eq (tgt := 17) hC dX11_score_6 (by decide) hf (fun h6 hf => ?_) (fun h6 hf => ?_)
  · exact wjX11_score_17 hC n S a0 x1_ x2_ x3_ a0  hTa0 hTa0 hf hR
  · refine u_aload_n hC dX11_score_9 0 rfl rfl ?_
    refine u_iload_n hC dX11_score_10 2 rfl rfl ?_
    obtain ⟨q11, hq11, hf⟩ := kc_some hf
    refine u_callV hC (ctX11_isProject (cL C) hC.tr (cG C) X.1 X.2.1 n S a0 x2_ hTa0 hq11) lk_X11_255 rfl hTa0 (by decide) rfl (by decide) (by decide) rfl rfl (Nat.le_of_ble_eq_true rfl) dX11_score_11 ?_
    refine u_if_ne (tgt := 21) hC dX11_score_14 (by decide) hf (fun h14 hf => ?_) (fun h14 hf => ?_)
    · refine u_iload_n hC dX11_score_21 3 rfl rfl ?_
      refine u_iconst (v := (0 : Int32)) hC dX11_score_22 (by decide) ?_
      refine u_bipush (v := (9 : Int32)) hC dX11_score_23 (by decide) ?_
      obtain ⟨q25, hq25, hf⟩ := kc_some hf
      refine u_callS hC (ctX11_isIn (cL C) hC.tr (cG C) X.1 X.2.1 n S x3_ (0 : Int32) (9 : Int32)  hq25) lk_X11_81 (by decide) (by decide) rfl rfl (Nat.le_of_ble_eq_true rfl) dX11_score_25 ?_
      refine u_if_ne (tgt := 35) hC dX11_score_28 (by decide) hf (fun h28 hf => ?_) (fun h28 hf => ?_)
      · refine u_iconst (v := (0 : Int32)) hC dX11_score_35 (by decide) ?_
        exact wjX11_score_36 hC n S a0 x1_ x2_ x3_ (0 : Int32) a0  hTa0 hTa0 hf hR
      · refine u_iconst (v := (2 : Int32)) hC dX11_score_31 (by decide) ?_
        refine u_goto (tgt := 36) hC dX11_score_32 (by decide) ?_
        exact wjX11_score_36 hC n S a0 x1_ x2_ x3_ (2 : Int32) a0  hTa0 hTa0 hf hR
    · exact wjX11_score_17 hC n S a0 x1_ x2_ x3_ a0  hTa0 hTa0 hf hR
theorem ctX11_score (l : Launch) (hl : l.stackTraces = false) (G : GT) (ρ : Nat → Nat) (Y : XS) (n : Nat) (S : PS) (a0 : Nat) (x1_ : Int32) (x2_ : Int32) (x3_ : Int32) (hTa0 : Ty Y a0 11) {o : Int32 × PS} (hf : fX11_score Y n S a0 x1_ x2_ x3_ = some o) : Mt l G yX11_score cX11_score 4 (some .int) 3 ρ Y [.ref (ρ a0), .int x1_, .int x2_, .int x3_] S (some (.int o.1)) o.2 :=
  Mt_of hl (by decide) (Nat.le_of_ble_eq_true rfl) (fun C _ _ hC hR => wX11_score (X := (ρ, Y, 0, 0)) hC n S a0 x1_ x2_ x3_ hTa0 hf hR)
-- X11_go
theorem dX11_go_0 : decode cX11_go 0 = .ok (.aload_n 0, 1) := by decide +kernel
theorem dX11_go_1 : decode cX11_go 1 = .ok (.iconst 0, 1) := by decide +kernel
theorem dX11_go_2 : decode cX11_go 2 = .ok (.putfield 70, 3) := by decide +kernel
theorem dX11_go_5 : decode cX11_go 5 = .ok (.iload_n 1, 1) := by decide +kernel
theorem dX11_go_6 : decode cX11_go 6 = .ok (.ifCond .eq 14, 3) := by decide +kernel
theorem dX11_go_9 : decode cX11_go 9 = .ok (.aload_n 0, 1) := by decide +kernel
theorem dX11_go_10 : decode cX11_go 10 = .ok (.iload_n 2, 1) := by decide +kernel
theorem dX11_go_11 : decode cX11_go 11 = .ok (.invokevirtual 258, 3) := by decide +kernel
theorem dX11_go_14 : decode cX11_go 14 = .ok (.ifCond .ne 20, 3) := by decide +kernel
theorem dX11_go_17 : decode cX11_go 17 = .ok (.goto 11, 3) := by decide +kernel
theorem dX11_go_20 : decode cX11_go 20 = .ok (.aload_n 0, 1) := by decide +kernel
theorem dX11_go_21 : decode cX11_go 21 = .ok (.iload_n 2, 1) := by decide +kernel
theorem dX11_go_22 : decode cX11_go 22 = .ok (.invokevirtual 255, 3) := by decide +kernel
theorem dX11_go_25 : decode cX11_go 25 = .ok (.ifCond .ne 9, 3) := by decide +kernel
theorem dX11_go_28 : decode cX11_go 28 = .ok (.aload_n 0, 1) := by decide +kernel
theorem dX11_go_29 : decode cX11_go 29 = .ok (.iconst 1, 1) := by decide +kernel
theorem dX11_go_30 : decode cX11_go 30 = .ok (.invokevirtual 252, 3) := by decide +kernel
theorem dX11_go_33 : decode cX11_go 33 = .ok (.ireturn, 1) := by decide +kernel
theorem dX11_go_34 : decode cX11_go 34 = .ok (.aload_n 0, 1) := by decide +kernel
theorem dX11_go_35 : decode cX11_go 35 = .ok (.invokevirtual 315, 3) := by decide +kernel
theorem dX11_go_38 : decode cX11_go 38 = .ok (.iload_n 1, 1) := by decide +kernel
theorem dX11_go_39 : decode cX11_go 39 = .ok (.ifCond .eq 11, 3) := by decide +kernel
theorem dX11_go_42 : decode cX11_go 42 = .ok (.aload_n 0, 1) := by decide +kernel
theorem dX11_go_43 : decode cX11_go 43 = .ok (.iload_n 2, 1) := by decide +kernel
theorem dX11_go_44 : decode cX11_go 44 = .ok (.invokevirtual 299, 3) := by decide +kernel
theorem dX11_go_47 : decode cX11_go 47 = .ok (.goto 8, 3) := by decide +kernel
theorem dX11_go_50 : decode cX11_go 50 = .ok (.aload_n 0, 1) := by decide +kernel
theorem dX11_go_51 : decode cX11_go 51 = .ok (.iload_n 2, 1) := by decide +kernel
theorem dX11_go_52 : decode cX11_go 52 = .ok (.invokevirtual 321, 3) := by decide +kernel
theorem dX11_go_55 : decode cX11_go 55 = .ok (.iload_n 1, 1) := by decide +kernel
theorem dX11_go_56 : decode cX11_go 56 = .ok (.ifCond .eq 10, 3) := by decide +kernel
theorem dX11_go_59 : decode cX11_go 59 = .ok (.aload_n 0, 1) := by decide +kernel
theorem dX11_go_60 : decode cX11_go 60 = .ok (.invokevirtual 85, 3) := by decide +kernel
theorem dX11_go_63 : decode cX11_go 63 = .ok (.goto 7, 3) := by decide +kernel
theorem dX11_go_66 : decode cX11_go 66 = .ok (.aload_n 0, 1) := by decide +kernel
theorem dX11_go_67 : decode cX11_go 67 = .ok (.invokevirtual 77, 3) := by decide +kernel
theorem dX11_go_70 : decode cX11_go 70 = .ok (.ireturn, 1) := by decide +kernel
def jX11_go_70 (Y : XS) (n : Nat) (S : PS) (t0 : Int32) : Option (Int32 × PS) :=
  some (t0, S)
def jX11_go_55 (Y : XS) (n : Nat) (S : PS) (v0 : Nat) (v1 : Int32) : Option (Int32 × PS) :=
  (if v1 = 0 then kc (fX11_many Y n S v0) (fun q67 => jX11_go_70 Y n S q67) else kc (fX11_people Y n S v0) (fun q60 => jX11_go_70 Y n S q60))
def jX11_go_34 (Y : XS) (n : Nat) (S : PS) (v0 : Nat) (v1 : Int32) (v2 : Int32) : Option (Int32 × PS) :=
  kc (fX11_keep Y n S v0) (fun q35 => (if v1 = 0 then kc (fX11_removeProject Y n q35 v0 v2) (fun q52 => jX11_go_55 Y n q52 v0 v1) else kc (fX11_removeVoter Y n q35 v0 v2) (fun q44 => jX11_go_55 Y n q44 v0 v1)))
def jX11_go_28 (Y : XS) (n : Nat) (S : PS) (v0 : Nat) : Option (Int32 × PS) :=
  kc (fX11_fail Y n S v0 (1 : Int32)) (fun q30 => some (q30.1, q30.2))
def fX11_go (Y : XS) (n : Nat) (S : PS) (a0 : Nat) (x1_ : Int32) (x2_ : Int32) : Option (Int32 × PS) :=
  kpi S a0 7 (0 : Int32) (fun S2 => (if x1_ = 0 then kc (fX11_isProject Y n S2 a0 x2_) (fun q22 => (if q22 = 0 then jX11_go_28 Y n S2 a0 else jX11_go_34 Y n S2 a0 x1_ x2_)) else kc (fX11_isVoter Y n S2 a0 x2_) (fun q11 => (if q11 = 0 then jX11_go_28 Y n S2 a0 else jX11_go_34 Y n S2 a0 x1_ x2_))))
theorem wjX11_go_70 {C : CT} {X : XT} (hC : CK C RX11 cX11_go 3 (some .int) 4) (n : Nat) (S : PS) (t0 : Int32)   {o : Int32 × PS} (hf : jX11_go_70 X.2.1 n S t0 = some o) (hR : Rt C X cX11_go (some .int) (some (.int o.1)) o.2) : UW C X S 70 [] [.int t0] := by
  unfold jX11_go_70 at hf
  cases hf
  exact hR _ _ dX11_go_70 trivial
theorem wjX11_go_55 {C : CT} {X : XT} (hC : CK C RX11 cX11_go 3 (some .int) 4) (n : Nat) (S : PS) (v0 : Nat) (v1 : Int32)  (hTv0 : Ty X.2.1 v0 11) {o : Int32 × PS} (hf : jX11_go_55 X.2.1 n S v0 v1 = some o) (hR : Rt C X cX11_go (some .int) (some (.int o.1)) o.2) : UW C X S 55 [(0, .ref (X.1 v0)), (1, .int v1)] [] := by
  unfold jX11_go_55 at hf
  refine u_iload_n hC dX11_go_55 1 rfl rfl ?_
  refine u_if_eq (tgt := 66) hC dX11_go_56 (by decide) hf (fun h56 hf => ?_) (fun h56 hf => ?_)
  · refine u_aload_n hC dX11_go_66 0 rfl rfl ?_
    obtain ⟨q67, hq67, hf⟩ := kc_some hf
    refine u_callV hC (ctX11_many (cL C) hC.tr (cG C) X.1 X.2.1 n S v0 hTv0 hq67) lk_X11_77 rfl hTv0 (by decide) rfl (by decide) (by decide) rfl rfl (Nat.le_of_ble_eq_true rfl) dX11_go_67 ?_
    refine u_sub (lv' := []) [] rfl ?_
    exact wjX11_go_70 hC n S q67   hf hR
  · refine u_aload_n hC dX11_go_59 0 rfl rfl ?_
    obtain ⟨q60, hq60, hf⟩ := kc_some hf
    refine u_callV hC (ctX11_people (cL C) hC.tr (cG C) X.1 X.2.1 n S v0 hTv0 hq60) lk_X11_85 rfl hTv0 (by decide) rfl (by decide) (by decide) rfl rfl (Nat.le_of_ble_eq_true rfl) dX11_go_60 ?_
    refine u_goto (tgt := 70) hC dX11_go_63 (by decide) ?_
    refine u_sub (lv' := []) [] rfl ?_
    exact wjX11_go_70 hC n S q60   hf hR
theorem wjX11_go_34 {C : CT} {X : XT} (hC : CK C RX11 cX11_go 3 (some .int) 4) (n : Nat) (S : PS) (v0 : Nat) (v1 : Int32) (v2 : Int32)  (hTv0 : Ty X.2.1 v0 11) {o : Int32 × PS} (hf : jX11_go_34 X.2.1 n S v0 v1 v2 = some o) (hR : Rt C X cX11_go (some .int) (some (.int o.1)) o.2) : UW C X S 34 [(0, .ref (X.1 v0)), (1, .int v1), (2, .int v2)] [] := by
  unfold jX11_go_34 at hf
  refine u_aload_n hC dX11_go_34 0 rfl rfl ?_
  obtain ⟨q35, hq35, hf⟩ := kc_some hf
  refine u_callV hC (ctX11_keep (cL C) hC.tr (cG C) X.1 X.2.1 n S v0 hTv0 hq35) lk_X11_315 rfl hTv0 (by decide) rfl (by decide) (by decide) rfl rfl (Nat.le_of_ble_eq_true rfl) dX11_go_35 ?_
  refine u_iload_n hC dX11_go_38 1 rfl rfl ?_
  refine u_if_eq (tgt := 50) hC dX11_go_39 (by decide) hf (fun h39 hf => ?_) (fun h39 hf => ?_)
  · refine u_aload_n hC dX11_go_50 0 rfl rfl ?_
    refine u_iload_n hC dX11_go_51 2 rfl rfl ?_
    obtain ⟨q52, hq52, hf⟩ := kc_some hf
    refine u_callV hC (ctX11_removeProject (cL C) hC.tr (cG C) X.1 X.2.1 n q35 v0 v2 hTv0 hq52) lk_X11_321 rfl hTv0 (by decide) rfl (by decide) (by decide) rfl rfl (Nat.le_of_ble_eq_true rfl) dX11_go_52 ?_
    refine u_sub (lv' := [(0, .ref (X.1 v0)), (1, .int v1)]) [0, 1] rfl ?_
    exact wjX11_go_55 hC n q52 v0 v1  hTv0 hf hR
  · refine u_aload_n hC dX11_go_42 0 rfl rfl ?_
    refine u_iload_n hC dX11_go_43 2 rfl rfl ?_
    obtain ⟨q44, hq44, hf⟩ := kc_some hf
    refine u_callV hC (ctX11_removeVoter (cL C) hC.tr (cG C) X.1 X.2.1 n q35 v0 v2 hTv0 hq44) lk_X11_299 rfl hTv0 (by decide) rfl (by decide) (by decide) rfl rfl (Nat.le_of_ble_eq_true rfl) dX11_go_44 ?_
    refine u_goto (tgt := 55) hC dX11_go_47 (by decide) ?_
    refine u_sub (lv' := [(0, .ref (X.1 v0)), (1, .int v1)]) [0, 1] rfl ?_
    exact wjX11_go_55 hC n q44 v0 v1  hTv0 hf hR
theorem wjX11_go_28 {C : CT} {X : XT} (hC : CK C RX11 cX11_go 3 (some .int) 4) (n : Nat) (S : PS) (v0 : Nat)  (hTv0 : Ty X.2.1 v0 11) {o : Int32 × PS} (hf : jX11_go_28 X.2.1 n S v0 = some o) (hR : Rt C X cX11_go (some .int) (some (.int o.1)) o.2) : UW C X S 28 [(0, .ref (X.1 v0))] [] := by
  unfold jX11_go_28 at hf
  refine u_aload_n hC dX11_go_28 0 rfl rfl ?_
  refine u_iconst (v := (1 : Int32)) hC dX11_go_29 (by decide) ?_
  obtain ⟨q30, hq30, hf⟩ := kc_some hf
  refine u_callV hC (ctX11_fail (cL C) hC.tr (cG C) X.1 X.2.1 n S v0 (1 : Int32) hTv0 hq30) lk_X11_252 rfl hTv0 (by decide) rfl (by decide) (by decide) rfl rfl (Nat.le_of_ble_eq_true rfl) dX11_go_30 ?_
  cases hf
  exact hR _ _ dX11_go_33 trivial
theorem wX11_go {C : CT} {X : XT} (hC : CK C RX11 cX11_go 3 (some .int) 4) (n : Nat) (S : PS) (a0 : Nat) (x1_ : Int32) (x2_ : Int32) (hTa0 : Ty X.2.1 a0 11) {o : Int32 × PS} (hf : fX11_go X.2.1 n S a0 x1_ x2_ = some o) (hR : Rt C X cX11_go (some .int) (some (.int o.1)) o.2) : UW C X S 0 [(0, .ref (X.1 a0)), (1, .int x1_), (2, .int x2_)] [] := by
  unfold fX11_go at hf
  refine u_aload_n hC dX11_go_0 0 rfl rfl ?_
  refine u_iconst (v := (0 : Int32)) hC dX11_go_1 (by decide) ?_
  refine u_pi hC lf_X11_70 rfl rfl rfl hTa0 dX11_go_2 hf (fun S2 hf => ?_)
  refine u_iload_n hC dX11_go_5 1 rfl rfl ?_
  refine u_if_eq (tgt := 20) hC dX11_go_6 (by decide) hf (fun h6 hf => ?_) (fun h6 hf => ?_)
  · refine u_aload_n hC dX11_go_20 0 rfl rfl ?_
    refine u_iload_n hC dX11_go_21 2 rfl rfl ?_
    obtain ⟨q22, hq22, hf⟩ := kc_some hf
    refine u_callV hC (ctX11_isProject (cL C) hC.tr (cG C) X.1 X.2.1 n S2 a0 x2_ hTa0 hq22) lk_X11_255 rfl hTa0 (by decide) rfl (by decide) (by decide) rfl rfl (Nat.le_of_ble_eq_true rfl) dX11_go_22 ?_
    refine u_if_ne (tgt := 34) hC dX11_go_25 (by decide) hf (fun h25 hf => ?_) (fun h25 hf => ?_)
    · exact wjX11_go_34 hC n S2 a0 x1_ x2_  hTa0 hf hR
    · refine u_sub (lv' := [(0, .ref (X.1 a0))]) [0] rfl ?_
      exact wjX11_go_28 hC n S2 a0  hTa0 hf hR
  · refine u_aload_n hC dX11_go_9 0 rfl rfl ?_
    refine u_iload_n hC dX11_go_10 2 rfl rfl ?_
    obtain ⟨q11, hq11, hf⟩ := kc_some hf
    refine u_callV hC (ctX11_isVoter (cL C) hC.tr (cG C) X.1 X.2.1 n S2 a0 x2_ hTa0 hq11) lk_X11_258 rfl hTa0 (by decide) rfl (by decide) (by decide) rfl rfl (Nat.le_of_ble_eq_true rfl) dX11_go_11 ?_
    refine u_if_ne (tgt := 34) hC dX11_go_14 (by decide) hf (fun h14 hf => ?_) (fun h14 hf => ?_)
    · exact wjX11_go_34 hC n S2 a0 x1_ x2_  hTa0 hf hR
    · refine u_goto (tgt := 28) hC dX11_go_17 (by decide) ?_
      refine u_sub (lv' := [(0, .ref (X.1 a0))]) [0] rfl ?_
      exact wjX11_go_28 hC n S2 a0  hTa0 hf hR
theorem ctX11_go (l : Launch) (hl : l.stackTraces = false) (G : GT) (ρ : Nat → Nat) (Y : XS) (n : Nat) (S : PS) (a0 : Nat) (x1_ : Int32) (x2_ : Int32) (hTa0 : Ty Y a0 11) {o : Int32 × PS} (hf : fX11_go Y n S a0 x1_ x2_ = some o) : Mt l G yX11_go cX11_go 3 (some .int) 4 ρ Y [.ref (ρ a0), .int x1_, .int x2_] S (some (.int o.1)) o.2 :=
  Mt_of hl (by decide) (Nat.le_of_ble_eq_true rfl) (fun C _ _ hC hR => wX11_go (X := (ρ, Y, 0, 0)) hC n S a0 x1_ x2_ hTa0 hf hR)
-- X11_undo
theorem dX11_undo_0 : decode cX11_undo 0 = .ok (.aload_n 0, 1) := by decide +kernel
theorem dX11_undo_1 : decode cX11_undo 1 = .ok (.iconst 0, 1) := by decide +kernel
theorem dX11_undo_2 : decode cX11_undo 2 = .ok (.putfield 70, 3) := by decide +kernel
theorem dX11_undo_5 : decode cX11_undo 5 = .ok (.aload_n 0, 1) := by decide +kernel
theorem dX11_undo_6 : decode cX11_undo 6 = .ok (.getfield 246, 3) := by decide +kernel
theorem dX11_undo_9 : decode cX11_undo 9 = .ok (.ifCond .ne 5, 3) := by decide +kernel
theorem dX11_undo_12 : decode cX11_undo 12 = .ok (.iconst (-1), 1) := by decide +kernel
theorem dX11_undo_13 : decode cX11_undo 13 = .ok (.ireturn, 1) := by decide +kernel
theorem dX11_undo_14 : decode cX11_undo 14 = .ok (.aload_n 0, 1) := by decide +kernel
theorem dX11_undo_15 : decode cX11_undo 15 = .ok (.dup, 1) := by decide +kernel
theorem dX11_undo_16 : decode cX11_undo 16 = .ok (.getfield 246, 3) := by decide +kernel
theorem dX11_undo_19 : decode cX11_undo 19 = .ok (.iconst 1, 1) := by decide +kernel
theorem dX11_undo_20 : decode cX11_undo 20 = .ok (.isub, 1) := by decide +kernel
theorem dX11_undo_21 : decode cX11_undo 21 = .ok (.putfield 246, 3) := by decide +kernel
theorem dX11_undo_24 : decode cX11_undo 24 = .ok (.iconst 0, 1) := by decide +kernel
theorem dX11_undo_25 : decode cX11_undo 25 = .ok (.istore_n 1, 1) := by decide +kernel
theorem dX11_undo_26 : decode cX11_undo 26 = .ok (.iload_n 1, 1) := by decide +kernel
theorem dX11_undo_27 : decode cX11_undo 27 = .ok (.sipush 877, 3) := by decide +kernel
theorem dX11_undo_30 : decode cX11_undo 30 = .ok (.if_icmp .ge 30, 3) := by decide +kernel
theorem dX11_undo_33 : decode cX11_undo 33 = .ok (.aload_n 0, 1) := by decide +kernel
theorem dX11_undo_34 : decode cX11_undo 34 = .ok (.getfield 9, 3) := by decide +kernel
theorem dX11_undo_37 : decode cX11_undo 37 = .ok (.iload_n 1, 1) := by decide +kernel
theorem dX11_undo_38 : decode cX11_undo 38 = .ok (.aload_n 0, 1) := by decide +kernel
theorem dX11_undo_39 : decode cX11_undo 39 = .ok (.getfield 22, 3) := by decide +kernel
theorem dX11_undo_42 : decode cX11_undo 42 = .ok (.sipush 877, 3) := by decide +kernel
theorem dX11_undo_45 : decode cX11_undo 45 = .ok (.aload_n 0, 1) := by decide +kernel
theorem dX11_undo_46 : decode cX11_undo 46 = .ok (.getfield 246, 3) := by decide +kernel
theorem dX11_undo_49 : decode cX11_undo 49 = .ok (.imul, 1) := by decide +kernel
theorem dX11_undo_50 : decode cX11_undo 50 = .ok (.iload_n 1, 1) := by decide +kernel
theorem dX11_undo_51 : decode cX11_undo 51 = .ok (.iadd, 1) := by decide +kernel
theorem dX11_undo_52 : decode cX11_undo 52 = .ok (.iaload, 1) := by decide +kernel
theorem dX11_undo_53 : decode cX11_undo 53 = .ok (.iastore, 1) := by decide +kernel
theorem dX11_undo_54 : decode cX11_undo 54 = .ok (.iinc 1 1, 3) := by decide +kernel
theorem dX11_undo_57 : decode cX11_undo 57 = .ok (.goto (-31), 3) := by decide +kernel
theorem dX11_undo_60 : decode cX11_undo 60 = .ok (.aload_n 0, 1) := by decide +kernel
theorem dX11_undo_61 : decode cX11_undo 61 = .ok (.getfield 246, 3) := by decide +kernel
theorem dX11_undo_64 : decode cX11_undo 64 = .ok (.ireturn, 1) := by decide +kernel
def bX11_undo_26 (Y : XS) (n : Nat) (v0 : Nat) (s26 : (Int32 × PS)) : Option ((Int32 × PS) ⊕ PS) :=
  (if (877 : Int32) ≤ s26.1 then some (.inr s26.2) else kgr s26.2 v0 0 (fun b34 => kgr s26.2 v0 4 (fun b39 => kgi s26.2 v0 6 (fun x46 => kai Y s26.2 b39 (((877 : Int32) * x46) + s26.1) (fun x52 => kwi Y s26.2 b34 s26.1 x52 (fun S53 => some (.inl (s26.1 + (1 : Int32), S53))))))))
def fX11_undo (Y : XS) (n : Nat) (S : PS) (a0 : Nat) : Option (Int32 × PS) :=
  kpi S a0 7 (0 : Int32) (fun S2 => kgi S2 a0 6 (fun x6 => (if x6 = 0 then some ((-1 : Int32), S2) else kgi S2 a0 6 (fun x16 => kpi S2 a0 6 (x16 - (1 : Int32)) (fun S21 => kc (iter (bX11_undo_26 Y n a0) n ((0 : Int32), S21)) (fun r26 => kgi r26 a0 6 (fun x61 => some (x61, r26))))))))
theorem wbX11_undo_26 {C : CT} {X : XT} (hC : CK C RX11 cX11_undo 2 (some .int) 1) (n : Nat) (v0 : Nat) (hTv0 : Ty X.2.1 v0 11) (s26 : (Int32 × PS)) {o : (Int32 × PS) ⊕ PS} (hf : bX11_undo_26 X.2.1 n v0 s26 = some o) (hN : ∀ s', o = .inl s' → UW C X s'.2 26 [(0, .ref (X.1 v0)), (1, .int s'.1)] []) (hO0 : ∀ p', o = .inr p' → UW C X p' 60 [(0, .ref (X.1 v0))] []) : UW C X s26.2 26 [(0, .ref (X.1 v0)), (1, .int s26.1)] [] := by
  unfold bX11_undo_26 at hf
  refine u_iload_n hC dX11_undo_26 1 rfl rfl ?_
  refine u_sipush (v := (877 : Int32)) hC dX11_undo_27 (by decide) ?_
  refine u_icmp_ge (tgt := 60) hC dX11_undo_30 (by decide) hf (fun h30 hf => ?_) (fun h30 hf => ?_)
  · refine u_sub (lv' := [(0, .ref (X.1 v0))]) [0] rfl ?_
    exact hO0 _ (Option.some.inj hf).symm
  · refine u_aload_n hC dX11_undo_33 0 rfl rfl ?_
    refine u_gr hC lf_X11_9 rfl hTv0 dX11_undo_34 hf (fun b34 hTb34 hf => ?_)
    refine u_iload_n hC dX11_undo_37 1 rfl rfl ?_
    refine u_aload_n hC dX11_undo_38 0 rfl rfl ?_
    refine u_gr hC lf_X11_22 rfl hTv0 dX11_undo_39 hf (fun b39 hTb39 hf => ?_)
    refine u_sipush (v := (877 : Int32)) hC dX11_undo_42 (by decide) ?_
    refine u_aload_n hC dX11_undo_45 0 rfl rfl ?_
    refine u_gi hC lf_X11_246 rfl hTv0 dX11_undo_46 hf (fun x46 hf => ?_)
    refine u_imul hC dX11_undo_49 ?_
    refine u_iload_n hC dX11_undo_50 1 rfl rfl ?_
    refine u_iadd hC dX11_undo_51 ?_
    refine u_ai hC hTb39 dX11_undo_52 hf (fun x52 hf => ?_)
    refine u_wi hC hTb34 dX11_undo_53 hf (fun S53 hf => ?_)
    refine u_iinc (v := s26.1 + (1 : Int32)) (lv' := [(1, .int (s26.1 + (1 : Int32))), (0, .ref (X.1 v0))]) hC dX11_undo_54 1 rfl rfl (by decide) rfl ?_
    refine u_goto (tgt := 26) hC dX11_undo_57 (by decide) ?_
    refine u_sub (lv' := [(0, .ref (X.1 v0)), (1, .int (s26.1 + (1 : Int32)))]) [1, 0] rfl ?_
    exact hN _ (Option.some.inj hf).symm
theorem wX11_undo {C : CT} {X : XT} (hC : CK C RX11 cX11_undo 2 (some .int) 1) (n : Nat) (S : PS) (a0 : Nat) (hTa0 : Ty X.2.1 a0 11) {o : Int32 × PS} (hf : fX11_undo X.2.1 n S a0 = some o) (hR : Rt C X cX11_undo (some .int) (some (.int o.1)) o.2) : UW C X S 0 [(0, .ref (X.1 a0))] [] := by
  unfold fX11_undo at hf
  refine u_aload_n hC dX11_undo_0 0 rfl rfl ?_
  refine u_iconst (v := (0 : Int32)) hC dX11_undo_1 (by decide) ?_
  refine u_pi hC lf_X11_70 rfl rfl rfl hTa0 dX11_undo_2 hf (fun S2 hf => ?_)
  refine u_aload_n hC dX11_undo_5 0 rfl rfl ?_
  refine u_gi hC lf_X11_246 rfl hTa0 dX11_undo_6 hf (fun x6 hf => ?_)
  refine u_if_ne (tgt := 14) hC dX11_undo_9 (by decide) hf (fun h9 hf => ?_) (fun h9 hf => ?_)
  · refine u_aload_n hC dX11_undo_14 0 rfl rfl ?_
    refine u_dup hC dX11_undo_15 rfl ?_
    refine u_gi hC lf_X11_246 rfl hTa0 dX11_undo_16 hf (fun x16 hf => ?_)
    refine u_iconst (v := (1 : Int32)) hC dX11_undo_19 (by decide) ?_
    refine u_isub hC dX11_undo_20 ?_
    refine u_pi hC lf_X11_246 rfl rfl rfl hTa0 dX11_undo_21 hf (fun S21 hf => ?_)
    refine u_iconst (v := (0 : Int32)) hC dX11_undo_24 (by decide) ?_
    refine u_istore_n (lv' := [(1, .int (0 : Int32)), (0, .ref (X.1 a0))]) hC dX11_undo_25 rfl (by decide) rfl ?_
    obtain ⟨r26, hr26, hf⟩ := kc_some hf
    have hk26 : UW C X r26 60 [(0, .ref (X.1 a0))] [] := by
      refine u_aload_n hC dX11_undo_60 0 rfl rfl ?_
      refine u_gi hC lf_X11_246 rfl hTa0 dX11_undo_61 hf (fun x61 hf => ?_)
      cases hf
      exact hR _ _ dX11_undo_64 trivial
    refine u_sub (lv' := [(0, .ref (X.1 a0)), (1, .int (0 : Int32))]) [1, 0] rfl ?_
    refine iter_ind (P := fun s26 => UW C X s26.2 26 [(0, .ref (X.1 a0)), (1, .int s26.1)] []) (fun s26 o' hb hin hout => ?_) n ((0 : Int32), S21) hr26
    exact wbX11_undo_26 hC n a0 hTa0 s26 hb hin (fun p e => by rw [hout p e]; exact hk26)
  · refine u_iconst (v := (-1 : Int32)) hC dX11_undo_12 (by decide) ?_
    cases hf
    exact hR _ _ dX11_undo_13 trivial
theorem ctX11_undo (l : Launch) (hl : l.stackTraces = false) (G : GT) (ρ : Nat → Nat) (Y : XS) (n : Nat) (S : PS) (a0 : Nat) (hTa0 : Ty Y a0 11) {o : Int32 × PS} (hf : fX11_undo Y n S a0 = some o) : Mt l G yX11_undo cX11_undo 2 (some .int) 1 ρ Y [.ref (ρ a0)] S (some (.int o.1)) o.2 :=
  Mt_of hl (by decide) (Nat.le_of_ble_eq_true rfl) (fun C _ _ hC hR => wX11_undo (X := (ρ, Y, 0, 0)) hC n S a0 hTa0 hf hR)
-- X11_image
theorem dX11_image_0 : decode cX11_image 0 = .ok (.aload_n 0, 1) := by decide +kernel
theorem dX11_image_1 : decode cX11_image 1 = .ok (.iconst 0, 1) := by decide +kernel
theorem dX11_image_2 : decode cX11_image 2 = .ok (.putfield 70, 3) := by decide +kernel
theorem dX11_image_5 : decode cX11_image 5 = .ok (.aload_n 0, 1) := by decide +kernel
theorem dX11_image_6 : decode cX11_image 6 = .ok (.getfield 19, 3) := by decide +kernel
theorem dX11_image_9 : decode cX11_image 9 = .ok (.aload_n 0, 1) := by decide +kernel
theorem dX11_image_10 : decode cX11_image 10 = .ok (.getfield 9, 3) := by decide +kernel
theorem dX11_image_13 : decode cX11_image 13 = .ok (.invokestatic 295, 3) := by decide +kernel
theorem dX11_image_16 : decode cX11_image 16 = .ok (.aload_n 0, 1) := by decide +kernel
theorem dX11_image_17 : decode cX11_image 17 = .ok (.iconst 1, 1) := by decide +kernel
theorem dX11_image_18 : decode cX11_image 18 = .ok (.putfield 324, 3) := by decide +kernel
theorem dX11_image_21 : decode cX11_image 21 = .ok (.return_, 1) := by decide +kernel
def fX11_image (Y : XS) (n : Nat) (S : PS) (a0 : Nat) : Option (PS) :=
  kpi S a0 7 (0 : Int32) (fun S2 => kgr S2 a0 3 (fun b6 => kgr S2 a0 0 (fun b10 => kc (fX11_copy Y n S2 b6 b10) (fun q13 => kpz q13 a0 5 (1 : Int32) (fun S18 => some S18)))))
theorem wX11_image {C : CT} {X : XT} (hC : CK C RX11 cX11_image 1 none 2) (n : Nat) (S : PS) (a0 : Nat) (hTa0 : Ty X.2.1 a0 11) {o : PS} (hf : fX11_image X.2.1 n S a0 = some o) (hR : Rt C X cX11_image none none o) : UW C X S 0 [(0, .ref (X.1 a0))] [] := by
  unfold fX11_image at hf
  refine u_aload_n hC dX11_image_0 0 rfl rfl ?_
  refine u_iconst (v := (0 : Int32)) hC dX11_image_1 (by decide) ?_
  refine u_pi hC lf_X11_70 rfl rfl rfl hTa0 dX11_image_2 hf (fun S2 hf => ?_)
  refine u_aload_n hC dX11_image_5 0 rfl rfl ?_
  refine u_gr hC lf_X11_19 rfl hTa0 dX11_image_6 hf (fun b6 hTb6 hf => ?_)
  refine u_aload_n hC dX11_image_9 0 rfl rfl ?_
  refine u_gr hC lf_X11_9 rfl hTa0 dX11_image_10 hf (fun b10 hTb10 hf => ?_)
  obtain ⟨q13, hq13, hf⟩ := kc_some hf
  refine u_callS hC (ctX11_copy (cL C) hC.tr (cG C) X.1 X.2.1 n S2 b6 b10 hTb6 hTb10 hq13) lk_X11_295 (by decide) (by decide) rfl rfl (Nat.le_of_ble_eq_true rfl) dX11_image_13 ?_
  refine u_aload_n hC dX11_image_16 0 rfl rfl ?_
  refine u_iconst (v := (1 : Int32)) hC dX11_image_17 (by decide) ?_
  refine u_pz hC lf_X11_324 rfl rfl rfl hTa0 dX11_image_18 hf (fun S18 hf => ?_)
  cases hf
  exact hR _ _ dX11_image_21 trivial
theorem ctX11_image (l : Launch) (hl : l.stackTraces = false) (G : GT) (ρ : Nat → Nat) (Y : XS) (n : Nat) (S : PS) (a0 : Nat) (hTa0 : Ty Y a0 11) {o : PS} (hf : fX11_image Y n S a0 = some o) : Mt l G yX11_image cX11_image 1 none 2 ρ Y [.ref (ρ a0)] S none o :=
  Mt_of hl (by decide) (Nat.le_of_ble_eq_true rfl) (fun C _ _ hC hR => wX11_image (X := (ρ, Y, 0, 0)) hC n S a0 hTa0 hf hR)
-- X11_back
theorem dX11_back_0 : decode cX11_back 0 = .ok (.aload_n 0, 1) := by decide +kernel
theorem dX11_back_1 : decode cX11_back 1 = .ok (.iconst 0, 1) := by decide +kernel
theorem dX11_back_2 : decode cX11_back 2 = .ok (.putfield 70, 3) := by decide +kernel
theorem dX11_back_5 : decode cX11_back 5 = .ok (.aload_n 0, 1) := by decide +kernel
theorem dX11_back_6 : decode cX11_back 6 = .ok (.getfield 324, 3) := by decide +kernel
theorem dX11_back_9 : decode cX11_back 9 = .ok (.ifCond .ne 5, 3) := by decide +kernel
theorem dX11_back_12 : decode cX11_back 12 = .ok (.iconst 0, 1) := by decide +kernel
theorem dX11_back_13 : decode cX11_back 13 = .ok (.ireturn, 1) := by decide +kernel
theorem dX11_back_14 : decode cX11_back 14 = .ok (.aload_n 0, 1) := by decide +kernel
theorem dX11_back_15 : decode cX11_back 15 = .ok (.getfield 9, 3) := by decide +kernel
theorem dX11_back_18 : decode cX11_back 18 = .ok (.aload_n 0, 1) := by decide +kernel
theorem dX11_back_19 : decode cX11_back 19 = .ok (.getfield 19, 3) := by decide +kernel
theorem dX11_back_22 : decode cX11_back 22 = .ok (.invokestatic 295, 3) := by decide +kernel
theorem dX11_back_25 : decode cX11_back 25 = .ok (.aload_n 0, 1) := by decide +kernel
theorem dX11_back_26 : decode cX11_back 26 = .ok (.iconst 0, 1) := by decide +kernel
theorem dX11_back_27 : decode cX11_back 27 = .ok (.putfield 246, 3) := by decide +kernel
theorem dX11_back_30 : decode cX11_back 30 = .ok (.iconst 1, 1) := by decide +kernel
theorem dX11_back_31 : decode cX11_back 31 = .ok (.ireturn, 1) := by decide +kernel
def fX11_back (Y : XS) (n : Nat) (S : PS) (a0 : Nat) : Option (Int32 × PS) :=
  kpi S a0 7 (0 : Int32) (fun S2 => kgi S2 a0 5 (fun x6 => (if x6 = 0 then kzr (0 : Int32) (some ((0 : Int32), S2)) else kgr S2 a0 0 (fun b15 => kgr S2 a0 3 (fun b19 => kc (fX11_copy Y n S2 b15 b19) (fun q22 => kpi q22 a0 6 (0 : Int32) (fun S27 => kzr (1 : Int32) (some ((1 : Int32), S27)))))))))
theorem wX11_back {C : CT} {X : XT} (hC : CK C RX11 cX11_back 1 (some .boolean) 2) (n : Nat) (S : PS) (a0 : Nat) (hTa0 : Ty X.2.1 a0 11) {o : Int32 × PS} (hf : fX11_back X.2.1 n S a0 = some o) (hR : Rt C X cX11_back (some .boolean) (some (.int o.1)) o.2) : UW C X S 0 [(0, .ref (X.1 a0))] [] := by
  unfold fX11_back at hf
  refine u_aload_n hC dX11_back_0 0 rfl rfl ?_
  refine u_iconst (v := (0 : Int32)) hC dX11_back_1 (by decide) ?_
  refine u_pi hC lf_X11_70 rfl rfl rfl hTa0 dX11_back_2 hf (fun S2 hf => ?_)
  refine u_aload_n hC dX11_back_5 0 rfl rfl ?_
  refine u_gi hC lf_X11_324 rfl hTa0 dX11_back_6 hf (fun x6 hf => ?_)
  refine u_if_ne (tgt := 14) hC dX11_back_9 (by decide) hf (fun h9 hf => ?_) (fun h9 hf => ?_)
  · refine u_aload_n hC dX11_back_14 0 rfl rfl ?_
    refine u_gr hC lf_X11_9 rfl hTa0 dX11_back_15 hf (fun b15 hTb15 hf => ?_)
    refine u_aload_n hC dX11_back_18 0 rfl rfl ?_
    refine u_gr hC lf_X11_19 rfl hTa0 dX11_back_19 hf (fun b19 hTb19 hf => ?_)
    obtain ⟨q22, hq22, hf⟩ := kc_some hf
    refine u_callS hC (ctX11_copy (cL C) hC.tr (cG C) X.1 X.2.1 n S2 b15 b19 hTb15 hTb19 hq22) lk_X11_295 (by decide) (by decide) rfl rfl (Nat.le_of_ble_eq_true rfl) dX11_back_22 ?_
    refine u_aload_n hC dX11_back_25 0 rfl rfl ?_
    refine u_iconst (v := (0 : Int32)) hC dX11_back_26 (by decide) ?_
    refine u_pi hC lf_X11_246 rfl rfl rfl hTa0 dX11_back_27 hf (fun S27 hf => ?_)
    refine u_iconst (v := (1 : Int32)) hC dX11_back_30 (by decide) ?_
    obtain ⟨hz, hf⟩ := kzr_some hf
    cases hf
    exact hR _ _ dX11_back_31 hz
  · refine u_iconst (v := (0 : Int32)) hC dX11_back_12 (by decide) ?_
    obtain ⟨hz, hf⟩ := kzr_some hf
    cases hf
    exact hR _ _ dX11_back_13 hz
theorem ctX11_back (l : Launch) (hl : l.stackTraces = false) (G : GT) (ρ : Nat → Nat) (Y : XS) (n : Nat) (S : PS) (a0 : Nat) (hTa0 : Ty Y a0 11) {o : Int32 × PS} (hf : fX11_back Y n S a0 = some o) : Mt l G yX11_back cX11_back 1 (some .boolean) 2 ρ Y [.ref (ρ a0)] S (some (.int o.1)) o.2 :=
  Mt_of hl (by decide) (Nat.le_of_ble_eq_true rfl) (fun C _ _ hC hR => wX11_back (X := (ρ, Y, 0, 0)) hC n S a0 hTa0 hf hR)
-- X11_feed
theorem dX11_feed_0 : decode cX11_feed 0 = .ok (.aload_n 0, 1) := by decide +kernel
theorem dX11_feed_1 : decode cX11_feed 1 = .ok (.iconst 0, 1) := by decide +kernel
theorem dX11_feed_2 : decode cX11_feed 2 = .ok (.putfield 70, 3) := by decide +kernel
theorem dX11_feed_5 : decode cX11_feed 5 = .ok (.aload_n 0, 1) := by decide +kernel
theorem dX11_feed_6 : decode cX11_feed 6 = .ok (.getfield 249, 3) := by decide +kernel
theorem dX11_feed_9 : decode cX11_feed 9 = .ok (.bipush 20, 2) := by decide +kernel
theorem dX11_feed_11 : decode cX11_feed 11 = .ok (.iadd, 1) := by decide +kernel
theorem dX11_feed_12 : decode cX11_feed 12 = .ok (.sipush 500, 3) := by decide +kernel
theorem dX11_feed_15 : decode cX11_feed 15 = .ok (.if_icmp .le 5, 3) := by decide +kernel
theorem dX11_feed_18 : decode cX11_feed 18 = .ok (.iconst (-1), 1) := by decide +kernel
theorem dX11_feed_19 : decode cX11_feed 19 = .ok (.ireturn, 1) := by decide +kernel
theorem dX11_feed_20 : decode cX11_feed 20 = .ok (.iconst 0, 1) := by decide +kernel
theorem dX11_feed_21 : decode cX11_feed 21 = .ok (.istore 6, 2) := by decide +kernel
theorem dX11_feed_23 : decode cX11_feed 23 = .ok (.iload 6, 2) := by decide +kernel
theorem dX11_feed_25 : decode cX11_feed 25 = .ok (.bipush 20, 2) := by decide +kernel
theorem dX11_feed_27 : decode cX11_feed 27 = .ok (.if_icmp .ge 93, 3) := by decide +kernel
theorem dX11_feed_30 : decode cX11_feed 30 = .ok (.iload 6, 2) := by decide +kernel
theorem dX11_feed_32 : decode cX11_feed 32 = .ok (.iconst 4, 1) := by decide +kernel
theorem dX11_feed_33 : decode cX11_feed 33 = .ok (.if_icmp .ge 7, 3) := by decide +kernel
theorem dX11_feed_36 : decode cX11_feed 36 = .ok (.iload_n 1, 1) := by decide +kernel
theorem dX11_feed_37 : decode cX11_feed 37 = .ok (.goto 39, 3) := by decide +kernel
theorem dX11_feed_40 : decode cX11_feed 40 = .ok (.iload 6, 2) := by decide +kernel
theorem dX11_feed_42 : decode cX11_feed 42 = .ok (.bipush 8, 2) := by decide +kernel
theorem dX11_feed_44 : decode cX11_feed 44 = .ok (.if_icmp .ge 7, 3) := by decide +kernel
theorem dX11_feed_47 : decode cX11_feed 47 = .ok (.iload_n 2, 1) := by decide +kernel
theorem dX11_feed_48 : decode cX11_feed 48 = .ok (.goto 28, 3) := by decide +kernel
theorem dX11_feed_51 : decode cX11_feed 51 = .ok (.iload 6, 2) := by decide +kernel
theorem dX11_feed_53 : decode cX11_feed 53 = .ok (.bipush 12, 2) := by decide +kernel
theorem dX11_feed_55 : decode cX11_feed 55 = .ok (.if_icmp .ge 7, 3) := by decide +kernel
theorem dX11_feed_58 : decode cX11_feed 58 = .ok (.iload_n 3, 1) := by decide +kernel
theorem dX11_feed_59 : decode cX11_feed 59 = .ok (.goto 17, 3) := by decide +kernel
theorem dX11_feed_62 : decode cX11_feed 62 = .ok (.iload 6, 2) := by decide +kernel
theorem dX11_feed_64 : decode cX11_feed 64 = .ok (.bipush 16, 2) := by decide +kernel
theorem dX11_feed_66 : decode cX11_feed 66 = .ok (.if_icmp .ge 8, 3) := by decide +kernel
theorem dX11_feed_69 : decode cX11_feed 69 = .ok (.iload 4, 2) := by decide +kernel
theorem dX11_feed_71 : decode cX11_feed 71 = .ok (.goto 5, 3) := by decide +kernel
theorem dX11_feed_74 : decode cX11_feed 74 = .ok (.iload 5, 2) := by decide +kernel
theorem dX11_feed_76 : decode cX11_feed 76 = .ok (.istore 7, 2) := by decide +kernel
theorem dX11_feed_78 : decode cX11_feed 78 = .ok (.aload_n 0, 1) := by decide +kernel
theorem dX11_feed_79 : decode cX11_feed 79 = .ok (.getfield 63, 3) := by decide +kernel
theorem dX11_feed_82 : decode cX11_feed 82 = .ok (.aload_n 0, 1) := by decide +kernel
theorem dX11_feed_83 : decode cX11_feed 83 = .ok (.getfield 249, 3) := by decide +kernel
theorem dX11_feed_86 : decode cX11_feed 86 = .ok (.iload 7, 2) := by decide +kernel
theorem dX11_feed_88 : decode cX11_feed 88 = .ok (.bipush 24, 2) := by decide +kernel
theorem dX11_feed_90 : decode cX11_feed 90 = .ok (.bipush 8, 2) := by decide +kernel
theorem dX11_feed_92 : decode cX11_feed 92 = .ok (.iload 6, 2) := by decide +kernel
theorem dX11_feed_94 : decode cX11_feed 94 = .ok (.iconst 4, 1) := by decide +kernel
theorem dX11_feed_95 : decode cX11_feed 95 = .ok (.irem, 1) := by decide +kernel
theorem dX11_feed_96 : decode cX11_feed 96 = .ok (.imul, 1) := by decide +kernel
theorem dX11_feed_97 : decode cX11_feed 97 = .ok (.isub, 1) := by decide +kernel
theorem dX11_feed_98 : decode cX11_feed 98 = .ok (.ishr, 1) := by decide +kernel
theorem dX11_feed_99 : decode cX11_feed 99 = .ok (.sipush 255, 3) := by decide +kernel
theorem dX11_feed_102 : decode cX11_feed 102 = .ok (.iand, 1) := by decide +kernel
theorem dX11_feed_103 : decode cX11_feed 103 = .ok (.iastore, 1) := by decide +kernel
theorem dX11_feed_104 : decode cX11_feed 104 = .ok (.aload_n 0, 1) := by decide +kernel
theorem dX11_feed_105 : decode cX11_feed 105 = .ok (.dup, 1) := by decide +kernel
theorem dX11_feed_106 : decode cX11_feed 106 = .ok (.getfield 249, 3) := by decide +kernel
theorem dX11_feed_109 : decode cX11_feed 109 = .ok (.iconst 1, 1) := by decide +kernel
theorem dX11_feed_110 : decode cX11_feed 110 = .ok (.iadd, 1) := by decide +kernel
theorem dX11_feed_111 : decode cX11_feed 111 = .ok (.putfield 249, 3) := by decide +kernel
theorem dX11_feed_114 : decode cX11_feed 114 = .ok (.iinc 6 1, 3) := by decide +kernel
theorem dX11_feed_117 : decode cX11_feed 117 = .ok (.goto (-94), 3) := by decide +kernel
theorem dX11_feed_120 : decode cX11_feed 120 = .ok (.aload_n 0, 1) := by decide +kernel
theorem dX11_feed_121 : decode cX11_feed 121 = .ok (.getfield 249, 3) := by decide +kernel
theorem dX11_feed_124 : decode cX11_feed 124 = .ok (.ireturn, 1) := by decide +kernel
def jX11_feed_76_23 (Y : XS) (n : Nat) (S : PS) (v0 : Nat) (v1 : Int32) (v2 : Int32) (v3 : Int32) (v4 : Int32) (v5 : Int32) (v6 : Int32) (t0 : Int32) : Option ((Int32 × PS) ⊕ PS) :=
  kgr S v0 27 (fun b79 => kgi S v0 28 (fun x83 => kirem v6 (4 : Int32) (fun z95 => kwi Y S b79 x83 ((t0 >>> (((24 : Int32) - ((8 : Int32) * z95)) &&& 31)) &&& (255 : Int32)) (fun S103 => kgi S103 v0 28 (fun x106 => kpi S103 v0 28 (x106 + (1 : Int32)) (fun S111 => some (.inl (v6 + (1 : Int32), S111))))))))
def bX11_feed_23 (Y : XS) (n : Nat) (v0 : Nat) (v1 : Int32) (v2 : Int32) (v3 : Int32) (v4 : Int32) (v5 : Int32) (s23 : (Int32 × PS)) : Option ((Int32 × PS) ⊕ PS) :=
  (if (20 : Int32) ≤ s23.1 then some (.inr s23.2) else (if (4 : Int32) ≤ s23.1 then (if (8 : Int32) ≤ s23.1 then (if (12 : Int32) ≤ s23.1 then (if (16 : Int32) ≤ s23.1 then jX11_feed_76_23 Y n s23.2 v0 v1 v2 v3 v4 v5 s23.1 v5 else jX11_feed_76_23 Y n s23.2 v0 v1 v2 v3 v4 v5 s23.1 v4) else jX11_feed_76_23 Y n s23.2 v0 v1 v2 v3 v4 v5 s23.1 v3) else jX11_feed_76_23 Y n s23.2 v0 v1 v2 v3 v4 v5 s23.1 v2) else jX11_feed_76_23 Y n s23.2 v0 v1 v2 v3 v4 v5 s23.1 v1))
def fX11_feed (Y : XS) (n : Nat) (S : PS) (a0 : Nat) (x1_ : Int32) (x2_ : Int32) (x3_ : Int32) (x4_ : Int32) (x5_ : Int32) : Option (Int32 × PS) :=
  kpi S a0 7 (0 : Int32) (fun S2 => kgi S2 a0 28 (fun x6 => (if (x6 + (20 : Int32)) ≤ (500 : Int32) then kc (iter (bX11_feed_23 Y n a0 x1_ x2_ x3_ x4_ x5_) n ((0 : Int32), S2)) (fun r23 => kgi r23 a0 28 (fun x121 => some (x121, r23))) else some ((-1 : Int32), S2))))
theorem wjX11_feed_76_23 {C : CT} {X : XT} (hC : CK C RX11 cX11_feed 8 (some .int) 1) (n : Nat) (S : PS) (v0 : Nat) (v1 : Int32) (v2 : Int32) (v3 : Int32) (v4 : Int32) (v5 : Int32) (v6 : Int32) (t0 : Int32)  (hTv0 : Ty X.2.1 v0 11) {o : (Int32 × PS) ⊕ PS} (hf : jX11_feed_76_23 X.2.1 n S v0 v1 v2 v3 v4 v5 v6 t0 = some o) (hN : ∀ s', o = .inl s' → UW C X s'.2 23 [(0, .ref (X.1 v0)), (1, .int v1), (2, .int v2), (3, .int v3), (4, .int v4), (5, .int v5), (6, .int s'.1)] []) (hO0 : ∀ p', o = .inr p' → UW C X p' 120 [(0, .ref (X.1 v0))] []) : UW C X S 76 [(0, .ref (X.1 v0)), (1, .int v1), (2, .int v2), (3, .int v3), (4, .int v4), (5, .int v5), (6, .int v6)] [.int t0] := by
  unfold jX11_feed_76_23 at hf
  refine u_istore (lv' := [(7, .int t0), (0, .ref (X.1 v0)), (1, .int v1), (2, .int v2), (3, .int v3), (4, .int v4), (5, .int v5), (6, .int v6)]) hC dX11_feed_76 (by decide) rfl ?_
  refine u_aload_n hC dX11_feed_78 1 rfl rfl ?_
  refine u_gr hC lf_X11_63 rfl hTv0 dX11_feed_79 hf (fun b79 hTb79 hf => ?_)
  refine u_aload_n hC dX11_feed_82 1 rfl rfl ?_
  refine u_gi hC lf_X11_249 rfl hTv0 dX11_feed_83 hf (fun x83 hf => ?_)
  refine u_iload hC dX11_feed_86 0 rfl ?_
  refine u_bipush (v := (24 : Int32)) hC dX11_feed_88 (by decide) ?_
  refine u_bipush (v := (8 : Int32)) hC dX11_feed_90 (by decide) ?_
  refine u_iload hC dX11_feed_92 7 rfl ?_
  refine u_iconst (v := (4 : Int32)) hC dX11_feed_94 (by decide) ?_
  refine u_irem hC dX11_feed_95 hf (fun z95 hf => ?_)
  refine u_imul hC dX11_feed_96 ?_
  refine u_isub hC dX11_feed_97 ?_
  refine u_ishr hC dX11_feed_98 ?_
  refine u_sipush (v := (255 : Int32)) hC dX11_feed_99 (by decide) ?_
  refine u_iand hC dX11_feed_102 ?_
  refine u_wi hC hTb79 dX11_feed_103 hf (fun S103 hf => ?_)
  refine u_aload_n hC dX11_feed_104 1 rfl rfl ?_
  refine u_dup hC dX11_feed_105 rfl ?_
  refine u_gi hC lf_X11_249 rfl hTv0 dX11_feed_106 hf (fun x106 hf => ?_)
  refine u_iconst (v := (1 : Int32)) hC dX11_feed_109 (by decide) ?_
  refine u_iadd hC dX11_feed_110 ?_
  refine u_pi hC lf_X11_249 rfl rfl rfl hTv0 dX11_feed_111 hf (fun S111 hf => ?_)
  refine u_iinc (v := v6 + (1 : Int32)) (lv' := [(6, .int (v6 + (1 : Int32))), (7, .int t0), (0, .ref (X.1 v0)), (1, .int v1), (2, .int v2), (3, .int v3), (4, .int v4), (5, .int v5)]) hC dX11_feed_114 7 rfl rfl (by decide) rfl ?_
  refine u_goto (tgt := 23) hC dX11_feed_117 (by decide) ?_
  refine u_sub (lv' := [(0, .ref (X.1 v0)), (1, .int v1), (2, .int v2), (3, .int v3), (4, .int v4), (5, .int v5), (6, .int (v6 + (1 : Int32)))]) [2, 3, 4, 5, 6, 7, 0] rfl ?_
  exact hN _ (Option.some.inj hf).symm
theorem wbX11_feed_23 {C : CT} {X : XT} (hC : CK C RX11 cX11_feed 8 (some .int) 1) (n : Nat) (v0 : Nat) (v1 : Int32) (v2 : Int32) (v3 : Int32) (v4 : Int32) (v5 : Int32) (hTv0 : Ty X.2.1 v0 11) (s23 : (Int32 × PS)) {o : (Int32 × PS) ⊕ PS} (hf : bX11_feed_23 X.2.1 n v0 v1 v2 v3 v4 v5 s23 = some o) (hN : ∀ s', o = .inl s' → UW C X s'.2 23 [(0, .ref (X.1 v0)), (1, .int v1), (2, .int v2), (3, .int v3), (4, .int v4), (5, .int v5), (6, .int s'.1)] []) (hO0 : ∀ p', o = .inr p' → UW C X p' 120 [(0, .ref (X.1 v0))] []) : UW C X s23.2 23 [(0, .ref (X.1 v0)), (1, .int v1), (2, .int v2), (3, .int v3), (4, .int v4), (5, .int v5), (6, .int s23.1)] [] := by
  unfold bX11_feed_23 at hf
  refine u_iload hC dX11_feed_23 6 rfl ?_
  refine u_bipush (v := (20 : Int32)) hC dX11_feed_25 (by decide) ?_
  refine u_icmp_ge (tgt := 120) hC dX11_feed_27 (by decide) hf (fun h27 hf => ?_) (fun h27 hf => ?_)
  · refine u_sub (lv' := [(0, .ref (X.1 v0))]) [0] rfl ?_
    exact hO0 _ (Option.some.inj hf).symm
  · refine u_iload hC dX11_feed_30 6 rfl ?_
    refine u_iconst (v := (4 : Int32)) hC dX11_feed_32 (by decide) ?_
    refine u_icmp_ge (tgt := 40) hC dX11_feed_33 (by decide) hf (fun h33 hf => ?_) (fun h33 hf => ?_)
    · refine u_iload hC dX11_feed_40 6 rfl ?_
      refine u_bipush (v := (8 : Int32)) hC dX11_feed_42 (by decide) ?_
      refine u_icmp_ge (tgt := 51) hC dX11_feed_44 (by decide) hf (fun h44 hf => ?_) (fun h44 hf => ?_)
      · refine u_iload hC dX11_feed_51 6 rfl ?_
        refine u_bipush (v := (12 : Int32)) hC dX11_feed_53 (by decide) ?_
        refine u_icmp_ge (tgt := 62) hC dX11_feed_55 (by decide) hf (fun h55 hf => ?_) (fun h55 hf => ?_)
        · refine u_iload hC dX11_feed_62 6 rfl ?_
          refine u_bipush (v := (16 : Int32)) hC dX11_feed_64 (by decide) ?_
          refine u_icmp_ge (tgt := 74) hC dX11_feed_66 (by decide) hf (fun h66 hf => ?_) (fun h66 hf => ?_)
          · refine u_iload hC dX11_feed_74 5 rfl ?_
            exact wjX11_feed_76_23 hC n s23.2 v0 v1 v2 v3 v4 v5 s23.1 v5  hTv0 hf hN hO0
          · refine u_iload hC dX11_feed_69 4 rfl ?_
            refine u_goto (tgt := 76) hC dX11_feed_71 (by decide) ?_
            exact wjX11_feed_76_23 hC n s23.2 v0 v1 v2 v3 v4 v5 s23.1 v4  hTv0 hf hN hO0
        · refine u_iload_n hC dX11_feed_58 3 rfl rfl ?_
          refine u_goto (tgt := 76) hC dX11_feed_59 (by decide) ?_
          exact wjX11_feed_76_23 hC n s23.2 v0 v1 v2 v3 v4 v5 s23.1 v3  hTv0 hf hN hO0
      · refine u_iload_n hC dX11_feed_47 2 rfl rfl ?_
        refine u_goto (tgt := 76) hC dX11_feed_48 (by decide) ?_
        exact wjX11_feed_76_23 hC n s23.2 v0 v1 v2 v3 v4 v5 s23.1 v2  hTv0 hf hN hO0
    · refine u_iload_n hC dX11_feed_36 1 rfl rfl ?_
      refine u_goto (tgt := 76) hC dX11_feed_37 (by decide) ?_
      exact wjX11_feed_76_23 hC n s23.2 v0 v1 v2 v3 v4 v5 s23.1 v1  hTv0 hf hN hO0
theorem wX11_feed {C : CT} {X : XT} (hC : CK C RX11 cX11_feed 8 (some .int) 1) (n : Nat) (S : PS) (a0 : Nat) (x1_ : Int32) (x2_ : Int32) (x3_ : Int32) (x4_ : Int32) (x5_ : Int32) (hTa0 : Ty X.2.1 a0 11) {o : Int32 × PS} (hf : fX11_feed X.2.1 n S a0 x1_ x2_ x3_ x4_ x5_ = some o) (hR : Rt C X cX11_feed (some .int) (some (.int o.1)) o.2) : UW C X S 0 [(0, .ref (X.1 a0)), (1, .int x1_), (2, .int x2_), (3, .int x3_), (4, .int x4_), (5, .int x5_)] [] := by
  unfold fX11_feed at hf
  refine u_aload_n hC dX11_feed_0 0 rfl rfl ?_
  refine u_iconst (v := (0 : Int32)) hC dX11_feed_1 (by decide) ?_
  refine u_pi hC lf_X11_70 rfl rfl rfl hTa0 dX11_feed_2 hf (fun S2 hf => ?_)
  refine u_aload_n hC dX11_feed_5 0 rfl rfl ?_
  refine u_gi hC lf_X11_249 rfl hTa0 dX11_feed_6 hf (fun x6 hf => ?_)
  refine u_bipush (v := (20 : Int32)) hC dX11_feed_9 (by decide) ?_
  refine u_iadd hC dX11_feed_11 ?_
  refine u_sipush (v := (500 : Int32)) hC dX11_feed_12 (by decide) ?_
  refine u_icmp_le (tgt := 20) hC dX11_feed_15 (by decide) hf (fun h15 hf => ?_) (fun h15 hf => ?_)
  · refine u_iconst (v := (0 : Int32)) hC dX11_feed_20 (by decide) ?_
    refine u_istore (lv' := [(6, .int (0 : Int32)), (0, .ref (X.1 a0)), (1, .int x1_), (2, .int x2_), (3, .int x3_), (4, .int x4_), (5, .int x5_)]) hC dX11_feed_21 (by decide) rfl ?_
    obtain ⟨r23, hr23, hf⟩ := kc_some hf
    have hk23 : UW C X r23 120 [(0, .ref (X.1 a0))] [] := by
      refine u_aload_n hC dX11_feed_120 0 rfl rfl ?_
      refine u_gi hC lf_X11_249 rfl hTa0 dX11_feed_121 hf (fun x121 hf => ?_)
      cases hf
      exact hR _ _ dX11_feed_124 trivial
    refine u_sub (lv' := [(0, .ref (X.1 a0)), (1, .int x1_), (2, .int x2_), (3, .int x3_), (4, .int x4_), (5, .int x5_), (6, .int (0 : Int32))]) [1, 2, 3, 4, 5, 6, 0] rfl ?_
    refine iter_ind (P := fun s23 => UW C X s23.2 23 [(0, .ref (X.1 a0)), (1, .int x1_), (2, .int x2_), (3, .int x3_), (4, .int x4_), (5, .int x5_), (6, .int s23.1)] []) (fun s23 o' hb hin hout => ?_) n ((0 : Int32), S2) hr23
    exact wbX11_feed_23 hC n a0 x1_ x2_ x3_ x4_ x5_ hTa0 s23 hb hin (fun p e => by rw [hout p e]; exact hk23)
  · refine u_iconst (v := (-1 : Int32)) hC dX11_feed_18 (by decide) ?_
    cases hf
    exact hR _ _ dX11_feed_19 trivial
theorem ctX11_feed (l : Launch) (hl : l.stackTraces = false) (G : GT) (ρ : Nat → Nat) (Y : XS) (n : Nat) (S : PS) (a0 : Nat) (x1_ : Int32) (x2_ : Int32) (x3_ : Int32) (x4_ : Int32) (x5_ : Int32) (hTa0 : Ty Y a0 11) {o : Int32 × PS} (hf : fX11_feed Y n S a0 x1_ x2_ x3_ x4_ x5_ = some o) : Mt l G yX11_feed cX11_feed 8 (some .int) 1 ρ Y [.ref (ρ a0), .int x1_, .int x2_, .int x3_, .int x4_, .int x5_] S (some (.int o.1)) o.2 :=
  Mt_of hl (by decide) (Nat.le_of_ble_eq_true rfl) (fun C _ _ hC hR => wX11_feed (X := (ρ, Y, 0, 0)) hC n S a0 x1_ x2_ x3_ x4_ x5_ hTa0 hf hR)
-- X11_fault
theorem dX11_fault_0 : decode cX11_fault 0 = .ok (.aload_n 0, 1) := by decide +kernel
theorem dX11_fault_1 : decode cX11_fault 1 = .ok (.iconst 0, 1) := by decide +kernel
theorem dX11_fault_2 : decode cX11_fault 2 = .ok (.putfield 70, 3) := by decide +kernel
theorem dX11_fault_5 : decode cX11_fault 5 = .ok (.aload_n 0, 1) := by decide +kernel
theorem dX11_fault_6 : decode cX11_fault 6 = .ok (.getfield 66, 3) := by decide +kernel
theorem dX11_fault_9 : decode cX11_fault 9 = .ok (.ireturn, 1) := by decide +kernel
def fX11_fault (Y : XS) (n : Nat) (S : PS) (a0 : Nat) : Option (Int32 × PS) :=
  kpi S a0 7 (0 : Int32) (fun S2 => kgi S2 a0 36 (fun x6 => some (x6, S2)))
theorem wX11_fault {C : CT} {X : XT} (hC : CK C RX11 cX11_fault 1 (some .int) 1) (n : Nat) (S : PS) (a0 : Nat) (hTa0 : Ty X.2.1 a0 11) {o : Int32 × PS} (hf : fX11_fault X.2.1 n S a0 = some o) (hR : Rt C X cX11_fault (some .int) (some (.int o.1)) o.2) : UW C X S 0 [(0, .ref (X.1 a0))] [] := by
  unfold fX11_fault at hf
  refine u_aload_n hC dX11_fault_0 0 rfl rfl ?_
  refine u_iconst (v := (0 : Int32)) hC dX11_fault_1 (by decide) ?_
  refine u_pi hC lf_X11_70 rfl rfl rfl hTa0 dX11_fault_2 hf (fun S2 hf => ?_)
  refine u_aload_n hC dX11_fault_5 0 rfl rfl ?_
  refine u_gi hC lf_X11_66 rfl hTa0 dX11_fault_6 hf (fun x6 hf => ?_)
  cases hf
  exact hR _ _ dX11_fault_9 trivial
theorem ctX11_fault (l : Launch) (hl : l.stackTraces = false) (G : GT) (ρ : Nat → Nat) (Y : XS) (n : Nat) (S : PS) (a0 : Nat) (hTa0 : Ty Y a0 11) {o : Int32 × PS} (hf : fX11_fault Y n S a0 = some o) : Mt l G yX11_fault cX11_fault 1 (some .int) 1 ρ Y [.ref (ρ a0)] S (some (.int o.1)) o.2 :=
  Mt_of hl (by decide) (Nat.le_of_ble_eq_true rfl) (fun C _ _ hC hR => wX11_fault (X := (ρ, Y, 0, 0)) hC n S a0 hTa0 hf hR)
-- X11_byteAt
theorem dX11_byteAt_0 : decode cX11_byteAt 0 = .ok (.iload_n 1, 1) := by decide +kernel
theorem dX11_byteAt_1 : decode cX11_byteAt 1 = .ok (.aload_n 0, 1) := by decide +kernel
theorem dX11_byteAt_2 : decode cX11_byteAt 2 = .ok (.getfield 328, 3) := by decide +kernel
theorem dX11_byteAt_5 : decode cX11_byteAt 5 = .ok (.if_icmp .ge 12, 3) := by decide +kernel
theorem dX11_byteAt_8 : decode cX11_byteAt 8 = .ok (.aload_n 0, 1) := by decide +kernel
theorem dX11_byteAt_9 : decode cX11_byteAt 9 = .ok (.getfield 63, 3) := by decide +kernel
theorem dX11_byteAt_12 : decode cX11_byteAt 12 = .ok (.iload_n 1, 1) := by decide +kernel
theorem dX11_byteAt_13 : decode cX11_byteAt 13 = .ok (.iaload, 1) := by decide +kernel
theorem dX11_byteAt_14 : decode cX11_byteAt 14 = .ok (.goto 4, 3) := by decide +kernel
theorem dX11_byteAt_17 : decode cX11_byteAt 17 = .ok (.iconst (-1), 1) := by decide +kernel
theorem dX11_byteAt_18 : decode cX11_byteAt 18 = .ok (.ireturn, 1) := by decide +kernel
def jX11_byteAt_18 (Y : XS) (n : Nat) (S : PS) (t0 : Int32) : Option (Int32) :=
  some t0
def fX11_byteAt (Y : XS) (n : Nat) (S : PS) (a0 : Nat) (x1_ : Int32) : Option (Int32) :=
  kgi S a0 29 (fun x2 => (if x2 ≤ x1_ then jX11_byteAt_18 Y n S (-1 : Int32) else kgr S a0 27 (fun b9 => kai Y S b9 x1_ (fun x13 => jX11_byteAt_18 Y n S x13))))
theorem wjX11_byteAt_18 {C : CT} {X : XT} (hC : CK C RX11 cX11_byteAt 2 (some .int) 1) (n : Nat) (S : PS) (t0 : Int32)   {o : Int32} (hf : jX11_byteAt_18 X.2.1 n S t0 = some o) (hR : Rt C X cX11_byteAt (some .int) (some (.int o)) S) : UW C X S 18 [] [.int t0] := by
  unfold jX11_byteAt_18 at hf
  cases hf
  exact hR _ _ dX11_byteAt_18 trivial
theorem wX11_byteAt {C : CT} {X : XT} (hC : CK C RX11 cX11_byteAt 2 (some .int) 1) (n : Nat) (S : PS) (a0 : Nat) (x1_ : Int32) (hTa0 : Ty X.2.1 a0 11) {o : Int32} (hf : fX11_byteAt X.2.1 n S a0 x1_ = some o) (hR : Rt C X cX11_byteAt (some .int) (some (.int o)) S) : UW C X S 0 [(0, .ref (X.1 a0)), (1, .int x1_)] [] := by
  unfold fX11_byteAt at hf
  refine u_iload_n hC dX11_byteAt_0 1 rfl rfl ?_
  refine u_aload_n hC dX11_byteAt_1 0 rfl rfl ?_
  refine u_gi hC lf_X11_328 rfl hTa0 dX11_byteAt_2 hf (fun x2 hf => ?_)
  refine u_icmp_ge (tgt := 17) hC dX11_byteAt_5 (by decide) hf (fun h5 hf => ?_) (fun h5 hf => ?_)
  · refine u_iconst (v := (-1 : Int32)) hC dX11_byteAt_17 (by decide) ?_
    refine u_sub (lv' := []) [] rfl ?_
    exact wjX11_byteAt_18 hC n S (-1 : Int32)   hf hR
  · refine u_aload_n hC dX11_byteAt_8 0 rfl rfl ?_
    refine u_gr hC lf_X11_63 rfl hTa0 dX11_byteAt_9 hf (fun b9 hTb9 hf => ?_)
    refine u_iload_n hC dX11_byteAt_12 1 rfl rfl ?_
    refine u_ai hC hTb9 dX11_byteAt_13 hf (fun x13 hf => ?_)
    refine u_goto (tgt := 18) hC dX11_byteAt_14 (by decide) ?_
    refine u_sub (lv' := []) [] rfl ?_
    exact wjX11_byteAt_18 hC n S x13   hf hR
theorem ctX11_byteAt (l : Launch) (hl : l.stackTraces = false) (G : GT) (ρ : Nat → Nat) (Y : XS) (n : Nat) (S : PS) (a0 : Nat) (x1_ : Int32) (hTa0 : Ty Y a0 11) {o : Int32} (hf : fX11_byteAt Y n S a0 x1_ = some o) : Mt l G yX11_byteAt cX11_byteAt 2 (some .int) 1 ρ Y [.ref (ρ a0), .int x1_] S (some (.int o)) S :=
  Mt_of hl (by decide) (Nat.le_of_ble_eq_true rfl) (fun C _ _ hC hR => wX11_byteAt (X := (ρ, Y, 0, 0)) hC n S a0 x1_ hTa0 hf hR)
-- X11_next
theorem dX11_next_0 : decode cX11_next 0 = .ok (.aload_n 0, 1) := by decide +kernel
theorem dX11_next_1 : decode cX11_next 1 = .ok (.aload_n 0, 1) := by decide +kernel
theorem dX11_next_2 : decode cX11_next 2 = .ok (.getfield 331, 3) := by decide +kernel
theorem dX11_next_5 : decode cX11_next 5 = .ok (.invokevirtual 334, 3) := by decide +kernel
theorem dX11_next_8 : decode cX11_next 8 = .ok (.bipush 32, 2) := by decide +kernel
theorem dX11_next_10 : decode cX11_next 10 = .ok (.if_icmp .eq 16, 3) := by decide +kernel
theorem dX11_next_13 : decode cX11_next 13 = .ok (.aload_n 0, 1) := by decide +kernel
theorem dX11_next_14 : decode cX11_next 14 = .ok (.aload_n 0, 1) := by decide +kernel
theorem dX11_next_15 : decode cX11_next 15 = .ok (.getfield 331, 3) := by decide +kernel
theorem dX11_next_18 : decode cX11_next 18 = .ok (.invokevirtual 334, 3) := by decide +kernel
theorem dX11_next_21 : decode cX11_next 21 = .ok (.bipush 10, 2) := by decide +kernel
theorem dX11_next_23 : decode cX11_next 23 = .ok (.if_icmp .ne 16, 3) := by decide +kernel
theorem dX11_next_26 : decode cX11_next 26 = .ok (.aload_n 0, 1) := by decide +kernel
theorem dX11_next_27 : decode cX11_next 27 = .ok (.dup, 1) := by decide +kernel
theorem dX11_next_28 : decode cX11_next 28 = .ok (.getfield 331, 3) := by decide +kernel
theorem dX11_next_31 : decode cX11_next 31 = .ok (.iconst 1, 1) := by decide +kernel
theorem dX11_next_32 : decode cX11_next 32 = .ok (.iadd, 1) := by decide +kernel
theorem dX11_next_33 : decode cX11_next 33 = .ok (.putfield 331, 3) := by decide +kernel
theorem dX11_next_36 : decode cX11_next 36 = .ok (.goto (-36), 3) := by decide +kernel
theorem dX11_next_39 : decode cX11_next 39 = .ok (.aload_n 0, 1) := by decide +kernel
theorem dX11_next_40 : decode cX11_next 40 = .ok (.aload_n 0, 1) := by decide +kernel
theorem dX11_next_41 : decode cX11_next 41 = .ok (.getfield 331, 3) := by decide +kernel
theorem dX11_next_44 : decode cX11_next 44 = .ok (.putfield 337, 3) := by decide +kernel
theorem dX11_next_47 : decode cX11_next 47 = .ok (.aload_n 0, 1) := by decide +kernel
theorem dX11_next_48 : decode cX11_next 48 = .ok (.aload_n 0, 1) := by decide +kernel
theorem dX11_next_49 : decode cX11_next 49 = .ok (.getfield 331, 3) := by decide +kernel
theorem dX11_next_52 : decode cX11_next 52 = .ok (.invokevirtual 334, 3) := by decide +kernel
theorem dX11_next_55 : decode cX11_next 55 = .ok (.istore_n 1, 1) := by decide +kernel
theorem dX11_next_56 : decode cX11_next 56 = .ok (.iload_n 1, 1) := by decide +kernel
theorem dX11_next_57 : decode cX11_next 57 = .ok (.iconst (-1), 1) := by decide +kernel
theorem dX11_next_58 : decode cX11_next 58 = .ok (.if_icmp .ne 11, 3) := by decide +kernel
theorem dX11_next_61 : decode cX11_next 61 = .ok (.aload_n 0, 1) := by decide +kernel
theorem dX11_next_62 : decode cX11_next 62 = .ok (.iconst 0, 1) := by decide +kernel
theorem dX11_next_63 : decode cX11_next 63 = .ok (.putfield 340, 3) := by decide +kernel
theorem dX11_next_66 : decode cX11_next 66 = .ok (.goto 102, 3) := by decide +kernel
theorem dX11_next_69 : decode cX11_next 69 = .ok (.iload_n 1, 1) := by decide +kernel
theorem dX11_next_70 : decode cX11_next 70 = .ok (.invokestatic 116, 3) := by decide +kernel
theorem dX11_next_73 : decode cX11_next 73 = .ok (.ifCond .eq 38, 3) := by decide +kernel
theorem dX11_next_76 : decode cX11_next 76 = .ok (.aload_n 0, 1) := by decide +kernel
theorem dX11_next_77 : decode cX11_next 77 = .ok (.aload_n 0, 1) := by decide +kernel
theorem dX11_next_78 : decode cX11_next 78 = .ok (.getfield 331, 3) := by decide +kernel
theorem dX11_next_81 : decode cX11_next 81 = .ok (.invokevirtual 334, 3) := by decide +kernel
theorem dX11_next_84 : decode cX11_next 84 = .ok (.invokestatic 116, 3) := by decide +kernel
theorem dX11_next_87 : decode cX11_next 87 = .ok (.ifCond .eq 16, 3) := by decide +kernel
theorem dX11_next_90 : decode cX11_next 90 = .ok (.aload_n 0, 1) := by decide +kernel
theorem dX11_next_91 : decode cX11_next 91 = .ok (.dup, 1) := by decide +kernel
theorem dX11_next_92 : decode cX11_next 92 = .ok (.getfield 331, 3) := by decide +kernel
theorem dX11_next_95 : decode cX11_next 95 = .ok (.iconst 1, 1) := by decide +kernel
theorem dX11_next_96 : decode cX11_next 96 = .ok (.iadd, 1) := by decide +kernel
theorem dX11_next_97 : decode cX11_next 97 = .ok (.putfield 331, 3) := by decide +kernel
theorem dX11_next_100 : decode cX11_next 100 = .ok (.goto (-24), 3) := by decide +kernel
theorem dX11_next_103 : decode cX11_next 103 = .ok (.aload_n 0, 1) := by decide +kernel
theorem dX11_next_104 : decode cX11_next 104 = .ok (.iconst 1, 1) := by decide +kernel
theorem dX11_next_105 : decode cX11_next 105 = .ok (.putfield 340, 3) := by decide +kernel
theorem dX11_next_108 : decode cX11_next 108 = .ok (.goto 60, 3) := by decide +kernel
theorem dX11_next_111 : decode cX11_next 111 = .ok (.iload_n 1, 1) := by decide +kernel
theorem dX11_next_112 : decode cX11_next 112 = .ok (.invokestatic 100, 3) := by decide +kernel
theorem dX11_next_115 : decode cX11_next 115 = .ok (.ifCond .eq 38, 3) := by decide +kernel
theorem dX11_next_118 : decode cX11_next 118 = .ok (.aload_n 0, 1) := by decide +kernel
theorem dX11_next_119 : decode cX11_next 119 = .ok (.aload_n 0, 1) := by decide +kernel
theorem dX11_next_120 : decode cX11_next 120 = .ok (.getfield 331, 3) := by decide +kernel
theorem dX11_next_123 : decode cX11_next 123 = .ok (.invokevirtual 334, 3) := by decide +kernel
theorem dX11_next_126 : decode cX11_next 126 = .ok (.invokestatic 100, 3) := by decide +kernel
theorem dX11_next_129 : decode cX11_next 129 = .ok (.ifCond .eq 16, 3) := by decide +kernel
theorem dX11_next_132 : decode cX11_next 132 = .ok (.aload_n 0, 1) := by decide +kernel
theorem dX11_next_133 : decode cX11_next 133 = .ok (.dup, 1) := by decide +kernel
theorem dX11_next_134 : decode cX11_next 134 = .ok (.getfield 331, 3) := by decide +kernel
theorem dX11_next_137 : decode cX11_next 137 = .ok (.iconst 1, 1) := by decide +kernel
theorem dX11_next_138 : decode cX11_next 138 = .ok (.iadd, 1) := by decide +kernel
theorem dX11_next_139 : decode cX11_next 139 = .ok (.putfield 331, 3) := by decide +kernel
theorem dX11_next_142 : decode cX11_next 142 = .ok (.goto (-24), 3) := by decide +kernel
theorem dX11_next_145 : decode cX11_next 145 = .ok (.aload_n 0, 1) := by decide +kernel
theorem dX11_next_146 : decode cX11_next 146 = .ok (.iconst 2, 1) := by decide +kernel
theorem dX11_next_147 : decode cX11_next 147 = .ok (.putfield 340, 3) := by decide +kernel
theorem dX11_next_150 : decode cX11_next 150 = .ok (.goto 18, 3) := by decide +kernel
theorem dX11_next_153 : decode cX11_next 153 = .ok (.aload_n 0, 1) := by decide +kernel
theorem dX11_next_154 : decode cX11_next 154 = .ok (.dup, 1) := by decide +kernel
theorem dX11_next_155 : decode cX11_next 155 = .ok (.getfield 331, 3) := by decide +kernel
theorem dX11_next_158 : decode cX11_next 158 = .ok (.iconst 1, 1) := by decide +kernel
theorem dX11_next_159 : decode cX11_next 159 = .ok (.iadd, 1) := by decide +kernel
theorem dX11_next_160 : decode cX11_next 160 = .ok (.putfield 331, 3) := by decide +kernel
theorem dX11_next_163 : decode cX11_next 163 = .ok (.aload_n 0, 1) := by decide +kernel
theorem dX11_next_164 : decode cX11_next 164 = .ok (.iconst 3, 1) := by decide +kernel
theorem dX11_next_165 : decode cX11_next 165 = .ok (.putfield 340, 3) := by decide +kernel
theorem dX11_next_168 : decode cX11_next 168 = .ok (.aload_n 0, 1) := by decide +kernel
theorem dX11_next_169 : decode cX11_next 169 = .ok (.aload_n 0, 1) := by decide +kernel
theorem dX11_next_170 : decode cX11_next 170 = .ok (.getfield 331, 3) := by decide +kernel
theorem dX11_next_173 : decode cX11_next 173 = .ok (.putfield 343, 3) := by decide +kernel
theorem dX11_next_176 : decode cX11_next 176 = .ok (.return_, 1) := by decide +kernel
def jX11_next_26_0 (Y : XS) (n : Nat) (S : PS) (v0 : Nat) : Option (PS ⊕ (PS)) :=
  kgi S v0 30 (fun x28 => kpi S v0 30 (x28 + (1 : Int32)) (fun S33 => some (.inl S33)))
def jX11_next_168_0 (Y : XS) (n : Nat) (S : PS) (v0 : Nat) : Option (PS ⊕ (PS)) :=
  kgi S v0 30 (fun x170 => kpi S v0 33 x170 (fun S173 => some (.inr S173)))
def bX11_next_118 (Y : XS) (n : Nat) (v0 : Nat) (s118 : PS) : Option (PS ⊕ PS) :=
  kgi s118 v0 30 (fun x120 => kc (fX11_byteAt Y n s118 v0 x120) (fun q123 => kc (fX11_isFigure Y n s118 q123) (fun q126 => (if q126 = 0 then some (.inr s118) else kgi s118 v0 30 (fun x134 => kpi s118 v0 30 (x134 + (1 : Int32)) (fun S139 => some (.inl S139)))))))
def bX11_next_76 (Y : XS) (n : Nat) (v0 : Nat) (s76 : PS) : Option (PS ⊕ PS) :=
  kgi s76 v0 30 (fun x78 => kc (fX11_byteAt Y n s76 v0 x78) (fun q81 => kc (fX11_isSmall Y n s76 q81) (fun q84 => (if q84 = 0 then some (.inr s76) else kgi s76 v0 30 (fun x92 => kpi s76 v0 30 (x92 + (1 : Int32)) (fun S97 => some (.inl S97)))))))
def bX11_next_0 (Y : XS) (n : Nat) (v0 : Nat) (s0 : PS) : Option (PS ⊕ (PS)) :=
  kgi s0 v0 30 (fun x2 => kc (fX11_byteAt Y n s0 v0 x2) (fun q5 => (if q5 = (32 : Int32) then jX11_next_26_0 Y n s0 v0 else kgi s0 v0 30 (fun x15 => kc (fX11_byteAt Y n s0 v0 x15) (fun q18 => (if q18 = (10 : Int32) then jX11_next_26_0 Y n s0 v0 else kgi s0 v0 30 (fun x41 => kpi s0 v0 32 x41 (fun S44 => kgi S44 v0 30 (fun x49 => kc (fX11_byteAt Y n S44 v0 x49) (fun q52 => (if q52 = (-1 : Int32) then kpi S44 v0 31 (0 : Int32) (fun S63 => jX11_next_168_0 Y n S63 v0) else kc (fX11_isSmall Y n S44 q52) (fun q70 => (if q70 = 0 then kc (fX11_isFigure Y n S44 q52) (fun q112 => (if q112 = 0 then kgi S44 v0 30 (fun x155 => kpi S44 v0 30 (x155 + (1 : Int32)) (fun S160 => kpi S160 v0 31 (3 : Int32) (fun S165 => jX11_next_168_0 Y n S165 v0))) else kc (iter (bX11_next_118 Y n v0) n S44) (fun r118 => kpi r118 v0 31 (2 : Int32) (fun S147 => jX11_next_168_0 Y n S147 v0)))) else kc (iter (bX11_next_76 Y n v0) n S44) (fun r76 => kpi r76 v0 31 (1 : Int32) (fun S105 => jX11_next_168_0 Y n S105 v0)))))))))))))))
def fX11_next (Y : XS) (n : Nat) (S : PS) (a0 : Nat) : Option (PS) :=
  kc (iter (bX11_next_0 Y n a0) n S) (fun r0 => some r0)
theorem wjX11_next_26_0 {C : CT} {X : XT} (hC : CK C RX11 cX11_next 2 none 2) (n : Nat) (S : PS) (v0 : Nat)  (hTv0 : Ty X.2.1 v0 11) {o : PS ⊕ (PS)} (hf : jX11_next_26_0 X.2.1 n S v0 = some o) (hN : ∀ s', o = .inl s' → UW C X s' 0 [(0, .ref (X.1 v0))] []) (hR : ∀ q', o = .inr q' → Rt C X cX11_next none none q') : UW C X S 26 [(0, .ref (X.1 v0))] [] := by
  unfold jX11_next_26_0 at hf
  refine u_aload_n hC dX11_next_26 0 rfl rfl ?_
  refine u_dup hC dX11_next_27 rfl ?_
  refine u_gi hC lf_X11_331 rfl hTv0 dX11_next_28 hf (fun x28 hf => ?_)
  refine u_iconst (v := (1 : Int32)) hC dX11_next_31 (by decide) ?_
  refine u_iadd hC dX11_next_32 ?_
  refine u_pi hC lf_X11_331 rfl rfl rfl hTv0 dX11_next_33 hf (fun S33 hf => ?_)
  refine u_goto (tgt := 0) hC dX11_next_36 (by decide) ?_
  exact hN _ (Option.some.inj hf).symm
theorem wjX11_next_168_0 {C : CT} {X : XT} (hC : CK C RX11 cX11_next 2 none 2) (n : Nat) (S : PS) (v0 : Nat)  (hTv0 : Ty X.2.1 v0 11) {o : PS ⊕ (PS)} (hf : jX11_next_168_0 X.2.1 n S v0 = some o) (hN : ∀ s', o = .inl s' → UW C X s' 0 [(0, .ref (X.1 v0))] []) (hR : ∀ q', o = .inr q' → Rt C X cX11_next none none q') : UW C X S 168 [(0, .ref (X.1 v0))] [] := by
  unfold jX11_next_168_0 at hf
  refine u_aload_n hC dX11_next_168 0 rfl rfl ?_
  refine u_aload_n hC dX11_next_169 0 rfl rfl ?_
  refine u_gi hC lf_X11_331 rfl hTv0 dX11_next_170 hf (fun x170 hf => ?_)
  refine u_pi hC lf_X11_343 rfl rfl rfl hTv0 dX11_next_173 hf (fun S173 hf => ?_)
  exact hR _ (Option.some.inj hf).symm _ _ dX11_next_176 trivial
theorem wbX11_next_118 {C : CT} {X : XT} (hC : CK C RX11 cX11_next 2 none 2) (n : Nat) (v0 : Nat) (hTv0 : Ty X.2.1 v0 11) (s118 : PS) {o : PS ⊕ PS} (hf : bX11_next_118 X.2.1 n v0 s118 = some o) (hN : ∀ s', o = .inl s' → UW C X s' 118 [(0, .ref (X.1 v0))] []) (hO0 : ∀ p', o = .inr p' → UW C X p' 145 [(0, .ref (X.1 v0))] []) : UW C X s118 118 [(0, .ref (X.1 v0))] [] := by
  unfold bX11_next_118 at hf
  refine u_aload_n hC dX11_next_118 0 rfl rfl ?_
  refine u_aload_n hC dX11_next_119 0 rfl rfl ?_
  refine u_gi hC lf_X11_331 rfl hTv0 dX11_next_120 hf (fun x120 hf => ?_)
  obtain ⟨q123, hq123, hf⟩ := kc_some hf
  refine u_callV hC (ctX11_byteAt (cL C) hC.tr (cG C) X.1 X.2.1 n s118 v0 x120 hTv0 hq123) lk_X11_334 rfl hTv0 (by decide) rfl (by decide) (by decide) rfl rfl (Nat.le_of_ble_eq_true rfl) dX11_next_123 ?_
  obtain ⟨q126, hq126, hf⟩ := kc_some hf
  refine u_callS hC (ctX11_isFigure (cL C) hC.tr (cG C) X.1 X.2.1 n s118 q123  hq126) lk_X11_100 (by decide) (by decide) rfl rfl (Nat.le_of_ble_eq_true rfl) dX11_next_126 ?_
  refine u_if_eq (tgt := 145) hC dX11_next_129 (by decide) hf (fun h129 hf => ?_) (fun h129 hf => ?_)
  · exact hO0 _ (Option.some.inj hf).symm
  · refine u_aload_n hC dX11_next_132 0 rfl rfl ?_
    refine u_dup hC dX11_next_133 rfl ?_
    refine u_gi hC lf_X11_331 rfl hTv0 dX11_next_134 hf (fun x134 hf => ?_)
    refine u_iconst (v := (1 : Int32)) hC dX11_next_137 (by decide) ?_
    refine u_iadd hC dX11_next_138 ?_
    refine u_pi hC lf_X11_331 rfl rfl rfl hTv0 dX11_next_139 hf (fun S139 hf => ?_)
    refine u_goto (tgt := 118) hC dX11_next_142 (by decide) ?_
    exact hN _ (Option.some.inj hf).symm
theorem wbX11_next_76 {C : CT} {X : XT} (hC : CK C RX11 cX11_next 2 none 2) (n : Nat) (v0 : Nat) (hTv0 : Ty X.2.1 v0 11) (s76 : PS) {o : PS ⊕ PS} (hf : bX11_next_76 X.2.1 n v0 s76 = some o) (hN : ∀ s', o = .inl s' → UW C X s' 76 [(0, .ref (X.1 v0))] []) (hO0 : ∀ p', o = .inr p' → UW C X p' 103 [(0, .ref (X.1 v0))] []) : UW C X s76 76 [(0, .ref (X.1 v0))] [] := by
  unfold bX11_next_76 at hf
  refine u_aload_n hC dX11_next_76 0 rfl rfl ?_
  refine u_aload_n hC dX11_next_77 0 rfl rfl ?_
  refine u_gi hC lf_X11_331 rfl hTv0 dX11_next_78 hf (fun x78 hf => ?_)
  obtain ⟨q81, hq81, hf⟩ := kc_some hf
  refine u_callV hC (ctX11_byteAt (cL C) hC.tr (cG C) X.1 X.2.1 n s76 v0 x78 hTv0 hq81) lk_X11_334 rfl hTv0 (by decide) rfl (by decide) (by decide) rfl rfl (Nat.le_of_ble_eq_true rfl) dX11_next_81 ?_
  obtain ⟨q84, hq84, hf⟩ := kc_some hf
  refine u_callS hC (ctX11_isSmall (cL C) hC.tr (cG C) X.1 X.2.1 n s76 q81  hq84) lk_X11_116 (by decide) (by decide) rfl rfl (Nat.le_of_ble_eq_true rfl) dX11_next_84 ?_
  refine u_if_eq (tgt := 103) hC dX11_next_87 (by decide) hf (fun h87 hf => ?_) (fun h87 hf => ?_)
  · exact hO0 _ (Option.some.inj hf).symm
  · refine u_aload_n hC dX11_next_90 0 rfl rfl ?_
    refine u_dup hC dX11_next_91 rfl ?_
    refine u_gi hC lf_X11_331 rfl hTv0 dX11_next_92 hf (fun x92 hf => ?_)
    refine u_iconst (v := (1 : Int32)) hC dX11_next_95 (by decide) ?_
    refine u_iadd hC dX11_next_96 ?_
    refine u_pi hC lf_X11_331 rfl rfl rfl hTv0 dX11_next_97 hf (fun S97 hf => ?_)
    refine u_goto (tgt := 76) hC dX11_next_100 (by decide) ?_
    exact hN _ (Option.some.inj hf).symm
theorem wbX11_next_0 {C : CT} {X : XT} (hC : CK C RX11 cX11_next 2 none 2) (n : Nat) (v0 : Nat) (hTv0 : Ty X.2.1 v0 11) (s0 : PS) {o : PS ⊕ (PS)} (hf : bX11_next_0 X.2.1 n v0 s0 = some o) (hN : ∀ s', o = .inl s' → UW C X s' 0 [(0, .ref (X.1 v0))] []) (hR : ∀ q', o = .inr q' → Rt C X cX11_next none none q') : UW C X s0 0 [(0, .ref (X.1 v0))] [] := by
  unfold bX11_next_0 at hf
  refine u_aload_n hC dX11_next_0 0 rfl rfl ?_
  refine u_aload_n hC dX11_next_1 0 rfl rfl ?_
  refine u_gi hC lf_X11_331 rfl hTv0 dX11_next_2 hf (fun x2 hf => ?_)
  obtain ⟨q5, hq5, hf⟩ := kc_some hf
  refine u_callV hC (ctX11_byteAt (cL C) hC.tr (cG C) X.1 X.2.1 n s0 v0 x2 hTv0 hq5) lk_X11_334 rfl hTv0 (by decide) rfl (by decide) (by decide) rfl rfl (Nat.le_of_ble_eq_true rfl) dX11_next_5 ?_
  refine u_bipush (v := (32 : Int32)) hC dX11_next_8 (by decide) ?_
  refine u_icmp_eq (tgt := 26) hC dX11_next_10 (by decide) hf (fun h10 hf => ?_) (fun h10 hf => ?_)
  · exact wjX11_next_26_0 hC n s0 v0  hTv0 hf hN hR
  · refine u_aload_n hC dX11_next_13 0 rfl rfl ?_
    refine u_aload_n hC dX11_next_14 0 rfl rfl ?_
    refine u_gi hC lf_X11_331 rfl hTv0 dX11_next_15 hf (fun x15 hf => ?_)
    obtain ⟨q18, hq18, hf⟩ := kc_some hf
    refine u_callV hC (ctX11_byteAt (cL C) hC.tr (cG C) X.1 X.2.1 n s0 v0 x15 hTv0 hq18) lk_X11_334 rfl hTv0 (by decide) rfl (by decide) (by decide) rfl rfl (Nat.le_of_ble_eq_true rfl) dX11_next_18 ?_
    refine u_bipush (v := (10 : Int32)) hC dX11_next_21 (by decide) ?_
    refine u_icmp_ne (tgt := 39) hC dX11_next_23 (by decide) hf (fun h23 hf => ?_) (fun h23 hf => ?_)
    · refine u_aload_n hC dX11_next_39 0 rfl rfl ?_
      refine u_aload_n hC dX11_next_40 0 rfl rfl ?_
      refine u_gi hC lf_X11_331 rfl hTv0 dX11_next_41 hf (fun x41 hf => ?_)
      refine u_pi hC lf_X11_337 rfl rfl rfl hTv0 dX11_next_44 hf (fun S44 hf => ?_)
      refine u_aload_n hC dX11_next_47 0 rfl rfl ?_
      refine u_aload_n hC dX11_next_48 0 rfl rfl ?_
      refine u_gi hC lf_X11_331 rfl hTv0 dX11_next_49 hf (fun x49 hf => ?_)
      obtain ⟨q52, hq52, hf⟩ := kc_some hf
      refine u_callV hC (ctX11_byteAt (cL C) hC.tr (cG C) X.1 X.2.1 n S44 v0 x49 hTv0 hq52) lk_X11_334 rfl hTv0 (by decide) rfl (by decide) (by decide) rfl rfl (Nat.le_of_ble_eq_true rfl) dX11_next_52 ?_
      refine u_istore_n (lv' := [(1, .int q52), (0, .ref (X.1 v0))]) hC dX11_next_55 rfl (by decide) rfl ?_
      refine u_iload_n hC dX11_next_56 0 rfl rfl ?_
      refine u_iconst (v := (-1 : Int32)) hC dX11_next_57 (by decide) ?_
      refine u_icmp_ne (tgt := 69) hC dX11_next_58 (by decide) hf (fun h58 hf => ?_) (fun h58 hf => ?_)
      · refine u_iload_n hC dX11_next_69 0 rfl rfl ?_
        obtain ⟨q70, hq70, hf⟩ := kc_some hf
        refine u_callS hC (ctX11_isSmall (cL C) hC.tr (cG C) X.1 X.2.1 n S44 q52  hq70) lk_X11_116 (by decide) (by decide) rfl rfl (Nat.le_of_ble_eq_true rfl) dX11_next_70 ?_
        refine u_if_eq (tgt := 111) hC dX11_next_73 (by decide) hf (fun h73 hf => ?_) (fun h73 hf => ?_)
        · refine u_iload_n hC dX11_next_111 0 rfl rfl ?_
          obtain ⟨q112, hq112, hf⟩ := kc_some hf
          refine u_callS hC (ctX11_isFigure (cL C) hC.tr (cG C) X.1 X.2.1 n S44 q52  hq112) lk_X11_100 (by decide) (by decide) rfl rfl (Nat.le_of_ble_eq_true rfl) dX11_next_112 ?_
          refine u_if_eq (tgt := 153) hC dX11_next_115 (by decide) hf (fun h115 hf => ?_) (fun h115 hf => ?_)
          · refine u_aload_n hC dX11_next_153 1 rfl rfl ?_
            refine u_dup hC dX11_next_154 rfl ?_
            refine u_gi hC lf_X11_331 rfl hTv0 dX11_next_155 hf (fun x155 hf => ?_)
            refine u_iconst (v := (1 : Int32)) hC dX11_next_158 (by decide) ?_
            refine u_iadd hC dX11_next_159 ?_
            refine u_pi hC lf_X11_331 rfl rfl rfl hTv0 dX11_next_160 hf (fun S160 hf => ?_)
            refine u_aload_n hC dX11_next_163 1 rfl rfl ?_
            refine u_iconst (v := (3 : Int32)) hC dX11_next_164 (by decide) ?_
            refine u_pi hC lf_X11_340 rfl rfl rfl hTv0 dX11_next_165 hf (fun S165 hf => ?_)
            refine u_sub (lv' := [(0, .ref (X.1 v0))]) [1] rfl ?_
            exact wjX11_next_168_0 hC n S165 v0  hTv0 hf hN hR
          · obtain ⟨r118, hr118, hf⟩ := kc_some hf
            have hk118 : UW C X r118 145 [(0, .ref (X.1 v0))] [] := by
              refine u_aload_n hC dX11_next_145 0 rfl rfl ?_
              refine u_iconst (v := (2 : Int32)) hC dX11_next_146 (by decide) ?_
              refine u_pi hC lf_X11_340 rfl rfl rfl hTv0 dX11_next_147 hf (fun S147 hf => ?_)
              refine u_goto (tgt := 168) hC dX11_next_150 (by decide) ?_
              exact wjX11_next_168_0 hC n S147 v0  hTv0 hf hN hR
            refine u_sub (lv' := [(0, .ref (X.1 v0))]) [1] rfl ?_
            refine iter_ind (P := fun s118 => UW C X s118 118 [(0, .ref (X.1 v0))] []) (fun s118 o' hb hin hout => ?_) n S44 hr118
            exact wbX11_next_118 hC n v0 hTv0 s118 hb hin (fun p e => by rw [hout p e]; exact hk118)
        · obtain ⟨r76, hr76, hf⟩ := kc_some hf
          have hk76 : UW C X r76 103 [(0, .ref (X.1 v0))] [] := by
            refine u_aload_n hC dX11_next_103 0 rfl rfl ?_
            refine u_iconst (v := (1 : Int32)) hC dX11_next_104 (by decide) ?_
            refine u_pi hC lf_X11_340 rfl rfl rfl hTv0 dX11_next_105 hf (fun S105 hf => ?_)
            refine u_goto (tgt := 168) hC dX11_next_108 (by decide) ?_
            exact wjX11_next_168_0 hC n S105 v0  hTv0 hf hN hR
          refine u_sub (lv' := [(0, .ref (X.1 v0))]) [1] rfl ?_
          refine iter_ind (P := fun s76 => UW C X s76 76 [(0, .ref (X.1 v0))] []) (fun s76 o' hb hin hout => ?_) n S44 hr76
          exact wbX11_next_76 hC n v0 hTv0 s76 hb hin (fun p e => by rw [hout p e]; exact hk76)
      · refine u_aload_n hC dX11_next_61 1 rfl rfl ?_
        refine u_iconst (v := (0 : Int32)) hC dX11_next_62 (by decide) ?_
        refine u_pi hC lf_X11_340 rfl rfl rfl hTv0 dX11_next_63 hf (fun S63 hf => ?_)
        refine u_goto (tgt := 168) hC dX11_next_66 (by decide) ?_
        refine u_sub (lv' := [(0, .ref (X.1 v0))]) [1] rfl ?_
        exact wjX11_next_168_0 hC n S63 v0  hTv0 hf hN hR
    · exact wjX11_next_26_0 hC n s0 v0  hTv0 hf hN hR
theorem wX11_next {C : CT} {X : XT} (hC : CK C RX11 cX11_next 2 none 2) (n : Nat) (S : PS) (a0 : Nat) (hTa0 : Ty X.2.1 a0 11) {o : PS} (hf : fX11_next X.2.1 n S a0 = some o) (hR : Rt C X cX11_next none none o) : UW C X S 0 [(0, .ref (X.1 a0))] [] := by
  unfold fX11_next at hf
  obtain ⟨r0, hr0, hf⟩ := kc_some hf
  have hk0 : Rt C X cX11_next none none r0 := by
    cases hf
    exact hR
  refine iter_ind (P := fun s0 => UW C X s0 0 [(0, .ref (X.1 a0))] []) (fun s0 o' hb hin hout => ?_) n S hr0
  exact wbX11_next_0 hC n a0 hTa0 s0 hb hin (fun p e => by rw [hout p e]; exact hk0)
theorem ctX11_next (l : Launch) (hl : l.stackTraces = false) (G : GT) (ρ : Nat → Nat) (Y : XS) (n : Nat) (S : PS) (a0 : Nat) (hTa0 : Ty Y a0 11) {o : PS} (hf : fX11_next Y n S a0 = some o) : Mt l G yX11_next cX11_next 2 none 2 ρ Y [.ref (ρ a0)] S none o :=
  Mt_of hl (by decide) (Nat.le_of_ble_eq_true rfl) (fun C _ _ hC hR => wX11_next (X := (ρ, Y, 0, 0)) hC n S a0 hTa0 hf hR)
-- X11_wrong
theorem dX11_wrong_0 : decode cX11_wrong 0 = .ok (.aload_n 0, 1) := by decide +kernel
theorem dX11_wrong_1 : decode cX11_wrong 1 = .ok (.getfield 346, 3) := by decide +kernel
theorem dX11_wrong_4 : decode cX11_wrong 4 = .ok (.ifCond .eq 4, 3) := by decide +kernel
theorem dX11_wrong_7 : decode cX11_wrong 7 = .ok (.return_, 1) := by decide +kernel
theorem dX11_wrong_8 : decode cX11_wrong 8 = .ok (.aload_n 0, 1) := by decide +kernel
theorem dX11_wrong_9 : decode cX11_wrong 9 = .ok (.iload_n 1, 1) := by decide +kernel
theorem dX11_wrong_10 : decode cX11_wrong 10 = .ok (.putfield 346, 3) := by decide +kernel
theorem dX11_wrong_13 : decode cX11_wrong 13 = .ok (.aload_n 0, 1) := by decide +kernel
theorem dX11_wrong_14 : decode cX11_wrong 14 = .ok (.aload_n 0, 1) := by decide +kernel
theorem dX11_wrong_15 : decode cX11_wrong 15 = .ok (.getfield 337, 3) := by decide +kernel
theorem dX11_wrong_18 : decode cX11_wrong 18 = .ok (.putfield 349, 3) := by decide +kernel
theorem dX11_wrong_21 : decode cX11_wrong 21 = .ok (.return_, 1) := by decide +kernel
def fX11_wrong (Y : XS) (n : Nat) (S : PS) (a0 : Nat) (x1_ : Int32) : Option (PS) :=
  kgi S a0 34 (fun x1 => (if x1 = 0 then kpi S a0 34 x1_ (fun S10 => kgi S10 a0 32 (fun x15 => kpi S10 a0 35 x15 (fun S18 => some S18))) else some S))
theorem wX11_wrong {C : CT} {X : XT} (hC : CK C RX11 cX11_wrong 2 none 1) (n : Nat) (S : PS) (a0 : Nat) (x1_ : Int32) (hTa0 : Ty X.2.1 a0 11) {o : PS} (hf : fX11_wrong X.2.1 n S a0 x1_ = some o) (hR : Rt C X cX11_wrong none none o) : UW C X S 0 [(0, .ref (X.1 a0)), (1, .int x1_)] [] := by
  unfold fX11_wrong at hf
  refine u_aload_n hC dX11_wrong_0 0 rfl rfl ?_
  refine u_gi hC lf_X11_346 rfl hTa0 dX11_wrong_1 hf (fun x1 hf => ?_)
  refine u_if_eq (tgt := 8) hC dX11_wrong_4 (by decide) hf (fun h4 hf => ?_) (fun h4 hf => ?_)
  · refine u_aload_n hC dX11_wrong_8 0 rfl rfl ?_
    refine u_iload_n hC dX11_wrong_9 1 rfl rfl ?_
    refine u_pi hC lf_X11_346 rfl rfl rfl hTa0 dX11_wrong_10 hf (fun S10 hf => ?_)
    refine u_aload_n hC dX11_wrong_13 0 rfl rfl ?_
    refine u_aload_n hC dX11_wrong_14 0 rfl rfl ?_
    refine u_gi hC lf_X11_337 rfl hTa0 dX11_wrong_15 hf (fun x15 hf => ?_)
    refine u_pi hC lf_X11_349 rfl rfl rfl hTa0 dX11_wrong_18 hf (fun S18 hf => ?_)
    cases hf
    exact hR _ _ dX11_wrong_21 trivial
  · cases hf
    exact hR _ _ dX11_wrong_7 trivial
theorem ctX11_wrong (l : Launch) (hl : l.stackTraces = false) (G : GT) (ρ : Nat → Nat) (Y : XS) (n : Nat) (S : PS) (a0 : Nat) (x1_ : Int32) (hTa0 : Ty Y a0 11) {o : PS} (hf : fX11_wrong Y n S a0 x1_ = some o) : Mt l G yX11_wrong cX11_wrong 2 none 1 ρ Y [.ref (ρ a0), .int x1_] S none o :=
  Mt_of hl (by decide) (Nat.le_of_ble_eq_true rfl) (fun C _ _ hC hR => wX11_wrong (X := (ρ, Y, 0, 0)) hC n S a0 x1_ hTa0 hf hR)
-- X11_pass
theorem dX11_pass_0 : decode cX11_pass 0 = .ok (.aload_n 0, 1) := by decide +kernel
theorem dX11_pass_1 : decode cX11_pass 1 = .ok (.getfield 346, 3) := by decide +kernel
theorem dX11_pass_4 : decode cX11_pass 4 = .ok (.ifCond .ne 7, 3) := by decide +kernel
theorem dX11_pass_7 : decode cX11_pass 7 = .ok (.aload_n 0, 1) := by decide +kernel
theorem dX11_pass_8 : decode cX11_pass 8 = .ok (.invokevirtual 352, 3) := by decide +kernel
theorem dX11_pass_11 : decode cX11_pass 11 = .ok (.return_, 1) := by decide +kernel
def jX11_pass_11 (Y : XS) (n : Nat) (S : PS)  : Option (PS) :=
  some S
def fX11_pass (Y : XS) (n : Nat) (S : PS) (a0 : Nat) : Option (PS) :=
  kgi S a0 34 (fun x1 => (if x1 = 0 then kc (fX11_next Y n S a0) (fun q8 => jX11_pass_11 Y n q8 ) else jX11_pass_11 Y n S ))
theorem wjX11_pass_11 {C : CT} {X : XT} (hC : CK C RX11 cX11_pass 1 none 3) (n : Nat) (S : PS)    {o : PS} (hf : jX11_pass_11 X.2.1 n S  = some o) (hR : Rt C X cX11_pass none none o) : UW C X S 11 [] [] := by
  unfold jX11_pass_11 at hf
  cases hf
  exact hR _ _ dX11_pass_11 trivial
theorem wX11_pass {C : CT} {X : XT} (hC : CK C RX11 cX11_pass 1 none 3) (n : Nat) (S : PS) (a0 : Nat) (hTa0 : Ty X.2.1 a0 11) {o : PS} (hf : fX11_pass X.2.1 n S a0 = some o) (hR : Rt C X cX11_pass none none o) : UW C X S 0 [(0, .ref (X.1 a0))] [] := by
  unfold fX11_pass at hf
  refine u_aload_n hC dX11_pass_0 0 rfl rfl ?_
  refine u_gi hC lf_X11_346 rfl hTa0 dX11_pass_1 hf (fun x1 hf => ?_)
  refine u_if_ne (tgt := 11) hC dX11_pass_4 (by decide) hf (fun h4 hf => ?_) (fun h4 hf => ?_)
  · refine u_sub (lv' := []) [] rfl ?_
    exact wjX11_pass_11 hC n S    hf hR
  · refine u_aload_n hC dX11_pass_7 0 rfl rfl ?_
    obtain ⟨q8, hq8, hf⟩ := kc_some hf
    refine u_callV hC (ctX11_next (cL C) hC.tr (cG C) X.1 X.2.1 n S a0 hTa0 hq8) lk_X11_352 rfl hTa0 (by decide) rfl (by decide) (by decide) rfl rfl (Nat.le_of_ble_eq_true rfl) dX11_pass_8 ?_
    refine u_sub (lv' := []) [] rfl ?_
    exact wjX11_pass_11 hC n q8    hf hR
theorem ctX11_pass (l : Launch) (hl : l.stackTraces = false) (G : GT) (ρ : Nat → Nat) (Y : XS) (n : Nat) (S : PS) (a0 : Nat) (hTa0 : Ty Y a0 11) {o : PS} (hf : fX11_pass Y n S a0 = some o) : Mt l G yX11_pass cX11_pass 1 none 3 ρ Y [.ref (ρ a0)] S none o :=
  Mt_of hl (by decide) (Nat.le_of_ble_eq_true rfl) (fun C _ _ hC hR => wX11_pass (X := (ρ, Y, 0, 0)) hC n S a0 hTa0 hf hR)
-- X11_isSign
theorem dX11_isSign_0 : decode cX11_isSign 0 = .ok (.aload_n 0, 1) := by decide +kernel
theorem dX11_isSign_1 : decode cX11_isSign 1 = .ok (.getfield 346, 3) := by decide +kernel
theorem dX11_isSign_4 : decode cX11_isSign 4 = .ok (.ifCond .ne 28, 3) := by decide +kernel
theorem dX11_isSign_7 : decode cX11_isSign 7 = .ok (.aload_n 0, 1) := by decide +kernel
theorem dX11_isSign_8 : decode cX11_isSign 8 = .ok (.getfield 340, 3) := by decide +kernel
theorem dX11_isSign_11 : decode cX11_isSign 11 = .ok (.iconst 3, 1) := by decide +kernel
theorem dX11_isSign_12 : decode cX11_isSign 12 = .ok (.if_icmp .ne 20, 3) := by decide +kernel
theorem dX11_isSign_15 : decode cX11_isSign 15 = .ok (.aload_n 0, 1) := by decide +kernel
theorem dX11_isSign_16 : decode cX11_isSign 16 = .ok (.getfield 63, 3) := by decide +kernel
theorem dX11_isSign_19 : decode cX11_isSign 19 = .ok (.aload_n 0, 1) := by decide +kernel
theorem dX11_isSign_20 : decode cX11_isSign 20 = .ok (.getfield 337, 3) := by decide +kernel
theorem dX11_isSign_23 : decode cX11_isSign 23 = .ok (.iaload, 1) := by decide +kernel
theorem dX11_isSign_24 : decode cX11_isSign 24 = .ok (.iload_n 1, 1) := by decide +kernel
theorem dX11_isSign_25 : decode cX11_isSign 25 = .ok (.if_icmp .ne 7, 3) := by decide +kernel
theorem dX11_isSign_28 : decode cX11_isSign 28 = .ok (.iconst 1, 1) := by decide +kernel
theorem dX11_isSign_29 : decode cX11_isSign 29 = .ok (.goto 4, 3) := by decide +kernel
theorem dX11_isSign_32 : decode cX11_isSign 32 = .ok (.iconst 0, 1) := by decide +kernel
theorem dX11_isSign_33 : decode cX11_isSign 33 = .ok (.ireturn, 1) := by decide +kernel
def jX11_isSign_33 (Y : XS) (n : Nat) (S : PS) (t0 : Int32) : Option (Int32) :=
  kzr t0 (some t0)
def jX11_isSign_32 (Y : XS) (n : Nat) (S : PS)  : Option (Int32) :=
  jX11_isSign_33 Y n S (0 : Int32)
def fX11_isSign (Y : XS) (n : Nat) (S : PS) (a0 : Nat) (x1_ : Int32) : Option (Int32) :=
  kgi S a0 34 (fun x1 => (if x1 = 0 then kgi S a0 31 (fun x8 => (if x8 = (3 : Int32) then kgr S a0 27 (fun b16 => kgi S a0 32 (fun x20 => kai Y S b16 x20 (fun x23 => (if x23 = x1_ then jX11_isSign_33 Y n S (1 : Int32) else jX11_isSign_32 Y n S )))) else jX11_isSign_32 Y n S )) else jX11_isSign_32 Y n S ))
theorem wjX11_isSign_33 {C : CT} {X : XT} (hC : CK C RX11 cX11_isSign 2 (some .boolean) 1) (n : Nat) (S : PS) (t0 : Int32)   {o : Int32} (hf : jX11_isSign_33 X.2.1 n S t0 = some o) (hR : Rt C X cX11_isSign (some .boolean) (some (.int o)) S) : UW C X S 33 [] [.int t0] := by
  unfold jX11_isSign_33 at hf
  obtain ⟨hz, hf⟩ := kzr_some hf
  cases hf
  exact hR _ _ dX11_isSign_33 hz
theorem wjX11_isSign_32 {C : CT} {X : XT} (hC : CK C RX11 cX11_isSign 2 (some .boolean) 1) (n : Nat) (S : PS)    {o : Int32} (hf : jX11_isSign_32 X.2.1 n S  = some o) (hR : Rt C X cX11_isSign (some .boolean) (some (.int o)) S) : UW C X S 32 [] [] := by
  unfold jX11_isSign_32 at hf
  refine u_iconst (v := (0 : Int32)) hC dX11_isSign_32 (by decide) ?_
  exact wjX11_isSign_33 hC n S (0 : Int32)   hf hR
theorem wX11_isSign {C : CT} {X : XT} (hC : CK C RX11 cX11_isSign 2 (some .boolean) 1) (n : Nat) (S : PS) (a0 : Nat) (x1_ : Int32) (hTa0 : Ty X.2.1 a0 11) {o : Int32} (hf : fX11_isSign X.2.1 n S a0 x1_ = some o) (hR : Rt C X cX11_isSign (some .boolean) (some (.int o)) S) : UW C X S 0 [(0, .ref (X.1 a0)), (1, .int x1_)] [] := by
  unfold fX11_isSign at hf
  refine u_aload_n hC dX11_isSign_0 0 rfl rfl ?_
  refine u_gi hC lf_X11_346 rfl hTa0 dX11_isSign_1 hf (fun x1 hf => ?_)
  refine u_if_ne (tgt := 32) hC dX11_isSign_4 (by decide) hf (fun h4 hf => ?_) (fun h4 hf => ?_)
  · refine u_sub (lv' := []) [] rfl ?_
    exact wjX11_isSign_32 hC n S    hf hR
  · refine u_aload_n hC dX11_isSign_7 0 rfl rfl ?_
    refine u_gi hC lf_X11_340 rfl hTa0 dX11_isSign_8 hf (fun x8 hf => ?_)
    refine u_iconst (v := (3 : Int32)) hC dX11_isSign_11 (by decide) ?_
    refine u_icmp_ne (tgt := 32) hC dX11_isSign_12 (by decide) hf (fun h12 hf => ?_) (fun h12 hf => ?_)
    · refine u_sub (lv' := []) [] rfl ?_
      exact wjX11_isSign_32 hC n S    hf hR
    · refine u_aload_n hC dX11_isSign_15 0 rfl rfl ?_
      refine u_gr hC lf_X11_63 rfl hTa0 dX11_isSign_16 hf (fun b16 hTb16 hf => ?_)
      refine u_aload_n hC dX11_isSign_19 0 rfl rfl ?_
      refine u_gi hC lf_X11_337 rfl hTa0 dX11_isSign_20 hf (fun x20 hf => ?_)
      refine u_ai hC hTb16 dX11_isSign_23 hf (fun x23 hf => ?_)
      refine u_iload_n hC dX11_isSign_24 1 rfl rfl ?_
      refine u_icmp_ne (tgt := 32) hC dX11_isSign_25 (by decide) hf (fun h25 hf => ?_) (fun h25 hf => ?_)
      · refine u_sub (lv' := []) [] rfl ?_
        exact wjX11_isSign_32 hC n S    hf hR
      · refine u_iconst (v := (1 : Int32)) hC dX11_isSign_28 (by decide) ?_
        refine u_goto (tgt := 33) hC dX11_isSign_29 (by decide) ?_
        refine u_sub (lv' := []) [] rfl ?_
        exact wjX11_isSign_33 hC n S (1 : Int32)   hf hR
theorem ctX11_isSign (l : Launch) (hl : l.stackTraces = false) (G : GT) (ρ : Nat → Nat) (Y : XS) (n : Nat) (S : PS) (a0 : Nat) (x1_ : Int32) (hTa0 : Ty Y a0 11) {o : Int32} (hf : fX11_isSign Y n S a0 x1_ = some o) : Mt l G yX11_isSign cX11_isSign 2 (some .boolean) 1 ρ Y [.ref (ρ a0), .int x1_] S (some (.int o)) S :=
  Mt_of hl (by decide) (Nat.le_of_ble_eq_true rfl) (fun C _ _ hC hR => wX11_isSign (X := (ρ, Y, 0, 0)) hC n S a0 x1_ hTa0 hf hR)
-- X11_isWord
theorem dX11_isWord_0 : decode cX11_isWord 0 = .ok (.aload_n 0, 1) := by decide +kernel
theorem dX11_isWord_1 : decode cX11_isWord 1 = .ok (.getfield 346, 3) := by decide +kernel
theorem dX11_isWord_4 : decode cX11_isWord 4 = .ok (.ifCond .ne 31, 3) := by decide +kernel
theorem dX11_isWord_7 : decode cX11_isWord 7 = .ok (.aload_n 0, 1) := by decide +kernel
theorem dX11_isWord_8 : decode cX11_isWord 8 = .ok (.getfield 340, 3) := by decide +kernel
theorem dX11_isWord_11 : decode cX11_isWord 11 = .ok (.iconst 1, 1) := by decide +kernel
theorem dX11_isWord_12 : decode cX11_isWord 12 = .ok (.if_icmp .ne 23, 3) := by decide +kernel
theorem dX11_isWord_15 : decode cX11_isWord 15 = .ok (.aload_n 1, 1) := by decide +kernel
theorem dX11_isWord_16 : decode cX11_isWord 16 = .ok (.invokevirtual 355, 3) := by decide +kernel
theorem dX11_isWord_19 : decode cX11_isWord 19 = .ok (.aload_n 0, 1) := by decide +kernel
theorem dX11_isWord_20 : decode cX11_isWord 20 = .ok (.getfield 343, 3) := by decide +kernel
theorem dX11_isWord_23 : decode cX11_isWord 23 = .ok (.aload_n 0, 1) := by decide +kernel
theorem dX11_isWord_24 : decode cX11_isWord 24 = .ok (.getfield 337, 3) := by decide +kernel
theorem dX11_isWord_27 : decode cX11_isWord 27 = .ok (.isub, 1) := by decide +kernel
theorem dX11_isWord_28 : decode cX11_isWord 28 = .ok (.if_icmp .ne 7, 3) := by decide +kernel
theorem dX11_isWord_31 : decode cX11_isWord 31 = .ok (.iconst 1, 1) := by decide +kernel
theorem dX11_isWord_32 : decode cX11_isWord 32 = .ok (.goto 4, 3) := by decide +kernel
theorem dX11_isWord_35 : decode cX11_isWord 35 = .ok (.iconst 0, 1) := by decide +kernel
theorem dX11_isWord_36 : decode cX11_isWord 36 = .ok (.istore_n 2, 1) := by decide +kernel
theorem dX11_isWord_37 : decode cX11_isWord 37 = .ok (.iconst 0, 1) := by decide +kernel
theorem dX11_isWord_38 : decode cX11_isWord 38 = .ok (.istore_n 3, 1) := by decide +kernel
theorem dX11_isWord_39 : decode cX11_isWord 39 = .ok (.iload_n 2, 1) := by decide +kernel
theorem dX11_isWord_40 : decode cX11_isWord 40 = .ok (.ifCond .eq 42, 3) := by decide +kernel
theorem dX11_isWord_43 : decode cX11_isWord 43 = .ok (.iload_n 3, 1) := by decide +kernel
theorem dX11_isWord_44 : decode cX11_isWord 44 = .ok (.aload_n 1, 1) := by decide +kernel
theorem dX11_isWord_45 : decode cX11_isWord 45 = .ok (.invokevirtual 355, 3) := by decide +kernel
theorem dX11_isWord_48 : decode cX11_isWord 48 = .ok (.if_icmp .ge 34, 3) := by decide +kernel
theorem dX11_isWord_51 : decode cX11_isWord 51 = .ok (.aload_n 1, 1) := by decide +kernel
theorem dX11_isWord_52 : decode cX11_isWord 52 = .ok (.iload_n 3, 1) := by decide +kernel
theorem dX11_isWord_53 : decode cX11_isWord 53 = .ok (.invokevirtual 360, 3) := by decide +kernel
theorem dX11_isWord_56 : decode cX11_isWord 56 = .ok (.aload_n 0, 1) := by decide +kernel
theorem dX11_isWord_57 : decode cX11_isWord 57 = .ok (.getfield 63, 3) := by decide +kernel
theorem dX11_isWord_60 : decode cX11_isWord 60 = .ok (.aload_n 0, 1) := by decide +kernel
theorem dX11_isWord_61 : decode cX11_isWord 61 = .ok (.getfield 337, 3) := by decide +kernel
theorem dX11_isWord_64 : decode cX11_isWord 64 = .ok (.iload_n 3, 1) := by decide +kernel
theorem dX11_isWord_65 : decode cX11_isWord 65 = .ok (.iadd, 1) := by decide +kernel
theorem dX11_isWord_66 : decode cX11_isWord 66 = .ok (.iaload, 1) := by decide +kernel
theorem dX11_isWord_67 : decode cX11_isWord 67 = .ok (.if_icmp .ne 7, 3) := by decide +kernel
theorem dX11_isWord_70 : decode cX11_isWord 70 = .ok (.iconst 1, 1) := by decide +kernel
theorem dX11_isWord_71 : decode cX11_isWord 71 = .ok (.goto 4, 3) := by decide +kernel
theorem dX11_isWord_74 : decode cX11_isWord 74 = .ok (.iconst 0, 1) := by decide +kernel
theorem dX11_isWord_75 : decode cX11_isWord 75 = .ok (.istore_n 2, 1) := by decide +kernel
theorem dX11_isWord_76 : decode cX11_isWord 76 = .ok (.iinc 3 1, 3) := by decide +kernel
theorem dX11_isWord_79 : decode cX11_isWord 79 = .ok (.goto (-40), 3) := by decide +kernel
theorem dX11_isWord_82 : decode cX11_isWord 82 = .ok (.iload_n 2, 1) := by decide +kernel
theorem dX11_isWord_83 : decode cX11_isWord 83 = .ok (.ireturn, 1) := by decide +kernel
def jX11_isWord_75_39 (Y : XS) (n : Nat) (S : PS) (v0 : Nat) (v1 : Nat) (v3 : Int32) (t0 : Int32) : Option ((Int32 × Int32) ⊕ Int32) :=
  some (.inl (t0, v3 + (1 : Int32)))
def bX11_isWord_39 (Y : XS) (n : Nat) (S : PS) (v0 : Nat) (v1 : Nat) (s39 : (Int32 × Int32)) : Option ((Int32 × Int32) ⊕ Int32) :=
  (if s39.1 = 0 then some (.inr s39.1) else (if (Int32.ofNat (strL v1)) ≤ s39.2 then some (.inr s39.1) else kch v1 s39.2 (fun x53 => kgr S v0 27 (fun b57 => kgi S v0 32 (fun x61 => kai Y S b57 (x61 + s39.2) (fun x66 => (if x53 = x66 then jX11_isWord_75_39 Y n S v0 v1 s39.2 (1 : Int32) else jX11_isWord_75_39 Y n S v0 v1 s39.2 (0 : Int32))))))))
def jX11_isWord_82 (Y : XS) (n : Nat) (S : PS) (v2 : Int32) : Option (Int32) :=
  kzr v2 (some v2)
def jX11_isWord_36 (Y : XS) (n : Nat) (S : PS) (v0 : Nat) (v1 : Nat) (t0 : Int32) : Option (Int32) :=
  kc (iter (bX11_isWord_39 Y n S v0 v1) n (t0, (0 : Int32))) (fun r39 => jX11_isWord_82 Y n S r39)
def jX11_isWord_35 (Y : XS) (n : Nat) (S : PS) (v0 : Nat) (v1 : Nat) : Option (Int32) :=
  jX11_isWord_36 Y n S v0 v1 (0 : Int32)
def fX11_isWord (Y : XS) (n : Nat) (S : PS) (a0 : Nat) (i1 : Nat) : Option (Int32) :=
  kgi S a0 34 (fun x1 => (if x1 = 0 then kgi S a0 31 (fun x8 => (if x8 = (1 : Int32) then kgi S a0 33 (fun x20 => kgi S a0 32 (fun x24 => (if (Int32.ofNat (strL i1)) = (x20 - x24) then jX11_isWord_36 Y n S a0 i1 (1 : Int32) else jX11_isWord_35 Y n S a0 i1))) else jX11_isWord_35 Y n S a0 i1)) else jX11_isWord_35 Y n S a0 i1))
theorem wjX11_isWord_75_39 {C : CT} {X : XT} (hC : CK C RX11 cX11_isWord 4 (some .boolean) 5) (n : Nat) (S : PS) (v0 : Nat) (v1 : Nat) (v3 : Int32) (t0 : Int32)  (hTv0 : Ty X.2.1 v0 11) (hTv1 : v1 < nStr) {o : (Int32 × Int32) ⊕ Int32} (hf : jX11_isWord_75_39 X.2.1 n S v0 v1 v3 t0 = some o) (hN : ∀ s', o = .inl s' → UW C X S 39 [(0, .ref (X.1 v0)), (1, .ref (gK (cG C) v1)), (2, .int s'.1), (3, .int s'.2)] []) (hO0 : ∀ p', o = .inr p' → UW C X S 82 [(2, .int p')] []) : UW C X S 75 [(0, .ref (X.1 v0)), (1, .ref (gK (cG C) v1)), (3, .int v3)] [.int t0] := by
  unfold jX11_isWord_75_39 at hf
  refine u_istore_n (lv' := [(2, .int t0), (0, .ref (X.1 v0)), (1, .ref (gK (cG C) v1)), (3, .int v3)]) hC dX11_isWord_75 rfl (by decide) rfl ?_
  refine u_iinc (v := v3 + (1 : Int32)) (lv' := [(3, .int (v3 + (1 : Int32))), (2, .int t0), (0, .ref (X.1 v0)), (1, .ref (gK (cG C) v1))]) hC dX11_isWord_76 3 rfl rfl (by decide) rfl ?_
  refine u_goto (tgt := 39) hC dX11_isWord_79 (by decide) ?_
  refine u_sub (lv' := [(0, .ref (X.1 v0)), (1, .ref (gK (cG C) v1)), (2, .int t0), (3, .int (v3 + (1 : Int32)))]) [2, 3, 1, 0] rfl ?_
  exact hN _ (Option.some.inj hf).symm
theorem wbX11_isWord_39 {C : CT} {X : XT} (hC : CK C RX11 cX11_isWord 4 (some .boolean) 5) (n : Nat) (S : PS) (v0 : Nat) (v1 : Nat) (hTv0 : Ty X.2.1 v0 11) (hTv1 : v1 < nStr) (s39 : (Int32 × Int32)) {o : (Int32 × Int32) ⊕ Int32} (hf : bX11_isWord_39 X.2.1 n S v0 v1 s39 = some o) (hN : ∀ s', o = .inl s' → UW C X S 39 [(0, .ref (X.1 v0)), (1, .ref (gK (cG C) v1)), (2, .int s'.1), (3, .int s'.2)] []) (hO0 : ∀ p', o = .inr p' → UW C X S 82 [(2, .int p')] []) : UW C X S 39 [(0, .ref (X.1 v0)), (1, .ref (gK (cG C) v1)), (2, .int s39.1), (3, .int s39.2)] [] := by
  unfold bX11_isWord_39 at hf
  refine u_iload_n hC dX11_isWord_39 2 rfl rfl ?_
  refine u_if_eq (tgt := 82) hC dX11_isWord_40 (by decide) hf (fun h40 hf => ?_) (fun h40 hf => ?_)
  · refine u_sub (lv' := [(2, .int s39.1)]) [2] rfl ?_
    exact hO0 _ (Option.some.inj hf).symm
  · refine u_iload_n hC dX11_isWord_43 3 rfl rfl ?_
    refine u_aload_n hC dX11_isWord_44 1 rfl rfl ?_
    refine u_slen hC lk_X11_355 hTv1 (by decide) (Nat.le_of_ble_eq_true rfl) dX11_isWord_45 ?_
    refine u_icmp_ge (tgt := 82) hC dX11_isWord_48 (by decide) hf (fun h48 hf => ?_) (fun h48 hf => ?_)
    · refine u_sub (lv' := [(2, .int s39.1)]) [2] rfl ?_
      exact hO0 _ (Option.some.inj hf).symm
    · refine u_aload_n hC dX11_isWord_51 1 rfl rfl ?_
      refine u_iload_n hC dX11_isWord_52 3 rfl rfl ?_
      refine u_sch hC lk_X11_360 hTv1 (by decide) (Nat.le_of_ble_eq_true rfl) dX11_isWord_53 hf (fun x53 hf => ?_)
      refine u_aload_n hC dX11_isWord_56 0 rfl rfl ?_
      refine u_gr hC lf_X11_63 rfl hTv0 dX11_isWord_57 hf (fun b57 hTb57 hf => ?_)
      refine u_aload_n hC dX11_isWord_60 0 rfl rfl ?_
      refine u_gi hC lf_X11_337 rfl hTv0 dX11_isWord_61 hf (fun x61 hf => ?_)
      refine u_iload_n hC dX11_isWord_64 3 rfl rfl ?_
      refine u_iadd hC dX11_isWord_65 ?_
      refine u_ai hC hTb57 dX11_isWord_66 hf (fun x66 hf => ?_)
      refine u_icmp_ne (tgt := 74) hC dX11_isWord_67 (by decide) hf (fun h67 hf => ?_) (fun h67 hf => ?_)
      · refine u_iconst (v := (0 : Int32)) hC dX11_isWord_74 (by decide) ?_
        refine u_sub (lv' := [(0, .ref (X.1 v0)), (1, .ref (gK (cG C) v1)), (3, .int s39.2)]) [0, 1, 3] rfl ?_
        exact wjX11_isWord_75_39 hC n S v0 v1 s39.2 (0 : Int32)  hTv0 hTv1 hf hN hO0
      · refine u_iconst (v := (1 : Int32)) hC dX11_isWord_70 (by decide) ?_
        refine u_goto (tgt := 75) hC dX11_isWord_71 (by decide) ?_
        refine u_sub (lv' := [(0, .ref (X.1 v0)), (1, .ref (gK (cG C) v1)), (3, .int s39.2)]) [0, 1, 3] rfl ?_
        exact wjX11_isWord_75_39 hC n S v0 v1 s39.2 (1 : Int32)  hTv0 hTv1 hf hN hO0
theorem wjX11_isWord_82 {C : CT} {X : XT} (hC : CK C RX11 cX11_isWord 4 (some .boolean) 5) (n : Nat) (S : PS) (v2 : Int32)   {o : Int32} (hf : jX11_isWord_82 X.2.1 n S v2 = some o) (hR : Rt C X cX11_isWord (some .boolean) (some (.int o)) S) : UW C X S 82 [(2, .int v2)] [] := by
  unfold jX11_isWord_82 at hf
  refine u_iload_n hC dX11_isWord_82 0 rfl rfl ?_
  obtain ⟨hz, hf⟩ := kzr_some hf
  cases hf
  exact hR _ _ dX11_isWord_83 hz
theorem wjX11_isWord_36 {C : CT} {X : XT} (hC : CK C RX11 cX11_isWord 4 (some .boolean) 5) (n : Nat) (S : PS) (v0 : Nat) (v1 : Nat) (t0 : Int32)  (hTv0 : Ty X.2.1 v0 11) (hTv1 : v1 < nStr) {o : Int32} (hf : jX11_isWord_36 X.2.1 n S v0 v1 t0 = some o) (hR : Rt C X cX11_isWord (some .boolean) (some (.int o)) S) : UW C X S 36 [(0, .ref (X.1 v0)), (1, .ref (gK (cG C) v1))] [.int t0] := by
  unfold jX11_isWord_36 at hf
  refine u_istore_n (lv' := [(2, .int t0), (0, .ref (X.1 v0)), (1, .ref (gK (cG C) v1))]) hC dX11_isWord_36 rfl (by decide) rfl ?_
  refine u_iconst (v := (0 : Int32)) hC dX11_isWord_37 (by decide) ?_
  refine u_istore_n (lv' := [(3, .int (0 : Int32)), (2, .int t0), (0, .ref (X.1 v0)), (1, .ref (gK (cG C) v1))]) hC dX11_isWord_38 rfl (by decide) rfl ?_
  obtain ⟨r39, hr39, hf⟩ := kc_some hf
  have hk39 : UW C X S 82 [(2, .int r39)] [] := by
    exact wjX11_isWord_82 hC n S r39   hf hR
  refine u_sub (lv' := [(0, .ref (X.1 v0)), (1, .ref (gK (cG C) v1)), (2, .int t0), (3, .int (0 : Int32))]) [2, 3, 1, 0] rfl ?_
  refine iter_ind (P := fun s39 => UW C X S 39 [(0, .ref (X.1 v0)), (1, .ref (gK (cG C) v1)), (2, .int s39.1), (3, .int s39.2)] []) (fun s39 o' hb hin hout => ?_) n (t0, (0 : Int32)) hr39
  exact wbX11_isWord_39 hC n S v0 v1 hTv0 hTv1 s39 hb hin (fun p e => by rw [hout p e]; exact hk39)
theorem wjX11_isWord_35 {C : CT} {X : XT} (hC : CK C RX11 cX11_isWord 4 (some .boolean) 5) (n : Nat) (S : PS) (v0 : Nat) (v1 : Nat)  (hTv0 : Ty X.2.1 v0 11) (hTv1 : v1 < nStr) {o : Int32} (hf : jX11_isWord_35 X.2.1 n S v0 v1 = some o) (hR : Rt C X cX11_isWord (some .boolean) (some (.int o)) S) : UW C X S 35 [(0, .ref (X.1 v0)), (1, .ref (gK (cG C) v1))] [] := by
  unfold jX11_isWord_35 at hf
  refine u_iconst (v := (0 : Int32)) hC dX11_isWord_35 (by decide) ?_
  exact wjX11_isWord_36 hC n S v0 v1 (0 : Int32)  hTv0 hTv1 hf hR
theorem wX11_isWord {C : CT} {X : XT} (hC : CK C RX11 cX11_isWord 4 (some .boolean) 5) (n : Nat) (S : PS) (a0 : Nat) (i1 : Nat) (hTa0 : Ty X.2.1 a0 11) (hTi1 : i1 < nStr) {o : Int32} (hf : fX11_isWord X.2.1 n S a0 i1 = some o) (hR : Rt C X cX11_isWord (some .boolean) (some (.int o)) S) : UW C X S 0 [(0, .ref (X.1 a0)), (1, .ref (gK (cG C) i1))] [] := by
  unfold fX11_isWord at hf
  refine u_aload_n hC dX11_isWord_0 0 rfl rfl ?_
  refine u_gi hC lf_X11_346 rfl hTa0 dX11_isWord_1 hf (fun x1 hf => ?_)
  refine u_if_ne (tgt := 35) hC dX11_isWord_4 (by decide) hf (fun h4 hf => ?_) (fun h4 hf => ?_)
  · exact wjX11_isWord_35 hC n S a0 i1  hTa0 hTi1 hf hR
  · refine u_aload_n hC dX11_isWord_7 0 rfl rfl ?_
    refine u_gi hC lf_X11_340 rfl hTa0 dX11_isWord_8 hf (fun x8 hf => ?_)
    refine u_iconst (v := (1 : Int32)) hC dX11_isWord_11 (by decide) ?_
    refine u_icmp_ne (tgt := 35) hC dX11_isWord_12 (by decide) hf (fun h12 hf => ?_) (fun h12 hf => ?_)
    · exact wjX11_isWord_35 hC n S a0 i1  hTa0 hTi1 hf hR
    · refine u_aload_n hC dX11_isWord_15 1 rfl rfl ?_
      refine u_slen hC lk_X11_355 hTi1 (by decide) (Nat.le_of_ble_eq_true rfl) dX11_isWord_16 ?_
      refine u_aload_n hC dX11_isWord_19 0 rfl rfl ?_
      refine u_gi hC lf_X11_343 rfl hTa0 dX11_isWord_20 hf (fun x20 hf => ?_)
      refine u_aload_n hC dX11_isWord_23 0 rfl rfl ?_
      refine u_gi hC lf_X11_337 rfl hTa0 dX11_isWord_24 hf (fun x24 hf => ?_)
      refine u_isub hC dX11_isWord_27 ?_
      refine u_icmp_ne (tgt := 35) hC dX11_isWord_28 (by decide) hf (fun h28 hf => ?_) (fun h28 hf => ?_)
      · exact wjX11_isWord_35 hC n S a0 i1  hTa0 hTi1 hf hR
      · refine u_iconst (v := (1 : Int32)) hC dX11_isWord_31 (by decide) ?_
        refine u_goto (tgt := 36) hC dX11_isWord_32 (by decide) ?_
        exact wjX11_isWord_36 hC n S a0 i1 (1 : Int32)  hTa0 hTi1 hf hR
theorem ctX11_isWord (l : Launch) (hl : l.stackTraces = false) (G : GT) (ρ : Nat → Nat) (Y : XS) (n : Nat) (S : PS) (a0 : Nat) (i1 : Nat) (hTa0 : Ty Y a0 11) (hTi1 : i1 < nStr) {o : Int32} (hf : fX11_isWord Y n S a0 i1 = some o) : Mt l G yX11_isWord cX11_isWord 4 (some .boolean) 5 ρ Y [.ref (ρ a0), .ref (gK G i1)] S (some (.int o)) S :=
  Mt_of hl (by decide) (Nat.le_of_ble_eq_true rfl) (fun C _ h2 hC hR => by subst h2; exact wX11_isWord (X := (ρ, Y, 0, 0)) hC n S a0 i1 hTa0 hTi1 hf hR)
-- X11_must
theorem dX11_must_0 : decode cX11_must 0 = .ok (.aload_n 0, 1) := by decide +kernel
theorem dX11_must_1 : decode cX11_must 1 = .ok (.iload_n 1, 1) := by decide +kernel
theorem dX11_must_2 : decode cX11_must 2 = .ok (.invokevirtual 364, 3) := by decide +kernel
theorem dX11_must_5 : decode cX11_must 5 = .ok (.ifCond .ne 8, 3) := by decide +kernel
theorem dX11_must_8 : decode cX11_must 8 = .ok (.aload_n 0, 1) := by decide +kernel
theorem dX11_must_9 : decode cX11_must 9 = .ok (.iconst 1, 1) := by decide +kernel
theorem dX11_must_10 : decode cX11_must 10 = .ok (.invokevirtual 367, 3) := by decide +kernel
theorem dX11_must_13 : decode cX11_must 13 = .ok (.aload_n 0, 1) := by decide +kernel
theorem dX11_must_14 : decode cX11_must 14 = .ok (.invokevirtual 370, 3) := by decide +kernel
theorem dX11_must_17 : decode cX11_must 17 = .ok (.return_, 1) := by decide +kernel
def jX11_must_13 (Y : XS) (n : Nat) (S : PS) (v0 : Nat) : Option (PS) :=
  kc (fX11_pass Y n S v0) (fun q14 => some q14)
def fX11_must (Y : XS) (n : Nat) (S : PS) (a0 : Nat) (x1_ : Int32) : Option (PS) :=
  kc (fX11_isSign Y n S a0 x1_) (fun q2 => (if q2 = 0 then kc (fX11_wrong Y n S a0 (1 : Int32)) (fun q10 => jX11_must_13 Y n q10 a0) else jX11_must_13 Y n S a0))
theorem wjX11_must_13 {C : CT} {X : XT} (hC : CK C RX11 cX11_must 2 none 4) (n : Nat) (S : PS) (v0 : Nat)  (hTv0 : Ty X.2.1 v0 11) {o : PS} (hf : jX11_must_13 X.2.1 n S v0 = some o) (hR : Rt C X cX11_must none none o) : UW C X S 13 [(0, .ref (X.1 v0))] [] := by
  unfold jX11_must_13 at hf
  refine u_aload_n hC dX11_must_13 0 rfl rfl ?_
  obtain ⟨q14, hq14, hf⟩ := kc_some hf
  refine u_callV hC (ctX11_pass (cL C) hC.tr (cG C) X.1 X.2.1 n S v0 hTv0 hq14) lk_X11_370 rfl hTv0 (by decide) rfl (by decide) (by decide) rfl rfl (Nat.le_of_ble_eq_true rfl) dX11_must_14 ?_
  cases hf
  exact hR _ _ dX11_must_17 trivial
theorem wX11_must {C : CT} {X : XT} (hC : CK C RX11 cX11_must 2 none 4) (n : Nat) (S : PS) (a0 : Nat) (x1_ : Int32) (hTa0 : Ty X.2.1 a0 11) {o : PS} (hf : fX11_must X.2.1 n S a0 x1_ = some o) (hR : Rt C X cX11_must none none o) : UW C X S 0 [(0, .ref (X.1 a0)), (1, .int x1_)] [] := by
  unfold fX11_must at hf
  refine u_aload_n hC dX11_must_0 0 rfl rfl ?_
  refine u_iload_n hC dX11_must_1 1 rfl rfl ?_
  obtain ⟨q2, hq2, hf⟩ := kc_some hf
  refine u_callV hC (ctX11_isSign (cL C) hC.tr (cG C) X.1 X.2.1 n S a0 x1_ hTa0 hq2) lk_X11_364 rfl hTa0 (by decide) rfl (by decide) (by decide) rfl rfl (Nat.le_of_ble_eq_true rfl) dX11_must_2 ?_
  refine u_if_ne (tgt := 13) hC dX11_must_5 (by decide) hf (fun h5 hf => ?_) (fun h5 hf => ?_)
  · refine u_sub (lv' := [(0, .ref (X.1 a0))]) [0] rfl ?_
    exact wjX11_must_13 hC n S a0  hTa0 hf hR
  · refine u_aload_n hC dX11_must_8 0 rfl rfl ?_
    refine u_iconst (v := (1 : Int32)) hC dX11_must_9 (by decide) ?_
    obtain ⟨q10, hq10, hf⟩ := kc_some hf
    refine u_callV hC (ctX11_wrong (cL C) hC.tr (cG C) X.1 X.2.1 n S a0 (1 : Int32) hTa0 hq10) lk_X11_367 rfl hTa0 (by decide) rfl (by decide) (by decide) rfl rfl (Nat.le_of_ble_eq_true rfl) dX11_must_10 ?_
    refine u_sub (lv' := [(0, .ref (X.1 a0))]) [0] rfl ?_
    exact wjX11_must_13 hC n q10 a0  hTa0 hf hR
theorem ctX11_must (l : Launch) (hl : l.stackTraces = false) (G : GT) (ρ : Nat → Nat) (Y : XS) (n : Nat) (S : PS) (a0 : Nat) (x1_ : Int32) (hTa0 : Ty Y a0 11) {o : PS} (hf : fX11_must Y n S a0 x1_ = some o) : Mt l G yX11_must cX11_must 2 none 4 ρ Y [.ref (ρ a0), .int x1_] S none o :=
  Mt_of hl (by decide) (Nat.le_of_ble_eq_true rfl) (fun C _ _ hC hR => wX11_must (X := (ρ, Y, 0, 0)) hC n S a0 x1_ hTa0 hf hR)
-- X11_numberHere
theorem dX11_numberHere_0 : decode cX11_numberHere 0 = .ok (.aload_n 0, 1) := by decide +kernel
theorem dX11_numberHere_1 : decode cX11_numberHere 1 = .ok (.getfield 346, 3) := by decide +kernel
theorem dX11_numberHere_4 : decode cX11_numberHere 4 = .ok (.ifCond .ne 16, 3) := by decide +kernel
theorem dX11_numberHere_7 : decode cX11_numberHere 7 = .ok (.aload_n 0, 1) := by decide +kernel
theorem dX11_numberHere_8 : decode cX11_numberHere 8 = .ok (.getfield 340, 3) := by decide +kernel
theorem dX11_numberHere_11 : decode cX11_numberHere 11 = .ok (.iconst 2, 1) := by decide +kernel
theorem dX11_numberHere_12 : decode cX11_numberHere 12 = .ok (.if_icmp .eq 8, 3) := by decide +kernel
theorem dX11_numberHere_15 : decode cX11_numberHere 15 = .ok (.aload_n 0, 1) := by decide +kernel
theorem dX11_numberHere_16 : decode cX11_numberHere 16 = .ok (.iconst 1, 1) := by decide +kernel
theorem dX11_numberHere_17 : decode cX11_numberHere 17 = .ok (.invokevirtual 367, 3) := by decide +kernel
theorem dX11_numberHere_20 : decode cX11_numberHere 20 = .ok (.iconst 0, 1) := by decide +kernel
theorem dX11_numberHere_21 : decode cX11_numberHere 21 = .ok (.istore_n 3, 1) := by decide +kernel
theorem dX11_numberHere_22 : decode cX11_numberHere 22 = .ok (.aload_n 0, 1) := by decide +kernel
theorem dX11_numberHere_23 : decode cX11_numberHere 23 = .ok (.getfield 337, 3) := by decide +kernel
theorem dX11_numberHere_26 : decode cX11_numberHere 26 = .ok (.istore 4, 2) := by decide +kernel
theorem dX11_numberHere_28 : decode cX11_numberHere 28 = .ok (.aload_n 0, 1) := by decide +kernel
theorem dX11_numberHere_29 : decode cX11_numberHere 29 = .ok (.getfield 346, 3) := by decide +kernel
theorem dX11_numberHere_32 : decode cX11_numberHere 32 = .ok (.ifCond .ne 40, 3) := by decide +kernel
theorem dX11_numberHere_35 : decode cX11_numberHere 35 = .ok (.iload 4, 2) := by decide +kernel
theorem dX11_numberHere_37 : decode cX11_numberHere 37 = .ok (.aload_n 0, 1) := by decide +kernel
theorem dX11_numberHere_38 : decode cX11_numberHere 38 = .ok (.getfield 343, 3) := by decide +kernel
theorem dX11_numberHere_41 : decode cX11_numberHere 41 = .ok (.if_icmp .ge 31, 3) := by decide +kernel
theorem dX11_numberHere_44 : decode cX11_numberHere 44 = .ok (.ldc_w 373, 3) := by decide +kernel
theorem dX11_numberHere_47 : decode cX11_numberHere 47 = .ok (.bipush 10, 2) := by decide +kernel
theorem dX11_numberHere_49 : decode cX11_numberHere 49 = .ok (.iload_n 3, 1) := by decide +kernel
theorem dX11_numberHere_50 : decode cX11_numberHere 50 = .ok (.imul, 1) := by decide +kernel
theorem dX11_numberHere_51 : decode cX11_numberHere 51 = .ok (.aload_n 0, 1) := by decide +kernel
theorem dX11_numberHere_52 : decode cX11_numberHere 52 = .ok (.getfield 63, 3) := by decide +kernel
theorem dX11_numberHere_55 : decode cX11_numberHere 55 = .ok (.iload 4, 2) := by decide +kernel
theorem dX11_numberHere_57 : decode cX11_numberHere 57 = .ok (.iaload, 1) := by decide +kernel
theorem dX11_numberHere_58 : decode cX11_numberHere 58 = .ok (.iadd, 1) := by decide +kernel
theorem dX11_numberHere_59 : decode cX11_numberHere 59 = .ok (.bipush 48, 2) := by decide +kernel
theorem dX11_numberHere_61 : decode cX11_numberHere 61 = .ok (.isub, 1) := by decide +kernel
theorem dX11_numberHere_62 : decode cX11_numberHere 62 = .ok (.invokestatic 111, 3) := by decide +kernel
theorem dX11_numberHere_65 : decode cX11_numberHere 65 = .ok (.istore_n 3, 1) := by decide +kernel
theorem dX11_numberHere_66 : decode cX11_numberHere 66 = .ok (.iinc 4 1, 3) := by decide +kernel
theorem dX11_numberHere_69 : decode cX11_numberHere 69 = .ok (.goto (-41), 3) := by decide +kernel
theorem dX11_numberHere_72 : decode cX11_numberHere 72 = .ok (.aload_n 0, 1) := by decide +kernel
theorem dX11_numberHere_73 : decode cX11_numberHere 73 = .ok (.getfield 346, 3) := by decide +kernel
theorem dX11_numberHere_76 : decode cX11_numberHere 76 = .ok (.ifCond .ne 17, 3) := by decide +kernel
theorem dX11_numberHere_79 : decode cX11_numberHere 79 = .ok (.iload_n 3, 1) := by decide +kernel
theorem dX11_numberHere_80 : decode cX11_numberHere 80 = .ok (.iload_n 1, 1) := by decide +kernel
theorem dX11_numberHere_81 : decode cX11_numberHere 81 = .ok (.iload_n 2, 1) := by decide +kernel
theorem dX11_numberHere_82 : decode cX11_numberHere 82 = .ok (.invokestatic 81, 3) := by decide +kernel
theorem dX11_numberHere_85 : decode cX11_numberHere 85 = .ok (.ifCond .ne 8, 3) := by decide +kernel
theorem dX11_numberHere_88 : decode cX11_numberHere 88 = .ok (.aload_n 0, 1) := by decide +kernel
theorem dX11_numberHere_89 : decode cX11_numberHere 89 = .ok (.iconst 2, 1) := by decide +kernel
theorem dX11_numberHere_90 : decode cX11_numberHere 90 = .ok (.invokevirtual 367, 3) := by decide +kernel
theorem dX11_numberHere_93 : decode cX11_numberHere 93 = .ok (.iload_n 3, 1) := by decide +kernel
theorem dX11_numberHere_94 : decode cX11_numberHere 94 = .ok (.ireturn, 1) := by decide +kernel
def bX11_numberHere_28 (Y : XS) (n : Nat) (S : PS) (v0 : Nat) (v1 : Int32) (v2 : Int32) (s28 : (Int32 × Int32)) : Option ((Int32 × Int32) ⊕ Int32) :=
  kgi S v0 34 (fun x29 => (if x29 = 0 then kgi S v0 33 (fun x38 => (if x38 ≤ s28.2 then some (.inr s28.1) else kgr S v0 27 (fun b52 => kai Y S b52 s28.2 (fun x57 => some (.inl (imin (1000000 : Int32) ((((10 : Int32) * s28.1) + x57) - (48 : Int32)), s28.2 + (1 : Int32))))))) else some (.inr s28.1)))
def jX11_numberHere_93 (Y : XS) (n : Nat) (S : PS) (v3 : Int32) : Option (Int32 × PS) :=
  some (v3, S)
def jX11_numberHere_72 (Y : XS) (n : Nat) (S : PS) (v0 : Nat) (v1 : Int32) (v2 : Int32) (v3 : Int32) : Option (Int32 × PS) :=
  kgi S v0 34 (fun x73 => (if x73 = 0 then kc (fX11_isIn Y n S v3 v1 v2) (fun q82 => (if q82 = 0 then kc (fX11_wrong Y n S v0 (2 : Int32)) (fun q90 => jX11_numberHere_93 Y n q90 v3) else jX11_numberHere_93 Y n S v3)) else jX11_numberHere_93 Y n S v3))
def jX11_numberHere_20 (Y : XS) (n : Nat) (S : PS) (v0 : Nat) (v1 : Int32) (v2 : Int32) : Option (Int32 × PS) :=
  kgi S v0 32 (fun x23 => kc (iter (bX11_numberHere_28 Y n S v0 v1 v2) n ((0 : Int32), x23)) (fun r28 => jX11_numberHere_72 Y n S v0 v1 v2 r28))
def fX11_numberHere (Y : XS) (n : Nat) (S : PS) (a0 : Nat) (x1_ : Int32) (x2_ : Int32) : Option (Int32 × PS) :=
  kgi S a0 34 (fun x1 => (if x1 = 0 then kgi S a0 31 (fun x8 => (if x8 = (2 : Int32) then jX11_numberHere_20 Y n S a0 x1_ x2_ else kc (fX11_wrong Y n S a0 (1 : Int32)) (fun q17 => jX11_numberHere_20 Y n q17 a0 x1_ x2_))) else jX11_numberHere_20 Y n S a0 x1_ x2_))
theorem wbX11_numberHere_28 {C : CT} {X : XT} (hC : CK C RX11 cX11_numberHere 5 (some .int) 2) (n : Nat) (S : PS) (v0 : Nat) (v1 : Int32) (v2 : Int32) (hTv0 : Ty X.2.1 v0 11) (s28 : (Int32 × Int32)) {o : (Int32 × Int32) ⊕ Int32} (hf : bX11_numberHere_28 X.2.1 n S v0 v1 v2 s28 = some o) (hN : ∀ s', o = .inl s' → UW C X S 28 [(0, .ref (X.1 v0)), (1, .int v1), (2, .int v2), (3, .int s'.1), (4, .int s'.2)] []) (hO0 : ∀ p', o = .inr p' → UW C X S 72 [(0, .ref (X.1 v0)), (1, .int v1), (2, .int v2), (3, .int p')] []) : UW C X S 28 [(0, .ref (X.1 v0)), (1, .int v1), (2, .int v2), (3, .int s28.1), (4, .int s28.2)] [] := by
  unfold bX11_numberHere_28 at hf
  refine u_aload_n hC dX11_numberHere_28 0 rfl rfl ?_
  refine u_gi hC lf_X11_346 rfl hTv0 dX11_numberHere_29 hf (fun x29 hf => ?_)
  refine u_if_ne (tgt := 72) hC dX11_numberHere_32 (by decide) hf (fun h32 hf => ?_) (fun h32 hf => ?_)
  · refine u_sub (lv' := [(0, .ref (X.1 v0)), (1, .int v1), (2, .int v2), (3, .int s28.1)]) [0, 1, 2, 3] rfl ?_
    exact hO0 _ (Option.some.inj hf).symm
  · refine u_iload hC dX11_numberHere_35 4 rfl ?_
    refine u_aload_n hC dX11_numberHere_37 0 rfl rfl ?_
    refine u_gi hC lf_X11_343 rfl hTv0 dX11_numberHere_38 hf (fun x38 hf => ?_)
    refine u_icmp_ge (tgt := 72) hC dX11_numberHere_41 (by decide) hf (fun h41 hf => ?_) (fun h41 hf => ?_)
    · refine u_sub (lv' := [(0, .ref (X.1 v0)), (1, .int v1), (2, .int v2), (3, .int s28.1)]) [0, 1, 2, 3] rfl ?_
      exact hO0 _ (Option.some.inj hf).symm
    · refine u_ldcw (v := (1000000 : Int32)) hC dX11_numberHere_44 (tb_8 73 rfl rfl) ?_
      refine u_bipush (v := (10 : Int32)) hC dX11_numberHere_47 (by decide) ?_
      refine u_iload_n hC dX11_numberHere_49 3 rfl rfl ?_
      refine u_imul hC dX11_numberHere_50 ?_
      refine u_aload_n hC dX11_numberHere_51 0 rfl rfl ?_
      refine u_gr hC lf_X11_63 rfl hTv0 dX11_numberHere_52 hf (fun b52 hTb52 hf => ?_)
      refine u_iload hC dX11_numberHere_55 4 rfl ?_
      refine u_ai hC hTb52 dX11_numberHere_57 hf (fun x57 hf => ?_)
      refine u_iadd hC dX11_numberHere_58 ?_
      refine u_bipush (v := (48 : Int32)) hC dX11_numberHere_59 (by decide) ?_
      refine u_isub hC dX11_numberHere_61 ?_
      refine u_mmin hC (tb_6 226 rfl rfl) (by decide) (Nat.le_of_ble_eq_true rfl) dX11_numberHere_62 ?_
      refine u_istore_n (lv' := [(3, .int (imin (1000000 : Int32) ((((10 : Int32) * s28.1) + x57) - (48 : Int32)))), (0, .ref (X.1 v0)), (1, .int v1), (2, .int v2), (4, .int s28.2)]) hC dX11_numberHere_65 rfl (by decide) rfl ?_
      refine u_iinc (v := s28.2 + (1 : Int32)) (lv' := [(4, .int (s28.2 + (1 : Int32))), (3, .int (imin (1000000 : Int32) ((((10 : Int32) * s28.1) + x57) - (48 : Int32)))), (0, .ref (X.1 v0)), (1, .int v1), (2, .int v2)]) hC dX11_numberHere_66 4 rfl rfl (by decide) rfl ?_
      refine u_goto (tgt := 28) hC dX11_numberHere_69 (by decide) ?_
      refine u_sub (lv' := [(0, .ref (X.1 v0)), (1, .int v1), (2, .int v2), (3, .int (imin (1000000 : Int32) ((((10 : Int32) * s28.1) + x57) - (48 : Int32)))), (4, .int (s28.2 + (1 : Int32)))]) [2, 3, 4, 1, 0] rfl ?_
      exact hN _ (Option.some.inj hf).symm
theorem wjX11_numberHere_93 {C : CT} {X : XT} (hC : CK C RX11 cX11_numberHere 5 (some .int) 2) (n : Nat) (S : PS) (v3 : Int32)   {o : Int32 × PS} (hf : jX11_numberHere_93 X.2.1 n S v3 = some o) (hR : Rt C X cX11_numberHere (some .int) (some (.int o.1)) o.2) : UW C X S 93 [(3, .int v3)] [] := by
  unfold jX11_numberHere_93 at hf
  refine u_iload_n hC dX11_numberHere_93 0 rfl rfl ?_
  cases hf
  exact hR _ _ dX11_numberHere_94 trivial
theorem wjX11_numberHere_72 {C : CT} {X : XT} (hC : CK C RX11 cX11_numberHere 5 (some .int) 2) (n : Nat) (S : PS) (v0 : Nat) (v1 : Int32) (v2 : Int32) (v3 : Int32)  (hTv0 : Ty X.2.1 v0 11) {o : Int32 × PS} (hf : jX11_numberHere_72 X.2.1 n S v0 v1 v2 v3 = some o) (hR : Rt C X cX11_numberHere (some .int) (some (.int o.1)) o.2) : UW C X S 72 [(0, .ref (X.1 v0)), (1, .int v1), (2, .int v2), (3, .int v3)] [] := by
  unfold jX11_numberHere_72 at hf
  refine u_aload_n hC dX11_numberHere_72 0 rfl rfl ?_
  refine u_gi hC lf_X11_346 rfl hTv0 dX11_numberHere_73 hf (fun x73 hf => ?_)
  refine u_if_ne (tgt := 93) hC dX11_numberHere_76 (by decide) hf (fun h76 hf => ?_) (fun h76 hf => ?_)
  · refine u_sub (lv' := [(3, .int v3)]) [3] rfl ?_
    exact wjX11_numberHere_93 hC n S v3   hf hR
  · refine u_iload_n hC dX11_numberHere_79 3 rfl rfl ?_
    refine u_iload_n hC dX11_numberHere_80 1 rfl rfl ?_
    refine u_iload_n hC dX11_numberHere_81 2 rfl rfl ?_
    obtain ⟨q82, hq82, hf⟩ := kc_some hf
    refine u_callS hC (ctX11_isIn (cL C) hC.tr (cG C) X.1 X.2.1 n S v3 v1 v2  hq82) lk_X11_81 (by decide) (by decide) rfl rfl (Nat.le_of_ble_eq_true rfl) dX11_numberHere_82 ?_
    refine u_if_ne (tgt := 93) hC dX11_numberHere_85 (by decide) hf (fun h85 hf => ?_) (fun h85 hf => ?_)
    · refine u_sub (lv' := [(3, .int v3)]) [3] rfl ?_
      exact wjX11_numberHere_93 hC n S v3   hf hR
    · refine u_aload_n hC dX11_numberHere_88 0 rfl rfl ?_
      refine u_iconst (v := (2 : Int32)) hC dX11_numberHere_89 (by decide) ?_
      obtain ⟨q90, hq90, hf⟩ := kc_some hf
      refine u_callV hC (ctX11_wrong (cL C) hC.tr (cG C) X.1 X.2.1 n S v0 (2 : Int32) hTv0 hq90) lk_X11_367 rfl hTv0 (by decide) rfl (by decide) (by decide) rfl rfl (Nat.le_of_ble_eq_true rfl) dX11_numberHere_90 ?_
      refine u_sub (lv' := [(3, .int v3)]) [3] rfl ?_
      exact wjX11_numberHere_93 hC n q90 v3   hf hR
theorem wjX11_numberHere_20 {C : CT} {X : XT} (hC : CK C RX11 cX11_numberHere 5 (some .int) 2) (n : Nat) (S : PS) (v0 : Nat) (v1 : Int32) (v2 : Int32)  (hTv0 : Ty X.2.1 v0 11) {o : Int32 × PS} (hf : jX11_numberHere_20 X.2.1 n S v0 v1 v2 = some o) (hR : Rt C X cX11_numberHere (some .int) (some (.int o.1)) o.2) : UW C X S 20 [(0, .ref (X.1 v0)), (1, .int v1), (2, .int v2)] [] := by
  unfold jX11_numberHere_20 at hf
  refine u_iconst (v := (0 : Int32)) hC dX11_numberHere_20 (by decide) ?_
  refine u_istore_n (lv' := [(3, .int (0 : Int32)), (0, .ref (X.1 v0)), (1, .int v1), (2, .int v2)]) hC dX11_numberHere_21 rfl (by decide) rfl ?_
  refine u_aload_n hC dX11_numberHere_22 1 rfl rfl ?_
  refine u_gi hC lf_X11_337 rfl hTv0 dX11_numberHere_23 hf (fun x23 hf => ?_)
  refine u_istore (lv' := [(4, .int x23), (3, .int (0 : Int32)), (0, .ref (X.1 v0)), (1, .int v1), (2, .int v2)]) hC dX11_numberHere_26 (by decide) rfl ?_
  obtain ⟨r28, hr28, hf⟩ := kc_some hf
  have hk28 : UW C X S 72 [(0, .ref (X.1 v0)), (1, .int v1), (2, .int v2), (3, .int r28)] [] := by
    exact wjX11_numberHere_72 hC n S v0 v1 v2 r28  hTv0 hf hR
  refine u_sub (lv' := [(0, .ref (X.1 v0)), (1, .int v1), (2, .int v2), (3, .int (0 : Int32)), (4, .int x23)]) [2, 3, 4, 1, 0] rfl ?_
  refine iter_ind (P := fun s28 => UW C X S 28 [(0, .ref (X.1 v0)), (1, .int v1), (2, .int v2), (3, .int s28.1), (4, .int s28.2)] []) (fun s28 o' hb hin hout => ?_) n ((0 : Int32), x23) hr28
  exact wbX11_numberHere_28 hC n S v0 v1 v2 hTv0 s28 hb hin (fun p e => by rw [hout p e]; exact hk28)
theorem wX11_numberHere {C : CT} {X : XT} (hC : CK C RX11 cX11_numberHere 5 (some .int) 2) (n : Nat) (S : PS) (a0 : Nat) (x1_ : Int32) (x2_ : Int32) (hTa0 : Ty X.2.1 a0 11) {o : Int32 × PS} (hf : fX11_numberHere X.2.1 n S a0 x1_ x2_ = some o) (hR : Rt C X cX11_numberHere (some .int) (some (.int o.1)) o.2) : UW C X S 0 [(0, .ref (X.1 a0)), (1, .int x1_), (2, .int x2_)] [] := by
  unfold fX11_numberHere at hf
  refine u_aload_n hC dX11_numberHere_0 0 rfl rfl ?_
  refine u_gi hC lf_X11_346 rfl hTa0 dX11_numberHere_1 hf (fun x1 hf => ?_)
  refine u_if_ne (tgt := 20) hC dX11_numberHere_4 (by decide) hf (fun h4 hf => ?_) (fun h4 hf => ?_)
  · exact wjX11_numberHere_20 hC n S a0 x1_ x2_  hTa0 hf hR
  · refine u_aload_n hC dX11_numberHere_7 0 rfl rfl ?_
    refine u_gi hC lf_X11_340 rfl hTa0 dX11_numberHere_8 hf (fun x8 hf => ?_)
    refine u_iconst (v := (2 : Int32)) hC dX11_numberHere_11 (by decide) ?_
    refine u_icmp_eq (tgt := 20) hC dX11_numberHere_12 (by decide) hf (fun h12 hf => ?_) (fun h12 hf => ?_)
    · exact wjX11_numberHere_20 hC n S a0 x1_ x2_  hTa0 hf hR
    · refine u_aload_n hC dX11_numberHere_15 0 rfl rfl ?_
      refine u_iconst (v := (1 : Int32)) hC dX11_numberHere_16 (by decide) ?_
      obtain ⟨q17, hq17, hf⟩ := kc_some hf
      refine u_callV hC (ctX11_wrong (cL C) hC.tr (cG C) X.1 X.2.1 n S a0 (1 : Int32) hTa0 hq17) lk_X11_367 rfl hTa0 (by decide) rfl (by decide) (by decide) rfl rfl (Nat.le_of_ble_eq_true rfl) dX11_numberHere_17 ?_
      exact wjX11_numberHere_20 hC n q17 a0 x1_ x2_  hTa0 hf hR
theorem ctX11_numberHere (l : Launch) (hl : l.stackTraces = false) (G : GT) (ρ : Nat → Nat) (Y : XS) (n : Nat) (S : PS) (a0 : Nat) (x1_ : Int32) (x2_ : Int32) (hTa0 : Ty Y a0 11) {o : Int32 × PS} (hf : fX11_numberHere Y n S a0 x1_ x2_ = some o) : Mt l G yX11_numberHere cX11_numberHere 5 (some .int) 2 ρ Y [.ref (ρ a0), .int x1_, .int x2_] S (some (.int o.1)) o.2 :=
  Mt_of hl (by decide) (Nat.le_of_ble_eq_true rfl) (fun C _ _ hC hR => wX11_numberHere (X := (ρ, Y, 0, 0)) hC n S a0 x1_ x2_ hTa0 hf hR)
-- X11_number
theorem dX11_number_0 : decode cX11_number 0 = .ok (.aload_n 0, 1) := by decide +kernel
theorem dX11_number_1 : decode cX11_number 1 = .ok (.iload_n 1, 1) := by decide +kernel
theorem dX11_number_2 : decode cX11_number 2 = .ok (.iload_n 2, 1) := by decide +kernel
theorem dX11_number_3 : decode cX11_number 3 = .ok (.invokevirtual 374, 3) := by decide +kernel
theorem dX11_number_6 : decode cX11_number 6 = .ok (.istore_n 3, 1) := by decide +kernel
theorem dX11_number_7 : decode cX11_number 7 = .ok (.aload_n 0, 1) := by decide +kernel
theorem dX11_number_8 : decode cX11_number 8 = .ok (.invokevirtual 370, 3) := by decide +kernel
theorem dX11_number_11 : decode cX11_number 11 = .ok (.iload_n 3, 1) := by decide +kernel
theorem dX11_number_12 : decode cX11_number 12 = .ok (.ireturn, 1) := by decide +kernel
def fX11_number (Y : XS) (n : Nat) (S : PS) (a0 : Nat) (x1_ : Int32) (x2_ : Int32) : Option (Int32 × PS) :=
  kc (fX11_numberHere Y n S a0 x1_ x2_) (fun q3 => kc (fX11_pass Y n q3.2 a0) (fun q8 => some (q3.1, q8)))
theorem wX11_number {C : CT} {X : XT} (hC : CK C RX11 cX11_number 4 (some .int) 4) (n : Nat) (S : PS) (a0 : Nat) (x1_ : Int32) (x2_ : Int32) (hTa0 : Ty X.2.1 a0 11) {o : Int32 × PS} (hf : fX11_number X.2.1 n S a0 x1_ x2_ = some o) (hR : Rt C X cX11_number (some .int) (some (.int o.1)) o.2) : UW C X S 0 [(0, .ref (X.1 a0)), (1, .int x1_), (2, .int x2_)] [] := by
  unfold fX11_number at hf
  refine u_aload_n hC dX11_number_0 0 rfl rfl ?_
  refine u_iload_n hC dX11_number_1 1 rfl rfl ?_
  refine u_iload_n hC dX11_number_2 2 rfl rfl ?_
  obtain ⟨q3, hq3, hf⟩ := kc_some hf
  refine u_callV hC (ctX11_numberHere (cL C) hC.tr (cG C) X.1 X.2.1 n S a0 x1_ x2_ hTa0 hq3) lk_X11_374 rfl hTa0 (by decide) rfl (by decide) (by decide) rfl rfl (Nat.le_of_ble_eq_true rfl) dX11_number_3 ?_
  refine u_istore_n (lv' := [(3, .int q3.1), (0, .ref (X.1 a0)), (1, .int x1_), (2, .int x2_)]) hC dX11_number_6 rfl (by decide) rfl ?_
  refine u_aload_n hC dX11_number_7 1 rfl rfl ?_
  obtain ⟨q8, hq8, hf⟩ := kc_some hf
  refine u_callV hC (ctX11_pass (cL C) hC.tr (cG C) X.1 X.2.1 n q3.2 a0 hTa0 hq8) lk_X11_370 rfl hTa0 (by decide) rfl (by decide) (by decide) rfl rfl (Nat.le_of_ble_eq_true rfl) dX11_number_8 ?_
  refine u_iload_n hC dX11_number_11 0 rfl rfl ?_
  cases hf
  exact hR _ _ dX11_number_12 trivial
theorem ctX11_number (l : Launch) (hl : l.stackTraces = false) (G : GT) (ρ : Nat → Nat) (Y : XS) (n : Nat) (S : PS) (a0 : Nat) (x1_ : Int32) (x2_ : Int32) (hTa0 : Ty Y a0 11) {o : Int32 × PS} (hf : fX11_number Y n S a0 x1_ x2_ = some o) : Mt l G yX11_number cX11_number 4 (some .int) 4 ρ Y [.ref (ρ a0), .int x1_, .int x2_] S (some (.int o.1)) o.2 :=
  Mt_of hl (by decide) (Nat.le_of_ble_eq_true rfl) (fun C _ _ hC hR => wX11_number (X := (ρ, Y, 0, 0)) hC n S a0 x1_ x2_ hTa0 hf hR)
-- X11_isName
theorem dX11_isName_0 : decode cX11_isName 0 = .ok (.aload_n 0, 1) := by decide +kernel
theorem dX11_isName_1 : decode cX11_isName 1 = .ok (.getfield 346, 3) := by decide +kernel
theorem dX11_isName_4 : decode cX11_isName 4 = .ok (.ifCond .ne 69, 3) := by decide +kernel
theorem dX11_isName_7 : decode cX11_isName 7 = .ok (.aload_n 0, 1) := by decide +kernel
theorem dX11_isName_8 : decode cX11_isName 8 = .ok (.getfield 340, 3) := by decide +kernel
theorem dX11_isName_11 : decode cX11_isName 11 = .ok (.iconst 1, 1) := by decide +kernel
theorem dX11_isName_12 : decode cX11_isName 12 = .ok (.if_icmp .ne 61, 3) := by decide +kernel
theorem dX11_isName_15 : decode cX11_isName 15 = .ok (.aload_n 0, 1) := by decide +kernel
theorem dX11_isName_16 : decode cX11_isName 16 = .ok (.getfield 343, 3) := by decide +kernel
theorem dX11_isName_19 : decode cX11_isName 19 = .ok (.aload_n 0, 1) := by decide +kernel
theorem dX11_isName_20 : decode cX11_isName 20 = .ok (.getfield 337, 3) := by decide +kernel
theorem dX11_isName_23 : decode cX11_isName 23 = .ok (.isub, 1) := by decide +kernel
theorem dX11_isName_24 : decode cX11_isName 24 = .ok (.bipush 6, 2) := by decide +kernel
theorem dX11_isName_26 : decode cX11_isName 26 = .ok (.if_icmp .gt 47, 3) := by decide +kernel
theorem dX11_isName_29 : decode cX11_isName 29 = .ok (.aload_n 0, 1) := by decide +kernel
theorem dX11_isName_30 : decode cX11_isName 30 = .ok (.ldc_w 377, 3) := by decide +kernel
theorem dX11_isName_33 : decode cX11_isName 33 = .ok (.invokevirtual 379, 3) := by decide +kernel
theorem dX11_isName_36 : decode cX11_isName 36 = .ok (.ifCond .ne 37, 3) := by decide +kernel
theorem dX11_isName_39 : decode cX11_isName 39 = .ok (.aload_n 0, 1) := by decide +kernel
theorem dX11_isName_40 : decode cX11_isName 40 = .ok (.ldc_w 383, 3) := by decide +kernel
theorem dX11_isName_43 : decode cX11_isName 43 = .ok (.invokevirtual 379, 3) := by decide +kernel
theorem dX11_isName_46 : decode cX11_isName 46 = .ok (.ifCond .ne 27, 3) := by decide +kernel
theorem dX11_isName_49 : decode cX11_isName 49 = .ok (.aload_n 0, 1) := by decide +kernel
theorem dX11_isName_50 : decode cX11_isName 50 = .ok (.ldc_w 385, 3) := by decide +kernel
theorem dX11_isName_53 : decode cX11_isName 53 = .ok (.invokevirtual 379, 3) := by decide +kernel
theorem dX11_isName_56 : decode cX11_isName 56 = .ok (.ifCond .ne 17, 3) := by decide +kernel
theorem dX11_isName_59 : decode cX11_isName 59 = .ok (.aload_n 0, 1) := by decide +kernel
theorem dX11_isName_60 : decode cX11_isName 60 = .ok (.ldc_w 387, 3) := by decide +kernel
theorem dX11_isName_63 : decode cX11_isName 63 = .ok (.invokevirtual 379, 3) := by decide +kernel
theorem dX11_isName_66 : decode cX11_isName 66 = .ok (.ifCond .ne 7, 3) := by decide +kernel
theorem dX11_isName_69 : decode cX11_isName 69 = .ok (.iconst 1, 1) := by decide +kernel
theorem dX11_isName_70 : decode cX11_isName 70 = .ok (.goto 4, 3) := by decide +kernel
theorem dX11_isName_73 : decode cX11_isName 73 = .ok (.iconst 0, 1) := by decide +kernel
theorem dX11_isName_74 : decode cX11_isName 74 = .ok (.ireturn, 1) := by decide +kernel
def jX11_isName_74 (Y : XS) (n : Nat) (S : PS) (t0 : Int32) : Option (Int32) :=
  kzr t0 (some t0)
def jX11_isName_73 (Y : XS) (n : Nat) (S : PS)  : Option (Int32) :=
  jX11_isName_74 Y n S (0 : Int32)
def fX11_isName (Y : XS) (n : Nat) (S : PS) (a0 : Nat) : Option (Int32) :=
  kgi S a0 34 (fun x1 => (if x1 = 0 then kgi S a0 31 (fun x8 => (if x8 = (1 : Int32) then kgi S a0 33 (fun x16 => kgi S a0 32 (fun x20 => (if (6 : Int32) < (x16 - x20) then jX11_isName_73 Y n S  else kc (fX11_isWord Y n S a0 16) (fun q33 => (if q33 = 0 then kc (fX11_isWord Y n S a0 17) (fun q43 => (if q43 = 0 then kc (fX11_isWord Y n S a0 18) (fun q53 => (if q53 = 0 then kc (fX11_isWord Y n S a0 19) (fun q63 => (if q63 = 0 then jX11_isName_74 Y n S (1 : Int32) else jX11_isName_73 Y n S )) else jX11_isName_73 Y n S )) else jX11_isName_73 Y n S )) else jX11_isName_73 Y n S ))))) else jX11_isName_73 Y n S )) else jX11_isName_73 Y n S ))
theorem wjX11_isName_74 {C : CT} {X : XT} (hC : CK C RX11 cX11_isName 1 (some .boolean) 6) (n : Nat) (S : PS) (t0 : Int32)   {o : Int32} (hf : jX11_isName_74 X.2.1 n S t0 = some o) (hR : Rt C X cX11_isName (some .boolean) (some (.int o)) S) : UW C X S 74 [] [.int t0] := by
  unfold jX11_isName_74 at hf
  obtain ⟨hz, hf⟩ := kzr_some hf
  cases hf
  exact hR _ _ dX11_isName_74 hz
theorem wjX11_isName_73 {C : CT} {X : XT} (hC : CK C RX11 cX11_isName 1 (some .boolean) 6) (n : Nat) (S : PS)    {o : Int32} (hf : jX11_isName_73 X.2.1 n S  = some o) (hR : Rt C X cX11_isName (some .boolean) (some (.int o)) S) : UW C X S 73 [] [] := by
  unfold jX11_isName_73 at hf
  refine u_iconst (v := (0 : Int32)) hC dX11_isName_73 (by decide) ?_
  exact wjX11_isName_74 hC n S (0 : Int32)   hf hR
theorem wX11_isName {C : CT} {X : XT} (hC : CK C RX11 cX11_isName 1 (some .boolean) 6) (n : Nat) (S : PS) (a0 : Nat) (hTa0 : Ty X.2.1 a0 11) {o : Int32} (hf : fX11_isName X.2.1 n S a0 = some o) (hR : Rt C X cX11_isName (some .boolean) (some (.int o)) S) : UW C X S 0 [(0, .ref (X.1 a0))] [] := by
  unfold fX11_isName at hf
  refine u_aload_n hC dX11_isName_0 0 rfl rfl ?_
  refine u_gi hC lf_X11_346 rfl hTa0 dX11_isName_1 hf (fun x1 hf => ?_)
  refine u_if_ne (tgt := 73) hC dX11_isName_4 (by decide) hf (fun h4 hf => ?_) (fun h4 hf => ?_)
  · refine u_sub (lv' := []) [] rfl ?_
    exact wjX11_isName_73 hC n S    hf hR
  · refine u_aload_n hC dX11_isName_7 0 rfl rfl ?_
    refine u_gi hC lf_X11_340 rfl hTa0 dX11_isName_8 hf (fun x8 hf => ?_)
    refine u_iconst (v := (1 : Int32)) hC dX11_isName_11 (by decide) ?_
    refine u_icmp_ne (tgt := 73) hC dX11_isName_12 (by decide) hf (fun h12 hf => ?_) (fun h12 hf => ?_)
    · refine u_sub (lv' := []) [] rfl ?_
      exact wjX11_isName_73 hC n S    hf hR
    · refine u_aload_n hC dX11_isName_15 0 rfl rfl ?_
      refine u_gi hC lf_X11_343 rfl hTa0 dX11_isName_16 hf (fun x16 hf => ?_)
      refine u_aload_n hC dX11_isName_19 0 rfl rfl ?_
      refine u_gi hC lf_X11_337 rfl hTa0 dX11_isName_20 hf (fun x20 hf => ?_)
      refine u_isub hC dX11_isName_23 ?_
      refine u_bipush (v := (6 : Int32)) hC dX11_isName_24 (by decide) ?_
      refine u_icmp_gt (tgt := 73) hC dX11_isName_26 (by decide) hf (fun h26 hf => ?_) (fun h26 hf => ?_)
      · refine u_sub (lv' := []) [] rfl ?_
        exact wjX11_isName_73 hC n S    hf hR
      · refine u_aload_n hC dX11_isName_29 0 rfl rfl ?_
        refine u_ldsw (i := 16) hC (by decide) rfl rfl dX11_isName_30 ?_
        obtain ⟨q33, hq33, hf⟩ := kc_some hf
        refine u_callV hC (ctX11_isWord (cL C) hC.tr (cG C) X.1 X.2.1 n S a0 16 hTa0 (show 16 < nStr by decide) hq33) lk_X11_379 rfl hTa0 (by decide) rfl (by decide) (by decide) rfl rfl (Nat.le_of_ble_eq_true rfl) dX11_isName_33 ?_
        refine u_if_ne (tgt := 73) hC dX11_isName_36 (by decide) hf (fun h36 hf => ?_) (fun h36 hf => ?_)
        · refine u_sub (lv' := []) [] rfl ?_
          exact wjX11_isName_73 hC n S    hf hR
        · refine u_aload_n hC dX11_isName_39 0 rfl rfl ?_
          refine u_ldsw (i := 17) hC (by decide) rfl rfl dX11_isName_40 ?_
          obtain ⟨q43, hq43, hf⟩ := kc_some hf
          refine u_callV hC (ctX11_isWord (cL C) hC.tr (cG C) X.1 X.2.1 n S a0 17 hTa0 (show 17 < nStr by decide) hq43) lk_X11_379 rfl hTa0 (by decide) rfl (by decide) (by decide) rfl rfl (Nat.le_of_ble_eq_true rfl) dX11_isName_43 ?_
          refine u_if_ne (tgt := 73) hC dX11_isName_46 (by decide) hf (fun h46 hf => ?_) (fun h46 hf => ?_)
          · refine u_sub (lv' := []) [] rfl ?_
            exact wjX11_isName_73 hC n S    hf hR
          · refine u_aload_n hC dX11_isName_49 0 rfl rfl ?_
            refine u_ldsw (i := 18) hC (by decide) rfl rfl dX11_isName_50 ?_
            obtain ⟨q53, hq53, hf⟩ := kc_some hf
            refine u_callV hC (ctX11_isWord (cL C) hC.tr (cG C) X.1 X.2.1 n S a0 18 hTa0 (show 18 < nStr by decide) hq53) lk_X11_379 rfl hTa0 (by decide) rfl (by decide) (by decide) rfl rfl (Nat.le_of_ble_eq_true rfl) dX11_isName_53 ?_
            refine u_if_ne (tgt := 73) hC dX11_isName_56 (by decide) hf (fun h56 hf => ?_) (fun h56 hf => ?_)
            · refine u_sub (lv' := []) [] rfl ?_
              exact wjX11_isName_73 hC n S    hf hR
            · refine u_aload_n hC dX11_isName_59 0 rfl rfl ?_
              refine u_ldsw (i := 19) hC (by decide) rfl rfl dX11_isName_60 ?_
              obtain ⟨q63, hq63, hf⟩ := kc_some hf
              refine u_callV hC (ctX11_isWord (cL C) hC.tr (cG C) X.1 X.2.1 n S a0 19 hTa0 (show 19 < nStr by decide) hq63) lk_X11_379 rfl hTa0 (by decide) rfl (by decide) (by decide) rfl rfl (Nat.le_of_ble_eq_true rfl) dX11_isName_63 ?_
              refine u_if_ne (tgt := 73) hC dX11_isName_66 (by decide) hf (fun h66 hf => ?_) (fun h66 hf => ?_)
              · refine u_sub (lv' := []) [] rfl ?_
                exact wjX11_isName_73 hC n S    hf hR
              · refine u_iconst (v := (1 : Int32)) hC dX11_isName_69 (by decide) ?_
                refine u_goto (tgt := 74) hC dX11_isName_70 (by decide) ?_
                refine u_sub (lv' := []) [] rfl ?_
                exact wjX11_isName_74 hC n S (1 : Int32)   hf hR
theorem ctX11_isName (l : Launch) (hl : l.stackTraces = false) (G : GT) (ρ : Nat → Nat) (Y : XS) (n : Nat) (S : PS) (a0 : Nat) (hTa0 : Ty Y a0 11) {o : Int32} (hf : fX11_isName Y n S a0 = some o) : Mt l G yX11_isName cX11_isName 1 (some .boolean) 6 ρ Y [.ref (ρ a0)] S (some (.int o)) S :=
  Mt_of hl (by decide) (Nat.le_of_ble_eq_true rfl) (fun C _ _ hC hR => wX11_isName (X := (ρ, Y, 0, 0)) hC n S a0 hTa0 hf hR)
-- X11_letterHere
theorem dX11_letterHere_0 : decode cX11_letterHere 0 = .ok (.aload_n 0, 1) := by decide +kernel
theorem dX11_letterHere_1 : decode cX11_letterHere 1 = .ok (.getfield 337, 3) := by decide +kernel
theorem dX11_letterHere_4 : decode cX11_letterHere 4 = .ok (.iload_n 1, 1) := by decide +kernel
theorem dX11_letterHere_5 : decode cX11_letterHere 5 = .ok (.iadd, 1) := by decide +kernel
theorem dX11_letterHere_6 : decode cX11_letterHere 6 = .ok (.aload_n 0, 1) := by decide +kernel
theorem dX11_letterHere_7 : decode cX11_letterHere 7 = .ok (.getfield 343, 3) := by decide +kernel
theorem dX11_letterHere_10 : decode cX11_letterHere 10 = .ok (.if_icmp .ge 20, 3) := by decide +kernel
theorem dX11_letterHere_13 : decode cX11_letterHere 13 = .ok (.aload_n 0, 1) := by decide +kernel
theorem dX11_letterHere_14 : decode cX11_letterHere 14 = .ok (.getfield 63, 3) := by decide +kernel
theorem dX11_letterHere_17 : decode cX11_letterHere 17 = .ok (.aload_n 0, 1) := by decide +kernel
theorem dX11_letterHere_18 : decode cX11_letterHere 18 = .ok (.getfield 337, 3) := by decide +kernel
theorem dX11_letterHere_21 : decode cX11_letterHere 21 = .ok (.iload_n 1, 1) := by decide +kernel
theorem dX11_letterHere_22 : decode cX11_letterHere 22 = .ok (.iadd, 1) := by decide +kernel
theorem dX11_letterHere_23 : decode cX11_letterHere 23 = .ok (.iaload, 1) := by decide +kernel
theorem dX11_letterHere_24 : decode cX11_letterHere 24 = .ok (.bipush 96, 2) := by decide +kernel
theorem dX11_letterHere_26 : decode cX11_letterHere 26 = .ok (.isub, 1) := by decide +kernel
theorem dX11_letterHere_27 : decode cX11_letterHere 27 = .ok (.goto 4, 3) := by decide +kernel
theorem dX11_letterHere_30 : decode cX11_letterHere 30 = .ok (.iconst 0, 1) := by decide +kernel
theorem dX11_letterHere_31 : decode cX11_letterHere 31 = .ok (.ireturn, 1) := by decide +kernel
def jX11_letterHere_31 (Y : XS) (n : Nat) (S : PS) (t0 : Int32) : Option (Int32) :=
  some t0
def fX11_letterHere (Y : XS) (n : Nat) (S : PS) (a0 : Nat) (x1_ : Int32) : Option (Int32) :=
  kgi S a0 32 (fun x1 => kgi S a0 33 (fun x7 => (if x7 ≤ (x1 + x1_) then jX11_letterHere_31 Y n S (0 : Int32) else kgr S a0 27 (fun b14 => kgi S a0 32 (fun x18 => kai Y S b14 (x18 + x1_) (fun x23 => jX11_letterHere_31 Y n S (x23 - (96 : Int32))))))))
theorem wjX11_letterHere_31 {C : CT} {X : XT} (hC : CK C RX11 cX11_letterHere 2 (some .int) 1) (n : Nat) (S : PS) (t0 : Int32)   {o : Int32} (hf : jX11_letterHere_31 X.2.1 n S t0 = some o) (hR : Rt C X cX11_letterHere (some .int) (some (.int o)) S) : UW C X S 31 [] [.int t0] := by
  unfold jX11_letterHere_31 at hf
  cases hf
  exact hR _ _ dX11_letterHere_31 trivial
theorem wX11_letterHere {C : CT} {X : XT} (hC : CK C RX11 cX11_letterHere 2 (some .int) 1) (n : Nat) (S : PS) (a0 : Nat) (x1_ : Int32) (hTa0 : Ty X.2.1 a0 11) {o : Int32} (hf : fX11_letterHere X.2.1 n S a0 x1_ = some o) (hR : Rt C X cX11_letterHere (some .int) (some (.int o)) S) : UW C X S 0 [(0, .ref (X.1 a0)), (1, .int x1_)] [] := by
  unfold fX11_letterHere at hf
  refine u_aload_n hC dX11_letterHere_0 0 rfl rfl ?_
  refine u_gi hC lf_X11_337 rfl hTa0 dX11_letterHere_1 hf (fun x1 hf => ?_)
  refine u_iload_n hC dX11_letterHere_4 1 rfl rfl ?_
  refine u_iadd hC dX11_letterHere_5 ?_
  refine u_aload_n hC dX11_letterHere_6 0 rfl rfl ?_
  refine u_gi hC lf_X11_343 rfl hTa0 dX11_letterHere_7 hf (fun x7 hf => ?_)
  refine u_icmp_ge (tgt := 30) hC dX11_letterHere_10 (by decide) hf (fun h10 hf => ?_) (fun h10 hf => ?_)
  · refine u_iconst (v := (0 : Int32)) hC dX11_letterHere_30 (by decide) ?_
    refine u_sub (lv' := []) [] rfl ?_
    exact wjX11_letterHere_31 hC n S (0 : Int32)   hf hR
  · refine u_aload_n hC dX11_letterHere_13 0 rfl rfl ?_
    refine u_gr hC lf_X11_63 rfl hTa0 dX11_letterHere_14 hf (fun b14 hTb14 hf => ?_)
    refine u_aload_n hC dX11_letterHere_17 0 rfl rfl ?_
    refine u_gi hC lf_X11_337 rfl hTa0 dX11_letterHere_18 hf (fun x18 hf => ?_)
    refine u_iload_n hC dX11_letterHere_21 1 rfl rfl ?_
    refine u_iadd hC dX11_letterHere_22 ?_
    refine u_ai hC hTb14 dX11_letterHere_23 hf (fun x23 hf => ?_)
    refine u_bipush (v := (96 : Int32)) hC dX11_letterHere_24 (by decide) ?_
    refine u_isub hC dX11_letterHere_26 ?_
    refine u_goto (tgt := 31) hC dX11_letterHere_27 (by decide) ?_
    refine u_sub (lv' := []) [] rfl ?_
    exact wjX11_letterHere_31 hC n S (x23 - (96 : Int32))   hf hR
theorem ctX11_letterHere (l : Launch) (hl : l.stackTraces = false) (G : GT) (ρ : Nat → Nat) (Y : XS) (n : Nat) (S : PS) (a0 : Nat) (x1_ : Int32) (hTa0 : Ty Y a0 11) {o : Int32} (hf : fX11_letterHere Y n S a0 x1_ = some o) : Mt l G yX11_letterHere cX11_letterHere 2 (some .int) 1 ρ Y [.ref (ρ a0), .int x1_] S (some (.int o)) S :=
  Mt_of hl (by decide) (Nat.le_of_ble_eq_true rfl) (fun C _ _ hC hR => wX11_letterHere (X := (ρ, Y, 0, 0)) hC n S a0 x1_ hTa0 hf hR)
-- X11_named
theorem dX11_named_0 : decode cX11_named 0 = .ok (.iconst 0, 1) := by decide +kernel
theorem dX11_named_1 : decode cX11_named 1 = .ok (.istore_n 1, 1) := by decide +kernel
theorem dX11_named_2 : decode cX11_named 2 = .ok (.iload_n 1, 1) := by decide +kernel
theorem dX11_named_3 : decode cX11_named 3 = .ok (.aload_n 0, 1) := by decide +kernel
theorem dX11_named_4 : decode cX11_named 4 = .ok (.getfield 13, 3) := by decide +kernel
theorem dX11_named_7 : decode cX11_named 7 = .ok (.iconst 1, 1) := by decide +kernel
theorem dX11_named_8 : decode cX11_named 8 = .ok (.iaload, 1) := by decide +kernel
theorem dX11_named_9 : decode cX11_named 9 = .ok (.if_icmp .ge 63, 3) := by decide +kernel
theorem dX11_named_12 : decode cX11_named 12 = .ok (.iconst 1, 1) := by decide +kernel
theorem dX11_named_13 : decode cX11_named 13 = .ok (.istore_n 2, 1) := by decide +kernel
theorem dX11_named_14 : decode cX11_named 14 = .ok (.iconst 0, 1) := by decide +kernel
theorem dX11_named_15 : decode cX11_named 15 = .ok (.istore_n 3, 1) := by decide +kernel
theorem dX11_named_16 : decode cX11_named 16 = .ok (.iload_n 3, 1) := by decide +kernel
theorem dX11_named_17 : decode cX11_named 17 = .ok (.bipush 6, 2) := by decide +kernel
theorem dX11_named_19 : decode cX11_named 19 = .ok (.if_icmp .ge 41, 3) := by decide +kernel
theorem dX11_named_22 : decode cX11_named 22 = .ok (.iload_n 2, 1) := by decide +kernel
theorem dX11_named_23 : decode cX11_named 23 = .ok (.ifCond .eq 29, 3) := by decide +kernel
theorem dX11_named_26 : decode cX11_named 26 = .ok (.aload_n 0, 1) := by decide +kernel
theorem dX11_named_27 : decode cX11_named 27 = .ok (.getfield 13, 3) := by decide +kernel
theorem dX11_named_30 : decode cX11_named 30 = .ok (.bipush 15, 2) := by decide +kernel
theorem dX11_named_32 : decode cX11_named 32 = .ok (.bipush 6, 2) := by decide +kernel
theorem dX11_named_34 : decode cX11_named 34 = .ok (.iload_n 1, 1) := by decide +kernel
theorem dX11_named_35 : decode cX11_named 35 = .ok (.imul, 1) := by decide +kernel
theorem dX11_named_36 : decode cX11_named 36 = .ok (.iadd, 1) := by decide +kernel
theorem dX11_named_37 : decode cX11_named 37 = .ok (.iload_n 3, 1) := by decide +kernel
theorem dX11_named_38 : decode cX11_named 38 = .ok (.iadd, 1) := by decide +kernel
theorem dX11_named_39 : decode cX11_named 39 = .ok (.iaload, 1) := by decide +kernel
theorem dX11_named_40 : decode cX11_named 40 = .ok (.aload_n 0, 1) := by decide +kernel
theorem dX11_named_41 : decode cX11_named 41 = .ok (.iload_n 3, 1) := by decide +kernel
theorem dX11_named_42 : decode cX11_named 42 = .ok (.invokevirtual 389, 3) := by decide +kernel
theorem dX11_named_45 : decode cX11_named 45 = .ok (.if_icmp .ne 7, 3) := by decide +kernel
theorem dX11_named_48 : decode cX11_named 48 = .ok (.iconst 1, 1) := by decide +kernel
theorem dX11_named_49 : decode cX11_named 49 = .ok (.goto 4, 3) := by decide +kernel
theorem dX11_named_52 : decode cX11_named 52 = .ok (.iconst 0, 1) := by decide +kernel
theorem dX11_named_53 : decode cX11_named 53 = .ok (.istore_n 2, 1) := by decide +kernel
theorem dX11_named_54 : decode cX11_named 54 = .ok (.iinc 3 1, 3) := by decide +kernel
theorem dX11_named_57 : decode cX11_named 57 = .ok (.goto (-41), 3) := by decide +kernel
theorem dX11_named_60 : decode cX11_named 60 = .ok (.iload_n 2, 1) := by decide +kernel
theorem dX11_named_61 : decode cX11_named 61 = .ok (.ifCond .eq 5, 3) := by decide +kernel
theorem dX11_named_64 : decode cX11_named 64 = .ok (.iload_n 1, 1) := by decide +kernel
theorem dX11_named_65 : decode cX11_named 65 = .ok (.ireturn, 1) := by decide +kernel
theorem dX11_named_66 : decode cX11_named 66 = .ok (.iinc 1 1, 3) := by decide +kernel
theorem dX11_named_69 : decode cX11_named 69 = .ok (.goto (-67), 3) := by decide +kernel
theorem dX11_named_72 : decode cX11_named 72 = .ok (.iconst (-1), 1) := by decide +kernel
theorem dX11_named_73 : decode cX11_named 73 = .ok (.ireturn, 1) := by decide +kernel
def jX11_named_53_16 (Y : XS) (n : Nat) (S : PS) (v0 : Nat) (v1 : Int32) (v3 : Int32) (t0 : Int32) : Option ((Int32 × Int32) ⊕ Int32) :=
  some (.inl (t0, v3 + (1 : Int32)))
def jX11_named_52_16 (Y : XS) (n : Nat) (S : PS) (v0 : Nat) (v1 : Int32) (v3 : Int32) : Option ((Int32 × Int32) ⊕ Int32) :=
  jX11_named_53_16 Y n S v0 v1 v3 (0 : Int32)
def bX11_named_16 (Y : XS) (n : Nat) (S : PS) (v0 : Nat) (v1 : Int32) (s16 : (Int32 × Int32)) : Option ((Int32 × Int32) ⊕ Int32) :=
  (if (6 : Int32) ≤ s16.2 then some (.inr s16.1) else (if s16.1 = 0 then jX11_named_52_16 Y n S v0 v1 s16.2 else kgr S v0 1 (fun b27 => kai Y S b27 (((15 : Int32) + ((6 : Int32) * v1)) + s16.2) (fun x39 => kc (fX11_letterHere Y n S v0 s16.2) (fun q42 => (if x39 = q42 then jX11_named_53_16 Y n S v0 v1 s16.2 (1 : Int32) else jX11_named_52_16 Y n S v0 v1 s16.2))))))
def bX11_named_2 (Y : XS) (n : Nat) (S : PS) (v0 : Nat) (s2 : Int32) : Option (Int32 ⊕ (Unit ⊕ (Int32))) :=
  kgr S v0 1 (fun b4 => kai Y S b4 (1 : Int32) (fun x8 => (if x8 ≤ s2 then some (.inr (.inl ())) else kc (iter (bX11_named_16 Y n S v0 s2) n ((1 : Int32), (0 : Int32))) (fun r16 => (if r16 = 0 then some (.inl (s2 + (1 : Int32))) else some (.inr (.inr s2)))))))
def fX11_named (Y : XS) (n : Nat) (S : PS) (a0 : Nat) : Option (Int32) :=
  kc (iter (bX11_named_2 Y n S a0) n (0 : Int32)) (fun r2 => ks r2 (fun p2_0 => some (-1 : Int32)) (fun p2_1 => some p2_1))
theorem wjX11_named_53_16 {C : CT} {X : XT} (hC : CK C RX11 cX11_named 4 (some .int) 2) (n : Nat) (S : PS) (v0 : Nat) (v1 : Int32) (v3 : Int32) (t0 : Int32)  (hTv0 : Ty X.2.1 v0 11) {o : (Int32 × Int32) ⊕ Int32} (hf : jX11_named_53_16 X.2.1 n S v0 v1 v3 t0 = some o) (hN : ∀ s', o = .inl s' → UW C X S 16 [(0, .ref (X.1 v0)), (1, .int v1), (2, .int s'.1), (3, .int s'.2)] []) (hO0 : ∀ p', o = .inr p' → UW C X S 60 [(0, .ref (X.1 v0)), (1, .int v1), (2, .int p')] []) : UW C X S 53 [(0, .ref (X.1 v0)), (1, .int v1), (3, .int v3)] [.int t0] := by
  unfold jX11_named_53_16 at hf
  refine u_istore_n (lv' := [(2, .int t0), (0, .ref (X.1 v0)), (1, .int v1), (3, .int v3)]) hC dX11_named_53 rfl (by decide) rfl ?_
  refine u_iinc (v := v3 + (1 : Int32)) (lv' := [(3, .int (v3 + (1 : Int32))), (2, .int t0), (0, .ref (X.1 v0)), (1, .int v1)]) hC dX11_named_54 3 rfl rfl (by decide) rfl ?_
  refine u_goto (tgt := 16) hC dX11_named_57 (by decide) ?_
  refine u_sub (lv' := [(0, .ref (X.1 v0)), (1, .int v1), (2, .int t0), (3, .int (v3 + (1 : Int32)))]) [2, 3, 1, 0] rfl ?_
  exact hN _ (Option.some.inj hf).symm
theorem wjX11_named_52_16 {C : CT} {X : XT} (hC : CK C RX11 cX11_named 4 (some .int) 2) (n : Nat) (S : PS) (v0 : Nat) (v1 : Int32) (v3 : Int32)  (hTv0 : Ty X.2.1 v0 11) {o : (Int32 × Int32) ⊕ Int32} (hf : jX11_named_52_16 X.2.1 n S v0 v1 v3 = some o) (hN : ∀ s', o = .inl s' → UW C X S 16 [(0, .ref (X.1 v0)), (1, .int v1), (2, .int s'.1), (3, .int s'.2)] []) (hO0 : ∀ p', o = .inr p' → UW C X S 60 [(0, .ref (X.1 v0)), (1, .int v1), (2, .int p')] []) : UW C X S 52 [(0, .ref (X.1 v0)), (1, .int v1), (3, .int v3)] [] := by
  unfold jX11_named_52_16 at hf
  refine u_iconst (v := (0 : Int32)) hC dX11_named_52 (by decide) ?_
  exact wjX11_named_53_16 hC n S v0 v1 v3 (0 : Int32)  hTv0 hf hN hO0
theorem wbX11_named_16 {C : CT} {X : XT} (hC : CK C RX11 cX11_named 4 (some .int) 2) (n : Nat) (S : PS) (v0 : Nat) (v1 : Int32) (hTv0 : Ty X.2.1 v0 11) (s16 : (Int32 × Int32)) {o : (Int32 × Int32) ⊕ Int32} (hf : bX11_named_16 X.2.1 n S v0 v1 s16 = some o) (hN : ∀ s', o = .inl s' → UW C X S 16 [(0, .ref (X.1 v0)), (1, .int v1), (2, .int s'.1), (3, .int s'.2)] []) (hO0 : ∀ p', o = .inr p' → UW C X S 60 [(0, .ref (X.1 v0)), (1, .int v1), (2, .int p')] []) : UW C X S 16 [(0, .ref (X.1 v0)), (1, .int v1), (2, .int s16.1), (3, .int s16.2)] [] := by
  unfold bX11_named_16 at hf
  refine u_iload_n hC dX11_named_16 3 rfl rfl ?_
  refine u_bipush (v := (6 : Int32)) hC dX11_named_17 (by decide) ?_
  refine u_icmp_ge (tgt := 60) hC dX11_named_19 (by decide) hf (fun h19 hf => ?_) (fun h19 hf => ?_)
  · refine u_sub (lv' := [(0, .ref (X.1 v0)), (1, .int v1), (2, .int s16.1)]) [0, 1, 2] rfl ?_
    exact hO0 _ (Option.some.inj hf).symm
  · refine u_iload_n hC dX11_named_22 2 rfl rfl ?_
    refine u_if_eq (tgt := 52) hC dX11_named_23 (by decide) hf (fun h23 hf => ?_) (fun h23 hf => ?_)
    · refine u_sub (lv' := [(0, .ref (X.1 v0)), (1, .int v1), (3, .int s16.2)]) [0, 1, 3] rfl ?_
      exact wjX11_named_52_16 hC n S v0 v1 s16.2  hTv0 hf hN hO0
    · refine u_aload_n hC dX11_named_26 0 rfl rfl ?_
      refine u_gr hC lf_X11_13 rfl hTv0 dX11_named_27 hf (fun b27 hTb27 hf => ?_)
      refine u_bipush (v := (15 : Int32)) hC dX11_named_30 (by decide) ?_
      refine u_bipush (v := (6 : Int32)) hC dX11_named_32 (by decide) ?_
      refine u_iload_n hC dX11_named_34 1 rfl rfl ?_
      refine u_imul hC dX11_named_35 ?_
      refine u_iadd hC dX11_named_36 ?_
      refine u_iload_n hC dX11_named_37 3 rfl rfl ?_
      refine u_iadd hC dX11_named_38 ?_
      refine u_ai hC hTb27 dX11_named_39 hf (fun x39 hf => ?_)
      refine u_aload_n hC dX11_named_40 0 rfl rfl ?_
      refine u_iload_n hC dX11_named_41 3 rfl rfl ?_
      obtain ⟨q42, hq42, hf⟩ := kc_some hf
      refine u_callV hC (ctX11_letterHere (cL C) hC.tr (cG C) X.1 X.2.1 n S v0 s16.2 hTv0 hq42) lk_X11_389 rfl hTv0 (by decide) rfl (by decide) (by decide) rfl rfl (Nat.le_of_ble_eq_true rfl) dX11_named_42 ?_
      refine u_icmp_ne (tgt := 52) hC dX11_named_45 (by decide) hf (fun h45 hf => ?_) (fun h45 hf => ?_)
      · refine u_sub (lv' := [(0, .ref (X.1 v0)), (1, .int v1), (3, .int s16.2)]) [0, 1, 3] rfl ?_
        exact wjX11_named_52_16 hC n S v0 v1 s16.2  hTv0 hf hN hO0
      · refine u_iconst (v := (1 : Int32)) hC dX11_named_48 (by decide) ?_
        refine u_goto (tgt := 53) hC dX11_named_49 (by decide) ?_
        refine u_sub (lv' := [(0, .ref (X.1 v0)), (1, .int v1), (3, .int s16.2)]) [0, 1, 3] rfl ?_
        exact wjX11_named_53_16 hC n S v0 v1 s16.2 (1 : Int32)  hTv0 hf hN hO0
theorem wbX11_named_2 {C : CT} {X : XT} (hC : CK C RX11 cX11_named 4 (some .int) 2) (n : Nat) (S : PS) (v0 : Nat) (hTv0 : Ty X.2.1 v0 11) (s2 : Int32) {o : Int32 ⊕ (Unit ⊕ (Int32))} (hf : bX11_named_2 X.2.1 n S v0 s2 = some o) (hN : ∀ s', o = .inl s' → UW C X S 2 [(0, .ref (X.1 v0)), (1, .int s')] []) (hO0 : ∀ p', o = .inr (.inl p') → UW C X S 72 [] []) (hR : ∀ q', o = .inr (.inr q') → Rt C X cX11_named (some .int) (some (.int q')) S) : UW C X S 2 [(0, .ref (X.1 v0)), (1, .int s2)] [] := by
  unfold bX11_named_2 at hf
  refine u_iload_n hC dX11_named_2 1 rfl rfl ?_
  refine u_aload_n hC dX11_named_3 0 rfl rfl ?_
  refine u_gr hC lf_X11_13 rfl hTv0 dX11_named_4 hf (fun b4 hTb4 hf => ?_)
  refine u_iconst (v := (1 : Int32)) hC dX11_named_7 (by decide) ?_
  refine u_ai hC hTb4 dX11_named_8 hf (fun x8 hf => ?_)
  refine u_icmp_ge (tgt := 72) hC dX11_named_9 (by decide) hf (fun h9 hf => ?_) (fun h9 hf => ?_)
  · refine u_sub (lv' := []) [] rfl ?_
    exact hO0 _ (Option.some.inj hf).symm
  · refine u_iconst (v := (1 : Int32)) hC dX11_named_12 (by decide) ?_
    refine u_istore_n (lv' := [(2, .int (1 : Int32)), (0, .ref (X.1 v0)), (1, .int s2)]) hC dX11_named_13 rfl (by decide) rfl ?_
    refine u_iconst (v := (0 : Int32)) hC dX11_named_14 (by decide) ?_
    refine u_istore_n (lv' := [(3, .int (0 : Int32)), (2, .int (1 : Int32)), (0, .ref (X.1 v0)), (1, .int s2)]) hC dX11_named_15 rfl (by decide) rfl ?_
    obtain ⟨r16, hr16, hf⟩ := kc_some hf
    have hk16 : UW C X S 60 [(0, .ref (X.1 v0)), (1, .int s2), (2, .int r16)] [] := by
      refine u_iload_n hC dX11_named_60 2 rfl rfl ?_
      refine u_if_eq (tgt := 66) hC dX11_named_61 (by decide) hf (fun h61 hf => ?_) (fun h61 hf => ?_)
      · refine u_iinc (v := s2 + (1 : Int32)) (lv' := [(1, .int (s2 + (1 : Int32))), (0, .ref (X.1 v0)), (2, .int r16)]) hC dX11_named_66 1 rfl rfl (by decide) rfl ?_
        refine u_goto (tgt := 2) hC dX11_named_69 (by decide) ?_
        refine u_sub (lv' := [(0, .ref (X.1 v0)), (1, .int (s2 + (1 : Int32)))]) [1, 0] rfl ?_
        exact hN _ (Option.some.inj hf).symm
      · refine u_iload_n hC dX11_named_64 1 rfl rfl ?_
        exact hR _ (Option.some.inj hf).symm _ _ dX11_named_65 trivial
    refine u_sub (lv' := [(0, .ref (X.1 v0)), (1, .int s2), (2, .int (1 : Int32)), (3, .int (0 : Int32))]) [2, 3, 1, 0] rfl ?_
    refine iter_ind (P := fun s16 => UW C X S 16 [(0, .ref (X.1 v0)), (1, .int s2), (2, .int s16.1), (3, .int s16.2)] []) (fun s16 o' hb hin hout => ?_) n ((1 : Int32), (0 : Int32)) hr16
    exact wbX11_named_16 hC n S v0 s2 hTv0 s16 hb hin (fun p e => by rw [hout p e]; exact hk16)
theorem wX11_named {C : CT} {X : XT} (hC : CK C RX11 cX11_named 4 (some .int) 2) (n : Nat) (S : PS) (a0 : Nat) (hTa0 : Ty X.2.1 a0 11) {o : Int32} (hf : fX11_named X.2.1 n S a0 = some o) (hR : Rt C X cX11_named (some .int) (some (.int o)) S) : UW C X S 0 [(0, .ref (X.1 a0))] [] := by
  unfold fX11_named at hf
  refine u_iconst (v := (0 : Int32)) hC dX11_named_0 (by decide) ?_
  refine u_istore_n (lv' := [(1, .int (0 : Int32)), (0, .ref (X.1 a0))]) hC dX11_named_1 rfl (by decide) rfl ?_
  obtain ⟨r2, hr2, hf⟩ := kc_some hf
  have hk2_0 : ∀ p2_0, r2 = (.inl p2_0) → UW C X S 72 [] [] := by
    intro p2_0 he
    subst he
    have hf := ks_l hf
    refine u_iconst (v := (-1 : Int32)) hC dX11_named_72 (by decide) ?_
    cases hf
    exact hR _ _ dX11_named_73 trivial
  have hk2_1 : ∀ p2_1, r2 = (.inr p2_1) → Rt C X cX11_named (some .int) (some (.int p2_1)) S := by
    intro p2_1 he
    subst he
    have hf := ks_r hf
    cases hf
    exact hR
  refine u_sub (lv' := [(0, .ref (X.1 a0)), (1, .int (0 : Int32))]) [1, 0] rfl ?_
  refine iter_ind (P := fun s2 => UW C X S 2 [(0, .ref (X.1 a0)), (1, .int s2)] []) (fun s2 o' hb hin hout => ?_) n (0 : Int32) hr2
  exact wbX11_named_2 hC n S a0 hTa0 s2 hb hin (fun p e => hk2_0 p (hout _ e).symm) (fun p e => hk2_1 p (hout _ e).symm)
theorem ctX11_named (l : Launch) (hl : l.stackTraces = false) (G : GT) (ρ : Nat → Nat) (Y : XS) (n : Nat) (S : PS) (a0 : Nat) (hTa0 : Ty Y a0 11) {o : Int32} (hf : fX11_named Y n S a0 = some o) : Mt l G yX11_named cX11_named 4 (some .int) 2 ρ Y [.ref (ρ a0)] S (some (.int o)) S :=
  Mt_of hl (by decide) (Nat.le_of_ble_eq_true rfl) (fun C _ _ hC hR => wX11_named (X := (ρ, Y, 0, 0)) hC n S a0 hTa0 hf hR)
-- X11_readProject
theorem dX11_readProject_0 : decode cX11_readProject 0 = .ok (.aload_n 0, 1) := by decide +kernel
theorem dX11_readProject_1 : decode cX11_readProject 1 = .ok (.getfield 13, 3) := by decide +kernel
theorem dX11_readProject_4 : decode cX11_readProject 4 = .ok (.iconst 1, 1) := by decide +kernel
theorem dX11_readProject_5 : decode cX11_readProject 5 = .ok (.iaload, 1) := by decide +kernel
theorem dX11_readProject_6 : decode cX11_readProject 6 = .ok (.bipush 12, 2) := by decide +kernel
theorem dX11_readProject_8 : decode cX11_readProject 8 = .ok (.if_icmp .ne 8, 3) := by decide +kernel
theorem dX11_readProject_11 : decode cX11_readProject 11 = .ok (.aload_n 0, 1) := by decide +kernel
theorem dX11_readProject_12 : decode cX11_readProject 12 = .ok (.iconst 4, 1) := by decide +kernel
theorem dX11_readProject_13 : decode cX11_readProject 13 = .ok (.invokevirtual 367, 3) := by decide +kernel
theorem dX11_readProject_16 : decode cX11_readProject 16 = .ok (.aload_n 0, 1) := by decide +kernel
theorem dX11_readProject_17 : decode cX11_readProject 17 = .ok (.invokevirtual 370, 3) := by decide +kernel
theorem dX11_readProject_20 : decode cX11_readProject 20 = .ok (.aload_n 0, 1) := by decide +kernel
theorem dX11_readProject_21 : decode cX11_readProject 21 = .ok (.invokevirtual 392, 3) := by decide +kernel
theorem dX11_readProject_24 : decode cX11_readProject 24 = .ok (.ifCond .ne 11, 3) := by decide +kernel
theorem dX11_readProject_27 : decode cX11_readProject 27 = .ok (.aload_n 0, 1) := by decide +kernel
theorem dX11_readProject_28 : decode cX11_readProject 28 = .ok (.iconst 1, 1) := by decide +kernel
theorem dX11_readProject_29 : decode cX11_readProject 29 = .ok (.invokevirtual 367, 3) := by decide +kernel
theorem dX11_readProject_32 : decode cX11_readProject 32 = .ok (.goto 16, 3) := by decide +kernel
theorem dX11_readProject_35 : decode cX11_readProject 35 = .ok (.aload_n 0, 1) := by decide +kernel
theorem dX11_readProject_36 : decode cX11_readProject 36 = .ok (.invokevirtual 396, 3) := by decide +kernel
theorem dX11_readProject_39 : decode cX11_readProject 39 = .ok (.iconst (-1), 1) := by decide +kernel
theorem dX11_readProject_40 : decode cX11_readProject 40 = .ok (.if_icmp .eq 8, 3) := by decide +kernel
theorem dX11_readProject_43 : decode cX11_readProject 43 = .ok (.aload_n 0, 1) := by decide +kernel
theorem dX11_readProject_44 : decode cX11_readProject 44 = .ok (.iconst 3, 1) := by decide +kernel
theorem dX11_readProject_45 : decode cX11_readProject 45 = .ok (.invokevirtual 367, 3) := by decide +kernel
theorem dX11_readProject_48 : decode cX11_readProject 48 = .ok (.aload_n 0, 1) := by decide +kernel
theorem dX11_readProject_49 : decode cX11_readProject 49 = .ok (.getfield 346, 3) := by decide +kernel
theorem dX11_readProject_52 : decode cX11_readProject 52 = .ok (.ifCond .eq 4, 3) := by decide +kernel
theorem dX11_readProject_55 : decode cX11_readProject 55 = .ok (.return_, 1) := by decide +kernel
theorem dX11_readProject_56 : decode cX11_readProject 56 = .ok (.aload_n 0, 1) := by decide +kernel
theorem dX11_readProject_57 : decode cX11_readProject 57 = .ok (.getfield 13, 3) := by decide +kernel
theorem dX11_readProject_60 : decode cX11_readProject 60 = .ok (.iconst 1, 1) := by decide +kernel
theorem dX11_readProject_61 : decode cX11_readProject 61 = .ok (.iaload, 1) := by decide +kernel
theorem dX11_readProject_62 : decode cX11_readProject 62 = .ok (.istore_n 1, 1) := by decide +kernel
theorem dX11_readProject_63 : decode cX11_readProject 63 = .ok (.iconst 0, 1) := by decide +kernel
theorem dX11_readProject_64 : decode cX11_readProject 64 = .ok (.istore_n 2, 1) := by decide +kernel
theorem dX11_readProject_65 : decode cX11_readProject 65 = .ok (.iload_n 2, 1) := by decide +kernel
theorem dX11_readProject_66 : decode cX11_readProject 66 = .ok (.bipush 6, 2) := by decide +kernel
theorem dX11_readProject_68 : decode cX11_readProject 68 = .ok (.if_icmp .ge 28, 3) := by decide +kernel
theorem dX11_readProject_71 : decode cX11_readProject 71 = .ok (.aload_n 0, 1) := by decide +kernel
theorem dX11_readProject_72 : decode cX11_readProject 72 = .ok (.getfield 13, 3) := by decide +kernel
theorem dX11_readProject_75 : decode cX11_readProject 75 = .ok (.bipush 15, 2) := by decide +kernel
theorem dX11_readProject_77 : decode cX11_readProject 77 = .ok (.bipush 6, 2) := by decide +kernel
theorem dX11_readProject_79 : decode cX11_readProject 79 = .ok (.iload_n 1, 1) := by decide +kernel
theorem dX11_readProject_80 : decode cX11_readProject 80 = .ok (.imul, 1) := by decide +kernel
theorem dX11_readProject_81 : decode cX11_readProject 81 = .ok (.iadd, 1) := by decide +kernel
theorem dX11_readProject_82 : decode cX11_readProject 82 = .ok (.iload_n 2, 1) := by decide +kernel
theorem dX11_readProject_83 : decode cX11_readProject 83 = .ok (.iadd, 1) := by decide +kernel
theorem dX11_readProject_84 : decode cX11_readProject 84 = .ok (.aload_n 0, 1) := by decide +kernel
theorem dX11_readProject_85 : decode cX11_readProject 85 = .ok (.iload_n 2, 1) := by decide +kernel
theorem dX11_readProject_86 : decode cX11_readProject 86 = .ok (.invokevirtual 389, 3) := by decide +kernel
theorem dX11_readProject_89 : decode cX11_readProject 89 = .ok (.iastore, 1) := by decide +kernel
theorem dX11_readProject_90 : decode cX11_readProject 90 = .ok (.iinc 2 1, 3) := by decide +kernel
theorem dX11_readProject_93 : decode cX11_readProject 93 = .ok (.goto (-28), 3) := by decide +kernel
theorem dX11_readProject_96 : decode cX11_readProject 96 = .ok (.aload_n 0, 1) := by decide +kernel
theorem dX11_readProject_97 : decode cX11_readProject 97 = .ok (.invokevirtual 370, 3) := by decide +kernel
theorem dX11_readProject_100 : decode cX11_readProject 100 = .ok (.aload_n 0, 1) := by decide +kernel
theorem dX11_readProject_101 : decode cX11_readProject 101 = .ok (.getfield 13, 3) := by decide +kernel
theorem dX11_readProject_104 : decode cX11_readProject 104 = .ok (.iconst 3, 1) := by decide +kernel
theorem dX11_readProject_105 : decode cX11_readProject 105 = .ok (.iload_n 1, 1) := by decide +kernel
theorem dX11_readProject_106 : decode cX11_readProject 106 = .ok (.iadd, 1) := by decide +kernel
theorem dX11_readProject_107 : decode cX11_readProject 107 = .ok (.aload_n 0, 1) := by decide +kernel
theorem dX11_readProject_108 : decode cX11_readProject 108 = .ok (.iconst 1, 1) := by decide +kernel
theorem dX11_readProject_109 : decode cX11_readProject 109 = .ok (.sipush 9999, 3) := by decide +kernel
theorem dX11_readProject_112 : decode cX11_readProject 112 = .ok (.invokevirtual 399, 3) := by decide +kernel
theorem dX11_readProject_115 : decode cX11_readProject 115 = .ok (.iastore, 1) := by decide +kernel
theorem dX11_readProject_116 : decode cX11_readProject 116 = .ok (.aload_n 0, 1) := by decide +kernel
theorem dX11_readProject_117 : decode cX11_readProject 117 = .ok (.getfield 13, 3) := by decide +kernel
theorem dX11_readProject_120 : decode cX11_readProject 120 = .ok (.iconst 1, 1) := by decide +kernel
theorem dX11_readProject_121 : decode cX11_readProject 121 = .ok (.dup2, 1) := by decide +kernel
theorem dX11_readProject_122 : decode cX11_readProject 122 = .ok (.iaload, 1) := by decide +kernel
theorem dX11_readProject_123 : decode cX11_readProject 123 = .ok (.iconst 1, 1) := by decide +kernel
theorem dX11_readProject_124 : decode cX11_readProject 124 = .ok (.iadd, 1) := by decide +kernel
theorem dX11_readProject_125 : decode cX11_readProject 125 = .ok (.iastore, 1) := by decide +kernel
theorem dX11_readProject_126 : decode cX11_readProject 126 = .ok (.return_, 1) := by decide +kernel
def bX11_readProject_65 (Y : XS) (n : Nat) (v0 : Nat) (v1 : Int32) (s65 : (Int32 × PS)) : Option ((Int32 × PS) ⊕ PS) :=
  (if (6 : Int32) ≤ s65.1 then some (.inr s65.2) else kgr s65.2 v0 1 (fun b72 => kc (fX11_letterHere Y n s65.2 v0 s65.1) (fun q86 => kwi Y s65.2 b72 (((15 : Int32) + ((6 : Int32) * v1)) + s65.1) q86 (fun S89 => some (.inl (s65.1 + (1 : Int32), S89))))))
def jX11_readProject_48 (Y : XS) (n : Nat) (S : PS) (v0 : Nat) : Option (PS) :=
  kgi S v0 34 (fun x49 => (if x49 = 0 then kgr S v0 1 (fun b57 => kai Y S b57 (1 : Int32) (fun x61 => kc (iter (bX11_readProject_65 Y n v0 x61) n ((0 : Int32), S)) (fun r65 => kc (fX11_pass Y n r65 v0) (fun q97 => kgr q97 v0 1 (fun b101 => kc (fX11_number Y n q97 v0 (1 : Int32) (9999 : Int32)) (fun q112 => kwi Y q112.2 b101 ((3 : Int32) + x61) q112.1 (fun S115 => kgr S115 v0 1 (fun b117 => kai Y S115 b117 (1 : Int32) (fun x122 => kwi Y S115 b117 (1 : Int32) (x122 + (1 : Int32)) (fun S125 => some S125)))))))))) else some S))
def jX11_readProject_16 (Y : XS) (n : Nat) (S : PS) (v0 : Nat) : Option (PS) :=
  kc (fX11_pass Y n S v0) (fun q17 => kc (fX11_isName Y n q17 v0) (fun q21 => (if q21 = 0 then kc (fX11_wrong Y n q17 v0 (1 : Int32)) (fun q29 => jX11_readProject_48 Y n q29 v0) else kc (fX11_named Y n q17 v0) (fun q36 => (if q36 = (-1 : Int32) then jX11_readProject_48 Y n q17 v0 else kc (fX11_wrong Y n q17 v0 (3 : Int32)) (fun q45 => jX11_readProject_48 Y n q45 v0))))))
def fX11_readProject (Y : XS) (n : Nat) (S : PS) (a0 : Nat) : Option (PS) :=
  kgr S a0 1 (fun b1 => kai Y S b1 (1 : Int32) (fun x5 => (if x5 = (12 : Int32) then kc (fX11_wrong Y n S a0 (4 : Int32)) (fun q13 => jX11_readProject_16 Y n q13 a0) else jX11_readProject_16 Y n S a0)))
theorem wbX11_readProject_65 {C : CT} {X : XT} (hC : CK C RX11 cX11_readProject 3 none 7) (n : Nat) (v0 : Nat) (v1 : Int32) (hTv0 : Ty X.2.1 v0 11) (s65 : (Int32 × PS)) {o : (Int32 × PS) ⊕ PS} (hf : bX11_readProject_65 X.2.1 n v0 v1 s65 = some o) (hN : ∀ s', o = .inl s' → UW C X s'.2 65 [(0, .ref (X.1 v0)), (1, .int v1), (2, .int s'.1)] []) (hO0 : ∀ p', o = .inr p' → UW C X p' 96 [(0, .ref (X.1 v0)), (1, .int v1)] []) : UW C X s65.2 65 [(0, .ref (X.1 v0)), (1, .int v1), (2, .int s65.1)] [] := by
  unfold bX11_readProject_65 at hf
  refine u_iload_n hC dX11_readProject_65 2 rfl rfl ?_
  refine u_bipush (v := (6 : Int32)) hC dX11_readProject_66 (by decide) ?_
  refine u_icmp_ge (tgt := 96) hC dX11_readProject_68 (by decide) hf (fun h68 hf => ?_) (fun h68 hf => ?_)
  · refine u_sub (lv' := [(0, .ref (X.1 v0)), (1, .int v1)]) [0, 1] rfl ?_
    exact hO0 _ (Option.some.inj hf).symm
  · refine u_aload_n hC dX11_readProject_71 0 rfl rfl ?_
    refine u_gr hC lf_X11_13 rfl hTv0 dX11_readProject_72 hf (fun b72 hTb72 hf => ?_)
    refine u_bipush (v := (15 : Int32)) hC dX11_readProject_75 (by decide) ?_
    refine u_bipush (v := (6 : Int32)) hC dX11_readProject_77 (by decide) ?_
    refine u_iload_n hC dX11_readProject_79 1 rfl rfl ?_
    refine u_imul hC dX11_readProject_80 ?_
    refine u_iadd hC dX11_readProject_81 ?_
    refine u_iload_n hC dX11_readProject_82 2 rfl rfl ?_
    refine u_iadd hC dX11_readProject_83 ?_
    refine u_aload_n hC dX11_readProject_84 0 rfl rfl ?_
    refine u_iload_n hC dX11_readProject_85 2 rfl rfl ?_
    obtain ⟨q86, hq86, hf⟩ := kc_some hf
    refine u_callV hC (ctX11_letterHere (cL C) hC.tr (cG C) X.1 X.2.1 n s65.2 v0 s65.1 hTv0 hq86) lk_X11_389 rfl hTv0 (by decide) rfl (by decide) (by decide) rfl rfl (Nat.le_of_ble_eq_true rfl) dX11_readProject_86 ?_
    refine u_wi hC hTb72 dX11_readProject_89 hf (fun S89 hf => ?_)
    refine u_iinc (v := s65.1 + (1 : Int32)) (lv' := [(2, .int (s65.1 + (1 : Int32))), (0, .ref (X.1 v0)), (1, .int v1)]) hC dX11_readProject_90 2 rfl rfl (by decide) rfl ?_
    refine u_goto (tgt := 65) hC dX11_readProject_93 (by decide) ?_
    refine u_sub (lv' := [(0, .ref (X.1 v0)), (1, .int v1), (2, .int (s65.1 + (1 : Int32)))]) [1, 2, 0] rfl ?_
    exact hN _ (Option.some.inj hf).symm
theorem wjX11_readProject_48 {C : CT} {X : XT} (hC : CK C RX11 cX11_readProject 3 none 7) (n : Nat) (S : PS) (v0 : Nat)  (hTv0 : Ty X.2.1 v0 11) {o : PS} (hf : jX11_readProject_48 X.2.1 n S v0 = some o) (hR : Rt C X cX11_readProject none none o) : UW C X S 48 [(0, .ref (X.1 v0))] [] := by
  unfold jX11_readProject_48 at hf
  refine u_aload_n hC dX11_readProject_48 0 rfl rfl ?_
  refine u_gi hC lf_X11_346 rfl hTv0 dX11_readProject_49 hf (fun x49 hf => ?_)
  refine u_if_eq (tgt := 56) hC dX11_readProject_52 (by decide) hf (fun h52 hf => ?_) (fun h52 hf => ?_)
  · refine u_aload_n hC dX11_readProject_56 0 rfl rfl ?_
    refine u_gr hC lf_X11_13 rfl hTv0 dX11_readProject_57 hf (fun b57 hTb57 hf => ?_)
    refine u_iconst (v := (1 : Int32)) hC dX11_readProject_60 (by decide) ?_
    refine u_ai hC hTb57 dX11_readProject_61 hf (fun x61 hf => ?_)
    refine u_istore_n (lv' := [(1, .int x61), (0, .ref (X.1 v0))]) hC dX11_readProject_62 rfl (by decide) rfl ?_
    refine u_iconst (v := (0 : Int32)) hC dX11_readProject_63 (by decide) ?_
    refine u_istore_n (lv' := [(2, .int (0 : Int32)), (1, .int x61), (0, .ref (X.1 v0))]) hC dX11_readProject_64 rfl (by decide) rfl ?_
    obtain ⟨r65, hr65, hf⟩ := kc_some hf
    have hk65 : UW C X r65 96 [(0, .ref (X.1 v0)), (1, .int x61)] [] := by
      refine u_aload_n hC dX11_readProject_96 0 rfl rfl ?_
      obtain ⟨q97, hq97, hf⟩ := kc_some hf
      refine u_callV hC (ctX11_pass (cL C) hC.tr (cG C) X.1 X.2.1 n r65 v0 hTv0 hq97) lk_X11_370 rfl hTv0 (by decide) rfl (by decide) (by decide) rfl rfl (Nat.le_of_ble_eq_true rfl) dX11_readProject_97 ?_
      refine u_aload_n hC dX11_readProject_100 0 rfl rfl ?_
      refine u_gr hC lf_X11_13 rfl hTv0 dX11_readProject_101 hf (fun b101 hTb101 hf => ?_)
      refine u_iconst (v := (3 : Int32)) hC dX11_readProject_104 (by decide) ?_
      refine u_iload_n hC dX11_readProject_105 1 rfl rfl ?_
      refine u_iadd hC dX11_readProject_106 ?_
      refine u_aload_n hC dX11_readProject_107 0 rfl rfl ?_
      refine u_iconst (v := (1 : Int32)) hC dX11_readProject_108 (by decide) ?_
      refine u_sipush (v := (9999 : Int32)) hC dX11_readProject_109 (by decide) ?_
      obtain ⟨q112, hq112, hf⟩ := kc_some hf
      refine u_callV hC (ctX11_number (cL C) hC.tr (cG C) X.1 X.2.1 n q97 v0 (1 : Int32) (9999 : Int32) hTv0 hq112) lk_X11_399 rfl hTv0 (by decide) rfl (by decide) (by decide) rfl rfl (Nat.le_of_ble_eq_true rfl) dX11_readProject_112 ?_
      refine u_wi hC hTb101 dX11_readProject_115 hf (fun S115 hf => ?_)
      refine u_aload_n hC dX11_readProject_116 0 rfl rfl ?_
      refine u_gr hC lf_X11_13 rfl hTv0 dX11_readProject_117 hf (fun b117 hTb117 hf => ?_)
      refine u_iconst (v := (1 : Int32)) hC dX11_readProject_120 (by decide) ?_
      refine u_dup2 hC dX11_readProject_121 rfl rfl ?_
      refine u_ai hC hTb117 dX11_readProject_122 hf (fun x122 hf => ?_)
      refine u_iconst (v := (1 : Int32)) hC dX11_readProject_123 (by decide) ?_
      refine u_iadd hC dX11_readProject_124 ?_
      refine u_wi hC hTb117 dX11_readProject_125 hf (fun S125 hf => ?_)
      cases hf
      exact hR _ _ dX11_readProject_126 trivial
    refine u_sub (lv' := [(0, .ref (X.1 v0)), (1, .int x61), (2, .int (0 : Int32))]) [2, 1, 0] rfl ?_
    refine iter_ind (P := fun s65 => UW C X s65.2 65 [(0, .ref (X.1 v0)), (1, .int x61), (2, .int s65.1)] []) (fun s65 o' hb hin hout => ?_) n ((0 : Int32), S) hr65
    exact wbX11_readProject_65 hC n v0 x61 hTv0 s65 hb hin (fun p e => by rw [hout p e]; exact hk65)
  · cases hf
    exact hR _ _ dX11_readProject_55 trivial
theorem wjX11_readProject_16 {C : CT} {X : XT} (hC : CK C RX11 cX11_readProject 3 none 7) (n : Nat) (S : PS) (v0 : Nat)  (hTv0 : Ty X.2.1 v0 11) {o : PS} (hf : jX11_readProject_16 X.2.1 n S v0 = some o) (hR : Rt C X cX11_readProject none none o) : UW C X S 16 [(0, .ref (X.1 v0))] [] := by
  unfold jX11_readProject_16 at hf
  refine u_aload_n hC dX11_readProject_16 0 rfl rfl ?_
  obtain ⟨q17, hq17, hf⟩ := kc_some hf
  refine u_callV hC (ctX11_pass (cL C) hC.tr (cG C) X.1 X.2.1 n S v0 hTv0 hq17) lk_X11_370 rfl hTv0 (by decide) rfl (by decide) (by decide) rfl rfl (Nat.le_of_ble_eq_true rfl) dX11_readProject_17 ?_
  refine u_aload_n hC dX11_readProject_20 0 rfl rfl ?_
  obtain ⟨q21, hq21, hf⟩ := kc_some hf
  refine u_callV hC (ctX11_isName (cL C) hC.tr (cG C) X.1 X.2.1 n q17 v0 hTv0 hq21) lk_X11_392 rfl hTv0 (by decide) rfl (by decide) (by decide) rfl rfl (Nat.le_of_ble_eq_true rfl) dX11_readProject_21 ?_
  refine u_if_ne (tgt := 35) hC dX11_readProject_24 (by decide) hf (fun h24 hf => ?_) (fun h24 hf => ?_)
  · refine u_aload_n hC dX11_readProject_35 0 rfl rfl ?_
    obtain ⟨q36, hq36, hf⟩ := kc_some hf
    refine u_callV hC (ctX11_named (cL C) hC.tr (cG C) X.1 X.2.1 n q17 v0 hTv0 hq36) lk_X11_396 rfl hTv0 (by decide) rfl (by decide) (by decide) rfl rfl (Nat.le_of_ble_eq_true rfl) dX11_readProject_36 ?_
    refine u_iconst (v := (-1 : Int32)) hC dX11_readProject_39 (by decide) ?_
    refine u_icmp_eq (tgt := 48) hC dX11_readProject_40 (by decide) hf (fun h40 hf => ?_) (fun h40 hf => ?_)
    · exact wjX11_readProject_48 hC n q17 v0  hTv0 hf hR
    · refine u_aload_n hC dX11_readProject_43 0 rfl rfl ?_
      refine u_iconst (v := (3 : Int32)) hC dX11_readProject_44 (by decide) ?_
      obtain ⟨q45, hq45, hf⟩ := kc_some hf
      refine u_callV hC (ctX11_wrong (cL C) hC.tr (cG C) X.1 X.2.1 n q17 v0 (3 : Int32) hTv0 hq45) lk_X11_367 rfl hTv0 (by decide) rfl (by decide) (by decide) rfl rfl (Nat.le_of_ble_eq_true rfl) dX11_readProject_45 ?_
      exact wjX11_readProject_48 hC n q45 v0  hTv0 hf hR
  · refine u_aload_n hC dX11_readProject_27 0 rfl rfl ?_
    refine u_iconst (v := (1 : Int32)) hC dX11_readProject_28 (by decide) ?_
    obtain ⟨q29, hq29, hf⟩ := kc_some hf
    refine u_callV hC (ctX11_wrong (cL C) hC.tr (cG C) X.1 X.2.1 n q17 v0 (1 : Int32) hTv0 hq29) lk_X11_367 rfl hTv0 (by decide) rfl (by decide) (by decide) rfl rfl (Nat.le_of_ble_eq_true rfl) dX11_readProject_29 ?_
    refine u_goto (tgt := 48) hC dX11_readProject_32 (by decide) ?_
    exact wjX11_readProject_48 hC n q29 v0  hTv0 hf hR
theorem wX11_readProject {C : CT} {X : XT} (hC : CK C RX11 cX11_readProject 3 none 7) (n : Nat) (S : PS) (a0 : Nat) (hTa0 : Ty X.2.1 a0 11) {o : PS} (hf : fX11_readProject X.2.1 n S a0 = some o) (hR : Rt C X cX11_readProject none none o) : UW C X S 0 [(0, .ref (X.1 a0))] [] := by
  unfold fX11_readProject at hf
  refine u_aload_n hC dX11_readProject_0 0 rfl rfl ?_
  refine u_gr hC lf_X11_13 rfl hTa0 dX11_readProject_1 hf (fun b1 hTb1 hf => ?_)
  refine u_iconst (v := (1 : Int32)) hC dX11_readProject_4 (by decide) ?_
  refine u_ai hC hTb1 dX11_readProject_5 hf (fun x5 hf => ?_)
  refine u_bipush (v := (12 : Int32)) hC dX11_readProject_6 (by decide) ?_
  refine u_icmp_ne (tgt := 16) hC dX11_readProject_8 (by decide) hf (fun h8 hf => ?_) (fun h8 hf => ?_)
  · exact wjX11_readProject_16 hC n S a0  hTa0 hf hR
  · refine u_aload_n hC dX11_readProject_11 0 rfl rfl ?_
    refine u_iconst (v := (4 : Int32)) hC dX11_readProject_12 (by decide) ?_
    obtain ⟨q13, hq13, hf⟩ := kc_some hf
    refine u_callV hC (ctX11_wrong (cL C) hC.tr (cG C) X.1 X.2.1 n S a0 (4 : Int32) hTa0 hq13) lk_X11_367 rfl hTa0 (by decide) rfl (by decide) (by decide) rfl rfl (Nat.le_of_ble_eq_true rfl) dX11_readProject_13 ?_
    exact wjX11_readProject_16 hC n q13 a0  hTa0 hf hR
theorem ctX11_readProject (l : Launch) (hl : l.stackTraces = false) (G : GT) (ρ : Nat → Nat) (Y : XS) (n : Nat) (S : PS) (a0 : Nat) (hTa0 : Ty Y a0 11) {o : PS} (hf : fX11_readProject Y n S a0 = some o) : Mt l G yX11_readProject cX11_readProject 3 none 7 ρ Y [.ref (ρ a0)] S none o :=
  Mt_of hl (by decide) (Nat.le_of_ble_eq_true rfl) (fun C _ _ hC hR => wX11_readProject (X := (ρ, Y, 0, 0)) hC n S a0 hTa0 hf hR)
-- X11_readVotes
theorem dX11_readVotes_0 : decode cX11_readVotes 0 = .ok (.aload_n 0, 1) := by decide +kernel
theorem dX11_readVotes_1 : decode cX11_readVotes 1 = .ok (.invokevirtual 370, 3) := by decide +kernel
theorem dX11_readVotes_4 : decode cX11_readVotes 4 = .ok (.aload_n 0, 1) := by decide +kernel
theorem dX11_readVotes_5 : decode cX11_readVotes 5 = .ok (.iconst 1, 1) := by decide +kernel
theorem dX11_readVotes_6 : decode cX11_readVotes 6 = .ok (.bipush 9, 2) := by decide +kernel
theorem dX11_readVotes_8 : decode cX11_readVotes 8 = .ok (.invokevirtual 374, 3) := by decide +kernel
theorem dX11_readVotes_11 : decode cX11_readVotes 11 = .ok (.istore_n 1, 1) := by decide +kernel
theorem dX11_readVotes_12 : decode cX11_readVotes 12 = .ok (.aload_n 0, 1) := by decide +kernel
theorem dX11_readVotes_13 : decode cX11_readVotes 13 = .ok (.getfield 346, 3) := by decide +kernel
theorem dX11_readVotes_16 : decode cX11_readVotes 16 = .ok (.ifCond .ne 21, 3) := by decide +kernel
theorem dX11_readVotes_19 : decode cX11_readVotes 19 = .ok (.aload_n 0, 1) := by decide +kernel
theorem dX11_readVotes_20 : decode cX11_readVotes 20 = .ok (.getfield 13, 3) := by decide +kernel
theorem dX11_readVotes_23 : decode cX11_readVotes 23 = .ok (.iconst 2, 1) := by decide +kernel
theorem dX11_readVotes_24 : decode cX11_readVotes 24 = .ok (.iaload, 1) := by decide +kernel
theorem dX11_readVotes_25 : decode cX11_readVotes 25 = .ok (.iload_n 1, 1) := by decide +kernel
theorem dX11_readVotes_26 : decode cX11_readVotes 26 = .ok (.iadd, 1) := by decide +kernel
theorem dX11_readVotes_27 : decode cX11_readVotes 27 = .ok (.bipush 24, 2) := by decide +kernel
theorem dX11_readVotes_29 : decode cX11_readVotes 29 = .ok (.if_icmp .le 8, 3) := by decide +kernel
theorem dX11_readVotes_32 : decode cX11_readVotes 32 = .ok (.aload_n 0, 1) := by decide +kernel
theorem dX11_readVotes_33 : decode cX11_readVotes 33 = .ok (.iconst 4, 1) := by decide +kernel
theorem dX11_readVotes_34 : decode cX11_readVotes 34 = .ok (.invokevirtual 367, 3) := by decide +kernel
theorem dX11_readVotes_37 : decode cX11_readVotes 37 = .ok (.aload_n 0, 1) := by decide +kernel
theorem dX11_readVotes_38 : decode cX11_readVotes 38 = .ok (.invokevirtual 370, 3) := by decide +kernel
theorem dX11_readVotes_41 : decode cX11_readVotes 41 = .ok (.iconst 0, 1) := by decide +kernel
theorem dX11_readVotes_42 : decode cX11_readVotes 42 = .ok (.istore_n 2, 1) := by decide +kernel
theorem dX11_readVotes_43 : decode cX11_readVotes 43 = .ok (.aload_n 0, 1) := by decide +kernel
theorem dX11_readVotes_44 : decode cX11_readVotes 44 = .ok (.getfield 346, 3) := by decide +kernel
theorem dX11_readVotes_47 : decode cX11_readVotes 47 = .ok (.ifCond .ne 136, 3) := by decide +kernel
theorem dX11_readVotes_50 : decode cX11_readVotes 50 = .ok (.aload_n 0, 1) := by decide +kernel
theorem dX11_readVotes_51 : decode cX11_readVotes 51 = .ok (.getfield 340, 3) := by decide +kernel
theorem dX11_readVotes_54 : decode cX11_readVotes 54 = .ok (.iconst 1, 1) := by decide +kernel
theorem dX11_readVotes_55 : decode cX11_readVotes 55 = .ok (.if_icmp .ne 128, 3) := by decide +kernel
theorem dX11_readVotes_58 : decode cX11_readVotes 58 = .ok (.aload_n 0, 1) := by decide +kernel
theorem dX11_readVotes_59 : decode cX11_readVotes 59 = .ok (.invokevirtual 392, 3) := by decide +kernel
theorem dX11_readVotes_62 : decode cX11_readVotes 62 = .ok (.ifCond .ne 8, 3) := by decide +kernel
theorem dX11_readVotes_65 : decode cX11_readVotes 65 = .ok (.aload_n 0, 1) := by decide +kernel
theorem dX11_readVotes_66 : decode cX11_readVotes 66 = .ok (.iconst 1, 1) := by decide +kernel
theorem dX11_readVotes_67 : decode cX11_readVotes 67 = .ok (.invokevirtual 367, 3) := by decide +kernel
theorem dX11_readVotes_70 : decode cX11_readVotes 70 = .ok (.aload_n 0, 1) := by decide +kernel
theorem dX11_readVotes_71 : decode cX11_readVotes 71 = .ok (.getfield 346, 3) := by decide +kernel
theorem dX11_readVotes_74 : decode cX11_readVotes 74 = .ok (.ifCond .ne 10, 3) := by decide +kernel
theorem dX11_readVotes_77 : decode cX11_readVotes 77 = .ok (.aload_n 0, 1) := by decide +kernel
theorem dX11_readVotes_78 : decode cX11_readVotes 78 = .ok (.invokevirtual 396, 3) := by decide +kernel
theorem dX11_readVotes_81 : decode cX11_readVotes 81 = .ok (.goto 4, 3) := by decide +kernel
theorem dX11_readVotes_84 : decode cX11_readVotes 84 = .ok (.iconst 0, 1) := by decide +kernel
theorem dX11_readVotes_85 : decode cX11_readVotes 85 = .ok (.istore_n 3, 1) := by decide +kernel
theorem dX11_readVotes_86 : decode cX11_readVotes 86 = .ok (.aload_n 0, 1) := by decide +kernel
theorem dX11_readVotes_87 : decode cX11_readVotes 87 = .ok (.getfield 346, 3) := by decide +kernel
theorem dX11_readVotes_90 : decode cX11_readVotes 90 = .ok (.ifCond .ne 21, 3) := by decide +kernel
theorem dX11_readVotes_93 : decode cX11_readVotes 93 = .ok (.iload_n 3, 1) := by decide +kernel
theorem dX11_readVotes_94 : decode cX11_readVotes 94 = .ok (.iconst (-1), 1) := by decide +kernel
theorem dX11_readVotes_95 : decode cX11_readVotes 95 = .ok (.if_icmp .eq 11, 3) := by decide +kernel
theorem dX11_readVotes_98 : decode cX11_readVotes 98 = .ok (.iload_n 2, 1) := by decide +kernel
theorem dX11_readVotes_99 : decode cX11_readVotes 99 = .ok (.iload_n 3, 1) := by decide +kernel
theorem dX11_readVotes_100 : decode cX11_readVotes 100 = .ok (.invokestatic 147, 3) := by decide +kernel
theorem dX11_readVotes_103 : decode cX11_readVotes 103 = .ok (.ifCond .eq 8, 3) := by decide +kernel
theorem dX11_readVotes_106 : decode cX11_readVotes 106 = .ok (.aload_n 0, 1) := by decide +kernel
theorem dX11_readVotes_107 : decode cX11_readVotes 107 = .ok (.iconst 3, 1) := by decide +kernel
theorem dX11_readVotes_108 : decode cX11_readVotes 108 = .ok (.invokevirtual 367, 3) := by decide +kernel
theorem dX11_readVotes_111 : decode cX11_readVotes 111 = .ok (.aload_n 0, 1) := by decide +kernel
theorem dX11_readVotes_112 : decode cX11_readVotes 112 = .ok (.getfield 346, 3) := by decide +kernel
theorem dX11_readVotes_115 : decode cX11_readVotes 115 = .ok (.ifCond .eq 4, 3) := by decide +kernel
theorem dX11_readVotes_118 : decode cX11_readVotes 118 = .ok (.return_, 1) := by decide +kernel
theorem dX11_readVotes_119 : decode cX11_readVotes 119 = .ok (.iload_n 2, 1) := by decide +kernel
theorem dX11_readVotes_120 : decode cX11_readVotes 120 = .ok (.iconst 1, 1) := by decide +kernel
theorem dX11_readVotes_121 : decode cX11_readVotes 121 = .ok (.iload_n 3, 1) := by decide +kernel
theorem dX11_readVotes_122 : decode cX11_readVotes 122 = .ok (.ishl, 1) := by decide +kernel
theorem dX11_readVotes_123 : decode cX11_readVotes 123 = .ok (.ior, 1) := by decide +kernel
theorem dX11_readVotes_124 : decode cX11_readVotes 124 = .ok (.istore_n 2, 1) := by decide +kernel
theorem dX11_readVotes_125 : decode cX11_readVotes 125 = .ok (.aload_n 0, 1) := by decide +kernel
theorem dX11_readVotes_126 : decode cX11_readVotes 126 = .ok (.invokevirtual 370, 3) := by decide +kernel
theorem dX11_readVotes_129 : decode cX11_readVotes 129 = .ok (.aload_n 0, 1) := by decide +kernel
theorem dX11_readVotes_130 : decode cX11_readVotes 130 = .ok (.iconst 0, 1) := by decide +kernel
theorem dX11_readVotes_131 : decode cX11_readVotes 131 = .ok (.bipush 9, 2) := by decide +kernel
theorem dX11_readVotes_133 : decode cX11_readVotes 133 = .ok (.invokevirtual 399, 3) := by decide +kernel
theorem dX11_readVotes_136 : decode cX11_readVotes 136 = .ok (.istore 4, 2) := by decide +kernel
theorem dX11_readVotes_138 : decode cX11_readVotes 138 = .ok (.iconst 0, 1) := by decide +kernel
theorem dX11_readVotes_139 : decode cX11_readVotes 139 = .ok (.istore 5, 2) := by decide +kernel
theorem dX11_readVotes_141 : decode cX11_readVotes 141 = .ok (.iload 5, 2) := by decide +kernel
theorem dX11_readVotes_143 : decode cX11_readVotes 143 = .ok (.iload_n 1, 1) := by decide +kernel
theorem dX11_readVotes_144 : decode cX11_readVotes 144 = .ok (.if_icmp .ge 36, 3) := by decide +kernel
theorem dX11_readVotes_147 : decode cX11_readVotes 147 = .ok (.aload_n 0, 1) := by decide +kernel
theorem dX11_readVotes_148 : decode cX11_readVotes 148 = .ok (.getfield 346, 3) := by decide +kernel
theorem dX11_readVotes_151 : decode cX11_readVotes 151 = .ok (.ifCond .ne 29, 3) := by decide +kernel
theorem dX11_readVotes_154 : decode cX11_readVotes 154 = .ok (.aload_n 0, 1) := by decide +kernel
theorem dX11_readVotes_155 : decode cX11_readVotes 155 = .ok (.getfield 13, 3) := by decide +kernel
theorem dX11_readVotes_158 : decode cX11_readVotes 158 = .ok (.aload_n 0, 1) := by decide +kernel
theorem dX11_readVotes_159 : decode cX11_readVotes 159 = .ok (.getfield 13, 3) := by decide +kernel
theorem dX11_readVotes_162 : decode cX11_readVotes 162 = .ok (.iconst 2, 1) := by decide +kernel
theorem dX11_readVotes_163 : decode cX11_readVotes 163 = .ok (.iaload, 1) := by decide +kernel
theorem dX11_readVotes_164 : decode cX11_readVotes 164 = .ok (.iload 5, 2) := by decide +kernel
theorem dX11_readVotes_166 : decode cX11_readVotes 166 = .ok (.iadd, 1) := by decide +kernel
theorem dX11_readVotes_167 : decode cX11_readVotes 167 = .ok (.iload_n 3, 1) := by decide +kernel
theorem dX11_readVotes_168 : decode cX11_readVotes 168 = .ok (.invokestatic 73, 3) := by decide +kernel
theorem dX11_readVotes_171 : decode cX11_readVotes 171 = .ok (.iload 4, 2) := by decide +kernel
theorem dX11_readVotes_173 : decode cX11_readVotes 173 = .ok (.iastore, 1) := by decide +kernel
theorem dX11_readVotes_174 : decode cX11_readVotes 174 = .ok (.iinc 5 1, 3) := by decide +kernel
theorem dX11_readVotes_177 : decode cX11_readVotes 177 = .ok (.goto (-36), 3) := by decide +kernel
theorem dX11_readVotes_180 : decode cX11_readVotes 180 = .ok (.goto (-137), 3) := by decide +kernel
theorem dX11_readVotes_183 : decode cX11_readVotes 183 = .ok (.aload_n 0, 1) := by decide +kernel
theorem dX11_readVotes_184 : decode cX11_readVotes 184 = .ok (.getfield 13, 3) := by decide +kernel
theorem dX11_readVotes_187 : decode cX11_readVotes 187 = .ok (.iconst 2, 1) := by decide +kernel
theorem dX11_readVotes_188 : decode cX11_readVotes 188 = .ok (.dup2, 1) := by decide +kernel
theorem dX11_readVotes_189 : decode cX11_readVotes 189 = .ok (.iaload, 1) := by decide +kernel
theorem dX11_readVotes_190 : decode cX11_readVotes 190 = .ok (.iload_n 1, 1) := by decide +kernel
theorem dX11_readVotes_191 : decode cX11_readVotes 191 = .ok (.iadd, 1) := by decide +kernel
theorem dX11_readVotes_192 : decode cX11_readVotes 192 = .ok (.iastore, 1) := by decide +kernel
theorem dX11_readVotes_193 : decode cX11_readVotes 193 = .ok (.return_, 1) := by decide +kernel
def bX11_readVotes_141 (Y : XS) (n : Nat) (v0 : Nat) (v1 : Int32) (v2 : Int32) (v3 : Int32) (v4 : Int32) (s141 : (Int32 × PS)) : Option ((Int32 × PS) ⊕ PS) :=
  (if v1 ≤ s141.1 then some (.inr s141.2) else kgi s141.2 v0 34 (fun x148 => (if x148 = 0 then kgr s141.2 v0 1 (fun b155 => kgr s141.2 v0 1 (fun b159 => kai Y s141.2 b159 (2 : Int32) (fun x163 => kc (fX11_scoreAt Y n s141.2 (x163 + s141.1) v3) (fun q168 => kwi Y s141.2 b155 q168 v4 (fun S173 => some (.inl (s141.1 + (1 : Int32), S173))))))) else some (.inr s141.2))))
def jX11_readVotes_180_43 (Y : XS) (n : Nat) (S : PS) (v0 : Nat) (v1 : Int32) (v2 : Int32) : Option ((Int32 × PS) ⊕ (PS ⊕ (PS))) :=
  some (.inl (v2, S))
def jX11_readVotes_111_43 (Y : XS) (n : Nat) (S : PS) (v0 : Nat) (v1 : Int32) (v2 : Int32) (v3 : Int32) : Option ((Int32 × PS) ⊕ (PS ⊕ (PS))) :=
  kgi S v0 34 (fun x112 => (if x112 = 0 then kc (fX11_pass Y n S v0) (fun q126 => kc (fX11_number Y n q126 v0 (0 : Int32) (9 : Int32)) (fun q133 => kc (iter (bX11_readVotes_141 Y n v0 v1 (v2 ||| ((1 : Int32) <<< (v3 &&& 31))) v3 q133.1) n ((0 : Int32), q133.2)) (fun r141 => jX11_readVotes_180_43 Y n r141 v0 v1 (v2 ||| ((1 : Int32) <<< (v3 &&& 31)))))) else some (.inr (.inr S))))
def jX11_readVotes_106_43 (Y : XS) (n : Nat) (S : PS) (v0 : Nat) (v1 : Int32) (v2 : Int32) (v3 : Int32) : Option ((Int32 × PS) ⊕ (PS ⊕ (PS))) :=
  kc (fX11_wrong Y n S v0 (3 : Int32)) (fun q108 => jX11_readVotes_111_43 Y n q108 v0 v1 v2 v3)
def jX11_readVotes_85_43 (Y : XS) (n : Nat) (S : PS) (v0 : Nat) (v1 : Int32) (v2 : Int32) (t0 : Int32) : Option ((Int32 × PS) ⊕ (PS ⊕ (PS))) :=
  kgi S v0 34 (fun x87 => (if x87 = 0 then (if t0 = (-1 : Int32) then jX11_readVotes_106_43 Y n S v0 v1 v2 t0 else kc (fX11_isOf Y n S v2 t0) (fun q100 => (if q100 = 0 then jX11_readVotes_111_43 Y n S v0 v1 v2 t0 else jX11_readVotes_106_43 Y n S v0 v1 v2 t0))) else jX11_readVotes_111_43 Y n S v0 v1 v2 t0))
def jX11_readVotes_70_43 (Y : XS) (n : Nat) (S : PS) (v0 : Nat) (v1 : Int32) (v2 : Int32) : Option ((Int32 × PS) ⊕ (PS ⊕ (PS))) :=
  kgi S v0 34 (fun x71 => (if x71 = 0 then kc (fX11_named Y n S v0) (fun q78 => jX11_readVotes_85_43 Y n S v0 v1 v2 q78) else jX11_readVotes_85_43 Y n S v0 v1 v2 (0 : Int32)))
def bX11_readVotes_43 (Y : XS) (n : Nat) (v0 : Nat) (v1 : Int32) (s43 : (Int32 × PS)) : Option ((Int32 × PS) ⊕ (PS ⊕ (PS))) :=
  kgi s43.2 v0 34 (fun x44 => (if x44 = 0 then kgi s43.2 v0 31 (fun x51 => (if x51 = (1 : Int32) then kc (fX11_isName Y n s43.2 v0) (fun q59 => (if q59 = 0 then kc (fX11_wrong Y n s43.2 v0 (1 : Int32)) (fun q67 => jX11_readVotes_70_43 Y n q67 v0 v1 s43.1) else jX11_readVotes_70_43 Y n s43.2 v0 v1 s43.1)) else some (.inr (.inl s43.2)))) else some (.inr (.inl s43.2))))
def jX11_readVotes_183 (Y : XS) (n : Nat) (S : PS) (v0 : Nat) (v1 : Int32) : Option (PS) :=
  kgr S v0 1 (fun b184 => kai Y S b184 (2 : Int32) (fun x189 => kwi Y S b184 (2 : Int32) (x189 + v1) (fun S192 => some S192)))
def jX11_readVotes_37 (Y : XS) (n : Nat) (S : PS) (v0 : Nat) (v1 : Int32) : Option (PS) :=
  kc (fX11_pass Y n S v0) (fun q38 => kc (iter (bX11_readVotes_43 Y n v0 v1) n ((0 : Int32), q38)) (fun r43 => ks r43 (fun p43_0 => jX11_readVotes_183 Y n p43_0 v0 v1) (fun p43_1 => some p43_1)))
def fX11_readVotes (Y : XS) (n : Nat) (S : PS) (a0 : Nat) : Option (PS) :=
  kc (fX11_pass Y n S a0) (fun q1 => kc (fX11_numberHere Y n q1 a0 (1 : Int32) (9 : Int32)) (fun q8 => kgi q8.2 a0 34 (fun x13 => (if x13 = 0 then kgr q8.2 a0 1 (fun b20 => kai Y q8.2 b20 (2 : Int32) (fun x24 => (if (x24 + q8.1) ≤ (24 : Int32) then jX11_readVotes_37 Y n q8.2 a0 q8.1 else kc (fX11_wrong Y n q8.2 a0 (4 : Int32)) (fun q34 => jX11_readVotes_37 Y n q34 a0 q8.1)))) else jX11_readVotes_37 Y n q8.2 a0 q8.1))))
theorem wbX11_readVotes_141 {C : CT} {X : XT} (hC : CK C RX11 cX11_readVotes 6 none 7) (n : Nat) (v0 : Nat) (v1 : Int32) (v2 : Int32) (v3 : Int32) (v4 : Int32) (hTv0 : Ty X.2.1 v0 11) (s141 : (Int32 × PS)) {o : (Int32 × PS) ⊕ PS} (hf : bX11_readVotes_141 X.2.1 n v0 v1 v2 v3 v4 s141 = some o) (hN : ∀ s', o = .inl s' → UW C X s'.2 141 [(0, .ref (X.1 v0)), (1, .int v1), (2, .int v2), (3, .int v3), (4, .int v4), (5, .int s'.1)] []) (hO0 : ∀ p', o = .inr p' → UW C X p' 180 [(0, .ref (X.1 v0)), (1, .int v1), (2, .int v2)] []) : UW C X s141.2 141 [(0, .ref (X.1 v0)), (1, .int v1), (2, .int v2), (3, .int v3), (4, .int v4), (5, .int s141.1)] [] := by
  unfold bX11_readVotes_141 at hf
  refine u_iload hC dX11_readVotes_141 5 rfl ?_
  refine u_iload_n hC dX11_readVotes_143 1 rfl rfl ?_
  refine u_icmp_ge (tgt := 180) hC dX11_readVotes_144 (by decide) hf (fun h144 hf => ?_) (fun h144 hf => ?_)
  · refine u_sub (lv' := [(0, .ref (X.1 v0)), (1, .int v1), (2, .int v2)]) [0, 1, 2] rfl ?_
    exact hO0 _ (Option.some.inj hf).symm
  · refine u_aload_n hC dX11_readVotes_147 0 rfl rfl ?_
    refine u_gi hC lf_X11_346 rfl hTv0 dX11_readVotes_148 hf (fun x148 hf => ?_)
    refine u_if_ne (tgt := 180) hC dX11_readVotes_151 (by decide) hf (fun h151 hf => ?_) (fun h151 hf => ?_)
    · refine u_sub (lv' := [(0, .ref (X.1 v0)), (1, .int v1), (2, .int v2)]) [0, 1, 2] rfl ?_
      exact hO0 _ (Option.some.inj hf).symm
    · refine u_aload_n hC dX11_readVotes_154 0 rfl rfl ?_
      refine u_gr hC lf_X11_13 rfl hTv0 dX11_readVotes_155 hf (fun b155 hTb155 hf => ?_)
      refine u_aload_n hC dX11_readVotes_158 0 rfl rfl ?_
      refine u_gr hC lf_X11_13 rfl hTv0 dX11_readVotes_159 hf (fun b159 hTb159 hf => ?_)
      refine u_iconst (v := (2 : Int32)) hC dX11_readVotes_162 (by decide) ?_
      refine u_ai hC hTb159 dX11_readVotes_163 hf (fun x163 hf => ?_)
      refine u_iload hC dX11_readVotes_164 5 rfl ?_
      refine u_iadd hC dX11_readVotes_166 ?_
      refine u_iload_n hC dX11_readVotes_167 3 rfl rfl ?_
      obtain ⟨q168, hq168, hf⟩ := kc_some hf
      refine u_callS hC (ctX11_scoreAt (cL C) hC.tr (cG C) X.1 X.2.1 n s141.2 (x163 + s141.1) v3  hq168) lk_X11_73 (by decide) (by decide) rfl rfl (Nat.le_of_ble_eq_true rfl) dX11_readVotes_168 ?_
      refine u_iload hC dX11_readVotes_171 4 rfl ?_
      refine u_wi hC hTb155 dX11_readVotes_173 hf (fun S173 hf => ?_)
      refine u_iinc (v := s141.1 + (1 : Int32)) (lv' := [(5, .int (s141.1 + (1 : Int32))), (0, .ref (X.1 v0)), (1, .int v1), (2, .int v2), (3, .int v3), (4, .int v4)]) hC dX11_readVotes_174 5 rfl rfl (by decide) rfl ?_
      refine u_goto (tgt := 141) hC dX11_readVotes_177 (by decide) ?_
      refine u_sub (lv' := [(0, .ref (X.1 v0)), (1, .int v1), (2, .int v2), (3, .int v3), (4, .int v4), (5, .int (s141.1 + (1 : Int32)))]) [1, 2, 3, 4, 5, 0] rfl ?_
      exact hN _ (Option.some.inj hf).symm
theorem wjX11_readVotes_180_43 {C : CT} {X : XT} (hC : CK C RX11 cX11_readVotes 6 none 7) (n : Nat) (S : PS) (v0 : Nat) (v1 : Int32) (v2 : Int32)  (hTv0 : Ty X.2.1 v0 11) {o : (Int32 × PS) ⊕ (PS ⊕ (PS))} (hf : jX11_readVotes_180_43 X.2.1 n S v0 v1 v2 = some o) (hN : ∀ s', o = .inl s' → UW C X s'.2 43 [(0, .ref (X.1 v0)), (1, .int v1), (2, .int s'.1)] []) (hO0 : ∀ p', o = .inr (.inl p') → UW C X p' 183 [(0, .ref (X.1 v0)), (1, .int v1)] []) (hR : ∀ q', o = .inr (.inr q') → Rt C X cX11_readVotes none none q') : UW C X S 180 [(0, .ref (X.1 v0)), (1, .int v1), (2, .int v2)] [] := by
  unfold jX11_readVotes_180_43 at hf
  refine u_goto (tgt := 43) hC dX11_readVotes_180 (by decide) ?_
  exact hN _ (Option.some.inj hf).symm
theorem wjX11_readVotes_111_43 {C : CT} {X : XT} (hC : CK C RX11 cX11_readVotes 6 none 7) (n : Nat) (S : PS) (v0 : Nat) (v1 : Int32) (v2 : Int32) (v3 : Int32)  (hTv0 : Ty X.2.1 v0 11) {o : (Int32 × PS) ⊕ (PS ⊕ (PS))} (hf : jX11_readVotes_111_43 X.2.1 n S v0 v1 v2 v3 = some o) (hN : ∀ s', o = .inl s' → UW C X s'.2 43 [(0, .ref (X.1 v0)), (1, .int v1), (2, .int s'.1)] []) (hO0 : ∀ p', o = .inr (.inl p') → UW C X p' 183 [(0, .ref (X.1 v0)), (1, .int v1)] []) (hR : ∀ q', o = .inr (.inr q') → Rt C X cX11_readVotes none none q') : UW C X S 111 [(0, .ref (X.1 v0)), (1, .int v1), (2, .int v2), (3, .int v3)] [] := by
  unfold jX11_readVotes_111_43 at hf
  refine u_aload_n hC dX11_readVotes_111 0 rfl rfl ?_
  refine u_gi hC lf_X11_346 rfl hTv0 dX11_readVotes_112 hf (fun x112 hf => ?_)
  refine u_if_eq (tgt := 119) hC dX11_readVotes_115 (by decide) hf (fun h115 hf => ?_) (fun h115 hf => ?_)
  · refine u_iload_n hC dX11_readVotes_119 2 rfl rfl ?_
    refine u_iconst (v := (1 : Int32)) hC dX11_readVotes_120 (by decide) ?_
    refine u_iload_n hC dX11_readVotes_121 3 rfl rfl ?_
    refine u_ishl hC dX11_readVotes_122 ?_
    refine u_ior hC dX11_readVotes_123 ?_
    refine u_istore_n (lv' := [(2, .int (v2 ||| ((1 : Int32) <<< (v3 &&& 31)))), (0, .ref (X.1 v0)), (1, .int v1), (3, .int v3)]) hC dX11_readVotes_124 rfl (by decide) rfl ?_
    refine u_aload_n hC dX11_readVotes_125 1 rfl rfl ?_
    obtain ⟨q126, hq126, hf⟩ := kc_some hf
    refine u_callV hC (ctX11_pass (cL C) hC.tr (cG C) X.1 X.2.1 n S v0 hTv0 hq126) lk_X11_370 rfl hTv0 (by decide) rfl (by decide) (by decide) rfl rfl (Nat.le_of_ble_eq_true rfl) dX11_readVotes_126 ?_
    refine u_aload_n hC dX11_readVotes_129 1 rfl rfl ?_
    refine u_iconst (v := (0 : Int32)) hC dX11_readVotes_130 (by decide) ?_
    refine u_bipush (v := (9 : Int32)) hC dX11_readVotes_131 (by decide) ?_
    obtain ⟨q133, hq133, hf⟩ := kc_some hf
    refine u_callV hC (ctX11_number (cL C) hC.tr (cG C) X.1 X.2.1 n q126 v0 (0 : Int32) (9 : Int32) hTv0 hq133) lk_X11_399 rfl hTv0 (by decide) rfl (by decide) (by decide) rfl rfl (Nat.le_of_ble_eq_true rfl) dX11_readVotes_133 ?_
    refine u_istore (lv' := [(4, .int q133.1), (2, .int (v2 ||| ((1 : Int32) <<< (v3 &&& 31)))), (0, .ref (X.1 v0)), (1, .int v1), (3, .int v3)]) hC dX11_readVotes_136 (by decide) rfl ?_
    refine u_iconst (v := (0 : Int32)) hC dX11_readVotes_138 (by decide) ?_
    refine u_istore (lv' := [(5, .int (0 : Int32)), (4, .int q133.1), (2, .int (v2 ||| ((1 : Int32) <<< (v3 &&& 31)))), (0, .ref (X.1 v0)), (1, .int v1), (3, .int v3)]) hC dX11_readVotes_139 (by decide) rfl ?_
    obtain ⟨r141, hr141, hf⟩ := kc_some hf
    have hk141 : UW C X r141 180 [(0, .ref (X.1 v0)), (1, .int v1), (2, .int (v2 ||| ((1 : Int32) <<< (v3 &&& 31))))] [] := by
      exact wjX11_readVotes_180_43 hC n r141 v0 v1 (v2 ||| ((1 : Int32) <<< (v3 &&& 31)))  hTv0 hf hN hO0 hR
    refine u_sub (lv' := [(0, .ref (X.1 v0)), (1, .int v1), (2, .int (v2 ||| ((1 : Int32) <<< (v3 &&& 31)))), (3, .int v3), (4, .int q133.1), (5, .int (0 : Int32))]) [3, 4, 2, 5, 1, 0] rfl ?_
    refine iter_ind (P := fun s141 => UW C X s141.2 141 [(0, .ref (X.1 v0)), (1, .int v1), (2, .int (v2 ||| ((1 : Int32) <<< (v3 &&& 31)))), (3, .int v3), (4, .int q133.1), (5, .int s141.1)] []) (fun s141 o' hb hin hout => ?_) n ((0 : Int32), q133.2) hr141
    exact wbX11_readVotes_141 hC n v0 v1 (v2 ||| ((1 : Int32) <<< (v3 &&& 31))) v3 q133.1 hTv0 s141 hb hin (fun p e => by rw [hout p e]; exact hk141)
  · exact hR _ (Option.some.inj hf).symm _ _ dX11_readVotes_118 trivial
theorem wjX11_readVotes_106_43 {C : CT} {X : XT} (hC : CK C RX11 cX11_readVotes 6 none 7) (n : Nat) (S : PS) (v0 : Nat) (v1 : Int32) (v2 : Int32) (v3 : Int32)  (hTv0 : Ty X.2.1 v0 11) {o : (Int32 × PS) ⊕ (PS ⊕ (PS))} (hf : jX11_readVotes_106_43 X.2.1 n S v0 v1 v2 v3 = some o) (hN : ∀ s', o = .inl s' → UW C X s'.2 43 [(0, .ref (X.1 v0)), (1, .int v1), (2, .int s'.1)] []) (hO0 : ∀ p', o = .inr (.inl p') → UW C X p' 183 [(0, .ref (X.1 v0)), (1, .int v1)] []) (hR : ∀ q', o = .inr (.inr q') → Rt C X cX11_readVotes none none q') : UW C X S 106 [(0, .ref (X.1 v0)), (1, .int v1), (2, .int v2), (3, .int v3)] [] := by
  unfold jX11_readVotes_106_43 at hf
  refine u_aload_n hC dX11_readVotes_106 0 rfl rfl ?_
  refine u_iconst (v := (3 : Int32)) hC dX11_readVotes_107 (by decide) ?_
  obtain ⟨q108, hq108, hf⟩ := kc_some hf
  refine u_callV hC (ctX11_wrong (cL C) hC.tr (cG C) X.1 X.2.1 n S v0 (3 : Int32) hTv0 hq108) lk_X11_367 rfl hTv0 (by decide) rfl (by decide) (by decide) rfl rfl (Nat.le_of_ble_eq_true rfl) dX11_readVotes_108 ?_
  exact wjX11_readVotes_111_43 hC n q108 v0 v1 v2 v3  hTv0 hf hN hO0 hR
theorem wjX11_readVotes_85_43 {C : CT} {X : XT} (hC : CK C RX11 cX11_readVotes 6 none 7) (n : Nat) (S : PS) (v0 : Nat) (v1 : Int32) (v2 : Int32) (t0 : Int32)  (hTv0 : Ty X.2.1 v0 11) {o : (Int32 × PS) ⊕ (PS ⊕ (PS))} (hf : jX11_readVotes_85_43 X.2.1 n S v0 v1 v2 t0 = some o) (hN : ∀ s', o = .inl s' → UW C X s'.2 43 [(0, .ref (X.1 v0)), (1, .int v1), (2, .int s'.1)] []) (hO0 : ∀ p', o = .inr (.inl p') → UW C X p' 183 [(0, .ref (X.1 v0)), (1, .int v1)] []) (hR : ∀ q', o = .inr (.inr q') → Rt C X cX11_readVotes none none q') : UW C X S 85 [(0, .ref (X.1 v0)), (1, .int v1), (2, .int v2)] [.int t0] := by
  unfold jX11_readVotes_85_43 at hf
  refine u_istore_n (lv' := [(3, .int t0), (0, .ref (X.1 v0)), (1, .int v1), (2, .int v2)]) hC dX11_readVotes_85 rfl (by decide) rfl ?_
  refine u_aload_n hC dX11_readVotes_86 1 rfl rfl ?_
  refine u_gi hC lf_X11_346 rfl hTv0 dX11_readVotes_87 hf (fun x87 hf => ?_)
  refine u_if_ne (tgt := 111) hC dX11_readVotes_90 (by decide) hf (fun h90 hf => ?_) (fun h90 hf => ?_)
  · refine u_sub (lv' := [(0, .ref (X.1 v0)), (1, .int v1), (2, .int v2), (3, .int t0)]) [1, 2, 3, 0] rfl ?_
    exact wjX11_readVotes_111_43 hC n S v0 v1 v2 t0  hTv0 hf hN hO0 hR
  · refine u_iload_n hC dX11_readVotes_93 0 rfl rfl ?_
    refine u_iconst (v := (-1 : Int32)) hC dX11_readVotes_94 (by decide) ?_
    refine u_icmp_eq (tgt := 106) hC dX11_readVotes_95 (by decide) hf (fun h95 hf => ?_) (fun h95 hf => ?_)
    · refine u_sub (lv' := [(0, .ref (X.1 v0)), (1, .int v1), (2, .int v2), (3, .int t0)]) [1, 2, 3, 0] rfl ?_
      exact wjX11_readVotes_106_43 hC n S v0 v1 v2 t0  hTv0 hf hN hO0 hR
    · refine u_iload_n hC dX11_readVotes_98 3 rfl rfl ?_
      refine u_iload_n hC dX11_readVotes_99 0 rfl rfl ?_
      obtain ⟨q100, hq100, hf⟩ := kc_some hf
      refine u_callS hC (ctX11_isOf (cL C) hC.tr (cG C) X.1 X.2.1 n S v2 t0  hq100) lk_X11_147 (by decide) (by decide) rfl rfl (Nat.le_of_ble_eq_true rfl) dX11_readVotes_100 ?_
      refine u_if_eq (tgt := 111) hC dX11_readVotes_103 (by decide) hf (fun h103 hf => ?_) (fun h103 hf => ?_)
      · refine u_sub (lv' := [(0, .ref (X.1 v0)), (1, .int v1), (2, .int v2), (3, .int t0)]) [1, 2, 3, 0] rfl ?_
        exact wjX11_readVotes_111_43 hC n S v0 v1 v2 t0  hTv0 hf hN hO0 hR
      · refine u_sub (lv' := [(0, .ref (X.1 v0)), (1, .int v1), (2, .int v2), (3, .int t0)]) [1, 2, 3, 0] rfl ?_
        exact wjX11_readVotes_106_43 hC n S v0 v1 v2 t0  hTv0 hf hN hO0 hR
theorem wjX11_readVotes_70_43 {C : CT} {X : XT} (hC : CK C RX11 cX11_readVotes 6 none 7) (n : Nat) (S : PS) (v0 : Nat) (v1 : Int32) (v2 : Int32)  (hTv0 : Ty X.2.1 v0 11) {o : (Int32 × PS) ⊕ (PS ⊕ (PS))} (hf : jX11_readVotes_70_43 X.2.1 n S v0 v1 v2 = some o) (hN : ∀ s', o = .inl s' → UW C X s'.2 43 [(0, .ref (X.1 v0)), (1, .int v1), (2, .int s'.1)] []) (hO0 : ∀ p', o = .inr (.inl p') → UW C X p' 183 [(0, .ref (X.1 v0)), (1, .int v1)] []) (hR : ∀ q', o = .inr (.inr q') → Rt C X cX11_readVotes none none q') : UW C X S 70 [(0, .ref (X.1 v0)), (1, .int v1), (2, .int v2)] [] := by
  unfold jX11_readVotes_70_43 at hf
  refine u_aload_n hC dX11_readVotes_70 0 rfl rfl ?_
  refine u_gi hC lf_X11_346 rfl hTv0 dX11_readVotes_71 hf (fun x71 hf => ?_)
  refine u_if_ne (tgt := 84) hC dX11_readVotes_74 (by decide) hf (fun h74 hf => ?_) (fun h74 hf => ?_)
  · refine u_iconst (v := (0 : Int32)) hC dX11_readVotes_84 (by decide) ?_
    exact wjX11_readVotes_85_43 hC n S v0 v1 v2 (0 : Int32)  hTv0 hf hN hO0 hR
  · refine u_aload_n hC dX11_readVotes_77 0 rfl rfl ?_
    obtain ⟨q78, hq78, hf⟩ := kc_some hf
    refine u_callV hC (ctX11_named (cL C) hC.tr (cG C) X.1 X.2.1 n S v0 hTv0 hq78) lk_X11_396 rfl hTv0 (by decide) rfl (by decide) (by decide) rfl rfl (Nat.le_of_ble_eq_true rfl) dX11_readVotes_78 ?_
    refine u_goto (tgt := 85) hC dX11_readVotes_81 (by decide) ?_
    exact wjX11_readVotes_85_43 hC n S v0 v1 v2 q78  hTv0 hf hN hO0 hR
theorem wbX11_readVotes_43 {C : CT} {X : XT} (hC : CK C RX11 cX11_readVotes 6 none 7) (n : Nat) (v0 : Nat) (v1 : Int32) (hTv0 : Ty X.2.1 v0 11) (s43 : (Int32 × PS)) {o : (Int32 × PS) ⊕ (PS ⊕ (PS))} (hf : bX11_readVotes_43 X.2.1 n v0 v1 s43 = some o) (hN : ∀ s', o = .inl s' → UW C X s'.2 43 [(0, .ref (X.1 v0)), (1, .int v1), (2, .int s'.1)] []) (hO0 : ∀ p', o = .inr (.inl p') → UW C X p' 183 [(0, .ref (X.1 v0)), (1, .int v1)] []) (hR : ∀ q', o = .inr (.inr q') → Rt C X cX11_readVotes none none q') : UW C X s43.2 43 [(0, .ref (X.1 v0)), (1, .int v1), (2, .int s43.1)] [] := by
  unfold bX11_readVotes_43 at hf
  refine u_aload_n hC dX11_readVotes_43 0 rfl rfl ?_
  refine u_gi hC lf_X11_346 rfl hTv0 dX11_readVotes_44 hf (fun x44 hf => ?_)
  refine u_if_ne (tgt := 183) hC dX11_readVotes_47 (by decide) hf (fun h47 hf => ?_) (fun h47 hf => ?_)
  · refine u_sub (lv' := [(0, .ref (X.1 v0)), (1, .int v1)]) [0, 1] rfl ?_
    exact hO0 _ (Option.some.inj hf).symm
  · refine u_aload_n hC dX11_readVotes_50 0 rfl rfl ?_
    refine u_gi hC lf_X11_340 rfl hTv0 dX11_readVotes_51 hf (fun x51 hf => ?_)
    refine u_iconst (v := (1 : Int32)) hC dX11_readVotes_54 (by decide) ?_
    refine u_icmp_ne (tgt := 183) hC dX11_readVotes_55 (by decide) hf (fun h55 hf => ?_) (fun h55 hf => ?_)
    · refine u_sub (lv' := [(0, .ref (X.1 v0)), (1, .int v1)]) [0, 1] rfl ?_
      exact hO0 _ (Option.some.inj hf).symm
    · refine u_aload_n hC dX11_readVotes_58 0 rfl rfl ?_
      obtain ⟨q59, hq59, hf⟩ := kc_some hf
      refine u_callV hC (ctX11_isName (cL C) hC.tr (cG C) X.1 X.2.1 n s43.2 v0 hTv0 hq59) lk_X11_392 rfl hTv0 (by decide) rfl (by decide) (by decide) rfl rfl (Nat.le_of_ble_eq_true rfl) dX11_readVotes_59 ?_
      refine u_if_ne (tgt := 70) hC dX11_readVotes_62 (by decide) hf (fun h62 hf => ?_) (fun h62 hf => ?_)
      · exact wjX11_readVotes_70_43 hC n s43.2 v0 v1 s43.1  hTv0 hf hN hO0 hR
      · refine u_aload_n hC dX11_readVotes_65 0 rfl rfl ?_
        refine u_iconst (v := (1 : Int32)) hC dX11_readVotes_66 (by decide) ?_
        obtain ⟨q67, hq67, hf⟩ := kc_some hf
        refine u_callV hC (ctX11_wrong (cL C) hC.tr (cG C) X.1 X.2.1 n s43.2 v0 (1 : Int32) hTv0 hq67) lk_X11_367 rfl hTv0 (by decide) rfl (by decide) (by decide) rfl rfl (Nat.le_of_ble_eq_true rfl) dX11_readVotes_67 ?_
        exact wjX11_readVotes_70_43 hC n q67 v0 v1 s43.1  hTv0 hf hN hO0 hR
theorem wjX11_readVotes_183 {C : CT} {X : XT} (hC : CK C RX11 cX11_readVotes 6 none 7) (n : Nat) (S : PS) (v0 : Nat) (v1 : Int32)  (hTv0 : Ty X.2.1 v0 11) {o : PS} (hf : jX11_readVotes_183 X.2.1 n S v0 v1 = some o) (hR : Rt C X cX11_readVotes none none o) : UW C X S 183 [(0, .ref (X.1 v0)), (1, .int v1)] [] := by
  unfold jX11_readVotes_183 at hf
  refine u_aload_n hC dX11_readVotes_183 0 rfl rfl ?_
  refine u_gr hC lf_X11_13 rfl hTv0 dX11_readVotes_184 hf (fun b184 hTb184 hf => ?_)
  refine u_iconst (v := (2 : Int32)) hC dX11_readVotes_187 (by decide) ?_
  refine u_dup2 hC dX11_readVotes_188 rfl rfl ?_
  refine u_ai hC hTb184 dX11_readVotes_189 hf (fun x189 hf => ?_)
  refine u_iload_n hC dX11_readVotes_190 1 rfl rfl ?_
  refine u_iadd hC dX11_readVotes_191 ?_
  refine u_wi hC hTb184 dX11_readVotes_192 hf (fun S192 hf => ?_)
  cases hf
  exact hR _ _ dX11_readVotes_193 trivial
theorem wjX11_readVotes_37 {C : CT} {X : XT} (hC : CK C RX11 cX11_readVotes 6 none 7) (n : Nat) (S : PS) (v0 : Nat) (v1 : Int32)  (hTv0 : Ty X.2.1 v0 11) {o : PS} (hf : jX11_readVotes_37 X.2.1 n S v0 v1 = some o) (hR : Rt C X cX11_readVotes none none o) : UW C X S 37 [(0, .ref (X.1 v0)), (1, .int v1)] [] := by
  unfold jX11_readVotes_37 at hf
  refine u_aload_n hC dX11_readVotes_37 0 rfl rfl ?_
  obtain ⟨q38, hq38, hf⟩ := kc_some hf
  refine u_callV hC (ctX11_pass (cL C) hC.tr (cG C) X.1 X.2.1 n S v0 hTv0 hq38) lk_X11_370 rfl hTv0 (by decide) rfl (by decide) (by decide) rfl rfl (Nat.le_of_ble_eq_true rfl) dX11_readVotes_38 ?_
  refine u_iconst (v := (0 : Int32)) hC dX11_readVotes_41 (by decide) ?_
  refine u_istore_n (lv' := [(2, .int (0 : Int32)), (0, .ref (X.1 v0)), (1, .int v1)]) hC dX11_readVotes_42 rfl (by decide) rfl ?_
  obtain ⟨r43, hr43, hf⟩ := kc_some hf
  have hk43_0 : ∀ p43_0, r43 = (.inl p43_0) → UW C X p43_0 183 [(0, .ref (X.1 v0)), (1, .int v1)] [] := by
    intro p43_0 he
    subst he
    have hf := ks_l hf
    exact wjX11_readVotes_183 hC n p43_0 v0 v1  hTv0 hf hR
  have hk43_1 : ∀ p43_1, r43 = (.inr p43_1) → Rt C X cX11_readVotes none none p43_1 := by
    intro p43_1 he
    subst he
    have hf := ks_r hf
    cases hf
    exact hR
  refine u_sub (lv' := [(0, .ref (X.1 v0)), (1, .int v1), (2, .int (0 : Int32))]) [1, 2, 0] rfl ?_
  refine iter_ind (P := fun s43 => UW C X s43.2 43 [(0, .ref (X.1 v0)), (1, .int v1), (2, .int s43.1)] []) (fun s43 o' hb hin hout => ?_) n ((0 : Int32), q38) hr43
  exact wbX11_readVotes_43 hC n v0 v1 hTv0 s43 hb hin (fun p e => hk43_0 p (hout _ e).symm) (fun p e => hk43_1 p (hout _ e).symm)
theorem wX11_readVotes {C : CT} {X : XT} (hC : CK C RX11 cX11_readVotes 6 none 7) (n : Nat) (S : PS) (a0 : Nat) (hTa0 : Ty X.2.1 a0 11) {o : PS} (hf : fX11_readVotes X.2.1 n S a0 = some o) (hR : Rt C X cX11_readVotes none none o) : UW C X S 0 [(0, .ref (X.1 a0))] [] := by
  unfold fX11_readVotes at hf
  refine u_aload_n hC dX11_readVotes_0 0 rfl rfl ?_
  obtain ⟨q1, hq1, hf⟩ := kc_some hf
  refine u_callV hC (ctX11_pass (cL C) hC.tr (cG C) X.1 X.2.1 n S a0 hTa0 hq1) lk_X11_370 rfl hTa0 (by decide) rfl (by decide) (by decide) rfl rfl (Nat.le_of_ble_eq_true rfl) dX11_readVotes_1 ?_
  refine u_aload_n hC dX11_readVotes_4 0 rfl rfl ?_
  refine u_iconst (v := (1 : Int32)) hC dX11_readVotes_5 (by decide) ?_
  refine u_bipush (v := (9 : Int32)) hC dX11_readVotes_6 (by decide) ?_
  obtain ⟨q8, hq8, hf⟩ := kc_some hf
  refine u_callV hC (ctX11_numberHere (cL C) hC.tr (cG C) X.1 X.2.1 n q1 a0 (1 : Int32) (9 : Int32) hTa0 hq8) lk_X11_374 rfl hTa0 (by decide) rfl (by decide) (by decide) rfl rfl (Nat.le_of_ble_eq_true rfl) dX11_readVotes_8 ?_
  refine u_istore_n (lv' := [(1, .int q8.1), (0, .ref (X.1 a0))]) hC dX11_readVotes_11 rfl (by decide) rfl ?_
  refine u_aload_n hC dX11_readVotes_12 1 rfl rfl ?_
  refine u_gi hC lf_X11_346 rfl hTa0 dX11_readVotes_13 hf (fun x13 hf => ?_)
  refine u_if_ne (tgt := 37) hC dX11_readVotes_16 (by decide) hf (fun h16 hf => ?_) (fun h16 hf => ?_)
  · refine u_sub (lv' := [(0, .ref (X.1 a0)), (1, .int q8.1)]) [1, 0] rfl ?_
    exact wjX11_readVotes_37 hC n q8.2 a0 q8.1  hTa0 hf hR
  · refine u_aload_n hC dX11_readVotes_19 1 rfl rfl ?_
    refine u_gr hC lf_X11_13 rfl hTa0 dX11_readVotes_20 hf (fun b20 hTb20 hf => ?_)
    refine u_iconst (v := (2 : Int32)) hC dX11_readVotes_23 (by decide) ?_
    refine u_ai hC hTb20 dX11_readVotes_24 hf (fun x24 hf => ?_)
    refine u_iload_n hC dX11_readVotes_25 0 rfl rfl ?_
    refine u_iadd hC dX11_readVotes_26 ?_
    refine u_bipush (v := (24 : Int32)) hC dX11_readVotes_27 (by decide) ?_
    refine u_icmp_le (tgt := 37) hC dX11_readVotes_29 (by decide) hf (fun h29 hf => ?_) (fun h29 hf => ?_)
    · refine u_sub (lv' := [(0, .ref (X.1 a0)), (1, .int q8.1)]) [1, 0] rfl ?_
      exact wjX11_readVotes_37 hC n q8.2 a0 q8.1  hTa0 hf hR
    · refine u_aload_n hC dX11_readVotes_32 1 rfl rfl ?_
      refine u_iconst (v := (4 : Int32)) hC dX11_readVotes_33 (by decide) ?_
      obtain ⟨q34, hq34, hf⟩ := kc_some hf
      refine u_callV hC (ctX11_wrong (cL C) hC.tr (cG C) X.1 X.2.1 n q8.2 a0 (4 : Int32) hTa0 hq34) lk_X11_367 rfl hTa0 (by decide) rfl (by decide) (by decide) rfl rfl (Nat.le_of_ble_eq_true rfl) dX11_readVotes_34 ?_
      refine u_sub (lv' := [(0, .ref (X.1 a0)), (1, .int q8.1)]) [1, 0] rfl ?_
      exact wjX11_readVotes_37 hC n q34 a0 q8.1  hTa0 hf hR
theorem ctX11_readVotes (l : Launch) (hl : l.stackTraces = false) (G : GT) (ρ : Nat → Nat) (Y : XS) (n : Nat) (S : PS) (a0 : Nat) (hTa0 : Ty Y a0 11) {o : PS} (hf : fX11_readVotes Y n S a0 = some o) : Mt l G yX11_readVotes cX11_readVotes 6 none 7 ρ Y [.ref (ρ a0)] S none o :=
  Mt_of hl (by decide) (Nat.le_of_ble_eq_true rfl) (fun C _ _ hC hR => wX11_readVotes (X := (ρ, Y, 0, 0)) hC n S a0 hTa0 hf hR)
-- X11_readPart
theorem dX11_readPart_0 : decode cX11_readPart 0 = .ok (.aload_n 0, 1) := by decide +kernel
theorem dX11_readPart_1 : decode cX11_readPart 1 = .ok (.bipush 40, 2) := by decide +kernel
theorem dX11_readPart_3 : decode cX11_readPart 3 = .ok (.invokevirtual 364, 3) := by decide +kernel
theorem dX11_readPart_6 : decode cX11_readPart 6 = .ok (.ifCond .eq 52, 3) := by decide +kernel
theorem dX11_readPart_9 : decode cX11_readPart 9 = .ok (.aload_n 0, 1) := by decide +kernel
theorem dX11_readPart_10 : decode cX11_readPart 10 = .ok (.getfield 402, 3) := by decide +kernel
theorem dX11_readPart_13 : decode cX11_readPart 13 = .ok (.bipush 6, 2) := by decide +kernel
theorem dX11_readPart_15 : decode cX11_readPart 15 = .ok (.if_icmp .ne 8, 3) := by decide +kernel
theorem dX11_readPart_18 : decode cX11_readPart 18 = .ok (.aload_n 0, 1) := by decide +kernel
theorem dX11_readPart_19 : decode cX11_readPart 19 = .ok (.iconst 4, 1) := by decide +kernel
theorem dX11_readPart_20 : decode cX11_readPart 20 = .ok (.invokevirtual 367, 3) := by decide +kernel
theorem dX11_readPart_23 : decode cX11_readPart 23 = .ok (.aload_n 0, 1) := by decide +kernel
theorem dX11_readPart_24 : decode cX11_readPart 24 = .ok (.dup, 1) := by decide +kernel
theorem dX11_readPart_25 : decode cX11_readPart 25 = .ok (.getfield 402, 3) := by decide +kernel
theorem dX11_readPart_28 : decode cX11_readPart 28 = .ok (.iconst 1, 1) := by decide +kernel
theorem dX11_readPart_29 : decode cX11_readPart 29 = .ok (.iadd, 1) := by decide +kernel
theorem dX11_readPart_30 : decode cX11_readPart 30 = .ok (.putfield 402, 3) := by decide +kernel
theorem dX11_readPart_33 : decode cX11_readPart 33 = .ok (.aload_n 0, 1) := by decide +kernel
theorem dX11_readPart_34 : decode cX11_readPart 34 = .ok (.invokevirtual 370, 3) := by decide +kernel
theorem dX11_readPart_37 : decode cX11_readPart 37 = .ok (.aload_n 0, 1) := by decide +kernel
theorem dX11_readPart_38 : decode cX11_readPart 38 = .ok (.invokevirtual 405, 3) := by decide +kernel
theorem dX11_readPart_41 : decode cX11_readPart 41 = .ok (.aload_n 0, 1) := by decide +kernel
theorem dX11_readPart_42 : decode cX11_readPart 42 = .ok (.bipush 41, 2) := by decide +kernel
theorem dX11_readPart_44 : decode cX11_readPart 44 = .ok (.invokevirtual 408, 3) := by decide +kernel
theorem dX11_readPart_47 : decode cX11_readPart 47 = .ok (.aload_n 0, 1) := by decide +kernel
theorem dX11_readPart_48 : decode cX11_readPart 48 = .ok (.dup, 1) := by decide +kernel
theorem dX11_readPart_49 : decode cX11_readPart 49 = .ok (.getfield 402, 3) := by decide +kernel
theorem dX11_readPart_52 : decode cX11_readPart 52 = .ok (.iconst 1, 1) := by decide +kernel
theorem dX11_readPart_53 : decode cX11_readPart 53 = .ok (.isub, 1) := by decide +kernel
theorem dX11_readPart_54 : decode cX11_readPart 54 = .ok (.putfield 402, 3) := by decide +kernel
theorem dX11_readPart_57 : decode cX11_readPart 57 = .ok (.return_, 1) := by decide +kernel
theorem dX11_readPart_58 : decode cX11_readPart 58 = .ok (.aload_n 0, 1) := by decide +kernel
theorem dX11_readPart_59 : decode cX11_readPart 59 = .ok (.getfield 346, 3) := by decide +kernel
theorem dX11_readPart_62 : decode cX11_readPart 62 = .ok (.ifCond .ne 21, 3) := by decide +kernel
theorem dX11_readPart_65 : decode cX11_readPart 65 = .ok (.aload_n 0, 1) := by decide +kernel
theorem dX11_readPart_66 : decode cX11_readPart 66 = .ok (.getfield 340, 3) := by decide +kernel
theorem dX11_readPart_69 : decode cX11_readPart 69 = .ok (.iconst 2, 1) := by decide +kernel
theorem dX11_readPart_70 : decode cX11_readPart 70 = .ok (.if_icmp .ne 13, 3) := by decide +kernel
theorem dX11_readPart_73 : decode cX11_readPart 73 = .ok (.aload_n 0, 1) := by decide +kernel
theorem dX11_readPart_74 : decode cX11_readPart 74 = .ok (.iconst 0, 1) := by decide +kernel
theorem dX11_readPart_75 : decode cX11_readPart 75 = .ok (.sipush 9999, 3) := by decide +kernel
theorem dX11_readPart_78 : decode cX11_readPart 78 = .ok (.invokevirtual 399, 3) := by decide +kernel
theorem dX11_readPart_81 : decode cX11_readPart 81 = .ok (.istore_n 1, 1) := by decide +kernel
theorem dX11_readPart_82 : decode cX11_readPart 82 = .ok (.return_, 1) := by decide +kernel
theorem dX11_readPart_83 : decode cX11_readPart 83 = .ok (.aload_n 0, 1) := by decide +kernel
theorem dX11_readPart_84 : decode cX11_readPart 84 = .ok (.ldc_w 411, 3) := by decide +kernel
theorem dX11_readPart_87 : decode cX11_readPart 87 = .ok (.invokevirtual 379, 3) := by decide +kernel
theorem dX11_readPart_90 : decode cX11_readPart 90 = .ok (.ifCond .ne 38, 3) := by decide +kernel
theorem dX11_readPart_93 : decode cX11_readPart 93 = .ok (.aload_n 0, 1) := by decide +kernel
theorem dX11_readPart_94 : decode cX11_readPart 94 = .ok (.ldc_w 413, 3) := by decide +kernel
theorem dX11_readPart_97 : decode cX11_readPart 97 = .ok (.invokevirtual 379, 3) := by decide +kernel
theorem dX11_readPart_100 : decode cX11_readPart 100 = .ok (.ifCond .ne 28, 3) := by decide +kernel
theorem dX11_readPart_103 : decode cX11_readPart 103 = .ok (.aload_n 0, 1) := by decide +kernel
theorem dX11_readPart_104 : decode cX11_readPart 104 = .ok (.ldc_w 415, 3) := by decide +kernel
theorem dX11_readPart_107 : decode cX11_readPart 107 = .ok (.invokevirtual 379, 3) := by decide +kernel
theorem dX11_readPart_110 : decode cX11_readPart 110 = .ok (.ifCond .ne 18, 3) := by decide +kernel
theorem dX11_readPart_113 : decode cX11_readPart 113 = .ok (.aload_n 0, 1) := by decide +kernel
theorem dX11_readPart_114 : decode cX11_readPart 114 = .ok (.ldc_w 417, 3) := by decide +kernel
theorem dX11_readPart_117 : decode cX11_readPart 117 = .ok (.invokevirtual 379, 3) := by decide +kernel
theorem dX11_readPart_120 : decode cX11_readPart 120 = .ok (.ifCond .ne 8, 3) := by decide +kernel
theorem dX11_readPart_123 : decode cX11_readPart 123 = .ok (.aload_n 0, 1) := by decide +kernel
theorem dX11_readPart_124 : decode cX11_readPart 124 = .ok (.iconst 1, 1) := by decide +kernel
theorem dX11_readPart_125 : decode cX11_readPart 125 = .ok (.invokevirtual 367, 3) := by decide +kernel
theorem dX11_readPart_128 : decode cX11_readPart 128 = .ok (.aload_n 0, 1) := by decide +kernel
theorem dX11_readPart_129 : decode cX11_readPart 129 = .ok (.invokevirtual 370, 3) := by decide +kernel
theorem dX11_readPart_132 : decode cX11_readPart 132 = .ok (.return_, 1) := by decide +kernel
def jX11_readPart_128 (Y : XS) (n : Nat) (rc : PS → Nat → Option (PS)) (S : PS) (v0 : Nat) : Option (PS) :=
  kc (fX11_pass Y n S v0) (fun q129 => some q129)
def jX11_readPart_83 (Y : XS) (n : Nat) (rc : PS → Nat → Option (PS)) (S : PS) (v0 : Nat) : Option (PS) :=
  kc (fX11_isWord Y n S v0 20) (fun q87 => (if q87 = 0 then kc (fX11_isWord Y n S v0 21) (fun q97 => (if q97 = 0 then kc (fX11_isWord Y n S v0 22) (fun q107 => (if q107 = 0 then kc (fX11_isWord Y n S v0 23) (fun q117 => (if q117 = 0 then kc (fX11_wrong Y n S v0 (1 : Int32)) (fun q125 => jX11_readPart_128 Y n rc q125 v0) else jX11_readPart_128 Y n rc S v0)) else jX11_readPart_128 Y n rc S v0)) else jX11_readPart_128 Y n rc S v0)) else jX11_readPart_128 Y n rc S v0))
def jX11_readPart_23 (Y : XS) (n : Nat) (rc : PS → Nat → Option (PS)) (S : PS) (v0 : Nat) : Option (PS) :=
  kgi S v0 37 (fun x25 => kpi S v0 37 (x25 + (1 : Int32)) (fun S30 => kc (fX11_pass Y n S30 v0) (fun q34 => kc (rc q34 v0) (fun q38 => kc (fX11_must Y n q38 v0 (41 : Int32)) (fun q44 => kgi q44 v0 37 (fun x49 => kpi q44 v0 37 (x49 - (1 : Int32)) (fun S54 => some S54)))))))
def fX11_readPart (Y : XS) (n : Nat) (rc : PS → Nat → Option (PS)) (S : PS) (a0 : Nat) : Option (PS) :=
  kc (fX11_isSign Y n S a0 (40 : Int32)) (fun q3 => (if q3 = 0 then kgi S a0 34 (fun x59 => (if x59 = 0 then kgi S a0 31 (fun x66 => (if x66 = (2 : Int32) then kc (fX11_number Y n S a0 (0 : Int32) (9999 : Int32)) (fun q78 => some q78.2) else jX11_readPart_83 Y n rc S a0)) else jX11_readPart_83 Y n rc S a0)) else kgi S a0 37 (fun x10 => (if x10 = (6 : Int32) then kc (fX11_wrong Y n S a0 (4 : Int32)) (fun q20 => jX11_readPart_23 Y n rc q20 a0) else jX11_readPart_23 Y n rc S a0))))
theorem wjX11_readPart_128 {C : CT} {X : XT} {dr : Nat} (hC : CK C RX11 cX11_readPart 2 none (dr + 6)) (n : Nat) (rc : PS → Nat → Option (PS)) (hrc : ∀ (S : PS) (a : Nat) (o : PS), Ty X.2.1 a 11 → rc S a = some o → Mt (cL C) (cG C) yX11_readSum cX11_readSum 1 none dr X.1 X.2.1 [.ref (X.1 a)] S none o) (S : PS) (v0 : Nat)  (hTv0 : Ty X.2.1 v0 11) {o : PS} (hf : jX11_readPart_128 X.2.1 n rc S v0 = some o) (hR : Rt C X cX11_readPart none none o) : UW C X S 128 [(0, .ref (X.1 v0))] [] := by
  unfold jX11_readPart_128 at hf
  refine u_aload_n hC dX11_readPart_128 0 rfl rfl ?_
  obtain ⟨q129, hq129, hf⟩ := kc_some hf
  refine u_callV hC (ctX11_pass (cL C) hC.tr (cG C) X.1 X.2.1 n S v0 hTv0 hq129) lk_X11_370 rfl hTv0 (by decide) rfl (by omega) (by decide) rfl rfl (Nat.le_of_ble_eq_true rfl) dX11_readPart_129 ?_
  cases hf
  exact hR _ _ dX11_readPart_132 trivial
theorem wjX11_readPart_83 {C : CT} {X : XT} {dr : Nat} (hC : CK C RX11 cX11_readPart 2 none (dr + 6)) (n : Nat) (rc : PS → Nat → Option (PS)) (hrc : ∀ (S : PS) (a : Nat) (o : PS), Ty X.2.1 a 11 → rc S a = some o → Mt (cL C) (cG C) yX11_readSum cX11_readSum 1 none dr X.1 X.2.1 [.ref (X.1 a)] S none o) (S : PS) (v0 : Nat)  (hTv0 : Ty X.2.1 v0 11) {o : PS} (hf : jX11_readPart_83 X.2.1 n rc S v0 = some o) (hR : Rt C X cX11_readPart none none o) : UW C X S 83 [(0, .ref (X.1 v0))] [] := by
  unfold jX11_readPart_83 at hf
  refine u_aload_n hC dX11_readPart_83 0 rfl rfl ?_
  refine u_ldsw (i := 20) hC (by decide) rfl rfl dX11_readPart_84 ?_
  obtain ⟨q87, hq87, hf⟩ := kc_some hf
  refine u_callV hC (ctX11_isWord (cL C) hC.tr (cG C) X.1 X.2.1 n S v0 20 hTv0 (show 20 < nStr by decide) hq87) lk_X11_379 rfl hTv0 (by decide) rfl (by omega) (by decide) rfl rfl (Nat.le_of_ble_eq_true rfl) dX11_readPart_87 ?_
  refine u_if_ne (tgt := 128) hC dX11_readPart_90 (by decide) hf (fun h90 hf => ?_) (fun h90 hf => ?_)
  · exact wjX11_readPart_128 hC n rc hrc S v0  hTv0 hf hR
  · refine u_aload_n hC dX11_readPart_93 0 rfl rfl ?_
    refine u_ldsw (i := 21) hC (by decide) rfl rfl dX11_readPart_94 ?_
    obtain ⟨q97, hq97, hf⟩ := kc_some hf
    refine u_callV hC (ctX11_isWord (cL C) hC.tr (cG C) X.1 X.2.1 n S v0 21 hTv0 (show 21 < nStr by decide) hq97) lk_X11_379 rfl hTv0 (by decide) rfl (by omega) (by decide) rfl rfl (Nat.le_of_ble_eq_true rfl) dX11_readPart_97 ?_
    refine u_if_ne (tgt := 128) hC dX11_readPart_100 (by decide) hf (fun h100 hf => ?_) (fun h100 hf => ?_)
    · exact wjX11_readPart_128 hC n rc hrc S v0  hTv0 hf hR
    · refine u_aload_n hC dX11_readPart_103 0 rfl rfl ?_
      refine u_ldsw (i := 22) hC (by decide) rfl rfl dX11_readPart_104 ?_
      obtain ⟨q107, hq107, hf⟩ := kc_some hf
      refine u_callV hC (ctX11_isWord (cL C) hC.tr (cG C) X.1 X.2.1 n S v0 22 hTv0 (show 22 < nStr by decide) hq107) lk_X11_379 rfl hTv0 (by decide) rfl (by omega) (by decide) rfl rfl (Nat.le_of_ble_eq_true rfl) dX11_readPart_107 ?_
      refine u_if_ne (tgt := 128) hC dX11_readPart_110 (by decide) hf (fun h110 hf => ?_) (fun h110 hf => ?_)
      · exact wjX11_readPart_128 hC n rc hrc S v0  hTv0 hf hR
      · refine u_aload_n hC dX11_readPart_113 0 rfl rfl ?_
        refine u_ldsw (i := 23) hC (by decide) rfl rfl dX11_readPart_114 ?_
        obtain ⟨q117, hq117, hf⟩ := kc_some hf
        refine u_callV hC (ctX11_isWord (cL C) hC.tr (cG C) X.1 X.2.1 n S v0 23 hTv0 (show 23 < nStr by decide) hq117) lk_X11_379 rfl hTv0 (by decide) rfl (by omega) (by decide) rfl rfl (Nat.le_of_ble_eq_true rfl) dX11_readPart_117 ?_
        refine u_if_ne (tgt := 128) hC dX11_readPart_120 (by decide) hf (fun h120 hf => ?_) (fun h120 hf => ?_)
        · exact wjX11_readPart_128 hC n rc hrc S v0  hTv0 hf hR
        · refine u_aload_n hC dX11_readPart_123 0 rfl rfl ?_
          refine u_iconst (v := (1 : Int32)) hC dX11_readPart_124 (by decide) ?_
          obtain ⟨q125, hq125, hf⟩ := kc_some hf
          refine u_callV hC (ctX11_wrong (cL C) hC.tr (cG C) X.1 X.2.1 n S v0 (1 : Int32) hTv0 hq125) lk_X11_367 rfl hTv0 (by decide) rfl (by omega) (by decide) rfl rfl (Nat.le_of_ble_eq_true rfl) dX11_readPart_125 ?_
          exact wjX11_readPart_128 hC n rc hrc q125 v0  hTv0 hf hR
theorem wjX11_readPart_23 {C : CT} {X : XT} {dr : Nat} (hC : CK C RX11 cX11_readPart 2 none (dr + 6)) (n : Nat) (rc : PS → Nat → Option (PS)) (hrc : ∀ (S : PS) (a : Nat) (o : PS), Ty X.2.1 a 11 → rc S a = some o → Mt (cL C) (cG C) yX11_readSum cX11_readSum 1 none dr X.1 X.2.1 [.ref (X.1 a)] S none o) (S : PS) (v0 : Nat)  (hTv0 : Ty X.2.1 v0 11) {o : PS} (hf : jX11_readPart_23 X.2.1 n rc S v0 = some o) (hR : Rt C X cX11_readPart none none o) : UW C X S 23 [(0, .ref (X.1 v0))] [] := by
  unfold jX11_readPart_23 at hf
  refine u_aload_n hC dX11_readPart_23 0 rfl rfl ?_
  refine u_dup hC dX11_readPart_24 rfl ?_
  refine u_gi hC lf_X11_402 rfl hTv0 dX11_readPart_25 hf (fun x25 hf => ?_)
  refine u_iconst (v := (1 : Int32)) hC dX11_readPart_28 (by decide) ?_
  refine u_iadd hC dX11_readPart_29 ?_
  refine u_pi hC lf_X11_402 rfl rfl rfl hTv0 dX11_readPart_30 hf (fun S30 hf => ?_)
  refine u_aload_n hC dX11_readPart_33 0 rfl rfl ?_
  obtain ⟨q34, hq34, hf⟩ := kc_some hf
  refine u_callV hC (ctX11_pass (cL C) hC.tr (cG C) X.1 X.2.1 n S30 v0 hTv0 hq34) lk_X11_370 rfl hTv0 (by decide) rfl (by omega) (by decide) rfl rfl (Nat.le_of_ble_eq_true rfl) dX11_readPart_34 ?_
  refine u_aload_n hC dX11_readPart_37 0 rfl rfl ?_
  obtain ⟨q38, hq38, hf⟩ := kc_some hf
  refine u_callV hC (hrc q34 v0 q38 hTv0 hq38) lk_X11_405 rfl hTv0 (by decide) rfl (by omega) (by decide) rfl rfl (Nat.le_of_ble_eq_true rfl) dX11_readPart_38 ?_
  refine u_aload_n hC dX11_readPart_41 0 rfl rfl ?_
  refine u_bipush (v := (41 : Int32)) hC dX11_readPart_42 (by decide) ?_
  obtain ⟨q44, hq44, hf⟩ := kc_some hf
  refine u_callV hC (ctX11_must (cL C) hC.tr (cG C) X.1 X.2.1 n q38 v0 (41 : Int32) hTv0 hq44) lk_X11_408 rfl hTv0 (by decide) rfl (by omega) (by decide) rfl rfl (Nat.le_of_ble_eq_true rfl) dX11_readPart_44 ?_
  refine u_aload_n hC dX11_readPart_47 0 rfl rfl ?_
  refine u_dup hC dX11_readPart_48 rfl ?_
  refine u_gi hC lf_X11_402 rfl hTv0 dX11_readPart_49 hf (fun x49 hf => ?_)
  refine u_iconst (v := (1 : Int32)) hC dX11_readPart_52 (by decide) ?_
  refine u_isub hC dX11_readPart_53 ?_
  refine u_pi hC lf_X11_402 rfl rfl rfl hTv0 dX11_readPart_54 hf (fun S54 hf => ?_)
  cases hf
  exact hR _ _ dX11_readPart_57 trivial
theorem wX11_readPart {C : CT} {X : XT} {dr : Nat} (hC : CK C RX11 cX11_readPart 2 none (dr + 6)) (n : Nat) (rc : PS → Nat → Option (PS)) (hrc : ∀ (S : PS) (a : Nat) (o : PS), Ty X.2.1 a 11 → rc S a = some o → Mt (cL C) (cG C) yX11_readSum cX11_readSum 1 none dr X.1 X.2.1 [.ref (X.1 a)] S none o) (S : PS) (a0 : Nat) (hTa0 : Ty X.2.1 a0 11) {o : PS} (hf : fX11_readPart X.2.1 n rc S a0 = some o) (hR : Rt C X cX11_readPart none none o) : UW C X S 0 [(0, .ref (X.1 a0))] [] := by
  unfold fX11_readPart at hf
  refine u_aload_n hC dX11_readPart_0 0 rfl rfl ?_
  refine u_bipush (v := (40 : Int32)) hC dX11_readPart_1 (by decide) ?_
  obtain ⟨q3, hq3, hf⟩ := kc_some hf
  refine u_callV hC (ctX11_isSign (cL C) hC.tr (cG C) X.1 X.2.1 n S a0 (40 : Int32) hTa0 hq3) lk_X11_364 rfl hTa0 (by decide) rfl (by omega) (by decide) rfl rfl (Nat.le_of_ble_eq_true rfl) dX11_readPart_3 ?_
  refine u_if_eq (tgt := 58) hC dX11_readPart_6 (by decide) hf (fun h6 hf => ?_) (fun h6 hf => ?_)
  · refine u_aload_n hC dX11_readPart_58 0 rfl rfl ?_
    refine u_gi hC lf_X11_346 rfl hTa0 dX11_readPart_59 hf (fun x59 hf => ?_)
    refine u_if_ne (tgt := 83) hC dX11_readPart_62 (by decide) hf (fun h62 hf => ?_) (fun h62 hf => ?_)
    · exact wjX11_readPart_83 hC n rc hrc S a0  hTa0 hf hR
    · refine u_aload_n hC dX11_readPart_65 0 rfl rfl ?_
      refine u_gi hC lf_X11_340 rfl hTa0 dX11_readPart_66 hf (fun x66 hf => ?_)
      refine u_iconst (v := (2 : Int32)) hC dX11_readPart_69 (by decide) ?_
      refine u_icmp_ne (tgt := 83) hC dX11_readPart_70 (by decide) hf (fun h70 hf => ?_) (fun h70 hf => ?_)
      · exact wjX11_readPart_83 hC n rc hrc S a0  hTa0 hf hR
      · refine u_aload_n hC dX11_readPart_73 0 rfl rfl ?_
        refine u_iconst (v := (0 : Int32)) hC dX11_readPart_74 (by decide) ?_
        refine u_sipush (v := (9999 : Int32)) hC dX11_readPart_75 (by decide) ?_
        obtain ⟨q78, hq78, hf⟩ := kc_some hf
        refine u_callV hC (ctX11_number (cL C) hC.tr (cG C) X.1 X.2.1 n S a0 (0 : Int32) (9999 : Int32) hTa0 hq78) lk_X11_399 rfl hTa0 (by decide) rfl (by omega) (by decide) rfl rfl (Nat.le_of_ble_eq_true rfl) dX11_readPart_78 ?_
        refine u_istore_n (lv' := [(1, .int q78.1), (0, .ref (X.1 a0))]) hC dX11_readPart_81 rfl (by decide) rfl ?_
        cases hf
        exact hR _ _ dX11_readPart_82 trivial
  · refine u_aload_n hC dX11_readPart_9 0 rfl rfl ?_
    refine u_gi hC lf_X11_402 rfl hTa0 dX11_readPart_10 hf (fun x10 hf => ?_)
    refine u_bipush (v := (6 : Int32)) hC dX11_readPart_13 (by decide) ?_
    refine u_icmp_ne (tgt := 23) hC dX11_readPart_15 (by decide) hf (fun h15 hf => ?_) (fun h15 hf => ?_)
    · exact wjX11_readPart_23 hC n rc hrc S a0  hTa0 hf hR
    · refine u_aload_n hC dX11_readPart_18 0 rfl rfl ?_
      refine u_iconst (v := (4 : Int32)) hC dX11_readPart_19 (by decide) ?_
      obtain ⟨q20, hq20, hf⟩ := kc_some hf
      refine u_callV hC (ctX11_wrong (cL C) hC.tr (cG C) X.1 X.2.1 n S a0 (4 : Int32) hTa0 hq20) lk_X11_367 rfl hTa0 (by decide) rfl (by omega) (by decide) rfl rfl (Nat.le_of_ble_eq_true rfl) dX11_readPart_20 ?_
      exact wjX11_readPart_23 hC n rc hrc q20 a0  hTa0 hf hR
theorem ctX11_readPart (l : Launch) (hl : l.stackTraces = false) (G : GT) (ρ : Nat → Nat) (Y : XS) (n : Nat) (rc : PS → Nat → Option (PS)) (dr : Nat) (hrc : ∀ (S : PS) (a : Nat) (o : PS), Ty Y a 11 → rc S a = some o → Mt l G yX11_readSum cX11_readSum 1 none dr ρ Y [.ref (ρ a)] S none o) (S : PS) (a0 : Nat) (hTa0 : Ty Y a0 11) {o : PS} (hf : fX11_readPart Y n rc S a0 = some o) : Mt l G yX11_readPart cX11_readPart 2 none (dr + 6) ρ Y [.ref (ρ a0)] S none o :=
  Mt_of hl (by decide) (Nat.le_of_ble_eq_true rfl) (fun C h1 h2 hC hR => by
    subst h1; subst h2
    exact wX11_readPart (X := (ρ, Y, 0, 0)) hC n rc hrc S a0 hTa0 hf hR)
-- X11_readTerm
theorem dX11_readTerm_0 : decode cX11_readTerm 0 = .ok (.aload_n 0, 1) := by decide +kernel
theorem dX11_readTerm_1 : decode cX11_readTerm 1 = .ok (.invokevirtual 419, 3) := by decide +kernel
theorem dX11_readTerm_4 : decode cX11_readTerm 4 = .ok (.aload_n 0, 1) := by decide +kernel
theorem dX11_readTerm_5 : decode cX11_readTerm 5 = .ok (.bipush 42, 2) := by decide +kernel
theorem dX11_readTerm_7 : decode cX11_readTerm 7 = .ok (.invokevirtual 364, 3) := by decide +kernel
theorem dX11_readTerm_10 : decode cX11_readTerm 10 = .ok (.ifCond .ne 12, 3) := by decide +kernel
theorem dX11_readTerm_13 : decode cX11_readTerm 13 = .ok (.aload_n 0, 1) := by decide +kernel
theorem dX11_readTerm_14 : decode cX11_readTerm 14 = .ok (.bipush 47, 2) := by decide +kernel
theorem dX11_readTerm_16 : decode cX11_readTerm 16 = .ok (.invokevirtual 364, 3) := by decide +kernel
theorem dX11_readTerm_19 : decode cX11_readTerm 19 = .ok (.ifCond .eq 14, 3) := by decide +kernel
theorem dX11_readTerm_22 : decode cX11_readTerm 22 = .ok (.aload_n 0, 1) := by decide +kernel
theorem dX11_readTerm_23 : decode cX11_readTerm 23 = .ok (.invokevirtual 370, 3) := by decide +kernel
theorem dX11_readTerm_26 : decode cX11_readTerm 26 = .ok (.aload_n 0, 1) := by decide +kernel
theorem dX11_readTerm_27 : decode cX11_readTerm 27 = .ok (.invokevirtual 419, 3) := by decide +kernel
theorem dX11_readTerm_30 : decode cX11_readTerm 30 = .ok (.goto (-26), 3) := by decide +kernel
theorem dX11_readTerm_33 : decode cX11_readTerm 33 = .ok (.return_, 1) := by decide +kernel
def jX11_readTerm_22_4 (Y : XS) (n : Nat) (rc : PS → Nat → Option (PS)) (S : PS) (v0 : Nat) : Option (PS ⊕ (PS)) :=
  kc (fX11_pass Y n S v0) (fun q23 => kc (fX11_readPart Y n rc q23 v0) (fun q27 => some (.inl q27)))
def bX11_readTerm_4 (Y : XS) (n : Nat) (rc : PS → Nat → Option (PS)) (v0 : Nat) (s4 : PS) : Option (PS ⊕ (PS)) :=
  kc (fX11_isSign Y n s4 v0 (42 : Int32)) (fun q7 => (if q7 = 0 then kc (fX11_isSign Y n s4 v0 (47 : Int32)) (fun q16 => (if q16 = 0 then some (.inr s4) else jX11_readTerm_22_4 Y n rc s4 v0)) else jX11_readTerm_22_4 Y n rc s4 v0))
def fX11_readTerm (Y : XS) (n : Nat) (rc : PS → Nat → Option (PS)) (S : PS) (a0 : Nat) : Option (PS) :=
  kc (fX11_readPart Y n rc S a0) (fun q1 => kc (iter (bX11_readTerm_4 Y n rc a0) n q1) (fun r4 => some r4))
theorem wjX11_readTerm_22_4 {C : CT} {X : XT} {dr : Nat} (hC : CK C RX11 cX11_readTerm 1 none (dr + 7)) (n : Nat) (rc : PS → Nat → Option (PS)) (hrc : ∀ (S : PS) (a : Nat) (o : PS), Ty X.2.1 a 11 → rc S a = some o → Mt (cL C) (cG C) yX11_readSum cX11_readSum 1 none dr X.1 X.2.1 [.ref (X.1 a)] S none o) (S : PS) (v0 : Nat)  (hTv0 : Ty X.2.1 v0 11) {o : PS ⊕ (PS)} (hf : jX11_readTerm_22_4 X.2.1 n rc S v0 = some o) (hN : ∀ s', o = .inl s' → UW C X s' 4 [(0, .ref (X.1 v0))] []) (hR : ∀ q', o = .inr q' → Rt C X cX11_readTerm none none q') : UW C X S 22 [(0, .ref (X.1 v0))] [] := by
  unfold jX11_readTerm_22_4 at hf
  refine u_aload_n hC dX11_readTerm_22 0 rfl rfl ?_
  obtain ⟨q23, hq23, hf⟩ := kc_some hf
  refine u_callV hC (ctX11_pass (cL C) hC.tr (cG C) X.1 X.2.1 n S v0 hTv0 hq23) lk_X11_370 rfl hTv0 (by decide) rfl (by omega) (by decide) rfl rfl (Nat.le_of_ble_eq_true rfl) dX11_readTerm_23 ?_
  refine u_aload_n hC dX11_readTerm_26 0 rfl rfl ?_
  obtain ⟨q27, hq27, hf⟩ := kc_some hf
  refine u_callV hC (ctX11_readPart (cL C) hC.tr (cG C) X.1 X.2.1 n rc dr hrc q23 v0 hTv0 hq27) lk_X11_419 rfl hTv0 (by decide) rfl (by omega) (by decide) rfl rfl (Nat.le_of_ble_eq_true rfl) dX11_readTerm_27 ?_
  refine u_goto (tgt := 4) hC dX11_readTerm_30 (by decide) ?_
  exact hN _ (Option.some.inj hf).symm
theorem wbX11_readTerm_4 {C : CT} {X : XT} {dr : Nat} (hC : CK C RX11 cX11_readTerm 1 none (dr + 7)) (n : Nat) (rc : PS → Nat → Option (PS)) (hrc : ∀ (S : PS) (a : Nat) (o : PS), Ty X.2.1 a 11 → rc S a = some o → Mt (cL C) (cG C) yX11_readSum cX11_readSum 1 none dr X.1 X.2.1 [.ref (X.1 a)] S none o) (v0 : Nat) (hTv0 : Ty X.2.1 v0 11) (s4 : PS) {o : PS ⊕ (PS)} (hf : bX11_readTerm_4 X.2.1 n rc v0 s4 = some o) (hN : ∀ s', o = .inl s' → UW C X s' 4 [(0, .ref (X.1 v0))] []) (hR : ∀ q', o = .inr q' → Rt C X cX11_readTerm none none q') : UW C X s4 4 [(0, .ref (X.1 v0))] [] := by
  unfold bX11_readTerm_4 at hf
  refine u_aload_n hC dX11_readTerm_4 0 rfl rfl ?_
  refine u_bipush (v := (42 : Int32)) hC dX11_readTerm_5 (by decide) ?_
  obtain ⟨q7, hq7, hf⟩ := kc_some hf
  refine u_callV hC (ctX11_isSign (cL C) hC.tr (cG C) X.1 X.2.1 n s4 v0 (42 : Int32) hTv0 hq7) lk_X11_364 rfl hTv0 (by decide) rfl (by omega) (by decide) rfl rfl (Nat.le_of_ble_eq_true rfl) dX11_readTerm_7 ?_
  refine u_if_ne (tgt := 22) hC dX11_readTerm_10 (by decide) hf (fun h10 hf => ?_) (fun h10 hf => ?_)
  · exact wjX11_readTerm_22_4 hC n rc hrc s4 v0  hTv0 hf hN hR
  · refine u_aload_n hC dX11_readTerm_13 0 rfl rfl ?_
    refine u_bipush (v := (47 : Int32)) hC dX11_readTerm_14 (by decide) ?_
    obtain ⟨q16, hq16, hf⟩ := kc_some hf
    refine u_callV hC (ctX11_isSign (cL C) hC.tr (cG C) X.1 X.2.1 n s4 v0 (47 : Int32) hTv0 hq16) lk_X11_364 rfl hTv0 (by decide) rfl (by omega) (by decide) rfl rfl (Nat.le_of_ble_eq_true rfl) dX11_readTerm_16 ?_
    refine u_if_eq (tgt := 33) hC dX11_readTerm_19 (by decide) hf (fun h19 hf => ?_) (fun h19 hf => ?_)
    · exact hR _ (Option.some.inj hf).symm _ _ dX11_readTerm_33 trivial
    · exact wjX11_readTerm_22_4 hC n rc hrc s4 v0  hTv0 hf hN hR
theorem wX11_readTerm {C : CT} {X : XT} {dr : Nat} (hC : CK C RX11 cX11_readTerm 1 none (dr + 7)) (n : Nat) (rc : PS → Nat → Option (PS)) (hrc : ∀ (S : PS) (a : Nat) (o : PS), Ty X.2.1 a 11 → rc S a = some o → Mt (cL C) (cG C) yX11_readSum cX11_readSum 1 none dr X.1 X.2.1 [.ref (X.1 a)] S none o) (S : PS) (a0 : Nat) (hTa0 : Ty X.2.1 a0 11) {o : PS} (hf : fX11_readTerm X.2.1 n rc S a0 = some o) (hR : Rt C X cX11_readTerm none none o) : UW C X S 0 [(0, .ref (X.1 a0))] [] := by
  unfold fX11_readTerm at hf
  refine u_aload_n hC dX11_readTerm_0 0 rfl rfl ?_
  obtain ⟨q1, hq1, hf⟩ := kc_some hf
  refine u_callV hC (ctX11_readPart (cL C) hC.tr (cG C) X.1 X.2.1 n rc dr hrc S a0 hTa0 hq1) lk_X11_419 rfl hTa0 (by decide) rfl (by omega) (by decide) rfl rfl (Nat.le_of_ble_eq_true rfl) dX11_readTerm_1 ?_
  obtain ⟨r4, hr4, hf⟩ := kc_some hf
  have hk4 : Rt C X cX11_readTerm none none r4 := by
    cases hf
    exact hR
  refine iter_ind (P := fun s4 => UW C X s4 4 [(0, .ref (X.1 a0))] []) (fun s4 o' hb hin hout => ?_) n q1 hr4
  exact wbX11_readTerm_4 hC n rc hrc a0 hTa0 s4 hb hin (fun p e => by rw [hout p e]; exact hk4)
theorem ctX11_readTerm (l : Launch) (hl : l.stackTraces = false) (G : GT) (ρ : Nat → Nat) (Y : XS) (n : Nat) (rc : PS → Nat → Option (PS)) (dr : Nat) (hrc : ∀ (S : PS) (a : Nat) (o : PS), Ty Y a 11 → rc S a = some o → Mt l G yX11_readSum cX11_readSum 1 none dr ρ Y [.ref (ρ a)] S none o) (S : PS) (a0 : Nat) (hTa0 : Ty Y a0 11) {o : PS} (hf : fX11_readTerm Y n rc S a0 = some o) : Mt l G yX11_readTerm cX11_readTerm 1 none (dr + 7) ρ Y [.ref (ρ a0)] S none o :=
  Mt_of hl (by decide) (Nat.le_of_ble_eq_true rfl) (fun C h1 h2 hC hR => by
    subst h1; subst h2
    exact wX11_readTerm (X := (ρ, Y, 0, 0)) hC n rc hrc S a0 hTa0 hf hR)
-- X11_readSum
theorem dX11_readSum_0 : decode cX11_readSum 0 = .ok (.aload_n 0, 1) := by decide +kernel
theorem dX11_readSum_1 : decode cX11_readSum 1 = .ok (.invokevirtual 422, 3) := by decide +kernel
theorem dX11_readSum_4 : decode cX11_readSum 4 = .ok (.aload_n 0, 1) := by decide +kernel
theorem dX11_readSum_5 : decode cX11_readSum 5 = .ok (.bipush 43, 2) := by decide +kernel
theorem dX11_readSum_7 : decode cX11_readSum 7 = .ok (.invokevirtual 364, 3) := by decide +kernel
theorem dX11_readSum_10 : decode cX11_readSum 10 = .ok (.ifCond .ne 12, 3) := by decide +kernel
theorem dX11_readSum_13 : decode cX11_readSum 13 = .ok (.aload_n 0, 1) := by decide +kernel
theorem dX11_readSum_14 : decode cX11_readSum 14 = .ok (.bipush 45, 2) := by decide +kernel
theorem dX11_readSum_16 : decode cX11_readSum 16 = .ok (.invokevirtual 364, 3) := by decide +kernel
theorem dX11_readSum_19 : decode cX11_readSum 19 = .ok (.ifCond .eq 14, 3) := by decide +kernel
theorem dX11_readSum_22 : decode cX11_readSum 22 = .ok (.aload_n 0, 1) := by decide +kernel
theorem dX11_readSum_23 : decode cX11_readSum 23 = .ok (.invokevirtual 370, 3) := by decide +kernel
theorem dX11_readSum_26 : decode cX11_readSum 26 = .ok (.aload_n 0, 1) := by decide +kernel
theorem dX11_readSum_27 : decode cX11_readSum 27 = .ok (.invokevirtual 422, 3) := by decide +kernel
theorem dX11_readSum_30 : decode cX11_readSum 30 = .ok (.goto (-26), 3) := by decide +kernel
theorem dX11_readSum_33 : decode cX11_readSum 33 = .ok (.return_, 1) := by decide +kernel
def jX11_readSum_22_4 (Y : XS) (n : Nat) (rc : PS → Nat → Option (PS)) (S : PS) (v0 : Nat) : Option (PS ⊕ (PS)) :=
  kc (fX11_pass Y n S v0) (fun q23 => kc (fX11_readTerm Y n rc q23 v0) (fun q27 => some (.inl q27)))
def bX11_readSum_4 (Y : XS) (n : Nat) (rc : PS → Nat → Option (PS)) (v0 : Nat) (s4 : PS) : Option (PS ⊕ (PS)) :=
  kc (fX11_isSign Y n s4 v0 (43 : Int32)) (fun q7 => (if q7 = 0 then kc (fX11_isSign Y n s4 v0 (45 : Int32)) (fun q16 => (if q16 = 0 then some (.inr s4) else jX11_readSum_22_4 Y n rc s4 v0)) else jX11_readSum_22_4 Y n rc s4 v0))
def fX11_readSum (Y : XS) (n : Nat) (rc : PS → Nat → Option (PS)) (S : PS) (a0 : Nat) : Option (PS) :=
  kc (fX11_readTerm Y n rc S a0) (fun q1 => kc (iter (bX11_readSum_4 Y n rc a0) n q1) (fun r4 => some r4))
theorem wjX11_readSum_22_4 {C : CT} {X : XT} {dr : Nat} (hC : CK C RX11 cX11_readSum 1 none (dr + 8)) (n : Nat) (rc : PS → Nat → Option (PS)) (hrc : ∀ (S : PS) (a : Nat) (o : PS), Ty X.2.1 a 11 → rc S a = some o → Mt (cL C) (cG C) yX11_readSum cX11_readSum 1 none dr X.1 X.2.1 [.ref (X.1 a)] S none o) (S : PS) (v0 : Nat)  (hTv0 : Ty X.2.1 v0 11) {o : PS ⊕ (PS)} (hf : jX11_readSum_22_4 X.2.1 n rc S v0 = some o) (hN : ∀ s', o = .inl s' → UW C X s' 4 [(0, .ref (X.1 v0))] []) (hR : ∀ q', o = .inr q' → Rt C X cX11_readSum none none q') : UW C X S 22 [(0, .ref (X.1 v0))] [] := by
  unfold jX11_readSum_22_4 at hf
  refine u_aload_n hC dX11_readSum_22 0 rfl rfl ?_
  obtain ⟨q23, hq23, hf⟩ := kc_some hf
  refine u_callV hC (ctX11_pass (cL C) hC.tr (cG C) X.1 X.2.1 n S v0 hTv0 hq23) lk_X11_370 rfl hTv0 (by decide) rfl (by omega) (by decide) rfl rfl (Nat.le_of_ble_eq_true rfl) dX11_readSum_23 ?_
  refine u_aload_n hC dX11_readSum_26 0 rfl rfl ?_
  obtain ⟨q27, hq27, hf⟩ := kc_some hf
  refine u_callV hC (ctX11_readTerm (cL C) hC.tr (cG C) X.1 X.2.1 n rc dr hrc q23 v0 hTv0 hq27) lk_X11_422 rfl hTv0 (by decide) rfl (by omega) (by decide) rfl rfl (Nat.le_of_ble_eq_true rfl) dX11_readSum_27 ?_
  refine u_goto (tgt := 4) hC dX11_readSum_30 (by decide) ?_
  exact hN _ (Option.some.inj hf).symm
theorem wbX11_readSum_4 {C : CT} {X : XT} {dr : Nat} (hC : CK C RX11 cX11_readSum 1 none (dr + 8)) (n : Nat) (rc : PS → Nat → Option (PS)) (hrc : ∀ (S : PS) (a : Nat) (o : PS), Ty X.2.1 a 11 → rc S a = some o → Mt (cL C) (cG C) yX11_readSum cX11_readSum 1 none dr X.1 X.2.1 [.ref (X.1 a)] S none o) (v0 : Nat) (hTv0 : Ty X.2.1 v0 11) (s4 : PS) {o : PS ⊕ (PS)} (hf : bX11_readSum_4 X.2.1 n rc v0 s4 = some o) (hN : ∀ s', o = .inl s' → UW C X s' 4 [(0, .ref (X.1 v0))] []) (hR : ∀ q', o = .inr q' → Rt C X cX11_readSum none none q') : UW C X s4 4 [(0, .ref (X.1 v0))] [] := by
  unfold bX11_readSum_4 at hf
  refine u_aload_n hC dX11_readSum_4 0 rfl rfl ?_
  refine u_bipush (v := (43 : Int32)) hC dX11_readSum_5 (by decide) ?_
  obtain ⟨q7, hq7, hf⟩ := kc_some hf
  refine u_callV hC (ctX11_isSign (cL C) hC.tr (cG C) X.1 X.2.1 n s4 v0 (43 : Int32) hTv0 hq7) lk_X11_364 rfl hTv0 (by decide) rfl (by omega) (by decide) rfl rfl (Nat.le_of_ble_eq_true rfl) dX11_readSum_7 ?_
  refine u_if_ne (tgt := 22) hC dX11_readSum_10 (by decide) hf (fun h10 hf => ?_) (fun h10 hf => ?_)
  · exact wjX11_readSum_22_4 hC n rc hrc s4 v0  hTv0 hf hN hR
  · refine u_aload_n hC dX11_readSum_13 0 rfl rfl ?_
    refine u_bipush (v := (45 : Int32)) hC dX11_readSum_14 (by decide) ?_
    obtain ⟨q16, hq16, hf⟩ := kc_some hf
    refine u_callV hC (ctX11_isSign (cL C) hC.tr (cG C) X.1 X.2.1 n s4 v0 (45 : Int32) hTv0 hq16) lk_X11_364 rfl hTv0 (by decide) rfl (by omega) (by decide) rfl rfl (Nat.le_of_ble_eq_true rfl) dX11_readSum_16 ?_
    refine u_if_eq (tgt := 33) hC dX11_readSum_19 (by decide) hf (fun h19 hf => ?_) (fun h19 hf => ?_)
    · exact hR _ (Option.some.inj hf).symm _ _ dX11_readSum_33 trivial
    · exact wjX11_readSum_22_4 hC n rc hrc s4 v0  hTv0 hf hN hR
theorem wX11_readSum {C : CT} {X : XT} {dr : Nat} (hC : CK C RX11 cX11_readSum 1 none (dr + 8)) (n : Nat) (rc : PS → Nat → Option (PS)) (hrc : ∀ (S : PS) (a : Nat) (o : PS), Ty X.2.1 a 11 → rc S a = some o → Mt (cL C) (cG C) yX11_readSum cX11_readSum 1 none dr X.1 X.2.1 [.ref (X.1 a)] S none o) (S : PS) (a0 : Nat) (hTa0 : Ty X.2.1 a0 11) {o : PS} (hf : fX11_readSum X.2.1 n rc S a0 = some o) (hR : Rt C X cX11_readSum none none o) : UW C X S 0 [(0, .ref (X.1 a0))] [] := by
  unfold fX11_readSum at hf
  refine u_aload_n hC dX11_readSum_0 0 rfl rfl ?_
  obtain ⟨q1, hq1, hf⟩ := kc_some hf
  refine u_callV hC (ctX11_readTerm (cL C) hC.tr (cG C) X.1 X.2.1 n rc dr hrc S a0 hTa0 hq1) lk_X11_422 rfl hTa0 (by decide) rfl (by omega) (by decide) rfl rfl (Nat.le_of_ble_eq_true rfl) dX11_readSum_1 ?_
  obtain ⟨r4, hr4, hf⟩ := kc_some hf
  have hk4 : Rt C X cX11_readSum none none r4 := by
    cases hf
    exact hR
  refine iter_ind (P := fun s4 => UW C X s4 4 [(0, .ref (X.1 a0))] []) (fun s4 o' hb hin hout => ?_) n q1 hr4
  exact wbX11_readSum_4 hC n rc hrc a0 hTa0 s4 hb hin (fun p e => by rw [hout p e]; exact hk4)
theorem ctX11_readSum (l : Launch) (hl : l.stackTraces = false) (G : GT) (ρ : Nat → Nat) (Y : XS) (n : Nat) (rc : PS → Nat → Option (PS)) (dr : Nat) (hrc : ∀ (S : PS) (a : Nat) (o : PS), Ty Y a 11 → rc S a = some o → Mt l G yX11_readSum cX11_readSum 1 none dr ρ Y [.ref (ρ a)] S none o) (S : PS) (a0 : Nat) (hTa0 : Ty Y a0 11) {o : PS} (hf : fX11_readSum Y n rc S a0 = some o) : Mt l G yX11_readSum cX11_readSum 1 none (dr + 8) ρ Y [.ref (ρ a0)] S none o :=
  Mt_of hl (by decide) (Nat.le_of_ble_eq_true rfl) (fun C h1 h2 hC hR => by
    subst h1; subst h2
    exact wX11_readSum (X := (ρ, Y, 0, 0)) hC n rc hrc S a0 hTa0 hf hR)
def fX11_readSumR (Y : XS) (n : Nat) : Nat → PS → Nat → Option (PS)
  | 0, _, _ => none
  | m + 1, S, a => fX11_readSum Y n (fX11_readSumR Y n m) S a
theorem ctX11_readSumR (l : Launch) (hl : l.stackTraces = false) (G : GT) (ρ : Nat → Nat) (Y : XS) (n : Nat) : ∀ (m : Nat) (S : PS) (a0 : Nat) (hTa0 : Ty Y a0 11) {o : PS} (hf : fX11_readSumR Y n m S a0 = some o), Mt l G yX11_readSum cX11_readSum 1 none (8 * m) ρ Y [.ref (ρ a0)] S none o
  | 0, _, _, _, _, hf => by cases hf
  | m + 1, S, a0, hTa0, o, hf => by
    have h := ctX11_readSum l hl G ρ Y n (fX11_readSumR Y n m) (8 * m) (fun S a o h1 h2 => ctX11_readSumR l hl G ρ Y n m S a h1 h2) S a0 hTa0 hf
    rw [Nat.mul_succ]
    exact h
-- X11_readLaw
theorem dX11_readLaw_0 : decode cX11_readLaw 0 = .ok (.aload_n 0, 1) := by decide +kernel
theorem dX11_readLaw_1 : decode cX11_readLaw 1 = .ok (.getfield 13, 3) := by decide +kernel
theorem dX11_readLaw_4 : decode cX11_readLaw 4 = .ok (.sipush 375, 3) := by decide +kernel
theorem dX11_readLaw_7 : decode cX11_readLaw 7 = .ok (.iaload, 1) := by decide +kernel
theorem dX11_readLaw_8 : decode cX11_readLaw 8 = .ok (.iconst 1, 1) := by decide +kernel
theorem dX11_readLaw_9 : decode cX11_readLaw 9 = .ok (.if_icmp .ne 8, 3) := by decide +kernel
theorem dX11_readLaw_12 : decode cX11_readLaw 12 = .ok (.aload_n 0, 1) := by decide +kernel
theorem dX11_readLaw_13 : decode cX11_readLaw 13 = .ok (.iconst 5, 1) := by decide +kernel
theorem dX11_readLaw_14 : decode cX11_readLaw 14 = .ok (.invokevirtual 367, 3) := by decide +kernel
theorem dX11_readLaw_17 : decode cX11_readLaw 17 = .ok (.aload_n 0, 1) := by decide +kernel
theorem dX11_readLaw_18 : decode cX11_readLaw 18 = .ok (.invokevirtual 370, 3) := by decide +kernel
theorem dX11_readLaw_21 : decode cX11_readLaw 21 = .ok (.aload_n 0, 1) := by decide +kernel
theorem dX11_readLaw_22 : decode cX11_readLaw 22 = .ok (.getfield 337, 3) := by decide +kernel
theorem dX11_readLaw_25 : decode cX11_readLaw 25 = .ok (.istore_n 1, 1) := by decide +kernel
theorem dX11_readLaw_26 : decode cX11_readLaw 26 = .ok (.aload_n 0, 1) := by decide +kernel
theorem dX11_readLaw_27 : decode cX11_readLaw 27 = .ok (.invokevirtual 405, 3) := by decide +kernel
theorem dX11_readLaw_30 : decode cX11_readLaw 30 = .ok (.aload_n 0, 1) := by decide +kernel
theorem dX11_readLaw_31 : decode cX11_readLaw 31 = .ok (.getfield 346, 3) := by decide +kernel
theorem dX11_readLaw_34 : decode cX11_readLaw 34 = .ok (.ifCond .eq 4, 3) := by decide +kernel
theorem dX11_readLaw_37 : decode cX11_readLaw 37 = .ok (.return_, 1) := by decide +kernel
theorem dX11_readLaw_38 : decode cX11_readLaw 38 = .ok (.aload_n 0, 1) := by decide +kernel
theorem dX11_readLaw_39 : decode cX11_readLaw 39 = .ok (.getfield 13, 3) := by decide +kernel
theorem dX11_readLaw_42 : decode cX11_readLaw 42 = .ok (.sipush 375, 3) := by decide +kernel
theorem dX11_readLaw_45 : decode cX11_readLaw 45 = .ok (.iconst 1, 1) := by decide +kernel
theorem dX11_readLaw_46 : decode cX11_readLaw 46 = .ok (.iastore, 1) := by decide +kernel
theorem dX11_readLaw_47 : decode cX11_readLaw 47 = .ok (.aload_n 0, 1) := by decide +kernel
theorem dX11_readLaw_48 : decode cX11_readLaw 48 = .ok (.getfield 13, 3) := by decide +kernel
theorem dX11_readLaw_51 : decode cX11_readLaw 51 = .ok (.sipush 376, 3) := by decide +kernel
theorem dX11_readLaw_54 : decode cX11_readLaw 54 = .ok (.aload_n 0, 1) := by decide +kernel
theorem dX11_readLaw_55 : decode cX11_readLaw 55 = .ok (.getfield 337, 3) := by decide +kernel
theorem dX11_readLaw_58 : decode cX11_readLaw 58 = .ok (.iload_n 1, 1) := by decide +kernel
theorem dX11_readLaw_59 : decode cX11_readLaw 59 = .ok (.isub, 1) := by decide +kernel
theorem dX11_readLaw_60 : decode cX11_readLaw 60 = .ok (.iastore, 1) := by decide +kernel
theorem dX11_readLaw_61 : decode cX11_readLaw 61 = .ok (.iload_n 1, 1) := by decide +kernel
theorem dX11_readLaw_62 : decode cX11_readLaw 62 = .ok (.istore_n 2, 1) := by decide +kernel
theorem dX11_readLaw_63 : decode cX11_readLaw 63 = .ok (.iload_n 2, 1) := by decide +kernel
theorem dX11_readLaw_64 : decode cX11_readLaw 64 = .ok (.aload_n 0, 1) := by decide +kernel
theorem dX11_readLaw_65 : decode cX11_readLaw 65 = .ok (.getfield 337, 3) := by decide +kernel
theorem dX11_readLaw_68 : decode cX11_readLaw 68 = .ok (.if_icmp .ge 27, 3) := by decide +kernel
theorem dX11_readLaw_71 : decode cX11_readLaw 71 = .ok (.aload_n 0, 1) := by decide +kernel
theorem dX11_readLaw_72 : decode cX11_readLaw 72 = .ok (.getfield 13, 3) := by decide +kernel
theorem dX11_readLaw_75 : decode cX11_readLaw 75 = .ok (.sipush 377, 3) := by decide +kernel
theorem dX11_readLaw_78 : decode cX11_readLaw 78 = .ok (.iload_n 2, 1) := by decide +kernel
theorem dX11_readLaw_79 : decode cX11_readLaw 79 = .ok (.iadd, 1) := by decide +kernel
theorem dX11_readLaw_80 : decode cX11_readLaw 80 = .ok (.iload_n 1, 1) := by decide +kernel
theorem dX11_readLaw_81 : decode cX11_readLaw 81 = .ok (.isub, 1) := by decide +kernel
theorem dX11_readLaw_82 : decode cX11_readLaw 82 = .ok (.aload_n 0, 1) := by decide +kernel
theorem dX11_readLaw_83 : decode cX11_readLaw 83 = .ok (.getfield 63, 3) := by decide +kernel
theorem dX11_readLaw_86 : decode cX11_readLaw 86 = .ok (.iload_n 2, 1) := by decide +kernel
theorem dX11_readLaw_87 : decode cX11_readLaw 87 = .ok (.iaload, 1) := by decide +kernel
theorem dX11_readLaw_88 : decode cX11_readLaw 88 = .ok (.iastore, 1) := by decide +kernel
theorem dX11_readLaw_89 : decode cX11_readLaw 89 = .ok (.iinc 2 1, 3) := by decide +kernel
theorem dX11_readLaw_92 : decode cX11_readLaw 92 = .ok (.goto (-29), 3) := by decide +kernel
theorem dX11_readLaw_95 : decode cX11_readLaw 95 = .ok (.return_, 1) := by decide +kernel
def bX11_readLaw_63 (Y : XS) (n : Nat) (v0 : Nat) (v1 : Int32) (s63 : (Int32 × PS)) : Option ((Int32 × PS) ⊕ PS) :=
  kgi s63.2 v0 32 (fun x65 => (if x65 ≤ s63.1 then some (.inr s63.2) else kgr s63.2 v0 1 (fun b72 => kgr s63.2 v0 27 (fun b83 => kai Y s63.2 b83 s63.1 (fun x87 => kwi Y s63.2 b72 (((377 : Int32) + s63.1) - v1) x87 (fun S88 => some (.inl (s63.1 + (1 : Int32), S88))))))))
def jX11_readLaw_17 (Y : XS) (n : Nat) (S : PS) (v0 : Nat) : Option (PS) :=
  kc (fX11_pass Y n S v0) (fun q18 => kgi q18 v0 32 (fun x22 => kc (fX11_readSumR Y n 10 q18 v0) (fun q27 => kgi q27 v0 34 (fun x31 => (if x31 = 0 then kgr q27 v0 1 (fun b39 => kwi Y q27 b39 (375 : Int32) (1 : Int32) (fun S46 => kgr S46 v0 1 (fun b48 => kgi S46 v0 32 (fun x55 => kwi Y S46 b48 (376 : Int32) (x55 - x22) (fun S60 => kc (iter (bX11_readLaw_63 Y n v0 x22) n (x22, S60)) (fun r63 => some r63)))))) else some q27)))))
def fX11_readLaw (Y : XS) (n : Nat) (S : PS) (a0 : Nat) : Option (PS) :=
  kgr S a0 1 (fun b1 => kai Y S b1 (375 : Int32) (fun x7 => (if x7 = (1 : Int32) then kc (fX11_wrong Y n S a0 (5 : Int32)) (fun q14 => jX11_readLaw_17 Y n q14 a0) else jX11_readLaw_17 Y n S a0)))
theorem wbX11_readLaw_63 {C : CT} {X : XT} (hC : CK C RX11 cX11_readLaw 3 none 81) (n : Nat) (v0 : Nat) (v1 : Int32) (hTv0 : Ty X.2.1 v0 11) (s63 : (Int32 × PS)) {o : (Int32 × PS) ⊕ PS} (hf : bX11_readLaw_63 X.2.1 n v0 v1 s63 = some o) (hN : ∀ s', o = .inl s' → UW C X s'.2 63 [(0, .ref (X.1 v0)), (1, .int v1), (2, .int s'.1)] []) (hO0 : ∀ p', o = .inr p' → UW C X p' 95 [] []) : UW C X s63.2 63 [(0, .ref (X.1 v0)), (1, .int v1), (2, .int s63.1)] [] := by
  unfold bX11_readLaw_63 at hf
  refine u_iload_n hC dX11_readLaw_63 2 rfl rfl ?_
  refine u_aload_n hC dX11_readLaw_64 0 rfl rfl ?_
  refine u_gi hC lf_X11_337 rfl hTv0 dX11_readLaw_65 hf (fun x65 hf => ?_)
  refine u_icmp_ge (tgt := 95) hC dX11_readLaw_68 (by decide) hf (fun h68 hf => ?_) (fun h68 hf => ?_)
  · refine u_sub (lv' := []) [] rfl ?_
    exact hO0 _ (Option.some.inj hf).symm
  · refine u_aload_n hC dX11_readLaw_71 0 rfl rfl ?_
    refine u_gr hC lf_X11_13 rfl hTv0 dX11_readLaw_72 hf (fun b72 hTb72 hf => ?_)
    refine u_sipush (v := (377 : Int32)) hC dX11_readLaw_75 (by decide) ?_
    refine u_iload_n hC dX11_readLaw_78 2 rfl rfl ?_
    refine u_iadd hC dX11_readLaw_79 ?_
    refine u_iload_n hC dX11_readLaw_80 1 rfl rfl ?_
    refine u_isub hC dX11_readLaw_81 ?_
    refine u_aload_n hC dX11_readLaw_82 0 rfl rfl ?_
    refine u_gr hC lf_X11_63 rfl hTv0 dX11_readLaw_83 hf (fun b83 hTb83 hf => ?_)
    refine u_iload_n hC dX11_readLaw_86 2 rfl rfl ?_
    refine u_ai hC hTb83 dX11_readLaw_87 hf (fun x87 hf => ?_)
    refine u_wi hC hTb72 dX11_readLaw_88 hf (fun S88 hf => ?_)
    refine u_iinc (v := s63.1 + (1 : Int32)) (lv' := [(2, .int (s63.1 + (1 : Int32))), (0, .ref (X.1 v0)), (1, .int v1)]) hC dX11_readLaw_89 2 rfl rfl (by decide) rfl ?_
    refine u_goto (tgt := 63) hC dX11_readLaw_92 (by decide) ?_
    refine u_sub (lv' := [(0, .ref (X.1 v0)), (1, .int v1), (2, .int (s63.1 + (1 : Int32)))]) [1, 2, 0] rfl ?_
    exact hN _ (Option.some.inj hf).symm
theorem wjX11_readLaw_17 {C : CT} {X : XT} (hC : CK C RX11 cX11_readLaw 3 none 81) (n : Nat) (S : PS) (v0 : Nat)  (hTv0 : Ty X.2.1 v0 11) {o : PS} (hf : jX11_readLaw_17 X.2.1 n S v0 = some o) (hR : Rt C X cX11_readLaw none none o) : UW C X S 17 [(0, .ref (X.1 v0))] [] := by
  unfold jX11_readLaw_17 at hf
  refine u_aload_n hC dX11_readLaw_17 0 rfl rfl ?_
  obtain ⟨q18, hq18, hf⟩ := kc_some hf
  refine u_callV hC (ctX11_pass (cL C) hC.tr (cG C) X.1 X.2.1 n S v0 hTv0 hq18) lk_X11_370 rfl hTv0 (by decide) rfl (by decide) (by decide) rfl rfl (Nat.le_of_ble_eq_true rfl) dX11_readLaw_18 ?_
  refine u_aload_n hC dX11_readLaw_21 0 rfl rfl ?_
  refine u_gi hC lf_X11_337 rfl hTv0 dX11_readLaw_22 hf (fun x22 hf => ?_)
  refine u_istore_n (lv' := [(1, .int x22), (0, .ref (X.1 v0))]) hC dX11_readLaw_25 rfl (by decide) rfl ?_
  refine u_aload_n hC dX11_readLaw_26 1 rfl rfl ?_
  obtain ⟨q27, hq27, hf⟩ := kc_some hf
  refine u_callV hC (ctX11_readSumR (cL C) hC.tr (cG C) X.1 X.2.1 n 10 q18 v0 hTv0 hq27) lk_X11_405 rfl hTv0 (by decide) rfl (by decide) (by decide) rfl rfl (Nat.le_of_ble_eq_true rfl) dX11_readLaw_27 ?_
  refine u_aload_n hC dX11_readLaw_30 1 rfl rfl ?_
  refine u_gi hC lf_X11_346 rfl hTv0 dX11_readLaw_31 hf (fun x31 hf => ?_)
  refine u_if_eq (tgt := 38) hC dX11_readLaw_34 (by decide) hf (fun h34 hf => ?_) (fun h34 hf => ?_)
  · refine u_aload_n hC dX11_readLaw_38 1 rfl rfl ?_
    refine u_gr hC lf_X11_13 rfl hTv0 dX11_readLaw_39 hf (fun b39 hTb39 hf => ?_)
    refine u_sipush (v := (375 : Int32)) hC dX11_readLaw_42 (by decide) ?_
    refine u_iconst (v := (1 : Int32)) hC dX11_readLaw_45 (by decide) ?_
    refine u_wi hC hTb39 dX11_readLaw_46 hf (fun S46 hf => ?_)
    refine u_aload_n hC dX11_readLaw_47 1 rfl rfl ?_
    refine u_gr hC lf_X11_13 rfl hTv0 dX11_readLaw_48 hf (fun b48 hTb48 hf => ?_)
    refine u_sipush (v := (376 : Int32)) hC dX11_readLaw_51 (by decide) ?_
    refine u_aload_n hC dX11_readLaw_54 1 rfl rfl ?_
    refine u_gi hC lf_X11_337 rfl hTv0 dX11_readLaw_55 hf (fun x55 hf => ?_)
    refine u_iload_n hC dX11_readLaw_58 0 rfl rfl ?_
    refine u_isub hC dX11_readLaw_59 ?_
    refine u_wi hC hTb48 dX11_readLaw_60 hf (fun S60 hf => ?_)
    refine u_iload_n hC dX11_readLaw_61 0 rfl rfl ?_
    refine u_istore_n (lv' := [(2, .int x22), (1, .int x22), (0, .ref (X.1 v0))]) hC dX11_readLaw_62 rfl (by decide) rfl ?_
    obtain ⟨r63, hr63, hf⟩ := kc_some hf
    have hk63 : UW C X r63 95 [] [] := by
      cases hf
      exact hR _ _ dX11_readLaw_95 trivial
    refine u_sub (lv' := [(0, .ref (X.1 v0)), (1, .int x22), (2, .int x22)]) [2, 1, 0] rfl ?_
    refine iter_ind (P := fun s63 => UW C X s63.2 63 [(0, .ref (X.1 v0)), (1, .int x22), (2, .int s63.1)] []) (fun s63 o' hb hin hout => ?_) n (x22, S60) hr63
    exact wbX11_readLaw_63 hC n v0 x22 hTv0 s63 hb hin (fun p e => by rw [hout p e]; exact hk63)
  · cases hf
    exact hR _ _ dX11_readLaw_37 trivial
theorem wX11_readLaw {C : CT} {X : XT} (hC : CK C RX11 cX11_readLaw 3 none 81) (n : Nat) (S : PS) (a0 : Nat) (hTa0 : Ty X.2.1 a0 11) {o : PS} (hf : fX11_readLaw X.2.1 n S a0 = some o) (hR : Rt C X cX11_readLaw none none o) : UW C X S 0 [(0, .ref (X.1 a0))] [] := by
  unfold fX11_readLaw at hf
  refine u_aload_n hC dX11_readLaw_0 0 rfl rfl ?_
  refine u_gr hC lf_X11_13 rfl hTa0 dX11_readLaw_1 hf (fun b1 hTb1 hf => ?_)
  refine u_sipush (v := (375 : Int32)) hC dX11_readLaw_4 (by decide) ?_
  refine u_ai hC hTb1 dX11_readLaw_7 hf (fun x7 hf => ?_)
  refine u_iconst (v := (1 : Int32)) hC dX11_readLaw_8 (by decide) ?_
  refine u_icmp_ne (tgt := 17) hC dX11_readLaw_9 (by decide) hf (fun h9 hf => ?_) (fun h9 hf => ?_)
  · exact wjX11_readLaw_17 hC n S a0  hTa0 hf hR
  · refine u_aload_n hC dX11_readLaw_12 0 rfl rfl ?_
    refine u_iconst (v := (5 : Int32)) hC dX11_readLaw_13 (by decide) ?_
    obtain ⟨q14, hq14, hf⟩ := kc_some hf
    refine u_callV hC (ctX11_wrong (cL C) hC.tr (cG C) X.1 X.2.1 n S a0 (5 : Int32) hTa0 hq14) lk_X11_367 rfl hTa0 (by decide) rfl (by decide) (by decide) rfl rfl (Nat.le_of_ble_eq_true rfl) dX11_readLaw_14 ?_
    exact wjX11_readLaw_17 hC n q14 a0  hTa0 hf hR
theorem ctX11_readLaw (l : Launch) (hl : l.stackTraces = false) (G : GT) (ρ : Nat → Nat) (Y : XS) (n : Nat) (S : PS) (a0 : Nat) (hTa0 : Ty Y a0 11) {o : PS} (hf : fX11_readLaw Y n S a0 = some o) : Mt l G yX11_readLaw cX11_readLaw 3 none 81 ρ Y [.ref (ρ a0)] S none o :=
  Mt_of hl (by decide) (Nat.le_of_ble_eq_true rfl) (fun C _ _ hC hR => wX11_readLaw (X := (ρ, Y, 0, 0)) hC n S a0 hTa0 hf hR)
-- X11_readLine
theorem dX11_readLine_0 : decode cX11_readLine 0 = .ok (.aload_n 0, 1) := by decide +kernel
theorem dX11_readLine_1 : decode cX11_readLine 1 = .ok (.ldc_w 377, 3) := by decide +kernel
theorem dX11_readLine_4 : decode cX11_readLine 4 = .ok (.invokevirtual 379, 3) := by decide +kernel
theorem dX11_readLine_7 : decode cX11_readLine 7 = .ok (.ifCond .eq 24, 3) := by decide +kernel
theorem dX11_readLine_10 : decode cX11_readLine 10 = .ok (.aload_n 0, 1) := by decide +kernel
theorem dX11_readLine_11 : decode cX11_readLine 11 = .ok (.invokevirtual 370, 3) := by decide +kernel
theorem dX11_readLine_14 : decode cX11_readLine 14 = .ok (.aload_n 0, 1) := by decide +kernel
theorem dX11_readLine_15 : decode cX11_readLine 15 = .ok (.getfield 13, 3) := by decide +kernel
theorem dX11_readLine_18 : decode cX11_readLine 18 = .ok (.iconst 0, 1) := by decide +kernel
theorem dX11_readLine_19 : decode cX11_readLine 19 = .ok (.aload_n 0, 1) := by decide +kernel
theorem dX11_readLine_20 : decode cX11_readLine 20 = .ok (.iconst 0, 1) := by decide +kernel
theorem dX11_readLine_21 : decode cX11_readLine 21 = .ok (.ldc_w 305, 3) := by decide +kernel
theorem dX11_readLine_24 : decode cX11_readLine 24 = .ok (.invokevirtual 399, 3) := by decide +kernel
theorem dX11_readLine_27 : decode cX11_readLine 27 = .ok (.iastore, 1) := by decide +kernel
theorem dX11_readLine_28 : decode cX11_readLine 28 = .ok (.goto 59, 3) := by decide +kernel
theorem dX11_readLine_31 : decode cX11_readLine 31 = .ok (.aload_n 0, 1) := by decide +kernel
theorem dX11_readLine_32 : decode cX11_readLine 32 = .ok (.ldc_w 383, 3) := by decide +kernel
theorem dX11_readLine_35 : decode cX11_readLine 35 = .ok (.invokevirtual 379, 3) := by decide +kernel
theorem dX11_readLine_38 : decode cX11_readLine 38 = .ok (.ifCond .eq 10, 3) := by decide +kernel
theorem dX11_readLine_41 : decode cX11_readLine 41 = .ok (.aload_n 0, 1) := by decide +kernel
theorem dX11_readLine_42 : decode cX11_readLine 42 = .ok (.invokevirtual 425, 3) := by decide +kernel
theorem dX11_readLine_45 : decode cX11_readLine 45 = .ok (.goto 42, 3) := by decide +kernel
theorem dX11_readLine_48 : decode cX11_readLine 48 = .ok (.aload_n 0, 1) := by decide +kernel
theorem dX11_readLine_49 : decode cX11_readLine 49 = .ok (.ldc_w 385, 3) := by decide +kernel
theorem dX11_readLine_52 : decode cX11_readLine 52 = .ok (.invokevirtual 379, 3) := by decide +kernel
theorem dX11_readLine_55 : decode cX11_readLine 55 = .ok (.ifCond .eq 10, 3) := by decide +kernel
theorem dX11_readLine_58 : decode cX11_readLine 58 = .ok (.aload_n 0, 1) := by decide +kernel
theorem dX11_readLine_59 : decode cX11_readLine 59 = .ok (.invokevirtual 428, 3) := by decide +kernel
theorem dX11_readLine_62 : decode cX11_readLine 62 = .ok (.goto 25, 3) := by decide +kernel
theorem dX11_readLine_65 : decode cX11_readLine 65 = .ok (.aload_n 0, 1) := by decide +kernel
theorem dX11_readLine_66 : decode cX11_readLine 66 = .ok (.ldc_w 387, 3) := by decide +kernel
theorem dX11_readLine_69 : decode cX11_readLine 69 = .ok (.invokevirtual 379, 3) := by decide +kernel
theorem dX11_readLine_72 : decode cX11_readLine 72 = .ok (.ifCond .eq 10, 3) := by decide +kernel
theorem dX11_readLine_75 : decode cX11_readLine 75 = .ok (.aload_n 0, 1) := by decide +kernel
theorem dX11_readLine_76 : decode cX11_readLine 76 = .ok (.invokevirtual 431, 3) := by decide +kernel
theorem dX11_readLine_79 : decode cX11_readLine 79 = .ok (.goto 8, 3) := by decide +kernel
theorem dX11_readLine_82 : decode cX11_readLine 82 = .ok (.aload_n 0, 1) := by decide +kernel
theorem dX11_readLine_83 : decode cX11_readLine 83 = .ok (.iconst 1, 1) := by decide +kernel
theorem dX11_readLine_84 : decode cX11_readLine 84 = .ok (.invokevirtual 367, 3) := by decide +kernel
theorem dX11_readLine_87 : decode cX11_readLine 87 = .ok (.aload_n 0, 1) := by decide +kernel
theorem dX11_readLine_88 : decode cX11_readLine 88 = .ok (.bipush 59, 2) := by decide +kernel
theorem dX11_readLine_90 : decode cX11_readLine 90 = .ok (.invokevirtual 408, 3) := by decide +kernel
theorem dX11_readLine_93 : decode cX11_readLine 93 = .ok (.return_, 1) := by decide +kernel
def jX11_readLine_87 (Y : XS) (n : Nat) (S : PS) (v0 : Nat) : Option (PS) :=
  kc (fX11_must Y n S v0 (59 : Int32)) (fun q90 => some q90)
def fX11_readLine (Y : XS) (n : Nat) (S : PS) (a0 : Nat) : Option (PS) :=
  kc (fX11_isWord Y n S a0 16) (fun q4 => (if q4 = 0 then kc (fX11_isWord Y n S a0 17) (fun q35 => (if q35 = 0 then kc (fX11_isWord Y n S a0 18) (fun q52 => (if q52 = 0 then kc (fX11_isWord Y n S a0 19) (fun q69 => (if q69 = 0 then kc (fX11_wrong Y n S a0 (1 : Int32)) (fun q84 => jX11_readLine_87 Y n q84 a0) else kc (fX11_readLaw Y n S a0) (fun q76 => jX11_readLine_87 Y n q76 a0))) else kc (fX11_readVotes Y n S a0) (fun q59 => jX11_readLine_87 Y n q59 a0))) else kc (fX11_readProject Y n S a0) (fun q42 => jX11_readLine_87 Y n q42 a0))) else kc (fX11_pass Y n S a0) (fun q11 => kgr q11 a0 1 (fun b15 => kc (fX11_number Y n q11 a0 (0 : Int32) (99999 : Int32)) (fun q24 => kwi Y q24.2 b15 (0 : Int32) q24.1 (fun S27 => jX11_readLine_87 Y n S27 a0))))))
theorem wjX11_readLine_87 {C : CT} {X : XT} (hC : CK C RX11 cX11_readLine 1 none 82) (n : Nat) (S : PS) (v0 : Nat)  (hTv0 : Ty X.2.1 v0 11) {o : PS} (hf : jX11_readLine_87 X.2.1 n S v0 = some o) (hR : Rt C X cX11_readLine none none o) : UW C X S 87 [(0, .ref (X.1 v0))] [] := by
  unfold jX11_readLine_87 at hf
  refine u_aload_n hC dX11_readLine_87 0 rfl rfl ?_
  refine u_bipush (v := (59 : Int32)) hC dX11_readLine_88 (by decide) ?_
  obtain ⟨q90, hq90, hf⟩ := kc_some hf
  refine u_callV hC (ctX11_must (cL C) hC.tr (cG C) X.1 X.2.1 n S v0 (59 : Int32) hTv0 hq90) lk_X11_408 rfl hTv0 (by decide) rfl (by decide) (by decide) rfl rfl (Nat.le_of_ble_eq_true rfl) dX11_readLine_90 ?_
  cases hf
  exact hR _ _ dX11_readLine_93 trivial
theorem wX11_readLine {C : CT} {X : XT} (hC : CK C RX11 cX11_readLine 1 none 82) (n : Nat) (S : PS) (a0 : Nat) (hTa0 : Ty X.2.1 a0 11) {o : PS} (hf : fX11_readLine X.2.1 n S a0 = some o) (hR : Rt C X cX11_readLine none none o) : UW C X S 0 [(0, .ref (X.1 a0))] [] := by
  unfold fX11_readLine at hf
  refine u_aload_n hC dX11_readLine_0 0 rfl rfl ?_
  refine u_ldsw (i := 16) hC (by decide) rfl rfl dX11_readLine_1 ?_
  obtain ⟨q4, hq4, hf⟩ := kc_some hf
  refine u_callV hC (ctX11_isWord (cL C) hC.tr (cG C) X.1 X.2.1 n S a0 16 hTa0 (show 16 < nStr by decide) hq4) lk_X11_379 rfl hTa0 (by decide) rfl (by decide) (by decide) rfl rfl (Nat.le_of_ble_eq_true rfl) dX11_readLine_4 ?_
  refine u_if_eq (tgt := 31) hC dX11_readLine_7 (by decide) hf (fun h7 hf => ?_) (fun h7 hf => ?_)
  · refine u_aload_n hC dX11_readLine_31 0 rfl rfl ?_
    refine u_ldsw (i := 17) hC (by decide) rfl rfl dX11_readLine_32 ?_
    obtain ⟨q35, hq35, hf⟩ := kc_some hf
    refine u_callV hC (ctX11_isWord (cL C) hC.tr (cG C) X.1 X.2.1 n S a0 17 hTa0 (show 17 < nStr by decide) hq35) lk_X11_379 rfl hTa0 (by decide) rfl (by decide) (by decide) rfl rfl (Nat.le_of_ble_eq_true rfl) dX11_readLine_35 ?_
    refine u_if_eq (tgt := 48) hC dX11_readLine_38 (by decide) hf (fun h38 hf => ?_) (fun h38 hf => ?_)
    · refine u_aload_n hC dX11_readLine_48 0 rfl rfl ?_
      refine u_ldsw (i := 18) hC (by decide) rfl rfl dX11_readLine_49 ?_
      obtain ⟨q52, hq52, hf⟩ := kc_some hf
      refine u_callV hC (ctX11_isWord (cL C) hC.tr (cG C) X.1 X.2.1 n S a0 18 hTa0 (show 18 < nStr by decide) hq52) lk_X11_379 rfl hTa0 (by decide) rfl (by decide) (by decide) rfl rfl (Nat.le_of_ble_eq_true rfl) dX11_readLine_52 ?_
      refine u_if_eq (tgt := 65) hC dX11_readLine_55 (by decide) hf (fun h55 hf => ?_) (fun h55 hf => ?_)
      · refine u_aload_n hC dX11_readLine_65 0 rfl rfl ?_
        refine u_ldsw (i := 19) hC (by decide) rfl rfl dX11_readLine_66 ?_
        obtain ⟨q69, hq69, hf⟩ := kc_some hf
        refine u_callV hC (ctX11_isWord (cL C) hC.tr (cG C) X.1 X.2.1 n S a0 19 hTa0 (show 19 < nStr by decide) hq69) lk_X11_379 rfl hTa0 (by decide) rfl (by decide) (by decide) rfl rfl (Nat.le_of_ble_eq_true rfl) dX11_readLine_69 ?_
        refine u_if_eq (tgt := 82) hC dX11_readLine_72 (by decide) hf (fun h72 hf => ?_) (fun h72 hf => ?_)
        · refine u_aload_n hC dX11_readLine_82 0 rfl rfl ?_
          refine u_iconst (v := (1 : Int32)) hC dX11_readLine_83 (by decide) ?_
          obtain ⟨q84, hq84, hf⟩ := kc_some hf
          refine u_callV hC (ctX11_wrong (cL C) hC.tr (cG C) X.1 X.2.1 n S a0 (1 : Int32) hTa0 hq84) lk_X11_367 rfl hTa0 (by decide) rfl (by decide) (by decide) rfl rfl (Nat.le_of_ble_eq_true rfl) dX11_readLine_84 ?_
          exact wjX11_readLine_87 hC n q84 a0  hTa0 hf hR
        · refine u_aload_n hC dX11_readLine_75 0 rfl rfl ?_
          obtain ⟨q76, hq76, hf⟩ := kc_some hf
          refine u_callV hC (ctX11_readLaw (cL C) hC.tr (cG C) X.1 X.2.1 n S a0 hTa0 hq76) lk_X11_431 rfl hTa0 (by decide) rfl (by decide) (by decide) rfl rfl (Nat.le_of_ble_eq_true rfl) dX11_readLine_76 ?_
          refine u_goto (tgt := 87) hC dX11_readLine_79 (by decide) ?_
          exact wjX11_readLine_87 hC n q76 a0  hTa0 hf hR
      · refine u_aload_n hC dX11_readLine_58 0 rfl rfl ?_
        obtain ⟨q59, hq59, hf⟩ := kc_some hf
        refine u_callV hC (ctX11_readVotes (cL C) hC.tr (cG C) X.1 X.2.1 n S a0 hTa0 hq59) lk_X11_428 rfl hTa0 (by decide) rfl (by decide) (by decide) rfl rfl (Nat.le_of_ble_eq_true rfl) dX11_readLine_59 ?_
        refine u_goto (tgt := 87) hC dX11_readLine_62 (by decide) ?_
        exact wjX11_readLine_87 hC n q59 a0  hTa0 hf hR
    · refine u_aload_n hC dX11_readLine_41 0 rfl rfl ?_
      obtain ⟨q42, hq42, hf⟩ := kc_some hf
      refine u_callV hC (ctX11_readProject (cL C) hC.tr (cG C) X.1 X.2.1 n S a0 hTa0 hq42) lk_X11_425 rfl hTa0 (by decide) rfl (by decide) (by decide) rfl rfl (Nat.le_of_ble_eq_true rfl) dX11_readLine_42 ?_
      refine u_goto (tgt := 87) hC dX11_readLine_45 (by decide) ?_
      exact wjX11_readLine_87 hC n q42 a0  hTa0 hf hR
  · refine u_aload_n hC dX11_readLine_10 0 rfl rfl ?_
    obtain ⟨q11, hq11, hf⟩ := kc_some hf
    refine u_callV hC (ctX11_pass (cL C) hC.tr (cG C) X.1 X.2.1 n S a0 hTa0 hq11) lk_X11_370 rfl hTa0 (by decide) rfl (by decide) (by decide) rfl rfl (Nat.le_of_ble_eq_true rfl) dX11_readLine_11 ?_
    refine u_aload_n hC dX11_readLine_14 0 rfl rfl ?_
    refine u_gr hC lf_X11_13 rfl hTa0 dX11_readLine_15 hf (fun b15 hTb15 hf => ?_)
    refine u_iconst (v := (0 : Int32)) hC dX11_readLine_18 (by decide) ?_
    refine u_aload_n hC dX11_readLine_19 0 rfl rfl ?_
    refine u_iconst (v := (0 : Int32)) hC dX11_readLine_20 (by decide) ?_
    refine u_ldcw (v := (99999 : Int32)) hC dX11_readLine_21 (tb_7 197 rfl rfl) ?_
    obtain ⟨q24, hq24, hf⟩ := kc_some hf
    refine u_callV hC (ctX11_number (cL C) hC.tr (cG C) X.1 X.2.1 n q11 a0 (0 : Int32) (99999 : Int32) hTa0 hq24) lk_X11_399 rfl hTa0 (by decide) rfl (by decide) (by decide) rfl rfl (Nat.le_of_ble_eq_true rfl) dX11_readLine_24 ?_
    refine u_wi hC hTb15 dX11_readLine_27 hf (fun S27 hf => ?_)
    refine u_goto (tgt := 87) hC dX11_readLine_28 (by decide) ?_
    exact wjX11_readLine_87 hC n S27 a0  hTa0 hf hR
theorem ctX11_readLine (l : Launch) (hl : l.stackTraces = false) (G : GT) (ρ : Nat → Nat) (Y : XS) (n : Nat) (S : PS) (a0 : Nat) (hTa0 : Ty Y a0 11) {o : PS} (hf : fX11_readLine Y n S a0 = some o) : Mt l G yX11_readLine cX11_readLine 1 none 82 ρ Y [.ref (ρ a0)] S none o :=
  Mt_of hl (by decide) (Nat.le_of_ble_eq_true rfl) (fun C _ _ hC hR => wX11_readLine (X := (ρ, Y, 0, 0)) hC n S a0 hTa0 hf hR)
-- X11_election
theorem dX11_election_0 : decode cX11_election 0 = .ok (.aload_n 0, 1) := by decide +kernel
theorem dX11_election_1 : decode cX11_election 1 = .ok (.iconst 0, 1) := by decide +kernel
theorem dX11_election_2 : decode cX11_election 2 = .ok (.putfield 70, 3) := by decide +kernel
theorem dX11_election_5 : decode cX11_election 5 = .ok (.iload_n 1, 1) := by decide +kernel
theorem dX11_election_6 : decode cX11_election 6 = .ok (.ifCond .lt 11, 3) := by decide +kernel
theorem dX11_election_9 : decode cX11_election 9 = .ok (.iload_n 1, 1) := by decide +kernel
theorem dX11_election_10 : decode cX11_election 10 = .ok (.aload_n 0, 1) := by decide +kernel
theorem dX11_election_11 : decode cX11_election 11 = .ok (.getfield 249, 3) := by decide +kernel
theorem dX11_election_14 : decode cX11_election 14 = .ok (.if_icmp .le 9, 3) := by decide +kernel
theorem dX11_election_17 : decode cX11_election 17 = .ok (.aload_n 0, 1) := by decide +kernel
theorem dX11_election_18 : decode cX11_election 18 = .ok (.iconst 1, 1) := by decide +kernel
theorem dX11_election_19 : decode cX11_election 19 = .ok (.invokevirtual 252, 3) := by decide +kernel
theorem dX11_election_22 : decode cX11_election 22 = .ok (.ireturn, 1) := by decide +kernel
theorem dX11_election_23 : decode cX11_election 23 = .ok (.iconst 0, 1) := by decide +kernel
theorem dX11_election_24 : decode cX11_election 24 = .ok (.istore_n 2, 1) := by decide +kernel
theorem dX11_election_25 : decode cX11_election 25 = .ok (.iload_n 2, 1) := by decide +kernel
theorem dX11_election_26 : decode cX11_election 26 = .ok (.sipush 877, 3) := by decide +kernel
theorem dX11_election_29 : decode cX11_election 29 = .ok (.if_icmp .ge 16, 3) := by decide +kernel
theorem dX11_election_32 : decode cX11_election 32 = .ok (.aload_n 0, 1) := by decide +kernel
theorem dX11_election_33 : decode cX11_election 33 = .ok (.getfield 13, 3) := by decide +kernel
theorem dX11_election_36 : decode cX11_election 36 = .ok (.iload_n 2, 1) := by decide +kernel
theorem dX11_election_37 : decode cX11_election 37 = .ok (.iconst 0, 1) := by decide +kernel
theorem dX11_election_38 : decode cX11_election 38 = .ok (.iastore, 1) := by decide +kernel
theorem dX11_election_39 : decode cX11_election 39 = .ok (.iinc 2 1, 3) := by decide +kernel
theorem dX11_election_42 : decode cX11_election 42 = .ok (.goto (-17), 3) := by decide +kernel
theorem dX11_election_45 : decode cX11_election 45 = .ok (.aload_n 0, 1) := by decide +kernel
theorem dX11_election_46 : decode cX11_election 46 = .ok (.iload_n 1, 1) := by decide +kernel
theorem dX11_election_47 : decode cX11_election 47 = .ok (.putfield 328, 3) := by decide +kernel
theorem dX11_election_50 : decode cX11_election 50 = .ok (.aload_n 0, 1) := by decide +kernel
theorem dX11_election_51 : decode cX11_election 51 = .ok (.iconst 0, 1) := by decide +kernel
theorem dX11_election_52 : decode cX11_election 52 = .ok (.putfield 331, 3) := by decide +kernel
theorem dX11_election_55 : decode cX11_election 55 = .ok (.aload_n 0, 1) := by decide +kernel
theorem dX11_election_56 : decode cX11_election 56 = .ok (.iconst 0, 1) := by decide +kernel
theorem dX11_election_57 : decode cX11_election 57 = .ok (.putfield 346, 3) := by decide +kernel
theorem dX11_election_60 : decode cX11_election 60 = .ok (.aload_n 0, 1) := by decide +kernel
theorem dX11_election_61 : decode cX11_election 61 = .ok (.iconst 0, 1) := by decide +kernel
theorem dX11_election_62 : decode cX11_election 62 = .ok (.putfield 402, 3) := by decide +kernel
theorem dX11_election_65 : decode cX11_election 65 = .ok (.aload_n 0, 1) := by decide +kernel
theorem dX11_election_66 : decode cX11_election 66 = .ok (.invokevirtual 352, 3) := by decide +kernel
theorem dX11_election_69 : decode cX11_election 69 = .ok (.aload_n 0, 1) := by decide +kernel
theorem dX11_election_70 : decode cX11_election 70 = .ok (.getfield 346, 3) := by decide +kernel
theorem dX11_election_73 : decode cX11_election 73 = .ok (.ifCond .ne 17, 3) := by decide +kernel
theorem dX11_election_76 : decode cX11_election 76 = .ok (.aload_n 0, 1) := by decide +kernel
theorem dX11_election_77 : decode cX11_election 77 = .ok (.getfield 340, 3) := by decide +kernel
theorem dX11_election_80 : decode cX11_election 80 = .ok (.ifCond .eq 10, 3) := by decide +kernel
theorem dX11_election_83 : decode cX11_election 83 = .ok (.aload_n 0, 1) := by decide +kernel
theorem dX11_election_84 : decode cX11_election 84 = .ok (.invokevirtual 434, 3) := by decide +kernel
theorem dX11_election_87 : decode cX11_election 87 = .ok (.goto (-18), 3) := by decide +kernel
theorem dX11_election_90 : decode cX11_election 90 = .ok (.aload_n 0, 1) := by decide +kernel
theorem dX11_election_91 : decode cX11_election 91 = .ok (.iconst 0, 1) := by decide +kernel
theorem dX11_election_92 : decode cX11_election 92 = .ok (.putfield 249, 3) := by decide +kernel
theorem dX11_election_95 : decode cX11_election 95 = .ok (.aload_n 0, 1) := by decide +kernel
theorem dX11_election_96 : decode cX11_election 96 = .ok (.aload_n 0, 1) := by decide +kernel
theorem dX11_election_97 : decode cX11_election 97 = .ok (.getfield 346, 3) := by decide +kernel
theorem dX11_election_100 : decode cX11_election 100 = .ok (.ifCond .ne 7, 3) := by decide +kernel
theorem dX11_election_103 : decode cX11_election 103 = .ok (.iconst (-1), 1) := by decide +kernel
theorem dX11_election_104 : decode cX11_election 104 = .ok (.goto 7, 3) := by decide +kernel
theorem dX11_election_107 : decode cX11_election 107 = .ok (.aload_n 0, 1) := by decide +kernel
theorem dX11_election_108 : decode cX11_election 108 = .ok (.getfield 349, 3) := by decide +kernel
theorem dX11_election_111 : decode cX11_election 111 = .ok (.putfield 66, 3) := by decide +kernel
theorem dX11_election_114 : decode cX11_election 114 = .ok (.aload_n 0, 1) := by decide +kernel
theorem dX11_election_115 : decode cX11_election 115 = .ok (.getfield 346, 3) := by decide +kernel
theorem dX11_election_118 : decode cX11_election 118 = .ok (.ifCond .eq 11, 3) := by decide +kernel
theorem dX11_election_121 : decode cX11_election 121 = .ok (.bipush (-10), 2) := by decide +kernel
theorem dX11_election_123 : decode cX11_election 123 = .ok (.aload_n 0, 1) := by decide +kernel
theorem dX11_election_124 : decode cX11_election 124 = .ok (.getfield 346, 3) := by decide +kernel
theorem dX11_election_127 : decode cX11_election 127 = .ok (.isub, 1) := by decide +kernel
theorem dX11_election_128 : decode cX11_election 128 = .ok (.ireturn, 1) := by decide +kernel
theorem dX11_election_129 : decode cX11_election 129 = .ok (.aload_n 0, 1) := by decide +kernel
theorem dX11_election_130 : decode cX11_election 130 = .ok (.getfield 9, 3) := by decide +kernel
theorem dX11_election_133 : decode cX11_election 133 = .ok (.aload_n 0, 1) := by decide +kernel
theorem dX11_election_134 : decode cX11_election 134 = .ok (.getfield 13, 3) := by decide +kernel
theorem dX11_election_137 : decode cX11_election 137 = .ok (.invokestatic 295, 3) := by decide +kernel
theorem dX11_election_140 : decode cX11_election 140 = .ok (.aload_n 0, 1) := by decide +kernel
theorem dX11_election_141 : decode cX11_election 141 = .ok (.iconst 0, 1) := by decide +kernel
theorem dX11_election_142 : decode cX11_election 142 = .ok (.putfield 246, 3) := by decide +kernel
theorem dX11_election_145 : decode cX11_election 145 = .ok (.aload_n 0, 1) := by decide +kernel
theorem dX11_election_146 : decode cX11_election 146 = .ok (.invokevirtual 77, 3) := by decide +kernel
theorem dX11_election_149 : decode cX11_election 149 = .ok (.ireturn, 1) := by decide +kernel
def jX11_election_17 (Y : XS) (n : Nat) (S : PS) (v0 : Nat) : Option (Int32 × PS) :=
  kc (fX11_fail Y n S v0 (1 : Int32)) (fun q19 => some (q19.1, q19.2))
def bX11_election_25 (Y : XS) (n : Nat) (v0 : Nat) (v1 : Int32) (s25 : (Int32 × PS)) : Option ((Int32 × PS) ⊕ PS) :=
  (if (877 : Int32) ≤ s25.1 then some (.inr s25.2) else kgr s25.2 v0 1 (fun b33 => kwi Y s25.2 b33 s25.1 (0 : Int32) (fun S38 => some (.inl (s25.1 + (1 : Int32), S38)))))
def bX11_election_69 (Y : XS) (n : Nat) (v0 : Nat) (s69 : PS) : Option (PS ⊕ PS) :=
  kgi s69 v0 34 (fun x70 => (if x70 = 0 then kgi s69 v0 31 (fun x77 => (if x77 = 0 then some (.inr s69) else kc (fX11_readLine Y n s69 v0) (fun q84 => some (.inl q84)))) else some (.inr s69)))
def jX11_election_111 (Y : XS) (n : Nat) (S : PS) (v0 : Nat) (t0 : Int32) (t1 : Nat) : Option (Int32 × PS) :=
  kpi S t1 36 t0 (fun S111 => kgi S111 v0 34 (fun x115 => (if x115 = 0 then kgr S111 v0 0 (fun b130 => kgr S111 v0 1 (fun b134 => kc (fX11_copy Y n S111 b130 b134) (fun q137 => kpi q137 v0 6 (0 : Int32) (fun S142 => kc (fX11_many Y n S142 v0) (fun q146 => some (q146, S142)))))) else kgi S111 v0 34 (fun x124 => some ((-10 : Int32) - x124, S111)))))
def jX11_election_90 (Y : XS) (n : Nat) (S : PS) (v0 : Nat) : Option (Int32 × PS) :=
  kpi S v0 28 (0 : Int32) (fun S92 => kgi S92 v0 34 (fun x97 => (if x97 = 0 then jX11_election_111 Y n S92 v0 (-1 : Int32) v0 else kgi S92 v0 35 (fun x108 => jX11_election_111 Y n S92 v0 x108 v0))))
def fX11_election (Y : XS) (n : Nat) (S : PS) (a0 : Nat) (x1_ : Int32) : Option (Int32 × PS) :=
  kpi S a0 7 (0 : Int32) (fun S2 => (if x1_ < 0 then jX11_election_17 Y n S2 a0 else kgi S2 a0 28 (fun x11 => (if x1_ ≤ x11 then kc (iter (bX11_election_25 Y n a0 x1_) n ((0 : Int32), S2)) (fun r25 => kpi r25 a0 29 x1_ (fun S47 => kpi S47 a0 30 (0 : Int32) (fun S52 => kpi S52 a0 34 (0 : Int32) (fun S57 => kpi S57 a0 37 (0 : Int32) (fun S62 => kc (fX11_next Y n S62 a0) (fun q66 => kc (iter (bX11_election_69 Y n a0) n q66) (fun r69 => jX11_election_90 Y n r69 a0))))))) else jX11_election_17 Y n S2 a0))))
theorem wjX11_election_17 {C : CT} {X : XT} (hC : CK C RX11 cX11_election 3 (some .int) 83) (n : Nat) (S : PS) (v0 : Nat)  (hTv0 : Ty X.2.1 v0 11) {o : Int32 × PS} (hf : jX11_election_17 X.2.1 n S v0 = some o) (hR : Rt C X cX11_election (some .int) (some (.int o.1)) o.2) : UW C X S 17 [(0, .ref (X.1 v0))] [] := by
  unfold jX11_election_17 at hf
  refine u_aload_n hC dX11_election_17 0 rfl rfl ?_
  refine u_iconst (v := (1 : Int32)) hC dX11_election_18 (by decide) ?_
  obtain ⟨q19, hq19, hf⟩ := kc_some hf
  refine u_callV hC (ctX11_fail (cL C) hC.tr (cG C) X.1 X.2.1 n S v0 (1 : Int32) hTv0 hq19) lk_X11_252 rfl hTv0 (by decide) rfl (by decide) (by decide) rfl rfl (Nat.le_of_ble_eq_true rfl) dX11_election_19 ?_
  cases hf
  exact hR _ _ dX11_election_22 trivial
theorem wbX11_election_25 {C : CT} {X : XT} (hC : CK C RX11 cX11_election 3 (some .int) 83) (n : Nat) (v0 : Nat) (v1 : Int32) (hTv0 : Ty X.2.1 v0 11) (s25 : (Int32 × PS)) {o : (Int32 × PS) ⊕ PS} (hf : bX11_election_25 X.2.1 n v0 v1 s25 = some o) (hN : ∀ s', o = .inl s' → UW C X s'.2 25 [(0, .ref (X.1 v0)), (1, .int v1), (2, .int s'.1)] []) (hO0 : ∀ p', o = .inr p' → UW C X p' 45 [(0, .ref (X.1 v0)), (1, .int v1)] []) : UW C X s25.2 25 [(0, .ref (X.1 v0)), (1, .int v1), (2, .int s25.1)] [] := by
  unfold bX11_election_25 at hf
  refine u_iload_n hC dX11_election_25 2 rfl rfl ?_
  refine u_sipush (v := (877 : Int32)) hC dX11_election_26 (by decide) ?_
  refine u_icmp_ge (tgt := 45) hC dX11_election_29 (by decide) hf (fun h29 hf => ?_) (fun h29 hf => ?_)
  · refine u_sub (lv' := [(0, .ref (X.1 v0)), (1, .int v1)]) [0, 1] rfl ?_
    exact hO0 _ (Option.some.inj hf).symm
  · refine u_aload_n hC dX11_election_32 0 rfl rfl ?_
    refine u_gr hC lf_X11_13 rfl hTv0 dX11_election_33 hf (fun b33 hTb33 hf => ?_)
    refine u_iload_n hC dX11_election_36 2 rfl rfl ?_
    refine u_iconst (v := (0 : Int32)) hC dX11_election_37 (by decide) ?_
    refine u_wi hC hTb33 dX11_election_38 hf (fun S38 hf => ?_)
    refine u_iinc (v := s25.1 + (1 : Int32)) (lv' := [(2, .int (s25.1 + (1 : Int32))), (0, .ref (X.1 v0)), (1, .int v1)]) hC dX11_election_39 2 rfl rfl (by decide) rfl ?_
    refine u_goto (tgt := 25) hC dX11_election_42 (by decide) ?_
    refine u_sub (lv' := [(0, .ref (X.1 v0)), (1, .int v1), (2, .int (s25.1 + (1 : Int32)))]) [1, 2, 0] rfl ?_
    exact hN _ (Option.some.inj hf).symm
theorem wbX11_election_69 {C : CT} {X : XT} (hC : CK C RX11 cX11_election 3 (some .int) 83) (n : Nat) (v0 : Nat) (hTv0 : Ty X.2.1 v0 11) (s69 : PS) {o : PS ⊕ PS} (hf : bX11_election_69 X.2.1 n v0 s69 = some o) (hN : ∀ s', o = .inl s' → UW C X s' 69 [(0, .ref (X.1 v0))] []) (hO0 : ∀ p', o = .inr p' → UW C X p' 90 [(0, .ref (X.1 v0))] []) : UW C X s69 69 [(0, .ref (X.1 v0))] [] := by
  unfold bX11_election_69 at hf
  refine u_aload_n hC dX11_election_69 0 rfl rfl ?_
  refine u_gi hC lf_X11_346 rfl hTv0 dX11_election_70 hf (fun x70 hf => ?_)
  refine u_if_ne (tgt := 90) hC dX11_election_73 (by decide) hf (fun h73 hf => ?_) (fun h73 hf => ?_)
  · exact hO0 _ (Option.some.inj hf).symm
  · refine u_aload_n hC dX11_election_76 0 rfl rfl ?_
    refine u_gi hC lf_X11_340 rfl hTv0 dX11_election_77 hf (fun x77 hf => ?_)
    refine u_if_eq (tgt := 90) hC dX11_election_80 (by decide) hf (fun h80 hf => ?_) (fun h80 hf => ?_)
    · exact hO0 _ (Option.some.inj hf).symm
    · refine u_aload_n hC dX11_election_83 0 rfl rfl ?_
      obtain ⟨q84, hq84, hf⟩ := kc_some hf
      refine u_callV hC (ctX11_readLine (cL C) hC.tr (cG C) X.1 X.2.1 n s69 v0 hTv0 hq84) lk_X11_434 rfl hTv0 (by decide) rfl (by decide) (by decide) rfl rfl (Nat.le_of_ble_eq_true rfl) dX11_election_84 ?_
      refine u_goto (tgt := 69) hC dX11_election_87 (by decide) ?_
      exact hN _ (Option.some.inj hf).symm
theorem wjX11_election_111 {C : CT} {X : XT} (hC : CK C RX11 cX11_election 3 (some .int) 83) (n : Nat) (S : PS) (v0 : Nat) (t0 : Int32) (t1 : Nat)  (hTv0 : Ty X.2.1 v0 11) (hTt1 : Ty X.2.1 t1 11) {o : Int32 × PS} (hf : jX11_election_111 X.2.1 n S v0 t0 t1 = some o) (hR : Rt C X cX11_election (some .int) (some (.int o.1)) o.2) : UW C X S 111 [(0, .ref (X.1 v0))] [.int t0, .ref (X.1 t1)] := by
  unfold jX11_election_111 at hf
  refine u_pi hC lf_X11_66 rfl rfl rfl hTt1 dX11_election_111 hf (fun S111 hf => ?_)
  refine u_aload_n hC dX11_election_114 0 rfl rfl ?_
  refine u_gi hC lf_X11_346 rfl hTv0 dX11_election_115 hf (fun x115 hf => ?_)
  refine u_if_eq (tgt := 129) hC dX11_election_118 (by decide) hf (fun h118 hf => ?_) (fun h118 hf => ?_)
  · refine u_aload_n hC dX11_election_129 0 rfl rfl ?_
    refine u_gr hC lf_X11_9 rfl hTv0 dX11_election_130 hf (fun b130 hTb130 hf => ?_)
    refine u_aload_n hC dX11_election_133 0 rfl rfl ?_
    refine u_gr hC lf_X11_13 rfl hTv0 dX11_election_134 hf (fun b134 hTb134 hf => ?_)
    obtain ⟨q137, hq137, hf⟩ := kc_some hf
    refine u_callS hC (ctX11_copy (cL C) hC.tr (cG C) X.1 X.2.1 n S111 b130 b134 hTb130 hTb134 hq137) lk_X11_295 (by decide) (by decide) rfl rfl (Nat.le_of_ble_eq_true rfl) dX11_election_137 ?_
    refine u_aload_n hC dX11_election_140 0 rfl rfl ?_
    refine u_iconst (v := (0 : Int32)) hC dX11_election_141 (by decide) ?_
    refine u_pi hC lf_X11_246 rfl rfl rfl hTv0 dX11_election_142 hf (fun S142 hf => ?_)
    refine u_aload_n hC dX11_election_145 0 rfl rfl ?_
    obtain ⟨q146, hq146, hf⟩ := kc_some hf
    refine u_callV hC (ctX11_many (cL C) hC.tr (cG C) X.1 X.2.1 n S142 v0 hTv0 hq146) lk_X11_77 rfl hTv0 (by decide) rfl (by decide) (by decide) rfl rfl (Nat.le_of_ble_eq_true rfl) dX11_election_146 ?_
    cases hf
    exact hR _ _ dX11_election_149 trivial
  · refine u_bipush (v := (-10 : Int32)) hC dX11_election_121 (by decide) ?_
    refine u_aload_n hC dX11_election_123 0 rfl rfl ?_
    refine u_gi hC lf_X11_346 rfl hTv0 dX11_election_124 hf (fun x124 hf => ?_)
    refine u_isub hC dX11_election_127 ?_
    obtain rfl := Option.some.inj hf
    exact hR _ _ dX11_election_128 trivial
theorem wjX11_election_90 {C : CT} {X : XT} (hC : CK C RX11 cX11_election 3 (some .int) 83) (n : Nat) (S : PS) (v0 : Nat)  (hTv0 : Ty X.2.1 v0 11) {o : Int32 × PS} (hf : jX11_election_90 X.2.1 n S v0 = some o) (hR : Rt C X cX11_election (some .int) (some (.int o.1)) o.2) : UW C X S 90 [(0, .ref (X.1 v0))] [] := by
  unfold jX11_election_90 at hf
  refine u_aload_n hC dX11_election_90 0 rfl rfl ?_
  refine u_iconst (v := (0 : Int32)) hC dX11_election_91 (by decide) ?_
  refine u_pi hC lf_X11_249 rfl rfl rfl hTv0 dX11_election_92 hf (fun S92 hf => ?_)
  refine u_aload_n hC dX11_election_95 0 rfl rfl ?_
  refine u_aload_n hC dX11_election_96 0 rfl rfl ?_
  refine u_gi hC lf_X11_346 rfl hTv0 dX11_election_97 hf (fun x97 hf => ?_)
  refine u_if_ne (tgt := 107) hC dX11_election_100 (by decide) hf (fun h100 hf => ?_) (fun h100 hf => ?_)
  · refine u_aload_n hC dX11_election_107 0 rfl rfl ?_
    refine u_gi hC lf_X11_349 rfl hTv0 dX11_election_108 hf (fun x108 hf => ?_)
    exact wjX11_election_111 hC n S92 v0 x108 v0  hTv0 hTv0 hf hR
  · refine u_iconst (v := (-1 : Int32)) hC dX11_election_103 (by decide) ?_
    refine u_goto (tgt := 111) hC dX11_election_104 (by decide) ?_
    exact wjX11_election_111 hC n S92 v0 (-1 : Int32) v0  hTv0 hTv0 hf hR
theorem wX11_election {C : CT} {X : XT} (hC : CK C RX11 cX11_election 3 (some .int) 83) (n : Nat) (S : PS) (a0 : Nat) (x1_ : Int32) (hTa0 : Ty X.2.1 a0 11) {o : Int32 × PS} (hf : fX11_election X.2.1 n S a0 x1_ = some o) (hR : Rt C X cX11_election (some .int) (some (.int o.1)) o.2) : UW C X S 0 [(0, .ref (X.1 a0)), (1, .int x1_)] [] := by
  unfold fX11_election at hf
  refine u_aload_n hC dX11_election_0 0 rfl rfl ?_
  refine u_iconst (v := (0 : Int32)) hC dX11_election_1 (by decide) ?_
  refine u_pi hC lf_X11_70 rfl rfl rfl hTa0 dX11_election_2 hf (fun S2 hf => ?_)
  refine u_iload_n hC dX11_election_5 1 rfl rfl ?_
  refine u_if_lt (tgt := 17) hC dX11_election_6 (by decide) hf (fun h6 hf => ?_) (fun h6 hf => ?_)
  · refine u_sub (lv' := [(0, .ref (X.1 a0))]) [0] rfl ?_
    exact wjX11_election_17 hC n S2 a0  hTa0 hf hR
  · refine u_iload_n hC dX11_election_9 1 rfl rfl ?_
    refine u_aload_n hC dX11_election_10 0 rfl rfl ?_
    refine u_gi hC lf_X11_249 rfl hTa0 dX11_election_11 hf (fun x11 hf => ?_)
    refine u_icmp_le (tgt := 23) hC dX11_election_14 (by decide) hf (fun h14 hf => ?_) (fun h14 hf => ?_)
    · refine u_iconst (v := (0 : Int32)) hC dX11_election_23 (by decide) ?_
      refine u_istore_n (lv' := [(2, .int (0 : Int32)), (0, .ref (X.1 a0)), (1, .int x1_)]) hC dX11_election_24 rfl (by decide) rfl ?_
      obtain ⟨r25, hr25, hf⟩ := kc_some hf
      have hk25 : UW C X r25 45 [(0, .ref (X.1 a0)), (1, .int x1_)] [] := by
        refine u_aload_n hC dX11_election_45 0 rfl rfl ?_
        refine u_iload_n hC dX11_election_46 1 rfl rfl ?_
        refine u_pi hC lf_X11_328 rfl rfl rfl hTa0 dX11_election_47 hf (fun S47 hf => ?_)
        refine u_aload_n hC dX11_election_50 0 rfl rfl ?_
        refine u_iconst (v := (0 : Int32)) hC dX11_election_51 (by decide) ?_
        refine u_pi hC lf_X11_331 rfl rfl rfl hTa0 dX11_election_52 hf (fun S52 hf => ?_)
        refine u_aload_n hC dX11_election_55 0 rfl rfl ?_
        refine u_iconst (v := (0 : Int32)) hC dX11_election_56 (by decide) ?_
        refine u_pi hC lf_X11_346 rfl rfl rfl hTa0 dX11_election_57 hf (fun S57 hf => ?_)
        refine u_aload_n hC dX11_election_60 0 rfl rfl ?_
        refine u_iconst (v := (0 : Int32)) hC dX11_election_61 (by decide) ?_
        refine u_pi hC lf_X11_402 rfl rfl rfl hTa0 dX11_election_62 hf (fun S62 hf => ?_)
        refine u_aload_n hC dX11_election_65 0 rfl rfl ?_
        obtain ⟨q66, hq66, hf⟩ := kc_some hf
        refine u_callV hC (ctX11_next (cL C) hC.tr (cG C) X.1 X.2.1 n S62 a0 hTa0 hq66) lk_X11_352 rfl hTa0 (by decide) rfl (by decide) (by decide) rfl rfl (Nat.le_of_ble_eq_true rfl) dX11_election_66 ?_
        obtain ⟨r69, hr69, hf⟩ := kc_some hf
        have hk69 : UW C X r69 90 [(0, .ref (X.1 a0))] [] := by
          exact wjX11_election_90 hC n r69 a0  hTa0 hf hR
        refine u_sub (lv' := [(0, .ref (X.1 a0))]) [0] rfl ?_
        refine iter_ind (P := fun s69 => UW C X s69 69 [(0, .ref (X.1 a0))] []) (fun s69 o' hb hin hout => ?_) n q66 hr69
        exact wbX11_election_69 hC n a0 hTa0 s69 hb hin (fun p e => by rw [hout p e]; exact hk69)
      refine u_sub (lv' := [(0, .ref (X.1 a0)), (1, .int x1_), (2, .int (0 : Int32))]) [1, 2, 0] rfl ?_
      refine iter_ind (P := fun s25 => UW C X s25.2 25 [(0, .ref (X.1 a0)), (1, .int x1_), (2, .int s25.1)] []) (fun s25 o' hb hin hout => ?_) n ((0 : Int32), S2) hr25
      exact wbX11_election_25 hC n a0 x1_ hTa0 s25 hb hin (fun p e => by rw [hout p e]; exact hk25)
    · refine u_sub (lv' := [(0, .ref (X.1 a0))]) [0] rfl ?_
      exact wjX11_election_17 hC n S2 a0  hTa0 hf hR
theorem ctX11_election (l : Launch) (hl : l.stackTraces = false) (G : GT) (ρ : Nat → Nat) (Y : XS) (n : Nat) (S : PS) (a0 : Nat) (x1_ : Int32) (hTa0 : Ty Y a0 11) {o : Int32 × PS} (hf : fX11_election Y n S a0 x1_ = some o) : Mt l G yX11_election cX11_election 3 (some .int) 83 ρ Y [.ref (ρ a0), .int x1_] S (some (.int o.1)) o.2 :=
  Mt_of hl (by decide) (Nat.le_of_ble_eq_true rfl) (fun C _ _ hC hR => wX11_election (X := (ρ, Y, 0, 0)) hC n S a0 x1_ hTa0 hf hR)
