-- X11_thrown
theorem dX11_thrown_0 : decode cX11_thrown 0 = .ok (.aload_n 0, 1) := by decide +kernel
theorem dX11_thrown_1 : decode cX11_thrown 1 = .ok (.getfield 70, 3) := by decide +kernel
theorem dX11_thrown_4 : decode cX11_thrown 4 = .ok (.ireturn, 1) := by decide +kernel
def fX11_thrown (Y : XS) (n : Nat) (S : PS) (a0 : Nat) : Option (Int32) :=
  kgi S a0 7 (fun x1 => some x1)
theorem wX11_thrown {C : CT} {X : XT} (hC : CK C RX11 cX11_thrown 1 (some .int) 1) (n : Nat) (S : PS) (a0 : Nat) (hTa0 : Ty X.2.1 a0 11) {o : Int32} (hf : fX11_thrown X.2.1 n S a0 = some o) (hR : Rt C X cX11_thrown (some .int) (some (.int o)) S) : UW C X S 0 [(0, .ref (X.1 a0))] [] := by
  unfold fX11_thrown at hf
  refine u_aload_n hC dX11_thrown_0 0 rfl rfl ?_
  refine u_gi hC lf_X11_70 rfl hTa0 dX11_thrown_1 hf (fun x1 hf => ?_)
  cases hf
  exact hR _ _ dX11_thrown_4 trivial
theorem ctX11_thrown (l : Launch) (hl : l.stackTraces = false) (G : GT) (ρ : Nat → Nat) (Y : XS) (n : Nat) (S : PS) (a0 : Nat) (hTa0 : Ty Y a0 11) {o : Int32} (hf : fX11_thrown Y n S a0 = some o) : Mt l G yX11_thrown cX11_thrown 1 (some .int) 1 ρ Y [.ref (ρ a0)] S (some (.int o)) S :=
  Mt_of hl (by decide) (Nat.le_of_ble_eq_true rfl) (fun C _ _ hC hR => wX11_thrown (X := (ρ, Y, 0, 0)) hC n S a0 hTa0 hf hR)
-- X11_fail
theorem dX11_fail_0 : decode cX11_fail 0 = .ok (.aload_n 0, 1) := by decide +kernel
theorem dX11_fail_1 : decode cX11_fail 1 = .ok (.iload_n 1, 1) := by decide +kernel
theorem dX11_fail_2 : decode cX11_fail 2 = .ok (.putfield 70, 3) := by decide +kernel
theorem dX11_fail_5 : decode cX11_fail 5 = .ok (.iconst 0, 1) := by decide +kernel
theorem dX11_fail_6 : decode cX11_fail 6 = .ok (.ireturn, 1) := by decide +kernel
def fX11_fail (Y : XS) (n : Nat) (S : PS) (a0 : Nat) (x1_ : Int32) : Option (Int32 × PS) :=
  kpi S a0 7 x1_ (fun S2 => some ((0 : Int32), S2))
theorem wX11_fail {C : CT} {X : XT} (hC : CK C RX11 cX11_fail 2 (some .int) 1) (n : Nat) (S : PS) (a0 : Nat) (x1_ : Int32) (hTa0 : Ty X.2.1 a0 11) {o : Int32 × PS} (hf : fX11_fail X.2.1 n S a0 x1_ = some o) (hR : Rt C X cX11_fail (some .int) (some (.int o.1)) o.2) : UW C X S 0 [(0, .ref (X.1 a0)), (1, .int x1_)] [] := by
  unfold fX11_fail at hf
  refine u_aload_n hC dX11_fail_0 0 rfl rfl ?_
  refine u_iload_n hC dX11_fail_1 1 rfl rfl ?_
  refine u_pi hC lf_X11_70 rfl rfl rfl hTa0 dX11_fail_2 hf (fun S2 hf => ?_)
  refine u_iconst (v := (0 : Int32)) hC dX11_fail_5 (by decide) ?_
  cases hf
  exact hR _ _ dX11_fail_6 trivial
theorem ctX11_fail (l : Launch) (hl : l.stackTraces = false) (G : GT) (ρ : Nat → Nat) (Y : XS) (n : Nat) (S : PS) (a0 : Nat) (x1_ : Int32) (hTa0 : Ty Y a0 11) {o : Int32 × PS} (hf : fX11_fail Y n S a0 x1_ = some o) : Mt l G yX11_fail cX11_fail 2 (some .int) 1 ρ Y [.ref (ρ a0), .int x1_] S (some (.int o.1)) o.2 :=
  Mt_of hl (by decide) (Nat.le_of_ble_eq_true rfl) (fun C _ _ hC hR => wX11_fail (X := (ρ, Y, 0, 0)) hC n S a0 x1_ hTa0 hf hR)
-- X11_isIn
theorem dX11_isIn_0 : decode cX11_isIn 0 = .ok (.iload_n 0, 1) := by decide +kernel
theorem dX11_isIn_1 : decode cX11_isIn 1 = .ok (.iload_n 1, 1) := by decide +kernel
theorem dX11_isIn_2 : decode cX11_isIn 2 = .ok (.if_icmp .lt 12, 3) := by decide +kernel
theorem dX11_isIn_5 : decode cX11_isIn 5 = .ok (.iload_n 0, 1) := by decide +kernel
theorem dX11_isIn_6 : decode cX11_isIn 6 = .ok (.iload_n 2, 1) := by decide +kernel
theorem dX11_isIn_7 : decode cX11_isIn 7 = .ok (.if_icmp .gt 7, 3) := by decide +kernel
theorem dX11_isIn_10 : decode cX11_isIn 10 = .ok (.iconst 1, 1) := by decide +kernel
theorem dX11_isIn_11 : decode cX11_isIn 11 = .ok (.goto 4, 3) := by decide +kernel
theorem dX11_isIn_14 : decode cX11_isIn 14 = .ok (.iconst 0, 1) := by decide +kernel
theorem dX11_isIn_15 : decode cX11_isIn 15 = .ok (.ireturn, 1) := by decide +kernel
def jX11_isIn_15 (Y : XS) (n : Nat) (S : PS) (t0 : Int32) : Option (Int32) :=
  kzr t0 (some t0)
def jX11_isIn_14 (Y : XS) (n : Nat) (S : PS)  : Option (Int32) :=
  jX11_isIn_15 Y n S (0 : Int32)
def fX11_isIn (Y : XS) (n : Nat) (S : PS) (x0_ : Int32) (x1_ : Int32) (x2_ : Int32) : Option (Int32) :=
  (if x0_ < x1_ then jX11_isIn_14 Y n S  else (if x2_ < x0_ then jX11_isIn_14 Y n S  else jX11_isIn_15 Y n S (1 : Int32)))
theorem wjX11_isIn_15 {C : CT} {X : XT} (hC : CK C RX11 cX11_isIn 3 (some .boolean) 1) (n : Nat) (S : PS) (t0 : Int32)   {o : Int32} (hf : jX11_isIn_15 X.2.1 n S t0 = some o) (hR : Rt C X cX11_isIn (some .boolean) (some (.int o)) S) : UW C X S 15 [] [.int t0] := by
  unfold jX11_isIn_15 at hf
  obtain ⟨hz, hf⟩ := kzr_some hf
  cases hf
  exact hR _ _ dX11_isIn_15 hz
theorem wjX11_isIn_14 {C : CT} {X : XT} (hC : CK C RX11 cX11_isIn 3 (some .boolean) 1) (n : Nat) (S : PS)    {o : Int32} (hf : jX11_isIn_14 X.2.1 n S  = some o) (hR : Rt C X cX11_isIn (some .boolean) (some (.int o)) S) : UW C X S 14 [] [] := by
  unfold jX11_isIn_14 at hf
  refine u_iconst (v := (0 : Int32)) hC dX11_isIn_14 (by decide) ?_
  exact wjX11_isIn_15 hC n S (0 : Int32)   hf hR
theorem wX11_isIn {C : CT} {X : XT} (hC : CK C RX11 cX11_isIn 3 (some .boolean) 1) (n : Nat) (S : PS) (x0_ : Int32) (x1_ : Int32) (x2_ : Int32)  {o : Int32} (hf : fX11_isIn X.2.1 n S x0_ x1_ x2_ = some o) (hR : Rt C X cX11_isIn (some .boolean) (some (.int o)) S) : UW C X S 0 [(0, .int x0_), (1, .int x1_), (2, .int x2_)] [] := by
  unfold fX11_isIn at hf
  refine u_iload_n hC dX11_isIn_0 0 rfl rfl ?_
  refine u_iload_n hC dX11_isIn_1 1 rfl rfl ?_
  refine u_icmp_lt (tgt := 14) hC dX11_isIn_2 (by decide) hf (fun h2 hf => ?_) (fun h2 hf => ?_)
  · refine u_sub (lv' := []) [] rfl ?_
    exact wjX11_isIn_14 hC n S    hf hR
  · refine u_iload_n hC dX11_isIn_5 0 rfl rfl ?_
    refine u_iload_n hC dX11_isIn_6 2 rfl rfl ?_
    refine u_icmp_gt (tgt := 14) hC dX11_isIn_7 (by decide) hf (fun h7 hf => ?_) (fun h7 hf => ?_)
    · refine u_sub (lv' := []) [] rfl ?_
      exact wjX11_isIn_14 hC n S    hf hR
    · refine u_iconst (v := (1 : Int32)) hC dX11_isIn_10 (by decide) ?_
      refine u_goto (tgt := 15) hC dX11_isIn_11 (by decide) ?_
      refine u_sub (lv' := []) [] rfl ?_
      exact wjX11_isIn_15 hC n S (1 : Int32)   hf hR
theorem ctX11_isIn (l : Launch) (hl : l.stackTraces = false) (G : GT) (ρ : Nat → Nat) (Y : XS) (n : Nat) (S : PS) (x0_ : Int32) (x1_ : Int32) (x2_ : Int32)  {o : Int32} (hf : fX11_isIn Y n S x0_ x1_ x2_ = some o) : Mt l G yX11_isIn cX11_isIn 3 (some .boolean) 1 ρ Y [.int x0_, .int x1_, .int x2_] S (some (.int o)) S :=
  Mt_of hl (by decide) (Nat.le_of_ble_eq_true rfl) (fun C _ _ hC hR => wX11_isIn (X := (ρ, Y, 0, 0)) hC n S x0_ x1_ x2_  hf hR)
-- X11_copy
theorem dX11_copy_0 : decode cX11_copy 0 = .ok (.iconst 0, 1) := by decide +kernel
theorem dX11_copy_1 : decode cX11_copy 1 = .ok (.istore_n 2, 1) := by decide +kernel
theorem dX11_copy_2 : decode cX11_copy 2 = .ok (.iload_n 2, 1) := by decide +kernel
theorem dX11_copy_3 : decode cX11_copy 3 = .ok (.sipush 877, 3) := by decide +kernel
theorem dX11_copy_6 : decode cX11_copy 6 = .ok (.if_icmp .ge 15, 3) := by decide +kernel
theorem dX11_copy_9 : decode cX11_copy 9 = .ok (.aload_n 0, 1) := by decide +kernel
theorem dX11_copy_10 : decode cX11_copy 10 = .ok (.iload_n 2, 1) := by decide +kernel
theorem dX11_copy_11 : decode cX11_copy 11 = .ok (.aload_n 1, 1) := by decide +kernel
theorem dX11_copy_12 : decode cX11_copy 12 = .ok (.iload_n 2, 1) := by decide +kernel
theorem dX11_copy_13 : decode cX11_copy 13 = .ok (.iaload, 1) := by decide +kernel
theorem dX11_copy_14 : decode cX11_copy 14 = .ok (.iastore, 1) := by decide +kernel
theorem dX11_copy_15 : decode cX11_copy 15 = .ok (.iinc 2 1, 3) := by decide +kernel
theorem dX11_copy_18 : decode cX11_copy 18 = .ok (.goto (-16), 3) := by decide +kernel
theorem dX11_copy_21 : decode cX11_copy 21 = .ok (.return_, 1) := by decide +kernel
def bX11_copy_2 (Y : XS) (n : Nat) (v0 : Nat) (v1 : Nat) (s2 : (Int32 × PS)) : Option ((Int32 × PS) ⊕ PS) :=
  (if (877 : Int32) ≤ s2.1 then some (.inr s2.2) else kai Y s2.2 v1 s2.1 (fun x13 => kwi Y s2.2 v0 s2.1 x13 (fun S14 => some (.inl (s2.1 + (1 : Int32), S14)))))
def fX11_copy (Y : XS) (n : Nat) (S : PS) (a0 : Nat) (a1 : Nat) : Option (PS) :=
  kc (iter (bX11_copy_2 Y n a0 a1) n ((0 : Int32), S)) (fun r2 => some r2)
theorem wbX11_copy_2 {C : CT} {X : XT} (hC : CK C RX11 cX11_copy 3 none 1) (n : Nat) (v0 : Nat) (v1 : Nat) (hTv0 : Ty X.2.1 v0 12) (hTv1 : Ty X.2.1 v1 12) (s2 : (Int32 × PS)) {o : (Int32 × PS) ⊕ PS} (hf : bX11_copy_2 X.2.1 n v0 v1 s2 = some o) (hN : ∀ s', o = .inl s' → UW C X s'.2 2 [(0, .ref (X.1 v0)), (1, .ref (X.1 v1)), (2, .int s'.1)] []) (hO0 : ∀ p', o = .inr p' → UW C X p' 21 [] []) : UW C X s2.2 2 [(0, .ref (X.1 v0)), (1, .ref (X.1 v1)), (2, .int s2.1)] [] := by
  unfold bX11_copy_2 at hf
  refine u_iload_n hC dX11_copy_2 2 rfl rfl ?_
  refine u_sipush (v := (877 : Int32)) hC dX11_copy_3 (by decide) ?_
  refine u_icmp_ge (tgt := 21) hC dX11_copy_6 (by decide) hf (fun h6 hf => ?_) (fun h6 hf => ?_)
  · refine u_sub (lv' := []) [] rfl ?_
    exact hO0 _ (Option.some.inj hf).symm
  · refine u_aload_n hC dX11_copy_9 0 rfl rfl ?_
    refine u_iload_n hC dX11_copy_10 2 rfl rfl ?_
    refine u_aload_n hC dX11_copy_11 1 rfl rfl ?_
    refine u_iload_n hC dX11_copy_12 2 rfl rfl ?_
    refine u_ai hC hTv1 dX11_copy_13 hf (fun x13 hf => ?_)
    refine u_wi hC hTv0 dX11_copy_14 hf (fun S14 hf => ?_)
    refine u_iinc (v := s2.1 + (1 : Int32)) (lv' := [(2, .int (s2.1 + (1 : Int32))), (0, .ref (X.1 v0)), (1, .ref (X.1 v1))]) hC dX11_copy_15 2 rfl rfl (by decide) rfl ?_
    refine u_goto (tgt := 2) hC dX11_copy_18 (by decide) ?_
    refine u_sub (lv' := [(0, .ref (X.1 v0)), (1, .ref (X.1 v1)), (2, .int (s2.1 + (1 : Int32)))]) [1, 2, 0] rfl ?_
    exact hN _ (Option.some.inj hf).symm
theorem wX11_copy {C : CT} {X : XT} (hC : CK C RX11 cX11_copy 3 none 1) (n : Nat) (S : PS) (a0 : Nat) (a1 : Nat) (hTa0 : Ty X.2.1 a0 12) (hTa1 : Ty X.2.1 a1 12) {o : PS} (hf : fX11_copy X.2.1 n S a0 a1 = some o) (hR : Rt C X cX11_copy none none o) : UW C X S 0 [(0, .ref (X.1 a0)), (1, .ref (X.1 a1))] [] := by
  unfold fX11_copy at hf
  refine u_iconst (v := (0 : Int32)) hC dX11_copy_0 (by decide) ?_
  refine u_istore_n (lv' := [(2, .int (0 : Int32)), (0, .ref (X.1 a0)), (1, .ref (X.1 a1))]) hC dX11_copy_1 rfl (by decide) rfl ?_
  obtain ⟨r2, hr2, hf⟩ := kc_some hf
  have hk2 : UW C X r2 21 [] [] := by
    cases hf
    exact hR _ _ dX11_copy_21 trivial
  refine u_sub (lv' := [(0, .ref (X.1 a0)), (1, .ref (X.1 a1)), (2, .int (0 : Int32))]) [1, 2, 0] rfl ?_
  refine iter_ind (P := fun s2 => UW C X s2.2 2 [(0, .ref (X.1 a0)), (1, .ref (X.1 a1)), (2, .int s2.1)] []) (fun s2 o' hb hin hout => ?_) n ((0 : Int32), S) hr2
  exact wbX11_copy_2 hC n a0 a1 hTa0 hTa1 s2 hb hin (fun p e => by rw [hout p e]; exact hk2)
theorem ctX11_copy (l : Launch) (hl : l.stackTraces = false) (G : GT) (ρ : Nat → Nat) (Y : XS) (n : Nat) (S : PS) (a0 : Nat) (a1 : Nat) (hTa0 : Ty Y a0 12) (hTa1 : Ty Y a1 12) {o : PS} (hf : fX11_copy Y n S a0 a1 = some o) : Mt l G yX11_copy cX11_copy 3 none 1 ρ Y [.ref (ρ a0), .ref (ρ a1)] S none o :=
  Mt_of hl (by decide) (Nat.le_of_ble_eq_true rfl) (fun C _ _ hC hR => wX11_copy (X := (ρ, Y, 0, 0)) hC n S a0 a1 hTa0 hTa1 hf hR)
-- X11_many
theorem dX11_many_0 : decode cX11_many 0 = .ok (.aload_n 0, 1) := by decide +kernel
theorem dX11_many_1 : decode cX11_many 1 = .ok (.getfield 9, 3) := by decide +kernel
theorem dX11_many_4 : decode cX11_many 4 = .ok (.iconst 1, 1) := by decide +kernel
theorem dX11_many_5 : decode cX11_many 5 = .ok (.iaload, 1) := by decide +kernel
theorem dX11_many_6 : decode cX11_many 6 = .ok (.ireturn, 1) := by decide +kernel
def fX11_many (Y : XS) (n : Nat) (S : PS) (a0 : Nat) : Option (Int32) :=
  kgr S a0 0 (fun b1 => kai Y S b1 (1 : Int32) (fun x5 => some x5))
theorem wX11_many {C : CT} {X : XT} (hC : CK C RX11 cX11_many 1 (some .int) 1) (n : Nat) (S : PS) (a0 : Nat) (hTa0 : Ty X.2.1 a0 11) {o : Int32} (hf : fX11_many X.2.1 n S a0 = some o) (hR : Rt C X cX11_many (some .int) (some (.int o)) S) : UW C X S 0 [(0, .ref (X.1 a0))] [] := by
  unfold fX11_many at hf
  refine u_aload_n hC dX11_many_0 0 rfl rfl ?_
  refine u_gr hC lf_X11_9 rfl hTa0 dX11_many_1 hf (fun b1 hTb1 hf => ?_)
  refine u_iconst (v := (1 : Int32)) hC dX11_many_4 (by decide) ?_
  refine u_ai hC hTb1 dX11_many_5 hf (fun x5 hf => ?_)
  cases hf
  exact hR _ _ dX11_many_6 trivial
theorem ctX11_many (l : Launch) (hl : l.stackTraces = false) (G : GT) (ρ : Nat → Nat) (Y : XS) (n : Nat) (S : PS) (a0 : Nat) (hTa0 : Ty Y a0 11) {o : Int32} (hf : fX11_many Y n S a0 = some o) : Mt l G yX11_many cX11_many 1 (some .int) 1 ρ Y [.ref (ρ a0)] S (some (.int o)) S :=
  Mt_of hl (by decide) (Nat.le_of_ble_eq_true rfl) (fun C _ _ hC hR => wX11_many (X := (ρ, Y, 0, 0)) hC n S a0 hTa0 hf hR)
-- X11_people
theorem dX11_people_0 : decode cX11_people 0 = .ok (.aload_n 0, 1) := by decide +kernel
theorem dX11_people_1 : decode cX11_people 1 = .ok (.getfield 9, 3) := by decide +kernel
theorem dX11_people_4 : decode cX11_people 4 = .ok (.iconst 2, 1) := by decide +kernel
theorem dX11_people_5 : decode cX11_people 5 = .ok (.iaload, 1) := by decide +kernel
theorem dX11_people_6 : decode cX11_people 6 = .ok (.ireturn, 1) := by decide +kernel
def fX11_people (Y : XS) (n : Nat) (S : PS) (a0 : Nat) : Option (Int32) :=
  kgr S a0 0 (fun b1 => kai Y S b1 (2 : Int32) (fun x5 => some x5))
theorem wX11_people {C : CT} {X : XT} (hC : CK C RX11 cX11_people 1 (some .int) 1) (n : Nat) (S : PS) (a0 : Nat) (hTa0 : Ty X.2.1 a0 11) {o : Int32} (hf : fX11_people X.2.1 n S a0 = some o) (hR : Rt C X cX11_people (some .int) (some (.int o)) S) : UW C X S 0 [(0, .ref (X.1 a0))] [] := by
  unfold fX11_people at hf
  refine u_aload_n hC dX11_people_0 0 rfl rfl ?_
  refine u_gr hC lf_X11_9 rfl hTa0 dX11_people_1 hf (fun b1 hTb1 hf => ?_)
  refine u_iconst (v := (2 : Int32)) hC dX11_people_4 (by decide) ?_
  refine u_ai hC hTb1 dX11_people_5 hf (fun x5 hf => ?_)
  cases hf
  exact hR _ _ dX11_people_6 trivial
theorem ctX11_people (l : Launch) (hl : l.stackTraces = false) (G : GT) (ρ : Nat → Nat) (Y : XS) (n : Nat) (S : PS) (a0 : Nat) (hTa0 : Ty Y a0 11) {o : Int32} (hf : fX11_people Y n S a0 = some o) : Mt l G yX11_people cX11_people 1 (some .int) 1 ρ Y [.ref (ρ a0)] S (some (.int o)) S :=
  Mt_of hl (by decide) (Nat.le_of_ble_eq_true rfl) (fun C _ _ hC hR => wX11_people (X := (ρ, Y, 0, 0)) hC n S a0 hTa0 hf hR)
-- X11_costOf
theorem dX11_costOf_0 : decode cX11_costOf 0 = .ok (.aload_n 0, 1) := by decide +kernel
theorem dX11_costOf_1 : decode cX11_costOf 1 = .ok (.getfield 9, 3) := by decide +kernel
theorem dX11_costOf_4 : decode cX11_costOf 4 = .ok (.iconst 3, 1) := by decide +kernel
theorem dX11_costOf_5 : decode cX11_costOf 5 = .ok (.iload_n 1, 1) := by decide +kernel
theorem dX11_costOf_6 : decode cX11_costOf 6 = .ok (.iadd, 1) := by decide +kernel
theorem dX11_costOf_7 : decode cX11_costOf 7 = .ok (.iaload, 1) := by decide +kernel
theorem dX11_costOf_8 : decode cX11_costOf 8 = .ok (.ireturn, 1) := by decide +kernel
def fX11_costOf (Y : XS) (n : Nat) (S : PS) (a0 : Nat) (x1_ : Int32) : Option (Int32) :=
  kgr S a0 0 (fun b1 => kai Y S b1 ((3 : Int32) + x1_) (fun x7 => some x7))
theorem wX11_costOf {C : CT} {X : XT} (hC : CK C RX11 cX11_costOf 2 (some .int) 1) (n : Nat) (S : PS) (a0 : Nat) (x1_ : Int32) (hTa0 : Ty X.2.1 a0 11) {o : Int32} (hf : fX11_costOf X.2.1 n S a0 x1_ = some o) (hR : Rt C X cX11_costOf (some .int) (some (.int o)) S) : UW C X S 0 [(0, .ref (X.1 a0)), (1, .int x1_)] [] := by
  unfold fX11_costOf at hf
  refine u_aload_n hC dX11_costOf_0 0 rfl rfl ?_
  refine u_gr hC lf_X11_9 rfl hTa0 dX11_costOf_1 hf (fun b1 hTb1 hf => ?_)
  refine u_iconst (v := (3 : Int32)) hC dX11_costOf_4 (by decide) ?_
  refine u_iload_n hC dX11_costOf_5 1 rfl rfl ?_
  refine u_iadd hC dX11_costOf_6 ?_
  refine u_ai hC hTb1 dX11_costOf_7 hf (fun x7 hf => ?_)
  cases hf
  exact hR _ _ dX11_costOf_8 trivial
theorem ctX11_costOf (l : Launch) (hl : l.stackTraces = false) (G : GT) (ρ : Nat → Nat) (Y : XS) (n : Nat) (S : PS) (a0 : Nat) (x1_ : Int32) (hTa0 : Ty Y a0 11) {o : Int32} (hf : fX11_costOf Y n S a0 x1_ = some o) : Mt l G yX11_costOf cX11_costOf 2 (some .int) 1 ρ Y [.ref (ρ a0), .int x1_] S (some (.int o)) S :=
  Mt_of hl (by decide) (Nat.le_of_ble_eq_true rfl) (fun C _ _ hC hR => wX11_costOf (X := (ρ, Y, 0, 0)) hC n S a0 x1_ hTa0 hf hR)
-- X11_scoreAt
theorem dX11_scoreAt_0 : decode cX11_scoreAt 0 = .ok (.bipush 87, 2) := by decide +kernel
theorem dX11_scoreAt_2 : decode cX11_scoreAt 2 = .ok (.bipush 12, 2) := by decide +kernel
theorem dX11_scoreAt_4 : decode cX11_scoreAt 4 = .ok (.iload_n 0, 1) := by decide +kernel
theorem dX11_scoreAt_5 : decode cX11_scoreAt 5 = .ok (.imul, 1) := by decide +kernel
theorem dX11_scoreAt_6 : decode cX11_scoreAt 6 = .ok (.iadd, 1) := by decide +kernel
theorem dX11_scoreAt_7 : decode cX11_scoreAt 7 = .ok (.iload_n 1, 1) := by decide +kernel
theorem dX11_scoreAt_8 : decode cX11_scoreAt 8 = .ok (.iadd, 1) := by decide +kernel
theorem dX11_scoreAt_9 : decode cX11_scoreAt 9 = .ok (.ireturn, 1) := by decide +kernel
def fX11_scoreAt (Y : XS) (n : Nat) (S : PS) (x0_ : Int32) (x1_ : Int32) : Option (Int32) :=
  some (((87 : Int32) + ((12 : Int32) * x0_)) + x1_)
theorem wX11_scoreAt {C : CT} {X : XT} (hC : CK C RX11 cX11_scoreAt 2 (some .int) 1) (n : Nat) (S : PS) (x0_ : Int32) (x1_ : Int32)  {o : Int32} (hf : fX11_scoreAt X.2.1 n S x0_ x1_ = some o) (hR : Rt C X cX11_scoreAt (some .int) (some (.int o)) S) : UW C X S 0 [(0, .int x0_), (1, .int x1_)] [] := by
  unfold fX11_scoreAt at hf
  refine u_bipush (v := (87 : Int32)) hC dX11_scoreAt_0 (by decide) ?_
  refine u_bipush (v := (12 : Int32)) hC dX11_scoreAt_2 (by decide) ?_
  refine u_iload_n hC dX11_scoreAt_4 0 rfl rfl ?_
  refine u_imul hC dX11_scoreAt_5 ?_
  refine u_iadd hC dX11_scoreAt_6 ?_
  refine u_iload_n hC dX11_scoreAt_7 1 rfl rfl ?_
  refine u_iadd hC dX11_scoreAt_8 ?_
  cases hf
  exact hR _ _ dX11_scoreAt_9 trivial
theorem ctX11_scoreAt (l : Launch) (hl : l.stackTraces = false) (G : GT) (ρ : Nat → Nat) (Y : XS) (n : Nat) (S : PS) (x0_ : Int32) (x1_ : Int32)  {o : Int32} (hf : fX11_scoreAt Y n S x0_ x1_ = some o) : Mt l G yX11_scoreAt cX11_scoreAt 2 (some .int) 1 ρ Y [.int x0_, .int x1_] S (some (.int o)) S :=
  Mt_of hl (by decide) (Nat.le_of_ble_eq_true rfl) (fun C _ _ hC hR => wX11_scoreAt (X := (ρ, Y, 0, 0)) hC n S x0_ x1_  hf hR)
-- X11_scoreOf
theorem dX11_scoreOf_0 : decode cX11_scoreOf 0 = .ok (.aload_n 0, 1) := by decide +kernel
theorem dX11_scoreOf_1 : decode cX11_scoreOf 1 = .ok (.getfield 9, 3) := by decide +kernel
theorem dX11_scoreOf_4 : decode cX11_scoreOf 4 = .ok (.iload_n 1, 1) := by decide +kernel
theorem dX11_scoreOf_5 : decode cX11_scoreOf 5 = .ok (.iload_n 2, 1) := by decide +kernel
theorem dX11_scoreOf_6 : decode cX11_scoreOf 6 = .ok (.invokestatic 73, 3) := by decide +kernel
theorem dX11_scoreOf_9 : decode cX11_scoreOf 9 = .ok (.iaload, 1) := by decide +kernel
theorem dX11_scoreOf_10 : decode cX11_scoreOf 10 = .ok (.ireturn, 1) := by decide +kernel
def fX11_scoreOf (Y : XS) (n : Nat) (S : PS) (a0 : Nat) (x1_ : Int32) (x2_ : Int32) : Option (Int32) :=
  kgr S a0 0 (fun b1 => kc (fX11_scoreAt Y n S x1_ x2_) (fun q6 => kai Y S b1 q6 (fun x9 => some x9)))
theorem wX11_scoreOf {C : CT} {X : XT} (hC : CK C RX11 cX11_scoreOf 3 (some .int) 2) (n : Nat) (S : PS) (a0 : Nat) (x1_ : Int32) (x2_ : Int32) (hTa0 : Ty X.2.1 a0 11) {o : Int32} (hf : fX11_scoreOf X.2.1 n S a0 x1_ x2_ = some o) (hR : Rt C X cX11_scoreOf (some .int) (some (.int o)) S) : UW C X S 0 [(0, .ref (X.1 a0)), (1, .int x1_), (2, .int x2_)] [] := by
  unfold fX11_scoreOf at hf
  refine u_aload_n hC dX11_scoreOf_0 0 rfl rfl ?_
  refine u_gr hC lf_X11_9 rfl hTa0 dX11_scoreOf_1 hf (fun b1 hTb1 hf => ?_)
  refine u_iload_n hC dX11_scoreOf_4 1 rfl rfl ?_
  refine u_iload_n hC dX11_scoreOf_5 2 rfl rfl ?_
  obtain ⟨q6, hq6, hf⟩ := kc_some hf
  refine u_callS hC (ctX11_scoreAt (cL C) hC.tr (cG C) X.1 X.2.1 n S x1_ x2_  hq6) lk_X11_73 (by decide) (by decide) rfl rfl (Nat.le_of_ble_eq_true rfl) dX11_scoreOf_6 ?_
  refine u_ai hC hTb1 dX11_scoreOf_9 hf (fun x9 hf => ?_)
  cases hf
  exact hR _ _ dX11_scoreOf_10 trivial
theorem ctX11_scoreOf (l : Launch) (hl : l.stackTraces = false) (G : GT) (ρ : Nat → Nat) (Y : XS) (n : Nat) (S : PS) (a0 : Nat) (x1_ : Int32) (x2_ : Int32) (hTa0 : Ty Y a0 11) {o : Int32} (hf : fX11_scoreOf Y n S a0 x1_ x2_ = some o) : Mt l G yX11_scoreOf cX11_scoreOf 3 (some .int) 2 ρ Y [.ref (ρ a0), .int x1_, .int x2_] S (some (.int o)) S :=
  Mt_of hl (by decide) (Nat.le_of_ble_eq_true rfl) (fun C _ _ hC hR => wX11_scoreOf (X := (ρ, Y, 0, 0)) hC n S a0 x1_ x2_ hTa0 hf hR)
-- X11_isProject
theorem dX11_isProject_0 : decode cX11_isProject 0 = .ok (.iload_n 1, 1) := by decide +kernel
theorem dX11_isProject_1 : decode cX11_isProject 1 = .ok (.iconst 0, 1) := by decide +kernel
theorem dX11_isProject_2 : decode cX11_isProject 2 = .ok (.aload_n 0, 1) := by decide +kernel
theorem dX11_isProject_3 : decode cX11_isProject 3 = .ok (.invokevirtual 77, 3) := by decide +kernel
theorem dX11_isProject_6 : decode cX11_isProject 6 = .ok (.iconst 1, 1) := by decide +kernel
theorem dX11_isProject_7 : decode cX11_isProject 7 = .ok (.isub, 1) := by decide +kernel
theorem dX11_isProject_8 : decode cX11_isProject 8 = .ok (.invokestatic 81, 3) := by decide +kernel
theorem dX11_isProject_11 : decode cX11_isProject 11 = .ok (.ireturn, 1) := by decide +kernel
def fX11_isProject (Y : XS) (n : Nat) (S : PS) (a0 : Nat) (x1_ : Int32) : Option (Int32) :=
  kc (fX11_many Y n S a0) (fun q3 => kc (fX11_isIn Y n S x1_ (0 : Int32) (q3 - (1 : Int32))) (fun q8 => kzr q8 (some q8)))
theorem wX11_isProject {C : CT} {X : XT} (hC : CK C RX11 cX11_isProject 2 (some .boolean) 2) (n : Nat) (S : PS) (a0 : Nat) (x1_ : Int32) (hTa0 : Ty X.2.1 a0 11) {o : Int32} (hf : fX11_isProject X.2.1 n S a0 x1_ = some o) (hR : Rt C X cX11_isProject (some .boolean) (some (.int o)) S) : UW C X S 0 [(0, .ref (X.1 a0)), (1, .int x1_)] [] := by
  unfold fX11_isProject at hf
  refine u_iload_n hC dX11_isProject_0 1 rfl rfl ?_
  refine u_iconst (v := (0 : Int32)) hC dX11_isProject_1 (by decide) ?_
  refine u_aload_n hC dX11_isProject_2 0 rfl rfl ?_
  obtain ⟨q3, hq3, hf⟩ := kc_some hf
  refine u_callV hC (ctX11_many (cL C) hC.tr (cG C) X.1 X.2.1 n S a0 hTa0 hq3) lk_X11_77 rfl hTa0 (by decide) rfl (by decide) (by decide) rfl rfl (Nat.le_of_ble_eq_true rfl) dX11_isProject_3 ?_
  refine u_iconst (v := (1 : Int32)) hC dX11_isProject_6 (by decide) ?_
  refine u_isub hC dX11_isProject_7 ?_
  obtain ⟨q8, hq8, hf⟩ := kc_some hf
  refine u_callS hC (ctX11_isIn (cL C) hC.tr (cG C) X.1 X.2.1 n S x1_ (0 : Int32) (q3 - (1 : Int32))  hq8) lk_X11_81 (by decide) (by decide) rfl rfl (Nat.le_of_ble_eq_true rfl) dX11_isProject_8 ?_
  obtain ⟨hz, hf⟩ := kzr_some hf
  cases hf
  exact hR _ _ dX11_isProject_11 hz
theorem ctX11_isProject (l : Launch) (hl : l.stackTraces = false) (G : GT) (ρ : Nat → Nat) (Y : XS) (n : Nat) (S : PS) (a0 : Nat) (x1_ : Int32) (hTa0 : Ty Y a0 11) {o : Int32} (hf : fX11_isProject Y n S a0 x1_ = some o) : Mt l G yX11_isProject cX11_isProject 2 (some .boolean) 2 ρ Y [.ref (ρ a0), .int x1_] S (some (.int o)) S :=
  Mt_of hl (by decide) (Nat.le_of_ble_eq_true rfl) (fun C _ _ hC hR => wX11_isProject (X := (ρ, Y, 0, 0)) hC n S a0 x1_ hTa0 hf hR)
-- X11_isVoter
theorem dX11_isVoter_0 : decode cX11_isVoter 0 = .ok (.iload_n 1, 1) := by decide +kernel
theorem dX11_isVoter_1 : decode cX11_isVoter 1 = .ok (.iconst 0, 1) := by decide +kernel
theorem dX11_isVoter_2 : decode cX11_isVoter 2 = .ok (.aload_n 0, 1) := by decide +kernel
theorem dX11_isVoter_3 : decode cX11_isVoter 3 = .ok (.invokevirtual 85, 3) := by decide +kernel
theorem dX11_isVoter_6 : decode cX11_isVoter 6 = .ok (.iconst 1, 1) := by decide +kernel
theorem dX11_isVoter_7 : decode cX11_isVoter 7 = .ok (.isub, 1) := by decide +kernel
theorem dX11_isVoter_8 : decode cX11_isVoter 8 = .ok (.invokestatic 81, 3) := by decide +kernel
theorem dX11_isVoter_11 : decode cX11_isVoter 11 = .ok (.ireturn, 1) := by decide +kernel
def fX11_isVoter (Y : XS) (n : Nat) (S : PS) (a0 : Nat) (x1_ : Int32) : Option (Int32) :=
  kc (fX11_people Y n S a0) (fun q3 => kc (fX11_isIn Y n S x1_ (0 : Int32) (q3 - (1 : Int32))) (fun q8 => kzr q8 (some q8)))
theorem wX11_isVoter {C : CT} {X : XT} (hC : CK C RX11 cX11_isVoter 2 (some .boolean) 2) (n : Nat) (S : PS) (a0 : Nat) (x1_ : Int32) (hTa0 : Ty X.2.1 a0 11) {o : Int32} (hf : fX11_isVoter X.2.1 n S a0 x1_ = some o) (hR : Rt C X cX11_isVoter (some .boolean) (some (.int o)) S) : UW C X S 0 [(0, .ref (X.1 a0)), (1, .int x1_)] [] := by
  unfold fX11_isVoter at hf
  refine u_iload_n hC dX11_isVoter_0 1 rfl rfl ?_
  refine u_iconst (v := (0 : Int32)) hC dX11_isVoter_1 (by decide) ?_
  refine u_aload_n hC dX11_isVoter_2 0 rfl rfl ?_
  obtain ⟨q3, hq3, hf⟩ := kc_some hf
  refine u_callV hC (ctX11_people (cL C) hC.tr (cG C) X.1 X.2.1 n S a0 hTa0 hq3) lk_X11_85 rfl hTa0 (by decide) rfl (by decide) (by decide) rfl rfl (Nat.le_of_ble_eq_true rfl) dX11_isVoter_3 ?_
  refine u_iconst (v := (1 : Int32)) hC dX11_isVoter_6 (by decide) ?_
  refine u_isub hC dX11_isVoter_7 ?_
  obtain ⟨q8, hq8, hf⟩ := kc_some hf
  refine u_callS hC (ctX11_isIn (cL C) hC.tr (cG C) X.1 X.2.1 n S x1_ (0 : Int32) (q3 - (1 : Int32))  hq8) lk_X11_81 (by decide) (by decide) rfl rfl (Nat.le_of_ble_eq_true rfl) dX11_isVoter_8 ?_
  obtain ⟨hz, hf⟩ := kzr_some hf
  cases hf
  exact hR _ _ dX11_isVoter_11 hz
theorem ctX11_isVoter (l : Launch) (hl : l.stackTraces = false) (G : GT) (ρ : Nat → Nat) (Y : XS) (n : Nat) (S : PS) (a0 : Nat) (x1_ : Int32) (hTa0 : Ty Y a0 11) {o : Int32} (hf : fX11_isVoter Y n S a0 x1_ = some o) : Mt l G yX11_isVoter cX11_isVoter 2 (some .boolean) 2 ρ Y [.ref (ρ a0), .int x1_] S (some (.int o)) S :=
  Mt_of hl (by decide) (Nat.le_of_ble_eq_true rfl) (fun C _ _ hC hR => wX11_isVoter (X := (ρ, Y, 0, 0)) hC n S a0 x1_ hTa0 hf hR)
-- X11_isRule
theorem dX11_isRule_0 : decode cX11_isRule 0 = .ok (.iload_n 0, 1) := by decide +kernel
theorem dX11_isRule_1 : decode cX11_isRule 1 = .ok (.iconst 0, 1) := by decide +kernel
theorem dX11_isRule_2 : decode cX11_isRule 2 = .ok (.bipush 8, 2) := by decide +kernel
theorem dX11_isRule_4 : decode cX11_isRule 4 = .ok (.invokestatic 81, 3) := by decide +kernel
theorem dX11_isRule_7 : decode cX11_isRule 7 = .ok (.ireturn, 1) := by decide +kernel
def fX11_isRule (Y : XS) (n : Nat) (S : PS) (x0_ : Int32) : Option (Int32) :=
  kc (fX11_isIn Y n S x0_ (0 : Int32) (8 : Int32)) (fun q4 => kzr q4 (some q4))
theorem wX11_isRule {C : CT} {X : XT} (hC : CK C RX11 cX11_isRule 1 (some .boolean) 2) (n : Nat) (S : PS) (x0_ : Int32)  {o : Int32} (hf : fX11_isRule X.2.1 n S x0_ = some o) (hR : Rt C X cX11_isRule (some .boolean) (some (.int o)) S) : UW C X S 0 [(0, .int x0_)] [] := by
  unfold fX11_isRule at hf
  refine u_iload_n hC dX11_isRule_0 0 rfl rfl ?_
  refine u_iconst (v := (0 : Int32)) hC dX11_isRule_1 (by decide) ?_
  refine u_bipush (v := (8 : Int32)) hC dX11_isRule_2 (by decide) ?_
  obtain ⟨q4, hq4, hf⟩ := kc_some hf
  refine u_callS hC (ctX11_isIn (cL C) hC.tr (cG C) X.1 X.2.1 n S x0_ (0 : Int32) (8 : Int32)  hq4) lk_X11_81 (by decide) (by decide) rfl rfl (Nat.le_of_ble_eq_true rfl) dX11_isRule_4 ?_
  obtain ⟨hz, hf⟩ := kzr_some hf
  cases hf
  exact hR _ _ dX11_isRule_7 hz
theorem ctX11_isRule (l : Launch) (hl : l.stackTraces = false) (G : GT) (ρ : Nat → Nat) (Y : XS) (n : Nat) (S : PS) (x0_ : Int32)  {o : Int32} (hf : fX11_isRule Y n S x0_ = some o) : Mt l G yX11_isRule cX11_isRule 1 (some .boolean) 2 ρ Y [.int x0_] S (some (.int o)) S :=
  Mt_of hl (by decide) (Nat.le_of_ble_eq_true rfl) (fun C _ _ hC hR => wX11_isRule (X := (ρ, Y, 0, 0)) hC n S x0_  hf hR)
-- X11_isOf
theorem dX11_isOf_0 : decode cX11_isOf 0 = .ok (.iload_n 0, 1) := by decide +kernel
theorem dX11_isOf_1 : decode cX11_isOf 1 = .ok (.iload_n 1, 1) := by decide +kernel
theorem dX11_isOf_2 : decode cX11_isOf 2 = .ok (.ishr, 1) := by decide +kernel
theorem dX11_isOf_3 : decode cX11_isOf 3 = .ok (.iconst 1, 1) := by decide +kernel
theorem dX11_isOf_4 : decode cX11_isOf 4 = .ok (.iand, 1) := by decide +kernel
theorem dX11_isOf_5 : decode cX11_isOf 5 = .ok (.iconst 1, 1) := by decide +kernel
theorem dX11_isOf_6 : decode cX11_isOf 6 = .ok (.if_icmp .ne 7, 3) := by decide +kernel
theorem dX11_isOf_9 : decode cX11_isOf 9 = .ok (.iconst 1, 1) := by decide +kernel
theorem dX11_isOf_10 : decode cX11_isOf 10 = .ok (.goto 4, 3) := by decide +kernel
theorem dX11_isOf_13 : decode cX11_isOf 13 = .ok (.iconst 0, 1) := by decide +kernel
theorem dX11_isOf_14 : decode cX11_isOf 14 = .ok (.ireturn, 1) := by decide +kernel
def jX11_isOf_14 (Y : XS) (n : Nat) (S : PS) (t0 : Int32) : Option (Int32) :=
  kzr t0 (some t0)
def fX11_isOf (Y : XS) (n : Nat) (S : PS) (x0_ : Int32) (x1_ : Int32) : Option (Int32) :=
  (if ((x0_ >>> (x1_ &&& 31)) &&& (1 : Int32)) = (1 : Int32) then jX11_isOf_14 Y n S (1 : Int32) else jX11_isOf_14 Y n S (0 : Int32))
theorem wjX11_isOf_14 {C : CT} {X : XT} (hC : CK C RX11 cX11_isOf 2 (some .boolean) 1) (n : Nat) (S : PS) (t0 : Int32)   {o : Int32} (hf : jX11_isOf_14 X.2.1 n S t0 = some o) (hR : Rt C X cX11_isOf (some .boolean) (some (.int o)) S) : UW C X S 14 [] [.int t0] := by
  unfold jX11_isOf_14 at hf
  obtain ⟨hz, hf⟩ := kzr_some hf
  cases hf
  exact hR _ _ dX11_isOf_14 hz
theorem wX11_isOf {C : CT} {X : XT} (hC : CK C RX11 cX11_isOf 2 (some .boolean) 1) (n : Nat) (S : PS) (x0_ : Int32) (x1_ : Int32)  {o : Int32} (hf : fX11_isOf X.2.1 n S x0_ x1_ = some o) (hR : Rt C X cX11_isOf (some .boolean) (some (.int o)) S) : UW C X S 0 [(0, .int x0_), (1, .int x1_)] [] := by
  unfold fX11_isOf at hf
  refine u_iload_n hC dX11_isOf_0 0 rfl rfl ?_
  refine u_iload_n hC dX11_isOf_1 1 rfl rfl ?_
  refine u_ishr hC dX11_isOf_2 ?_
  refine u_iconst (v := (1 : Int32)) hC dX11_isOf_3 (by decide) ?_
  refine u_iand hC dX11_isOf_4 ?_
  refine u_iconst (v := (1 : Int32)) hC dX11_isOf_5 (by decide) ?_
  refine u_icmp_ne (tgt := 13) hC dX11_isOf_6 (by decide) hf (fun h6 hf => ?_) (fun h6 hf => ?_)
  · refine u_iconst (v := (0 : Int32)) hC dX11_isOf_13 (by decide) ?_
    refine u_sub (lv' := []) [] rfl ?_
    exact wjX11_isOf_14 hC n S (0 : Int32)   hf hR
  · refine u_iconst (v := (1 : Int32)) hC dX11_isOf_9 (by decide) ?_
    refine u_goto (tgt := 14) hC dX11_isOf_10 (by decide) ?_
    refine u_sub (lv' := []) [] rfl ?_
    exact wjX11_isOf_14 hC n S (1 : Int32)   hf hR
theorem ctX11_isOf (l : Launch) (hl : l.stackTraces = false) (G : GT) (ρ : Nat → Nat) (Y : XS) (n : Nat) (S : PS) (x0_ : Int32) (x1_ : Int32)  {o : Int32} (hf : fX11_isOf Y n S x0_ x1_ = some o) : Mt l G yX11_isOf cX11_isOf 2 (some .boolean) 1 ρ Y [.int x0_, .int x1_] S (some (.int o)) S :=
  Mt_of hl (by decide) (Nat.le_of_ble_eq_true rfl) (fun C _ _ hC hR => wX11_isOf (X := (ρ, Y, 0, 0)) hC n S x0_ x1_  hf hR)
-- X11_bitsOf
theorem dX11_bitsOf_0 : decode cX11_bitsOf 0 = .ok (.iconst 0, 1) := by decide +kernel
theorem dX11_bitsOf_1 : decode cX11_bitsOf 1 = .ok (.istore_n 1, 1) := by decide +kernel
theorem dX11_bitsOf_2 : decode cX11_bitsOf 2 = .ok (.iload_n 0, 1) := by decide +kernel
theorem dX11_bitsOf_3 : decode cX11_bitsOf 3 = .ok (.istore_n 2, 1) := by decide +kernel
theorem dX11_bitsOf_4 : decode cX11_bitsOf 4 = .ok (.iload_n 2, 1) := by decide +kernel
theorem dX11_bitsOf_5 : decode cX11_bitsOf 5 = .ok (.ifCond .eq 15, 3) := by decide +kernel
theorem dX11_bitsOf_8 : decode cX11_bitsOf 8 = .ok (.iinc 1 1, 3) := by decide +kernel
theorem dX11_bitsOf_11 : decode cX11_bitsOf 11 = .ok (.iload_n 2, 1) := by decide +kernel
theorem dX11_bitsOf_12 : decode cX11_bitsOf 12 = .ok (.iload_n 2, 1) := by decide +kernel
theorem dX11_bitsOf_13 : decode cX11_bitsOf 13 = .ok (.iconst 1, 1) := by decide +kernel
theorem dX11_bitsOf_14 : decode cX11_bitsOf 14 = .ok (.isub, 1) := by decide +kernel
theorem dX11_bitsOf_15 : decode cX11_bitsOf 15 = .ok (.iand, 1) := by decide +kernel
theorem dX11_bitsOf_16 : decode cX11_bitsOf 16 = .ok (.istore_n 2, 1) := by decide +kernel
theorem dX11_bitsOf_17 : decode cX11_bitsOf 17 = .ok (.goto (-13), 3) := by decide +kernel
theorem dX11_bitsOf_20 : decode cX11_bitsOf 20 = .ok (.iload_n 1, 1) := by decide +kernel
theorem dX11_bitsOf_21 : decode cX11_bitsOf 21 = .ok (.ireturn, 1) := by decide +kernel
def bX11_bitsOf_4 (Y : XS) (n : Nat) (S : PS)  (s4 : (Int32 × Int32)) : Option ((Int32 × Int32) ⊕ Int32) :=
  (if s4.2 = 0 then some (.inr s4.1) else some (.inl (s4.1 + (1 : Int32), s4.2 &&& (s4.2 - (1 : Int32)))))
def fX11_bitsOf (Y : XS) (n : Nat) (S : PS) (x0_ : Int32) : Option (Int32) :=
  kc (iter (bX11_bitsOf_4 Y n S ) n ((0 : Int32), x0_)) (fun r4 => some r4)
theorem wbX11_bitsOf_4 {C : CT} {X : XT} (hC : CK C RX11 cX11_bitsOf 3 (some .int) 1) (n : Nat) (S : PS)   (s4 : (Int32 × Int32)) {o : (Int32 × Int32) ⊕ Int32} (hf : bX11_bitsOf_4 X.2.1 n S  s4 = some o) (hN : ∀ s', o = .inl s' → UW C X S 4 [(1, .int s'.1), (2, .int s'.2)] []) (hO0 : ∀ p', o = .inr p' → UW C X S 20 [(1, .int p')] []) : UW C X S 4 [(1, .int s4.1), (2, .int s4.2)] [] := by
  unfold bX11_bitsOf_4 at hf
  refine u_iload_n hC dX11_bitsOf_4 1 rfl rfl ?_
  refine u_if_eq (tgt := 20) hC dX11_bitsOf_5 (by decide) hf (fun h5 hf => ?_) (fun h5 hf => ?_)
  · refine u_sub (lv' := [(1, .int s4.1)]) [0] rfl ?_
    exact hO0 _ (Option.some.inj hf).symm
  · refine u_iinc (v := s4.1 + (1 : Int32)) (lv' := [(1, .int (s4.1 + (1 : Int32))), (2, .int s4.2)]) hC dX11_bitsOf_8 0 rfl rfl (by decide) rfl ?_
    refine u_iload_n hC dX11_bitsOf_11 1 rfl rfl ?_
    refine u_iload_n hC dX11_bitsOf_12 1 rfl rfl ?_
    refine u_iconst (v := (1 : Int32)) hC dX11_bitsOf_13 (by decide) ?_
    refine u_isub hC dX11_bitsOf_14 ?_
    refine u_iand hC dX11_bitsOf_15 ?_
    refine u_istore_n (lv' := [(2, .int (s4.2 &&& (s4.2 - (1 : Int32)))), (1, .int (s4.1 + (1 : Int32)))]) hC dX11_bitsOf_16 rfl (by decide) rfl ?_
    refine u_goto (tgt := 4) hC dX11_bitsOf_17 (by decide) ?_
    refine u_sub (lv' := [(1, .int (s4.1 + (1 : Int32))), (2, .int (s4.2 &&& (s4.2 - (1 : Int32))))]) [1, 0] rfl ?_
    exact hN _ (Option.some.inj hf).symm
theorem wX11_bitsOf {C : CT} {X : XT} (hC : CK C RX11 cX11_bitsOf 3 (some .int) 1) (n : Nat) (S : PS) (x0_ : Int32)  {o : Int32} (hf : fX11_bitsOf X.2.1 n S x0_ = some o) (hR : Rt C X cX11_bitsOf (some .int) (some (.int o)) S) : UW C X S 0 [(0, .int x0_)] [] := by
  unfold fX11_bitsOf at hf
  refine u_iconst (v := (0 : Int32)) hC dX11_bitsOf_0 (by decide) ?_
  refine u_istore_n (lv' := [(1, .int (0 : Int32)), (0, .int x0_)]) hC dX11_bitsOf_1 rfl (by decide) rfl ?_
  refine u_iload_n hC dX11_bitsOf_2 1 rfl rfl ?_
  refine u_istore_n (lv' := [(2, .int x0_), (1, .int (0 : Int32)), (0, .int x0_)]) hC dX11_bitsOf_3 rfl (by decide) rfl ?_
  obtain ⟨r4, hr4, hf⟩ := kc_some hf
  have hk4 : UW C X S 20 [(1, .int r4)] [] := by
    refine u_iload_n hC dX11_bitsOf_20 0 rfl rfl ?_
    cases hf
    exact hR _ _ dX11_bitsOf_21 trivial
  refine u_sub (lv' := [(1, .int (0 : Int32)), (2, .int x0_)]) [1, 0] rfl ?_
  refine iter_ind (P := fun s4 => UW C X S 4 [(1, .int s4.1), (2, .int s4.2)] []) (fun s4 o' hb hin hout => ?_) n ((0 : Int32), x0_) hr4
  exact wbX11_bitsOf_4 hC n S   s4 hb hin (fun p e => by rw [hout p e]; exact hk4)
theorem ctX11_bitsOf (l : Launch) (hl : l.stackTraces = false) (G : GT) (ρ : Nat → Nat) (Y : XS) (n : Nat) (S : PS) (x0_ : Int32)  {o : Int32} (hf : fX11_bitsOf Y n S x0_ = some o) : Mt l G yX11_bitsOf cX11_bitsOf 3 (some .int) 1 ρ Y [.int x0_] S (some (.int o)) S :=
  Mt_of hl (by decide) (Nat.le_of_ble_eq_true rfl) (fun C _ _ hC hR => wX11_bitsOf (X := (ρ, Y, 0, 0)) hC n S x0_  hf hR)
-- X11_likedOf
theorem dX11_likedOf_0 : decode cX11_likedOf 0 = .ok (.iconst 0, 1) := by decide +kernel
theorem dX11_likedOf_1 : decode cX11_likedOf 1 = .ok (.istore_n 2, 1) := by decide +kernel
theorem dX11_likedOf_2 : decode cX11_likedOf 2 = .ok (.iconst 0, 1) := by decide +kernel
theorem dX11_likedOf_3 : decode cX11_likedOf 3 = .ok (.istore_n 3, 1) := by decide +kernel
theorem dX11_likedOf_4 : decode cX11_likedOf 4 = .ok (.iload_n 3, 1) := by decide +kernel
theorem dX11_likedOf_5 : decode cX11_likedOf 5 = .ok (.aload_n 0, 1) := by decide +kernel
theorem dX11_likedOf_6 : decode cX11_likedOf 6 = .ok (.invokevirtual 85, 3) := by decide +kernel
theorem dX11_likedOf_9 : decode cX11_likedOf 9 = .ok (.if_icmp .ge 26, 3) := by decide +kernel
theorem dX11_likedOf_12 : decode cX11_likedOf 12 = .ok (.iload_n 2, 1) := by decide +kernel
theorem dX11_likedOf_13 : decode cX11_likedOf 13 = .ok (.aload_n 0, 1) := by decide +kernel
theorem dX11_likedOf_14 : decode cX11_likedOf 14 = .ok (.iload_n 3, 1) := by decide +kernel
theorem dX11_likedOf_15 : decode cX11_likedOf 15 = .ok (.iload_n 1, 1) := by decide +kernel
theorem dX11_likedOf_16 : decode cX11_likedOf 16 = .ok (.invokevirtual 88, 3) := by decide +kernel
theorem dX11_likedOf_19 : decode cX11_likedOf 19 = .ok (.ifCond .le 7, 3) := by decide +kernel
theorem dX11_likedOf_22 : decode cX11_likedOf 22 = .ok (.iconst 1, 1) := by decide +kernel
theorem dX11_likedOf_23 : decode cX11_likedOf 23 = .ok (.goto 4, 3) := by decide +kernel
theorem dX11_likedOf_26 : decode cX11_likedOf 26 = .ok (.iconst 0, 1) := by decide +kernel
theorem dX11_likedOf_27 : decode cX11_likedOf 27 = .ok (.iadd, 1) := by decide +kernel
theorem dX11_likedOf_28 : decode cX11_likedOf 28 = .ok (.istore_n 2, 1) := by decide +kernel
theorem dX11_likedOf_29 : decode cX11_likedOf 29 = .ok (.iinc 3 1, 3) := by decide +kernel
theorem dX11_likedOf_32 : decode cX11_likedOf 32 = .ok (.goto (-28), 3) := by decide +kernel
theorem dX11_likedOf_35 : decode cX11_likedOf 35 = .ok (.iload_n 2, 1) := by decide +kernel
theorem dX11_likedOf_36 : decode cX11_likedOf 36 = .ok (.ireturn, 1) := by decide +kernel
def jX11_likedOf_27_4 (Y : XS) (n : Nat) (S : PS) (v0 : Nat) (v1 : Int32) (v3 : Int32) (t0 : Int32) (t1 : Int32) : Option ((Int32 × Int32) ⊕ Int32) :=
  some (.inl (t1 + t0, v3 + (1 : Int32)))
def bX11_likedOf_4 (Y : XS) (n : Nat) (S : PS) (v0 : Nat) (v1 : Int32) (s4 : (Int32 × Int32)) : Option ((Int32 × Int32) ⊕ Int32) :=
  kc (fX11_people Y n S v0) (fun q6 => (if q6 ≤ s4.2 then some (.inr s4.1) else kc (fX11_scoreOf Y n S v0 s4.2 v1) (fun q16 => (if q16 ≤ 0 then jX11_likedOf_27_4 Y n S v0 v1 s4.2 (0 : Int32) s4.1 else jX11_likedOf_27_4 Y n S v0 v1 s4.2 (1 : Int32) s4.1))))
def fX11_likedOf (Y : XS) (n : Nat) (S : PS) (a0 : Nat) (x1_ : Int32) : Option (Int32) :=
  kc (iter (bX11_likedOf_4 Y n S a0 x1_) n ((0 : Int32), (0 : Int32))) (fun r4 => some r4)
theorem wjX11_likedOf_27_4 {C : CT} {X : XT} (hC : CK C RX11 cX11_likedOf 4 (some .int) 3) (n : Nat) (S : PS) (v0 : Nat) (v1 : Int32) (v3 : Int32) (t0 : Int32) (t1 : Int32)  (hTv0 : Ty X.2.1 v0 11) {o : (Int32 × Int32) ⊕ Int32} (hf : jX11_likedOf_27_4 X.2.1 n S v0 v1 v3 t0 t1 = some o) (hN : ∀ s', o = .inl s' → UW C X S 4 [(0, .ref (X.1 v0)), (1, .int v1), (2, .int s'.1), (3, .int s'.2)] []) (hO0 : ∀ p', o = .inr p' → UW C X S 35 [(2, .int p')] []) : UW C X S 27 [(0, .ref (X.1 v0)), (1, .int v1), (3, .int v3)] [.int t0, .int t1] := by
  unfold jX11_likedOf_27_4 at hf
  refine u_iadd hC dX11_likedOf_27 ?_
  refine u_istore_n (lv' := [(2, .int (t1 + t0)), (0, .ref (X.1 v0)), (1, .int v1), (3, .int v3)]) hC dX11_likedOf_28 rfl (by decide) rfl ?_
  refine u_iinc (v := v3 + (1 : Int32)) (lv' := [(3, .int (v3 + (1 : Int32))), (2, .int (t1 + t0)), (0, .ref (X.1 v0)), (1, .int v1)]) hC dX11_likedOf_29 3 rfl rfl (by decide) rfl ?_
  refine u_goto (tgt := 4) hC dX11_likedOf_32 (by decide) ?_
  refine u_sub (lv' := [(0, .ref (X.1 v0)), (1, .int v1), (2, .int (t1 + t0)), (3, .int (v3 + (1 : Int32)))]) [2, 3, 1, 0] rfl ?_
  exact hN _ (Option.some.inj hf).symm
theorem wbX11_likedOf_4 {C : CT} {X : XT} (hC : CK C RX11 cX11_likedOf 4 (some .int) 3) (n : Nat) (S : PS) (v0 : Nat) (v1 : Int32) (hTv0 : Ty X.2.1 v0 11) (s4 : (Int32 × Int32)) {o : (Int32 × Int32) ⊕ Int32} (hf : bX11_likedOf_4 X.2.1 n S v0 v1 s4 = some o) (hN : ∀ s', o = .inl s' → UW C X S 4 [(0, .ref (X.1 v0)), (1, .int v1), (2, .int s'.1), (3, .int s'.2)] []) (hO0 : ∀ p', o = .inr p' → UW C X S 35 [(2, .int p')] []) : UW C X S 4 [(0, .ref (X.1 v0)), (1, .int v1), (2, .int s4.1), (3, .int s4.2)] [] := by
  unfold bX11_likedOf_4 at hf
  refine u_iload_n hC dX11_likedOf_4 3 rfl rfl ?_
  refine u_aload_n hC dX11_likedOf_5 0 rfl rfl ?_
  obtain ⟨q6, hq6, hf⟩ := kc_some hf
  refine u_callV hC (ctX11_people (cL C) hC.tr (cG C) X.1 X.2.1 n S v0 hTv0 hq6) lk_X11_85 rfl hTv0 (by decide) rfl (by decide) (by decide) rfl rfl (Nat.le_of_ble_eq_true rfl) dX11_likedOf_6 ?_
  refine u_icmp_ge (tgt := 35) hC dX11_likedOf_9 (by decide) hf (fun h9 hf => ?_) (fun h9 hf => ?_)
  · refine u_sub (lv' := [(2, .int s4.1)]) [2] rfl ?_
    exact hO0 _ (Option.some.inj hf).symm
  · refine u_iload_n hC dX11_likedOf_12 2 rfl rfl ?_
    refine u_aload_n hC dX11_likedOf_13 0 rfl rfl ?_
    refine u_iload_n hC dX11_likedOf_14 3 rfl rfl ?_
    refine u_iload_n hC dX11_likedOf_15 1 rfl rfl ?_
    obtain ⟨q16, hq16, hf⟩ := kc_some hf
    refine u_callV hC (ctX11_scoreOf (cL C) hC.tr (cG C) X.1 X.2.1 n S v0 s4.2 v1 hTv0 hq16) lk_X11_88 rfl hTv0 (by decide) rfl (by decide) (by decide) rfl rfl (Nat.le_of_ble_eq_true rfl) dX11_likedOf_16 ?_
    refine u_if_le (tgt := 26) hC dX11_likedOf_19 (by decide) hf (fun h19 hf => ?_) (fun h19 hf => ?_)
    · refine u_iconst (v := (0 : Int32)) hC dX11_likedOf_26 (by decide) ?_
      refine u_sub (lv' := [(0, .ref (X.1 v0)), (1, .int v1), (3, .int s4.2)]) [0, 1, 3] rfl ?_
      exact wjX11_likedOf_27_4 hC n S v0 v1 s4.2 (0 : Int32) s4.1  hTv0 hf hN hO0
    · refine u_iconst (v := (1 : Int32)) hC dX11_likedOf_22 (by decide) ?_
      refine u_goto (tgt := 27) hC dX11_likedOf_23 (by decide) ?_
      refine u_sub (lv' := [(0, .ref (X.1 v0)), (1, .int v1), (3, .int s4.2)]) [0, 1, 3] rfl ?_
      exact wjX11_likedOf_27_4 hC n S v0 v1 s4.2 (1 : Int32) s4.1  hTv0 hf hN hO0
theorem wX11_likedOf {C : CT} {X : XT} (hC : CK C RX11 cX11_likedOf 4 (some .int) 3) (n : Nat) (S : PS) (a0 : Nat) (x1_ : Int32) (hTa0 : Ty X.2.1 a0 11) {o : Int32} (hf : fX11_likedOf X.2.1 n S a0 x1_ = some o) (hR : Rt C X cX11_likedOf (some .int) (some (.int o)) S) : UW C X S 0 [(0, .ref (X.1 a0)), (1, .int x1_)] [] := by
  unfold fX11_likedOf at hf
  refine u_iconst (v := (0 : Int32)) hC dX11_likedOf_0 (by decide) ?_
  refine u_istore_n (lv' := [(2, .int (0 : Int32)), (0, .ref (X.1 a0)), (1, .int x1_)]) hC dX11_likedOf_1 rfl (by decide) rfl ?_
  refine u_iconst (v := (0 : Int32)) hC dX11_likedOf_2 (by decide) ?_
  refine u_istore_n (lv' := [(3, .int (0 : Int32)), (2, .int (0 : Int32)), (0, .ref (X.1 a0)), (1, .int x1_)]) hC dX11_likedOf_3 rfl (by decide) rfl ?_
  obtain ⟨r4, hr4, hf⟩ := kc_some hf
  have hk4 : UW C X S 35 [(2, .int r4)] [] := by
    refine u_iload_n hC dX11_likedOf_35 0 rfl rfl ?_
    cases hf
    exact hR _ _ dX11_likedOf_36 trivial
  refine u_sub (lv' := [(0, .ref (X.1 a0)), (1, .int x1_), (2, .int (0 : Int32)), (3, .int (0 : Int32))]) [2, 3, 1, 0] rfl ?_
  refine iter_ind (P := fun s4 => UW C X S 4 [(0, .ref (X.1 a0)), (1, .int x1_), (2, .int s4.1), (3, .int s4.2)] []) (fun s4 o' hb hin hout => ?_) n ((0 : Int32), (0 : Int32)) hr4
  exact wbX11_likedOf_4 hC n S a0 x1_ hTa0 s4 hb hin (fun p e => by rw [hout p e]; exact hk4)
theorem ctX11_likedOf (l : Launch) (hl : l.stackTraces = false) (G : GT) (ρ : Nat → Nat) (Y : XS) (n : Nat) (S : PS) (a0 : Nat) (x1_ : Int32) (hTa0 : Ty Y a0 11) {o : Int32} (hf : fX11_likedOf Y n S a0 x1_ = some o) : Mt l G yX11_likedOf cX11_likedOf 4 (some .int) 3 ρ Y [.ref (ρ a0), .int x1_] S (some (.int o)) S :=
  Mt_of hl (by decide) (Nat.le_of_ble_eq_true rfl) (fun C _ _ hC hR => wX11_likedOf (X := (ρ, Y, 0, 0)) hC n S a0 x1_ hTa0 hf hR)
-- X11_lawByte
theorem dX11_lawByte_0 : decode cX11_lawByte 0 = .ok (.aload_n 0, 1) := by decide +kernel
theorem dX11_lawByte_1 : decode cX11_lawByte 1 = .ok (.getfield 91, 3) := by decide +kernel
theorem dX11_lawByte_4 : decode cX11_lawByte 4 = .ok (.aload_n 0, 1) := by decide +kernel
theorem dX11_lawByte_5 : decode cX11_lawByte 5 = .ok (.getfield 9, 3) := by decide +kernel
theorem dX11_lawByte_8 : decode cX11_lawByte 8 = .ok (.sipush 376, 3) := by decide +kernel
theorem dX11_lawByte_11 : decode cX11_lawByte 11 = .ok (.iaload, 1) := by decide +kernel
theorem dX11_lawByte_12 : decode cX11_lawByte 12 = .ok (.if_icmp .ge 52, 3) := by decide +kernel
theorem dX11_lawByte_15 : decode cX11_lawByte 15 = .ok (.aload_n 0, 1) := by decide +kernel
theorem dX11_lawByte_16 : decode cX11_lawByte 16 = .ok (.getfield 9, 3) := by decide +kernel
theorem dX11_lawByte_19 : decode cX11_lawByte 19 = .ok (.sipush 377, 3) := by decide +kernel
theorem dX11_lawByte_22 : decode cX11_lawByte 22 = .ok (.aload_n 0, 1) := by decide +kernel
theorem dX11_lawByte_23 : decode cX11_lawByte 23 = .ok (.getfield 91, 3) := by decide +kernel
theorem dX11_lawByte_26 : decode cX11_lawByte 26 = .ok (.iadd, 1) := by decide +kernel
theorem dX11_lawByte_27 : decode cX11_lawByte 27 = .ok (.iaload, 1) := by decide +kernel
theorem dX11_lawByte_28 : decode cX11_lawByte 28 = .ok (.bipush 32, 2) := by decide +kernel
theorem dX11_lawByte_30 : decode cX11_lawByte 30 = .ok (.if_icmp .eq 21, 3) := by decide +kernel
theorem dX11_lawByte_33 : decode cX11_lawByte 33 = .ok (.aload_n 0, 1) := by decide +kernel
theorem dX11_lawByte_34 : decode cX11_lawByte 34 = .ok (.getfield 9, 3) := by decide +kernel
theorem dX11_lawByte_37 : decode cX11_lawByte 37 = .ok (.sipush 377, 3) := by decide +kernel
theorem dX11_lawByte_40 : decode cX11_lawByte 40 = .ok (.aload_n 0, 1) := by decide +kernel
theorem dX11_lawByte_41 : decode cX11_lawByte 41 = .ok (.getfield 91, 3) := by decide +kernel
theorem dX11_lawByte_44 : decode cX11_lawByte 44 = .ok (.iadd, 1) := by decide +kernel
theorem dX11_lawByte_45 : decode cX11_lawByte 45 = .ok (.iaload, 1) := by decide +kernel
theorem dX11_lawByte_46 : decode cX11_lawByte 46 = .ok (.bipush 10, 2) := by decide +kernel
theorem dX11_lawByte_48 : decode cX11_lawByte 48 = .ok (.if_icmp .ne 16, 3) := by decide +kernel
theorem dX11_lawByte_51 : decode cX11_lawByte 51 = .ok (.aload_n 0, 1) := by decide +kernel
theorem dX11_lawByte_52 : decode cX11_lawByte 52 = .ok (.dup, 1) := by decide +kernel
theorem dX11_lawByte_53 : decode cX11_lawByte 53 = .ok (.getfield 91, 3) := by decide +kernel
theorem dX11_lawByte_56 : decode cX11_lawByte 56 = .ok (.iconst 1, 1) := by decide +kernel
theorem dX11_lawByte_57 : decode cX11_lawByte 57 = .ok (.iadd, 1) := by decide +kernel
theorem dX11_lawByte_58 : decode cX11_lawByte 58 = .ok (.putfield 91, 3) := by decide +kernel
theorem dX11_lawByte_61 : decode cX11_lawByte 61 = .ok (.goto (-61), 3) := by decide +kernel
theorem dX11_lawByte_64 : decode cX11_lawByte 64 = .ok (.aload_n 0, 1) := by decide +kernel
theorem dX11_lawByte_65 : decode cX11_lawByte 65 = .ok (.getfield 91, 3) := by decide +kernel
theorem dX11_lawByte_68 : decode cX11_lawByte 68 = .ok (.aload_n 0, 1) := by decide +kernel
theorem dX11_lawByte_69 : decode cX11_lawByte 69 = .ok (.getfield 9, 3) := by decide +kernel
theorem dX11_lawByte_72 : decode cX11_lawByte 72 = .ok (.sipush 376, 3) := by decide +kernel
theorem dX11_lawByte_75 : decode cX11_lawByte 75 = .ok (.iaload, 1) := by decide +kernel
theorem dX11_lawByte_76 : decode cX11_lawByte 76 = .ok (.if_icmp .ge 19, 3) := by decide +kernel
theorem dX11_lawByte_79 : decode cX11_lawByte 79 = .ok (.aload_n 0, 1) := by decide +kernel
theorem dX11_lawByte_80 : decode cX11_lawByte 80 = .ok (.getfield 9, 3) := by decide +kernel
theorem dX11_lawByte_83 : decode cX11_lawByte 83 = .ok (.sipush 377, 3) := by decide +kernel
theorem dX11_lawByte_86 : decode cX11_lawByte 86 = .ok (.aload_n 0, 1) := by decide +kernel
theorem dX11_lawByte_87 : decode cX11_lawByte 87 = .ok (.getfield 91, 3) := by decide +kernel
theorem dX11_lawByte_90 : decode cX11_lawByte 90 = .ok (.iadd, 1) := by decide +kernel
theorem dX11_lawByte_91 : decode cX11_lawByte 91 = .ok (.iaload, 1) := by decide +kernel
theorem dX11_lawByte_92 : decode cX11_lawByte 92 = .ok (.goto 4, 3) := by decide +kernel
theorem dX11_lawByte_95 : decode cX11_lawByte 95 = .ok (.iconst (-1), 1) := by decide +kernel
theorem dX11_lawByte_96 : decode cX11_lawByte 96 = .ok (.ireturn, 1) := by decide +kernel
def jX11_lawByte_51_0 (Y : XS) (n : Nat) (S : PS) (v0 : Nat) : Option (PS ⊕ PS) :=
  kgi S v0 8 (fun x53 => kpi S v0 8 (x53 + (1 : Int32)) (fun S58 => some (.inl S58)))
def bX11_lawByte_0 (Y : XS) (n : Nat) (v0 : Nat) (s0 : PS) : Option (PS ⊕ PS) :=
  kgi s0 v0 8 (fun x1 => kgr s0 v0 0 (fun b5 => kai Y s0 b5 (376 : Int32) (fun x11 => (if x11 ≤ x1 then some (.inr s0) else kgr s0 v0 0 (fun b16 => kgi s0 v0 8 (fun x23 => kai Y s0 b16 ((377 : Int32) + x23) (fun x27 => (if x27 = (32 : Int32) then jX11_lawByte_51_0 Y n s0 v0 else kgr s0 v0 0 (fun b34 => kgi s0 v0 8 (fun x41 => kai Y s0 b34 ((377 : Int32) + x41) (fun x45 => (if x45 = (10 : Int32) then jX11_lawByte_51_0 Y n s0 v0 else some (.inr s0)))))))))))))
def jX11_lawByte_96 (Y : XS) (n : Nat) (S : PS) (t0 : Int32) : Option (Int32 × PS) :=
  some (t0, S)
def jX11_lawByte_64 (Y : XS) (n : Nat) (S : PS) (v0 : Nat) : Option (Int32 × PS) :=
  kgi S v0 8 (fun x65 => kgr S v0 0 (fun b69 => kai Y S b69 (376 : Int32) (fun x75 => (if x75 ≤ x65 then jX11_lawByte_96 Y n S (-1 : Int32) else kgr S v0 0 (fun b80 => kgi S v0 8 (fun x87 => kai Y S b80 ((377 : Int32) + x87) (fun x91 => jX11_lawByte_96 Y n S x91)))))))
def fX11_lawByte (Y : XS) (n : Nat) (S : PS) (a0 : Nat) : Option (Int32 × PS) :=
  kc (iter (bX11_lawByte_0 Y n a0) n S) (fun r0 => jX11_lawByte_64 Y n r0 a0)
theorem wjX11_lawByte_51_0 {C : CT} {X : XT} (hC : CK C RX11 cX11_lawByte 1 (some .int) 1) (n : Nat) (S : PS) (v0 : Nat)  (hTv0 : Ty X.2.1 v0 11) {o : PS ⊕ PS} (hf : jX11_lawByte_51_0 X.2.1 n S v0 = some o) (hN : ∀ s', o = .inl s' → UW C X s' 0 [(0, .ref (X.1 v0))] []) (hO0 : ∀ p', o = .inr p' → UW C X p' 64 [(0, .ref (X.1 v0))] []) : UW C X S 51 [(0, .ref (X.1 v0))] [] := by
  unfold jX11_lawByte_51_0 at hf
  refine u_aload_n hC dX11_lawByte_51 0 rfl rfl ?_
  refine u_dup hC dX11_lawByte_52 rfl ?_
  refine u_gi hC lf_X11_91 rfl hTv0 dX11_lawByte_53 hf (fun x53 hf => ?_)
  refine u_iconst (v := (1 : Int32)) hC dX11_lawByte_56 (by decide) ?_
  refine u_iadd hC dX11_lawByte_57 ?_
  refine u_pi hC lf_X11_91 rfl rfl rfl hTv0 dX11_lawByte_58 hf (fun S58 hf => ?_)
  refine u_goto (tgt := 0) hC dX11_lawByte_61 (by decide) ?_
  exact hN _ (Option.some.inj hf).symm
theorem wbX11_lawByte_0 {C : CT} {X : XT} (hC : CK C RX11 cX11_lawByte 1 (some .int) 1) (n : Nat) (v0 : Nat) (hTv0 : Ty X.2.1 v0 11) (s0 : PS) {o : PS ⊕ PS} (hf : bX11_lawByte_0 X.2.1 n v0 s0 = some o) (hN : ∀ s', o = .inl s' → UW C X s' 0 [(0, .ref (X.1 v0))] []) (hO0 : ∀ p', o = .inr p' → UW C X p' 64 [(0, .ref (X.1 v0))] []) : UW C X s0 0 [(0, .ref (X.1 v0))] [] := by
  unfold bX11_lawByte_0 at hf
  refine u_aload_n hC dX11_lawByte_0 0 rfl rfl ?_
  refine u_gi hC lf_X11_91 rfl hTv0 dX11_lawByte_1 hf (fun x1 hf => ?_)
  refine u_aload_n hC dX11_lawByte_4 0 rfl rfl ?_
  refine u_gr hC lf_X11_9 rfl hTv0 dX11_lawByte_5 hf (fun b5 hTb5 hf => ?_)
  refine u_sipush (v := (376 : Int32)) hC dX11_lawByte_8 (by decide) ?_
  refine u_ai hC hTb5 dX11_lawByte_11 hf (fun x11 hf => ?_)
  refine u_icmp_ge (tgt := 64) hC dX11_lawByte_12 (by decide) hf (fun h12 hf => ?_) (fun h12 hf => ?_)
  · exact hO0 _ (Option.some.inj hf).symm
  · refine u_aload_n hC dX11_lawByte_15 0 rfl rfl ?_
    refine u_gr hC lf_X11_9 rfl hTv0 dX11_lawByte_16 hf (fun b16 hTb16 hf => ?_)
    refine u_sipush (v := (377 : Int32)) hC dX11_lawByte_19 (by decide) ?_
    refine u_aload_n hC dX11_lawByte_22 0 rfl rfl ?_
    refine u_gi hC lf_X11_91 rfl hTv0 dX11_lawByte_23 hf (fun x23 hf => ?_)
    refine u_iadd hC dX11_lawByte_26 ?_
    refine u_ai hC hTb16 dX11_lawByte_27 hf (fun x27 hf => ?_)
    refine u_bipush (v := (32 : Int32)) hC dX11_lawByte_28 (by decide) ?_
    refine u_icmp_eq (tgt := 51) hC dX11_lawByte_30 (by decide) hf (fun h30 hf => ?_) (fun h30 hf => ?_)
    · exact wjX11_lawByte_51_0 hC n s0 v0  hTv0 hf hN hO0
    · refine u_aload_n hC dX11_lawByte_33 0 rfl rfl ?_
      refine u_gr hC lf_X11_9 rfl hTv0 dX11_lawByte_34 hf (fun b34 hTb34 hf => ?_)
      refine u_sipush (v := (377 : Int32)) hC dX11_lawByte_37 (by decide) ?_
      refine u_aload_n hC dX11_lawByte_40 0 rfl rfl ?_
      refine u_gi hC lf_X11_91 rfl hTv0 dX11_lawByte_41 hf (fun x41 hf => ?_)
      refine u_iadd hC dX11_lawByte_44 ?_
      refine u_ai hC hTb34 dX11_lawByte_45 hf (fun x45 hf => ?_)
      refine u_bipush (v := (10 : Int32)) hC dX11_lawByte_46 (by decide) ?_
      refine u_icmp_ne (tgt := 64) hC dX11_lawByte_48 (by decide) hf (fun h48 hf => ?_) (fun h48 hf => ?_)
      · exact hO0 _ (Option.some.inj hf).symm
      · exact wjX11_lawByte_51_0 hC n s0 v0  hTv0 hf hN hO0
theorem wjX11_lawByte_96 {C : CT} {X : XT} (hC : CK C RX11 cX11_lawByte 1 (some .int) 1) (n : Nat) (S : PS) (t0 : Int32)   {o : Int32 × PS} (hf : jX11_lawByte_96 X.2.1 n S t0 = some o) (hR : Rt C X cX11_lawByte (some .int) (some (.int o.1)) o.2) : UW C X S 96 [] [.int t0] := by
  unfold jX11_lawByte_96 at hf
  cases hf
  exact hR _ _ dX11_lawByte_96 trivial
theorem wjX11_lawByte_64 {C : CT} {X : XT} (hC : CK C RX11 cX11_lawByte 1 (some .int) 1) (n : Nat) (S : PS) (v0 : Nat)  (hTv0 : Ty X.2.1 v0 11) {o : Int32 × PS} (hf : jX11_lawByte_64 X.2.1 n S v0 = some o) (hR : Rt C X cX11_lawByte (some .int) (some (.int o.1)) o.2) : UW C X S 64 [(0, .ref (X.1 v0))] [] := by
  unfold jX11_lawByte_64 at hf
  refine u_aload_n hC dX11_lawByte_64 0 rfl rfl ?_
  refine u_gi hC lf_X11_91 rfl hTv0 dX11_lawByte_65 hf (fun x65 hf => ?_)
  refine u_aload_n hC dX11_lawByte_68 0 rfl rfl ?_
  refine u_gr hC lf_X11_9 rfl hTv0 dX11_lawByte_69 hf (fun b69 hTb69 hf => ?_)
  refine u_sipush (v := (376 : Int32)) hC dX11_lawByte_72 (by decide) ?_
  refine u_ai hC hTb69 dX11_lawByte_75 hf (fun x75 hf => ?_)
  refine u_icmp_ge (tgt := 95) hC dX11_lawByte_76 (by decide) hf (fun h76 hf => ?_) (fun h76 hf => ?_)
  · refine u_iconst (v := (-1 : Int32)) hC dX11_lawByte_95 (by decide) ?_
    refine u_sub (lv' := []) [] rfl ?_
    exact wjX11_lawByte_96 hC n S (-1 : Int32)   hf hR
  · refine u_aload_n hC dX11_lawByte_79 0 rfl rfl ?_
    refine u_gr hC lf_X11_9 rfl hTv0 dX11_lawByte_80 hf (fun b80 hTb80 hf => ?_)
    refine u_sipush (v := (377 : Int32)) hC dX11_lawByte_83 (by decide) ?_
    refine u_aload_n hC dX11_lawByte_86 0 rfl rfl ?_
    refine u_gi hC lf_X11_91 rfl hTv0 dX11_lawByte_87 hf (fun x87 hf => ?_)
    refine u_iadd hC dX11_lawByte_90 ?_
    refine u_ai hC hTb80 dX11_lawByte_91 hf (fun x91 hf => ?_)
    refine u_goto (tgt := 96) hC dX11_lawByte_92 (by decide) ?_
    refine u_sub (lv' := []) [] rfl ?_
    exact wjX11_lawByte_96 hC n S x91   hf hR
theorem wX11_lawByte {C : CT} {X : XT} (hC : CK C RX11 cX11_lawByte 1 (some .int) 1) (n : Nat) (S : PS) (a0 : Nat) (hTa0 : Ty X.2.1 a0 11) {o : Int32 × PS} (hf : fX11_lawByte X.2.1 n S a0 = some o) (hR : Rt C X cX11_lawByte (some .int) (some (.int o.1)) o.2) : UW C X S 0 [(0, .ref (X.1 a0))] [] := by
  unfold fX11_lawByte at hf
  obtain ⟨r0, hr0, hf⟩ := kc_some hf
  have hk0 : UW C X r0 64 [(0, .ref (X.1 a0))] [] := by
    exact wjX11_lawByte_64 hC n r0 a0  hTa0 hf hR
  refine iter_ind (P := fun s0 => UW C X s0 0 [(0, .ref (X.1 a0))] []) (fun s0 o' hb hin hout => ?_) n S hr0
  exact wbX11_lawByte_0 hC n a0 hTa0 s0 hb hin (fun p e => by rw [hout p e]; exact hk0)
theorem ctX11_lawByte (l : Launch) (hl : l.stackTraces = false) (G : GT) (ρ : Nat → Nat) (Y : XS) (n : Nat) (S : PS) (a0 : Nat) (hTa0 : Ty Y a0 11) {o : Int32 × PS} (hf : fX11_lawByte Y n S a0 = some o) : Mt l G yX11_lawByte cX11_lawByte 1 (some .int) 1 ρ Y [.ref (ρ a0)] S (some (.int o.1)) o.2 :=
  Mt_of hl (by decide) (Nat.le_of_ble_eq_true rfl) (fun C _ _ hC hR => wX11_lawByte (X := (ρ, Y, 0, 0)) hC n S a0 hTa0 hf hR)
-- X11_isFigure
theorem dX11_isFigure_0 : decode cX11_isFigure 0 = .ok (.iload_n 0, 1) := by decide +kernel
theorem dX11_isFigure_1 : decode cX11_isFigure 1 = .ok (.bipush 48, 2) := by decide +kernel
theorem dX11_isFigure_3 : decode cX11_isFigure 3 = .ok (.if_icmp .lt 13, 3) := by decide +kernel
theorem dX11_isFigure_6 : decode cX11_isFigure 6 = .ok (.iload_n 0, 1) := by decide +kernel
theorem dX11_isFigure_7 : decode cX11_isFigure 7 = .ok (.bipush 57, 2) := by decide +kernel
theorem dX11_isFigure_9 : decode cX11_isFigure 9 = .ok (.if_icmp .gt 7, 3) := by decide +kernel
theorem dX11_isFigure_12 : decode cX11_isFigure 12 = .ok (.iconst 1, 1) := by decide +kernel
theorem dX11_isFigure_13 : decode cX11_isFigure 13 = .ok (.goto 4, 3) := by decide +kernel
theorem dX11_isFigure_16 : decode cX11_isFigure 16 = .ok (.iconst 0, 1) := by decide +kernel
theorem dX11_isFigure_17 : decode cX11_isFigure 17 = .ok (.ireturn, 1) := by decide +kernel
def jX11_isFigure_17 (Y : XS) (n : Nat) (S : PS) (t0 : Int32) : Option (Int32) :=
  kzr t0 (some t0)
def jX11_isFigure_16 (Y : XS) (n : Nat) (S : PS)  : Option (Int32) :=
  jX11_isFigure_17 Y n S (0 : Int32)
def fX11_isFigure (Y : XS) (n : Nat) (S : PS) (x0_ : Int32) : Option (Int32) :=
  (if x0_ < (48 : Int32) then jX11_isFigure_16 Y n S  else (if (57 : Int32) < x0_ then jX11_isFigure_16 Y n S  else jX11_isFigure_17 Y n S (1 : Int32)))
theorem wjX11_isFigure_17 {C : CT} {X : XT} (hC : CK C RX11 cX11_isFigure 1 (some .boolean) 1) (n : Nat) (S : PS) (t0 : Int32)   {o : Int32} (hf : jX11_isFigure_17 X.2.1 n S t0 = some o) (hR : Rt C X cX11_isFigure (some .boolean) (some (.int o)) S) : UW C X S 17 [] [.int t0] := by
  unfold jX11_isFigure_17 at hf
  obtain ⟨hz, hf⟩ := kzr_some hf
  cases hf
  exact hR _ _ dX11_isFigure_17 hz
theorem wjX11_isFigure_16 {C : CT} {X : XT} (hC : CK C RX11 cX11_isFigure 1 (some .boolean) 1) (n : Nat) (S : PS)    {o : Int32} (hf : jX11_isFigure_16 X.2.1 n S  = some o) (hR : Rt C X cX11_isFigure (some .boolean) (some (.int o)) S) : UW C X S 16 [] [] := by
  unfold jX11_isFigure_16 at hf
  refine u_iconst (v := (0 : Int32)) hC dX11_isFigure_16 (by decide) ?_
  exact wjX11_isFigure_17 hC n S (0 : Int32)   hf hR
theorem wX11_isFigure {C : CT} {X : XT} (hC : CK C RX11 cX11_isFigure 1 (some .boolean) 1) (n : Nat) (S : PS) (x0_ : Int32)  {o : Int32} (hf : fX11_isFigure X.2.1 n S x0_ = some o) (hR : Rt C X cX11_isFigure (some .boolean) (some (.int o)) S) : UW C X S 0 [(0, .int x0_)] [] := by
  unfold fX11_isFigure at hf
  refine u_iload_n hC dX11_isFigure_0 0 rfl rfl ?_
  refine u_bipush (v := (48 : Int32)) hC dX11_isFigure_1 (by decide) ?_
  refine u_icmp_lt (tgt := 16) hC dX11_isFigure_3 (by decide) hf (fun h3 hf => ?_) (fun h3 hf => ?_)
  · refine u_sub (lv' := []) [] rfl ?_
    exact wjX11_isFigure_16 hC n S    hf hR
  · refine u_iload_n hC dX11_isFigure_6 0 rfl rfl ?_
    refine u_bipush (v := (57 : Int32)) hC dX11_isFigure_7 (by decide) ?_
    refine u_icmp_gt (tgt := 16) hC dX11_isFigure_9 (by decide) hf (fun h9 hf => ?_) (fun h9 hf => ?_)
    · refine u_sub (lv' := []) [] rfl ?_
      exact wjX11_isFigure_16 hC n S    hf hR
    · refine u_iconst (v := (1 : Int32)) hC dX11_isFigure_12 (by decide) ?_
      refine u_goto (tgt := 17) hC dX11_isFigure_13 (by decide) ?_
      refine u_sub (lv' := []) [] rfl ?_
      exact wjX11_isFigure_17 hC n S (1 : Int32)   hf hR
theorem ctX11_isFigure (l : Launch) (hl : l.stackTraces = false) (G : GT) (ρ : Nat → Nat) (Y : XS) (n : Nat) (S : PS) (x0_ : Int32)  {o : Int32} (hf : fX11_isFigure Y n S x0_ = some o) : Mt l G yX11_isFigure cX11_isFigure 1 (some .boolean) 1 ρ Y [.int x0_] S (some (.int o)) S :=
  Mt_of hl (by decide) (Nat.le_of_ble_eq_true rfl) (fun C _ _ hC hR => wX11_isFigure (X := (ρ, Y, 0, 0)) hC n S x0_  hf hR)
-- X11_lawNumber
theorem dX11_lawNumber_0 : decode cX11_lawNumber 0 = .ok (.iconst 0, 1) := by decide +kernel
theorem dX11_lawNumber_1 : decode cX11_lawNumber 1 = .ok (.istore_n 1, 1) := by decide +kernel
theorem dX11_lawNumber_2 : decode cX11_lawNumber 2 = .ok (.aload_n 0, 1) := by decide +kernel
theorem dX11_lawNumber_3 : decode cX11_lawNumber 3 = .ok (.getfield 91, 3) := by decide +kernel
theorem dX11_lawNumber_6 : decode cX11_lawNumber 6 = .ok (.aload_n 0, 1) := by decide +kernel
theorem dX11_lawNumber_7 : decode cX11_lawNumber 7 = .ok (.getfield 9, 3) := by decide +kernel
theorem dX11_lawNumber_10 : decode cX11_lawNumber 10 = .ok (.sipush 376, 3) := by decide +kernel
theorem dX11_lawNumber_13 : decode cX11_lawNumber 13 = .ok (.iaload, 1) := by decide +kernel
theorem dX11_lawNumber_14 : decode cX11_lawNumber 14 = .ok (.if_icmp .ge 63, 3) := by decide +kernel
theorem dX11_lawNumber_17 : decode cX11_lawNumber 17 = .ok (.aload_n 0, 1) := by decide +kernel
theorem dX11_lawNumber_18 : decode cX11_lawNumber 18 = .ok (.getfield 9, 3) := by decide +kernel
theorem dX11_lawNumber_21 : decode cX11_lawNumber 21 = .ok (.sipush 377, 3) := by decide +kernel
theorem dX11_lawNumber_24 : decode cX11_lawNumber 24 = .ok (.aload_n 0, 1) := by decide +kernel
theorem dX11_lawNumber_25 : decode cX11_lawNumber 25 = .ok (.getfield 91, 3) := by decide +kernel
theorem dX11_lawNumber_28 : decode cX11_lawNumber 28 = .ok (.iadd, 1) := by decide +kernel
theorem dX11_lawNumber_29 : decode cX11_lawNumber 29 = .ok (.iaload, 1) := by decide +kernel
theorem dX11_lawNumber_30 : decode cX11_lawNumber 30 = .ok (.invokestatic 100, 3) := by decide +kernel
theorem dX11_lawNumber_33 : decode cX11_lawNumber 33 = .ok (.ifCond .eq 44, 3) := by decide +kernel
theorem dX11_lawNumber_36 : decode cX11_lawNumber 36 = .ok (.sipush 9999, 3) := by decide +kernel
theorem dX11_lawNumber_39 : decode cX11_lawNumber 39 = .ok (.bipush 10, 2) := by decide +kernel
theorem dX11_lawNumber_41 : decode cX11_lawNumber 41 = .ok (.iload_n 1, 1) := by decide +kernel
theorem dX11_lawNumber_42 : decode cX11_lawNumber 42 = .ok (.imul, 1) := by decide +kernel
theorem dX11_lawNumber_43 : decode cX11_lawNumber 43 = .ok (.aload_n 0, 1) := by decide +kernel
theorem dX11_lawNumber_44 : decode cX11_lawNumber 44 = .ok (.getfield 9, 3) := by decide +kernel
theorem dX11_lawNumber_47 : decode cX11_lawNumber 47 = .ok (.sipush 377, 3) := by decide +kernel
theorem dX11_lawNumber_50 : decode cX11_lawNumber 50 = .ok (.aload_n 0, 1) := by decide +kernel
theorem dX11_lawNumber_51 : decode cX11_lawNumber 51 = .ok (.getfield 91, 3) := by decide +kernel
theorem dX11_lawNumber_54 : decode cX11_lawNumber 54 = .ok (.iadd, 1) := by decide +kernel
theorem dX11_lawNumber_55 : decode cX11_lawNumber 55 = .ok (.iaload, 1) := by decide +kernel
theorem dX11_lawNumber_56 : decode cX11_lawNumber 56 = .ok (.iadd, 1) := by decide +kernel
theorem dX11_lawNumber_57 : decode cX11_lawNumber 57 = .ok (.bipush 48, 2) := by decide +kernel
theorem dX11_lawNumber_59 : decode cX11_lawNumber 59 = .ok (.isub, 1) := by decide +kernel
theorem dX11_lawNumber_60 : decode cX11_lawNumber 60 = .ok (.invokestatic 111, 3) := by decide +kernel
theorem dX11_lawNumber_63 : decode cX11_lawNumber 63 = .ok (.istore_n 1, 1) := by decide +kernel
theorem dX11_lawNumber_64 : decode cX11_lawNumber 64 = .ok (.aload_n 0, 1) := by decide +kernel
theorem dX11_lawNumber_65 : decode cX11_lawNumber 65 = .ok (.dup, 1) := by decide +kernel
theorem dX11_lawNumber_66 : decode cX11_lawNumber 66 = .ok (.getfield 91, 3) := by decide +kernel
theorem dX11_lawNumber_69 : decode cX11_lawNumber 69 = .ok (.iconst 1, 1) := by decide +kernel
theorem dX11_lawNumber_70 : decode cX11_lawNumber 70 = .ok (.iadd, 1) := by decide +kernel
theorem dX11_lawNumber_71 : decode cX11_lawNumber 71 = .ok (.putfield 91, 3) := by decide +kernel
theorem dX11_lawNumber_74 : decode cX11_lawNumber 74 = .ok (.goto (-72), 3) := by decide +kernel
theorem dX11_lawNumber_77 : decode cX11_lawNumber 77 = .ok (.iload_n 1, 1) := by decide +kernel
theorem dX11_lawNumber_78 : decode cX11_lawNumber 78 = .ok (.ireturn, 1) := by decide +kernel
def bX11_lawNumber_2 (Y : XS) (n : Nat) (v0 : Nat) (s2 : (Int32 × PS)) : Option ((Int32 × PS) ⊕ (Int32 × PS)) :=
  kgi s2.2 v0 8 (fun x3 => kgr s2.2 v0 0 (fun b7 => kai Y s2.2 b7 (376 : Int32) (fun x13 => (if x13 ≤ x3 then some (.inr (s2.1, s2.2)) else kgr s2.2 v0 0 (fun b18 => kgi s2.2 v0 8 (fun x25 => kai Y s2.2 b18 ((377 : Int32) + x25) (fun x29 => kc (fX11_isFigure Y n s2.2 x29) (fun q30 => (if q30 = 0 then some (.inr (s2.1, s2.2)) else kgr s2.2 v0 0 (fun b44 => kgi s2.2 v0 8 (fun x51 => kai Y s2.2 b44 ((377 : Int32) + x51) (fun x55 => kgi s2.2 v0 8 (fun x66 => kpi s2.2 v0 8 (x66 + (1 : Int32)) (fun S71 => some (.inl (imin (9999 : Int32) ((((10 : Int32) * s2.1) + x55) - (48 : Int32)), S71))))))))))))))))
def jX11_lawNumber_77 (Y : XS) (n : Nat) (S : PS) (v1 : Int32) : Option (Int32 × PS) :=
  some (v1, S)
def fX11_lawNumber (Y : XS) (n : Nat) (S : PS) (a0 : Nat) : Option (Int32 × PS) :=
  kc (iter (bX11_lawNumber_2 Y n a0) n ((0 : Int32), S)) (fun r2 => jX11_lawNumber_77 Y n r2.2 r2.1)
theorem wbX11_lawNumber_2 {C : CT} {X : XT} (hC : CK C RX11 cX11_lawNumber 2 (some .int) 2) (n : Nat) (v0 : Nat) (hTv0 : Ty X.2.1 v0 11) (s2 : (Int32 × PS)) {o : (Int32 × PS) ⊕ (Int32 × PS)} (hf : bX11_lawNumber_2 X.2.1 n v0 s2 = some o) (hN : ∀ s', o = .inl s' → UW C X s'.2 2 [(0, .ref (X.1 v0)), (1, .int s'.1)] []) (hO0 : ∀ p', o = .inr p' → UW C X p'.2 77 [(1, .int p'.1)] []) : UW C X s2.2 2 [(0, .ref (X.1 v0)), (1, .int s2.1)] [] := by
  unfold bX11_lawNumber_2 at hf
  refine u_aload_n hC dX11_lawNumber_2 0 rfl rfl ?_
  refine u_gi hC lf_X11_91 rfl hTv0 dX11_lawNumber_3 hf (fun x3 hf => ?_)
  refine u_aload_n hC dX11_lawNumber_6 0 rfl rfl ?_
  refine u_gr hC lf_X11_9 rfl hTv0 dX11_lawNumber_7 hf (fun b7 hTb7 hf => ?_)
  refine u_sipush (v := (376 : Int32)) hC dX11_lawNumber_10 (by decide) ?_
  refine u_ai hC hTb7 dX11_lawNumber_13 hf (fun x13 hf => ?_)
  refine u_icmp_ge (tgt := 77) hC dX11_lawNumber_14 (by decide) hf (fun h14 hf => ?_) (fun h14 hf => ?_)
  · refine u_sub (lv' := [(1, .int s2.1)]) [1] rfl ?_
    exact hO0 _ (Option.some.inj hf).symm
  · refine u_aload_n hC dX11_lawNumber_17 0 rfl rfl ?_
    refine u_gr hC lf_X11_9 rfl hTv0 dX11_lawNumber_18 hf (fun b18 hTb18 hf => ?_)
    refine u_sipush (v := (377 : Int32)) hC dX11_lawNumber_21 (by decide) ?_
    refine u_aload_n hC dX11_lawNumber_24 0 rfl rfl ?_
    refine u_gi hC lf_X11_91 rfl hTv0 dX11_lawNumber_25 hf (fun x25 hf => ?_)
    refine u_iadd hC dX11_lawNumber_28 ?_
    refine u_ai hC hTb18 dX11_lawNumber_29 hf (fun x29 hf => ?_)
    obtain ⟨q30, hq30, hf⟩ := kc_some hf
    refine u_callS hC (ctX11_isFigure (cL C) hC.tr (cG C) X.1 X.2.1 n s2.2 x29  hq30) lk_X11_100 (by decide) (by decide) rfl rfl (Nat.le_of_ble_eq_true rfl) dX11_lawNumber_30 ?_
    refine u_if_eq (tgt := 77) hC dX11_lawNumber_33 (by decide) hf (fun h33 hf => ?_) (fun h33 hf => ?_)
    · refine u_sub (lv' := [(1, .int s2.1)]) [1] rfl ?_
      exact hO0 _ (Option.some.inj hf).symm
    · refine u_sipush (v := (9999 : Int32)) hC dX11_lawNumber_36 (by decide) ?_
      refine u_bipush (v := (10 : Int32)) hC dX11_lawNumber_39 (by decide) ?_
      refine u_iload_n hC dX11_lawNumber_41 1 rfl rfl ?_
      refine u_imul hC dX11_lawNumber_42 ?_
      refine u_aload_n hC dX11_lawNumber_43 0 rfl rfl ?_
      refine u_gr hC lf_X11_9 rfl hTv0 dX11_lawNumber_44 hf (fun b44 hTb44 hf => ?_)
      refine u_sipush (v := (377 : Int32)) hC dX11_lawNumber_47 (by decide) ?_
      refine u_aload_n hC dX11_lawNumber_50 0 rfl rfl ?_
      refine u_gi hC lf_X11_91 rfl hTv0 dX11_lawNumber_51 hf (fun x51 hf => ?_)
      refine u_iadd hC dX11_lawNumber_54 ?_
      refine u_ai hC hTb44 dX11_lawNumber_55 hf (fun x55 hf => ?_)
      refine u_iadd hC dX11_lawNumber_56 ?_
      refine u_bipush (v := (48 : Int32)) hC dX11_lawNumber_57 (by decide) ?_
      refine u_isub hC dX11_lawNumber_59 ?_
      refine u_mmin hC (tb_6 226 rfl rfl) (by decide) (Nat.le_of_ble_eq_true rfl) dX11_lawNumber_60 ?_
      refine u_istore_n (lv' := [(1, .int (imin (9999 : Int32) ((((10 : Int32) * s2.1) + x55) - (48 : Int32)))), (0, .ref (X.1 v0))]) hC dX11_lawNumber_63 rfl (by decide) rfl ?_
      refine u_aload_n hC dX11_lawNumber_64 1 rfl rfl ?_
      refine u_dup hC dX11_lawNumber_65 rfl ?_
      refine u_gi hC lf_X11_91 rfl hTv0 dX11_lawNumber_66 hf (fun x66 hf => ?_)
      refine u_iconst (v := (1 : Int32)) hC dX11_lawNumber_69 (by decide) ?_
      refine u_iadd hC dX11_lawNumber_70 ?_
      refine u_pi hC lf_X11_91 rfl rfl rfl hTv0 dX11_lawNumber_71 hf (fun S71 hf => ?_)
      refine u_goto (tgt := 2) hC dX11_lawNumber_74 (by decide) ?_
      refine u_sub (lv' := [(0, .ref (X.1 v0)), (1, .int (imin (9999 : Int32) ((((10 : Int32) * s2.1) + x55) - (48 : Int32))))]) [1, 0] rfl ?_
      exact hN _ (Option.some.inj hf).symm
theorem wjX11_lawNumber_77 {C : CT} {X : XT} (hC : CK C RX11 cX11_lawNumber 2 (some .int) 2) (n : Nat) (S : PS) (v1 : Int32)   {o : Int32 × PS} (hf : jX11_lawNumber_77 X.2.1 n S v1 = some o) (hR : Rt C X cX11_lawNumber (some .int) (some (.int o.1)) o.2) : UW C X S 77 [(1, .int v1)] [] := by
  unfold jX11_lawNumber_77 at hf
  refine u_iload_n hC dX11_lawNumber_77 0 rfl rfl ?_
  cases hf
  exact hR _ _ dX11_lawNumber_78 trivial
theorem wX11_lawNumber {C : CT} {X : XT} (hC : CK C RX11 cX11_lawNumber 2 (some .int) 2) (n : Nat) (S : PS) (a0 : Nat) (hTa0 : Ty X.2.1 a0 11) {o : Int32 × PS} (hf : fX11_lawNumber X.2.1 n S a0 = some o) (hR : Rt C X cX11_lawNumber (some .int) (some (.int o.1)) o.2) : UW C X S 0 [(0, .ref (X.1 a0))] [] := by
  unfold fX11_lawNumber at hf
  refine u_iconst (v := (0 : Int32)) hC dX11_lawNumber_0 (by decide) ?_
  refine u_istore_n (lv' := [(1, .int (0 : Int32)), (0, .ref (X.1 a0))]) hC dX11_lawNumber_1 rfl (by decide) rfl ?_
  obtain ⟨r2, hr2, hf⟩ := kc_some hf
  have hk2 : UW C X r2.2 77 [(1, .int r2.1)] [] := by
    exact wjX11_lawNumber_77 hC n r2.2 r2.1   hf hR
  refine u_sub (lv' := [(0, .ref (X.1 a0)), (1, .int (0 : Int32))]) [1, 0] rfl ?_
  refine iter_ind (P := fun s2 => UW C X s2.2 2 [(0, .ref (X.1 a0)), (1, .int s2.1)] []) (fun s2 o' hb hin hout => ?_) n ((0 : Int32), S) hr2
  exact wbX11_lawNumber_2 hC n a0 hTa0 s2 hb hin (fun p e => by rw [hout p e]; exact hk2)
theorem ctX11_lawNumber (l : Launch) (hl : l.stackTraces = false) (G : GT) (ρ : Nat → Nat) (Y : XS) (n : Nat) (S : PS) (a0 : Nat) (hTa0 : Ty Y a0 11) {o : Int32 × PS} (hf : fX11_lawNumber Y n S a0 = some o) : Mt l G yX11_lawNumber cX11_lawNumber 2 (some .int) 2 ρ Y [.ref (ρ a0)] S (some (.int o.1)) o.2 :=
  Mt_of hl (by decide) (Nat.le_of_ble_eq_true rfl) (fun C _ _ hC hR => wX11_lawNumber (X := (ρ, Y, 0, 0)) hC n S a0 hTa0 hf hR)
-- X11_isSmall
theorem dX11_isSmall_0 : decode cX11_isSmall 0 = .ok (.iload_n 0, 1) := by decide +kernel
theorem dX11_isSmall_1 : decode cX11_isSmall 1 = .ok (.bipush 97, 2) := by decide +kernel
theorem dX11_isSmall_3 : decode cX11_isSmall 3 = .ok (.if_icmp .lt 13, 3) := by decide +kernel
theorem dX11_isSmall_6 : decode cX11_isSmall 6 = .ok (.iload_n 0, 1) := by decide +kernel
theorem dX11_isSmall_7 : decode cX11_isSmall 7 = .ok (.bipush 122, 2) := by decide +kernel
theorem dX11_isSmall_9 : decode cX11_isSmall 9 = .ok (.if_icmp .gt 7, 3) := by decide +kernel
theorem dX11_isSmall_12 : decode cX11_isSmall 12 = .ok (.iconst 1, 1) := by decide +kernel
theorem dX11_isSmall_13 : decode cX11_isSmall 13 = .ok (.goto 4, 3) := by decide +kernel
theorem dX11_isSmall_16 : decode cX11_isSmall 16 = .ok (.iconst 0, 1) := by decide +kernel
theorem dX11_isSmall_17 : decode cX11_isSmall 17 = .ok (.ireturn, 1) := by decide +kernel
def jX11_isSmall_17 (Y : XS) (n : Nat) (S : PS) (t0 : Int32) : Option (Int32) :=
  kzr t0 (some t0)
def jX11_isSmall_16 (Y : XS) (n : Nat) (S : PS)  : Option (Int32) :=
  jX11_isSmall_17 Y n S (0 : Int32)
def fX11_isSmall (Y : XS) (n : Nat) (S : PS) (x0_ : Int32) : Option (Int32) :=
  (if x0_ < (97 : Int32) then jX11_isSmall_16 Y n S  else (if (122 : Int32) < x0_ then jX11_isSmall_16 Y n S  else jX11_isSmall_17 Y n S (1 : Int32)))
theorem wjX11_isSmall_17 {C : CT} {X : XT} (hC : CK C RX11 cX11_isSmall 1 (some .boolean) 1) (n : Nat) (S : PS) (t0 : Int32)   {o : Int32} (hf : jX11_isSmall_17 X.2.1 n S t0 = some o) (hR : Rt C X cX11_isSmall (some .boolean) (some (.int o)) S) : UW C X S 17 [] [.int t0] := by
  unfold jX11_isSmall_17 at hf
  obtain ⟨hz, hf⟩ := kzr_some hf
  cases hf
  exact hR _ _ dX11_isSmall_17 hz
theorem wjX11_isSmall_16 {C : CT} {X : XT} (hC : CK C RX11 cX11_isSmall 1 (some .boolean) 1) (n : Nat) (S : PS)    {o : Int32} (hf : jX11_isSmall_16 X.2.1 n S  = some o) (hR : Rt C X cX11_isSmall (some .boolean) (some (.int o)) S) : UW C X S 16 [] [] := by
  unfold jX11_isSmall_16 at hf
  refine u_iconst (v := (0 : Int32)) hC dX11_isSmall_16 (by decide) ?_
  exact wjX11_isSmall_17 hC n S (0 : Int32)   hf hR
theorem wX11_isSmall {C : CT} {X : XT} (hC : CK C RX11 cX11_isSmall 1 (some .boolean) 1) (n : Nat) (S : PS) (x0_ : Int32)  {o : Int32} (hf : fX11_isSmall X.2.1 n S x0_ = some o) (hR : Rt C X cX11_isSmall (some .boolean) (some (.int o)) S) : UW C X S 0 [(0, .int x0_)] [] := by
  unfold fX11_isSmall at hf
  refine u_iload_n hC dX11_isSmall_0 0 rfl rfl ?_
  refine u_bipush (v := (97 : Int32)) hC dX11_isSmall_1 (by decide) ?_
  refine u_icmp_lt (tgt := 16) hC dX11_isSmall_3 (by decide) hf (fun h3 hf => ?_) (fun h3 hf => ?_)
  · refine u_sub (lv' := []) [] rfl ?_
    exact wjX11_isSmall_16 hC n S    hf hR
  · refine u_iload_n hC dX11_isSmall_6 0 rfl rfl ?_
    refine u_bipush (v := (122 : Int32)) hC dX11_isSmall_7 (by decide) ?_
    refine u_icmp_gt (tgt := 16) hC dX11_isSmall_9 (by decide) hf (fun h9 hf => ?_) (fun h9 hf => ?_)
    · refine u_sub (lv' := []) [] rfl ?_
      exact wjX11_isSmall_16 hC n S    hf hR
    · refine u_iconst (v := (1 : Int32)) hC dX11_isSmall_12 (by decide) ?_
      refine u_goto (tgt := 17) hC dX11_isSmall_13 (by decide) ?_
      refine u_sub (lv' := []) [] rfl ?_
      exact wjX11_isSmall_17 hC n S (1 : Int32)   hf hR
theorem ctX11_isSmall (l : Launch) (hl : l.stackTraces = false) (G : GT) (ρ : Nat → Nat) (Y : XS) (n : Nat) (S : PS) (x0_ : Int32)  {o : Int32} (hf : fX11_isSmall Y n S x0_ = some o) : Mt l G yX11_isSmall cX11_isSmall 1 (some .boolean) 1 ρ Y [.int x0_] S (some (.int o)) S :=
  Mt_of hl (by decide) (Nat.le_of_ble_eq_true rfl) (fun C _ _ hC hR => wX11_isSmall (X := (ρ, Y, 0, 0)) hC n S x0_  hf hR)
-- X11_lawWord
theorem dX11_lawWord_0 : decode cX11_lawWord 0 = .ok (.aload_n 0, 1) := by decide +kernel
theorem dX11_lawWord_1 : decode cX11_lawWord 1 = .ok (.getfield 91, 3) := by decide +kernel
theorem dX11_lawWord_4 : decode cX11_lawWord 4 = .ok (.aload_n 0, 1) := by decide +kernel
theorem dX11_lawWord_5 : decode cX11_lawWord 5 = .ok (.getfield 9, 3) := by decide +kernel
theorem dX11_lawWord_8 : decode cX11_lawWord 8 = .ok (.sipush 376, 3) := by decide +kernel
theorem dX11_lawWord_11 : decode cX11_lawWord 11 = .ok (.iaload, 1) := by decide +kernel
theorem dX11_lawWord_12 : decode cX11_lawWord 12 = .ok (.if_icmp .ge 35, 3) := by decide +kernel
theorem dX11_lawWord_15 : decode cX11_lawWord 15 = .ok (.aload_n 0, 1) := by decide +kernel
theorem dX11_lawWord_16 : decode cX11_lawWord 16 = .ok (.getfield 9, 3) := by decide +kernel
theorem dX11_lawWord_19 : decode cX11_lawWord 19 = .ok (.sipush 377, 3) := by decide +kernel
theorem dX11_lawWord_22 : decode cX11_lawWord 22 = .ok (.aload_n 0, 1) := by decide +kernel
theorem dX11_lawWord_23 : decode cX11_lawWord 23 = .ok (.getfield 91, 3) := by decide +kernel
theorem dX11_lawWord_26 : decode cX11_lawWord 26 = .ok (.iadd, 1) := by decide +kernel
theorem dX11_lawWord_27 : decode cX11_lawWord 27 = .ok (.iaload, 1) := by decide +kernel
theorem dX11_lawWord_28 : decode cX11_lawWord 28 = .ok (.invokestatic 116, 3) := by decide +kernel
theorem dX11_lawWord_31 : decode cX11_lawWord 31 = .ok (.ifCond .eq 16, 3) := by decide +kernel
theorem dX11_lawWord_34 : decode cX11_lawWord 34 = .ok (.aload_n 0, 1) := by decide +kernel
theorem dX11_lawWord_35 : decode cX11_lawWord 35 = .ok (.dup, 1) := by decide +kernel
theorem dX11_lawWord_36 : decode cX11_lawWord 36 = .ok (.getfield 91, 3) := by decide +kernel
theorem dX11_lawWord_39 : decode cX11_lawWord 39 = .ok (.iconst 1, 1) := by decide +kernel
theorem dX11_lawWord_40 : decode cX11_lawWord 40 = .ok (.iadd, 1) := by decide +kernel
theorem dX11_lawWord_41 : decode cX11_lawWord 41 = .ok (.putfield 91, 3) := by decide +kernel
theorem dX11_lawWord_44 : decode cX11_lawWord 44 = .ok (.goto (-44), 3) := by decide +kernel
theorem dX11_lawWord_47 : decode cX11_lawWord 47 = .ok (.iload_n 1, 1) := by decide +kernel
theorem dX11_lawWord_48 : decode cX11_lawWord 48 = .ok (.lookupswitch 51 #[(99, 41), (108, 46), (115, 36)], 36) := by decide +kernel
theorem dX11_lawWord_84 : decode cX11_lawWord 84 = .ok (.aload_n 0, 1) := by decide +kernel
theorem dX11_lawWord_85 : decode cX11_lawWord 85 = .ok (.getfield 119, 3) := by decide +kernel
theorem dX11_lawWord_88 : decode cX11_lawWord 88 = .ok (.ireturn, 1) := by decide +kernel
theorem dX11_lawWord_89 : decode cX11_lawWord 89 = .ok (.aload_n 0, 1) := by decide +kernel
theorem dX11_lawWord_90 : decode cX11_lawWord 90 = .ok (.getfield 122, 3) := by decide +kernel
theorem dX11_lawWord_93 : decode cX11_lawWord 93 = .ok (.ireturn, 1) := by decide +kernel
theorem dX11_lawWord_94 : decode cX11_lawWord 94 = .ok (.aload_n 0, 1) := by decide +kernel
theorem dX11_lawWord_95 : decode cX11_lawWord 95 = .ok (.getfield 125, 3) := by decide +kernel
theorem dX11_lawWord_98 : decode cX11_lawWord 98 = .ok (.ireturn, 1) := by decide +kernel
theorem dX11_lawWord_99 : decode cX11_lawWord 99 = .ok (.aload_n 0, 1) := by decide +kernel
theorem dX11_lawWord_100 : decode cX11_lawWord 100 = .ok (.invokevirtual 85, 3) := by decide +kernel
theorem dX11_lawWord_103 : decode cX11_lawWord 103 = .ok (.ireturn, 1) := by decide +kernel
def bX11_lawWord_0 (Y : XS) (n : Nat) (v0 : Nat) (v1 : Int32) (s0 : PS) : Option (PS ⊕ PS) :=
  kgi s0 v0 8 (fun x1 => kgr s0 v0 0 (fun b5 => kai Y s0 b5 (376 : Int32) (fun x11 => (if x11 ≤ x1 then some (.inr s0) else kgr s0 v0 0 (fun b16 => kgi s0 v0 8 (fun x23 => kai Y s0 b16 ((377 : Int32) + x23) (fun x27 => kc (fX11_isSmall Y n s0 x27) (fun q28 => (if q28 = 0 then some (.inr s0) else kgi s0 v0 8 (fun x36 => kpi s0 v0 8 (x36 + (1 : Int32)) (fun S41 => some (.inl S41))))))))))))
def jX11_lawWord_47 (Y : XS) (n : Nat) (S : PS) (v0 : Nat) (v1 : Int32) : Option (Int32 × PS) :=
  (if v1 = (99 : Int32) then kgi S v0 10 (fun x90 => some (x90, S)) else (if v1 = (108 : Int32) then kgi S v0 11 (fun x95 => some (x95, S)) else (if v1 = (115 : Int32) then kgi S v0 9 (fun x85 => some (x85, S)) else kc (fX11_people Y n S v0) (fun q100 => some (q100, S)))))
def fX11_lawWord (Y : XS) (n : Nat) (S : PS) (a0 : Nat) (x1_ : Int32) : Option (Int32 × PS) :=
  kc (iter (bX11_lawWord_0 Y n a0 x1_) n S) (fun r0 => jX11_lawWord_47 Y n r0 a0 x1_)
theorem wbX11_lawWord_0 {C : CT} {X : XT} (hC : CK C RX11 cX11_lawWord 2 (some .int) 2) (n : Nat) (v0 : Nat) (v1 : Int32) (hTv0 : Ty X.2.1 v0 11) (s0 : PS) {o : PS ⊕ PS} (hf : bX11_lawWord_0 X.2.1 n v0 v1 s0 = some o) (hN : ∀ s', o = .inl s' → UW C X s' 0 [(0, .ref (X.1 v0)), (1, .int v1)] []) (hO0 : ∀ p', o = .inr p' → UW C X p' 47 [(0, .ref (X.1 v0)), (1, .int v1)] []) : UW C X s0 0 [(0, .ref (X.1 v0)), (1, .int v1)] [] := by
  unfold bX11_lawWord_0 at hf
  refine u_aload_n hC dX11_lawWord_0 0 rfl rfl ?_
  refine u_gi hC lf_X11_91 rfl hTv0 dX11_lawWord_1 hf (fun x1 hf => ?_)
  refine u_aload_n hC dX11_lawWord_4 0 rfl rfl ?_
  refine u_gr hC lf_X11_9 rfl hTv0 dX11_lawWord_5 hf (fun b5 hTb5 hf => ?_)
  refine u_sipush (v := (376 : Int32)) hC dX11_lawWord_8 (by decide) ?_
  refine u_ai hC hTb5 dX11_lawWord_11 hf (fun x11 hf => ?_)
  refine u_icmp_ge (tgt := 47) hC dX11_lawWord_12 (by decide) hf (fun h12 hf => ?_) (fun h12 hf => ?_)
  · exact hO0 _ (Option.some.inj hf).symm
  · refine u_aload_n hC dX11_lawWord_15 0 rfl rfl ?_
    refine u_gr hC lf_X11_9 rfl hTv0 dX11_lawWord_16 hf (fun b16 hTb16 hf => ?_)
    refine u_sipush (v := (377 : Int32)) hC dX11_lawWord_19 (by decide) ?_
    refine u_aload_n hC dX11_lawWord_22 0 rfl rfl ?_
    refine u_gi hC lf_X11_91 rfl hTv0 dX11_lawWord_23 hf (fun x23 hf => ?_)
    refine u_iadd hC dX11_lawWord_26 ?_
    refine u_ai hC hTb16 dX11_lawWord_27 hf (fun x27 hf => ?_)
    obtain ⟨q28, hq28, hf⟩ := kc_some hf
    refine u_callS hC (ctX11_isSmall (cL C) hC.tr (cG C) X.1 X.2.1 n s0 x27  hq28) lk_X11_116 (by decide) (by decide) rfl rfl (Nat.le_of_ble_eq_true rfl) dX11_lawWord_28 ?_
    refine u_if_eq (tgt := 47) hC dX11_lawWord_31 (by decide) hf (fun h31 hf => ?_) (fun h31 hf => ?_)
    · exact hO0 _ (Option.some.inj hf).symm
    · refine u_aload_n hC dX11_lawWord_34 0 rfl rfl ?_
      refine u_dup hC dX11_lawWord_35 rfl ?_
      refine u_gi hC lf_X11_91 rfl hTv0 dX11_lawWord_36 hf (fun x36 hf => ?_)
      refine u_iconst (v := (1 : Int32)) hC dX11_lawWord_39 (by decide) ?_
      refine u_iadd hC dX11_lawWord_40 ?_
      refine u_pi hC lf_X11_91 rfl rfl rfl hTv0 dX11_lawWord_41 hf (fun S41 hf => ?_)
      refine u_goto (tgt := 0) hC dX11_lawWord_44 (by decide) ?_
      exact hN _ (Option.some.inj hf).symm
theorem wjX11_lawWord_47 {C : CT} {X : XT} (hC : CK C RX11 cX11_lawWord 2 (some .int) 2) (n : Nat) (S : PS) (v0 : Nat) (v1 : Int32)  (hTv0 : Ty X.2.1 v0 11) {o : Int32 × PS} (hf : jX11_lawWord_47 X.2.1 n S v0 v1 = some o) (hR : Rt C X cX11_lawWord (some .int) (some (.int o.1)) o.2) : UW C X S 47 [(0, .ref (X.1 v0)), (1, .int v1)] [] := by
  unfold jX11_lawWord_47 at hf
  refine u_iload_n hC dX11_lawWord_47 1 rfl rfl ?_
  by_cases hs48_0 : v1 = (99 : Int32)
  · rw [if_pos hs48_0] at hf
    refine u_look (off := 41) (tgt := 89) hC dX11_lawWord_48 (by decide) (by rw [hs48_0]; try rfl) (by decide) ?_
    refine u_aload_n hC dX11_lawWord_89 0 rfl rfl ?_
    refine u_gi hC lf_X11_122 rfl hTv0 dX11_lawWord_90 hf (fun x90 hf => ?_)
    cases hf
    exact hR _ _ dX11_lawWord_93 trivial
  rw [if_neg hs48_0] at hf
  by_cases hs48_1 : v1 = (108 : Int32)
  · rw [if_pos hs48_1] at hf
    refine u_look (off := 46) (tgt := 94) hC dX11_lawWord_48 (by decide) (by rw [hs48_1]; try rfl) (by decide) ?_
    refine u_aload_n hC dX11_lawWord_94 0 rfl rfl ?_
    refine u_gi hC lf_X11_125 rfl hTv0 dX11_lawWord_95 hf (fun x95 hf => ?_)
    cases hf
    exact hR _ _ dX11_lawWord_98 trivial
  rw [if_neg hs48_1] at hf
  by_cases hs48_2 : v1 = (115 : Int32)
  · rw [if_pos hs48_2] at hf
    refine u_look (off := 36) (tgt := 84) hC dX11_lawWord_48 (by decide) (by rw [hs48_2]; try rfl) (by decide) ?_
    refine u_aload_n hC dX11_lawWord_84 0 rfl rfl ?_
    refine u_gi hC lf_X11_119 rfl hTv0 dX11_lawWord_85 hf (fun x85 hf => ?_)
    cases hf
    exact hR _ _ dX11_lawWord_88 trivial
  rw [if_neg hs48_2] at hf
  refine u_look (off := 51) (tgt := 99) hC dX11_lawWord_48 (by decide) (by show Op.lookupswitch.offset [(99, 41), (108, 46), (115, 36)] 51 (Int32.toInt v1) = 51; rw [lv_osw hs48_0 (by decide), lv_osw hs48_1 (by decide), lv_osw hs48_2 (by decide)]; rfl) (by decide) ?_
  refine u_aload_n hC dX11_lawWord_99 0 rfl rfl ?_
  obtain ⟨q100, hq100, hf⟩ := kc_some hf
  refine u_callV hC (ctX11_people (cL C) hC.tr (cG C) X.1 X.2.1 n S v0 hTv0 hq100) lk_X11_85 rfl hTv0 (by decide) rfl (by decide) (by decide) rfl rfl (Nat.le_of_ble_eq_true rfl) dX11_lawWord_100 ?_
  cases hf
  exact hR _ _ dX11_lawWord_103 trivial
theorem wX11_lawWord {C : CT} {X : XT} (hC : CK C RX11 cX11_lawWord 2 (some .int) 2) (n : Nat) (S : PS) (a0 : Nat) (x1_ : Int32) (hTa0 : Ty X.2.1 a0 11) {o : Int32 × PS} (hf : fX11_lawWord X.2.1 n S a0 x1_ = some o) (hR : Rt C X cX11_lawWord (some .int) (some (.int o.1)) o.2) : UW C X S 0 [(0, .ref (X.1 a0)), (1, .int x1_)] [] := by
  unfold fX11_lawWord at hf
  obtain ⟨r0, hr0, hf⟩ := kc_some hf
  have hk0 : UW C X r0 47 [(0, .ref (X.1 a0)), (1, .int x1_)] [] := by
    exact wjX11_lawWord_47 hC n r0 a0 x1_  hTa0 hf hR
  refine iter_ind (P := fun s0 => UW C X s0 0 [(0, .ref (X.1 a0)), (1, .int x1_)] []) (fun s0 o' hb hin hout => ?_) n S hr0
  exact wbX11_lawWord_0 hC n a0 x1_ hTa0 s0 hb hin (fun p e => by rw [hout p e]; exact hk0)
theorem ctX11_lawWord (l : Launch) (hl : l.stackTraces = false) (G : GT) (ρ : Nat → Nat) (Y : XS) (n : Nat) (S : PS) (a0 : Nat) (x1_ : Int32) (hTa0 : Ty Y a0 11) {o : Int32 × PS} (hf : fX11_lawWord Y n S a0 x1_ = some o) : Mt l G yX11_lawWord cX11_lawWord 2 (some .int) 2 ρ Y [.ref (ρ a0), .int x1_] S (some (.int o.1)) o.2 :=
  Mt_of hl (by decide) (Nat.le_of_ble_eq_true rfl) (fun C _ _ hC hR => wX11_lawWord (X := (ρ, Y, 0, 0)) hC n S a0 x1_ hTa0 hf hR)
-- X11_worthTo
theorem dX11_worthTo_0 : decode cX11_worthTo 0 = .ok (.iconst 0, 1) := by decide +kernel
theorem dX11_worthTo_1 : decode cX11_worthTo 1 = .ok (.istore_n 3, 1) := by decide +kernel
theorem dX11_worthTo_2 : decode cX11_worthTo 2 = .ok (.iconst 0, 1) := by decide +kernel
theorem dX11_worthTo_3 : decode cX11_worthTo 3 = .ok (.istore 4, 2) := by decide +kernel
theorem dX11_worthTo_5 : decode cX11_worthTo 5 = .ok (.iload 4, 2) := by decide +kernel
theorem dX11_worthTo_7 : decode cX11_worthTo 7 = .ok (.aload_n 0, 1) := by decide +kernel
theorem dX11_worthTo_8 : decode cX11_worthTo 8 = .ok (.invokevirtual 77, 3) := by decide +kernel
theorem dX11_worthTo_11 : decode cX11_worthTo 11 = .ok (.if_icmp .ge 37, 3) := by decide +kernel
theorem dX11_worthTo_14 : decode cX11_worthTo 14 = .ok (.iload_n 3, 1) := by decide +kernel
theorem dX11_worthTo_15 : decode cX11_worthTo 15 = .ok (.iload_n 2, 1) := by decide +kernel
theorem dX11_worthTo_16 : decode cX11_worthTo 16 = .ok (.iload 4, 2) := by decide +kernel
theorem dX11_worthTo_18 : decode cX11_worthTo 18 = .ok (.invokestatic 147, 3) := by decide +kernel
theorem dX11_worthTo_21 : decode cX11_worthTo 21 = .ok (.ifCond .eq 18, 3) := by decide +kernel
theorem dX11_worthTo_24 : decode cX11_worthTo 24 = .ok (.aload_n 0, 1) := by decide +kernel
theorem dX11_worthTo_25 : decode cX11_worthTo 25 = .ok (.getfield 25, 3) := by decide +kernel
theorem dX11_worthTo_28 : decode cX11_worthTo 28 = .ok (.bipush 12, 2) := by decide +kernel
theorem dX11_worthTo_30 : decode cX11_worthTo 30 = .ok (.iload_n 1, 1) := by decide +kernel
theorem dX11_worthTo_31 : decode cX11_worthTo 31 = .ok (.imul, 1) := by decide +kernel
theorem dX11_worthTo_32 : decode cX11_worthTo 32 = .ok (.iload 4, 2) := by decide +kernel
theorem dX11_worthTo_34 : decode cX11_worthTo 34 = .ok (.iadd, 1) := by decide +kernel
theorem dX11_worthTo_35 : decode cX11_worthTo 35 = .ok (.iaload, 1) := by decide +kernel
theorem dX11_worthTo_36 : decode cX11_worthTo 36 = .ok (.goto 4, 3) := by decide +kernel
theorem dX11_worthTo_39 : decode cX11_worthTo 39 = .ok (.iconst 0, 1) := by decide +kernel
theorem dX11_worthTo_40 : decode cX11_worthTo 40 = .ok (.iadd, 1) := by decide +kernel
theorem dX11_worthTo_41 : decode cX11_worthTo 41 = .ok (.istore_n 3, 1) := by decide +kernel
theorem dX11_worthTo_42 : decode cX11_worthTo 42 = .ok (.iinc 4 1, 3) := by decide +kernel
theorem dX11_worthTo_45 : decode cX11_worthTo 45 = .ok (.goto (-40), 3) := by decide +kernel
theorem dX11_worthTo_48 : decode cX11_worthTo 48 = .ok (.iload_n 3, 1) := by decide +kernel
theorem dX11_worthTo_49 : decode cX11_worthTo 49 = .ok (.ireturn, 1) := by decide +kernel
def jX11_worthTo_40_5 (Y : XS) (n : Nat) (S : PS) (v0 : Nat) (v1 : Int32) (v2 : Int32) (v4 : Int32) (t0 : Int32) (t1 : Int32) : Option ((Int32 × Int32) ⊕ Int32) :=
  some (.inl (t1 + t0, v4 + (1 : Int32)))
def bX11_worthTo_5 (Y : XS) (n : Nat) (S : PS) (v0 : Nat) (v1 : Int32) (v2 : Int32) (s5 : (Int32 × Int32)) : Option ((Int32 × Int32) ⊕ Int32) :=
  kc (fX11_many Y n S v0) (fun q8 => (if q8 ≤ s5.2 then some (.inr s5.1) else kc (fX11_isOf Y n S v2 s5.2) (fun q18 => (if q18 = 0 then jX11_worthTo_40_5 Y n S v0 v1 v2 s5.2 (0 : Int32) s5.1 else kgr S v0 12 (fun b25 => kai Y S b25 (((12 : Int32) * v1) + s5.2) (fun x35 => jX11_worthTo_40_5 Y n S v0 v1 v2 s5.2 x35 s5.1))))))
def fX11_worthTo (Y : XS) (n : Nat) (S : PS) (a0 : Nat) (x1_ : Int32) (x2_ : Int32) : Option (Int32) :=
  kc (iter (bX11_worthTo_5 Y n S a0 x1_ x2_) n ((0 : Int32), (0 : Int32))) (fun r5 => some r5)
theorem wjX11_worthTo_40_5 {C : CT} {X : XT} (hC : CK C RX11 cX11_worthTo 5 (some .int) 2) (n : Nat) (S : PS) (v0 : Nat) (v1 : Int32) (v2 : Int32) (v4 : Int32) (t0 : Int32) (t1 : Int32)  (hTv0 : Ty X.2.1 v0 11) {o : (Int32 × Int32) ⊕ Int32} (hf : jX11_worthTo_40_5 X.2.1 n S v0 v1 v2 v4 t0 t1 = some o) (hN : ∀ s', o = .inl s' → UW C X S 5 [(0, .ref (X.1 v0)), (1, .int v1), (2, .int v2), (3, .int s'.1), (4, .int s'.2)] []) (hO0 : ∀ p', o = .inr p' → UW C X S 48 [(3, .int p')] []) : UW C X S 40 [(0, .ref (X.1 v0)), (1, .int v1), (2, .int v2), (4, .int v4)] [.int t0, .int t1] := by
  unfold jX11_worthTo_40_5 at hf
  refine u_iadd hC dX11_worthTo_40 ?_
  refine u_istore_n (lv' := [(3, .int (t1 + t0)), (0, .ref (X.1 v0)), (1, .int v1), (2, .int v2), (4, .int v4)]) hC dX11_worthTo_41 rfl (by decide) rfl ?_
  refine u_iinc (v := v4 + (1 : Int32)) (lv' := [(4, .int (v4 + (1 : Int32))), (3, .int (t1 + t0)), (0, .ref (X.1 v0)), (1, .int v1), (2, .int v2)]) hC dX11_worthTo_42 4 rfl rfl (by decide) rfl ?_
  refine u_goto (tgt := 5) hC dX11_worthTo_45 (by decide) ?_
  refine u_sub (lv' := [(0, .ref (X.1 v0)), (1, .int v1), (2, .int v2), (3, .int (t1 + t0)), (4, .int (v4 + (1 : Int32)))]) [2, 3, 4, 1, 0] rfl ?_
  exact hN _ (Option.some.inj hf).symm
theorem wbX11_worthTo_5 {C : CT} {X : XT} (hC : CK C RX11 cX11_worthTo 5 (some .int) 2) (n : Nat) (S : PS) (v0 : Nat) (v1 : Int32) (v2 : Int32) (hTv0 : Ty X.2.1 v0 11) (s5 : (Int32 × Int32)) {o : (Int32 × Int32) ⊕ Int32} (hf : bX11_worthTo_5 X.2.1 n S v0 v1 v2 s5 = some o) (hN : ∀ s', o = .inl s' → UW C X S 5 [(0, .ref (X.1 v0)), (1, .int v1), (2, .int v2), (3, .int s'.1), (4, .int s'.2)] []) (hO0 : ∀ p', o = .inr p' → UW C X S 48 [(3, .int p')] []) : UW C X S 5 [(0, .ref (X.1 v0)), (1, .int v1), (2, .int v2), (3, .int s5.1), (4, .int s5.2)] [] := by
  unfold bX11_worthTo_5 at hf
  refine u_iload hC dX11_worthTo_5 4 rfl ?_
  refine u_aload_n hC dX11_worthTo_7 0 rfl rfl ?_
  obtain ⟨q8, hq8, hf⟩ := kc_some hf
  refine u_callV hC (ctX11_many (cL C) hC.tr (cG C) X.1 X.2.1 n S v0 hTv0 hq8) lk_X11_77 rfl hTv0 (by decide) rfl (by decide) (by decide) rfl rfl (Nat.le_of_ble_eq_true rfl) dX11_worthTo_8 ?_
  refine u_icmp_ge (tgt := 48) hC dX11_worthTo_11 (by decide) hf (fun h11 hf => ?_) (fun h11 hf => ?_)
  · refine u_sub (lv' := [(3, .int s5.1)]) [3] rfl ?_
    exact hO0 _ (Option.some.inj hf).symm
  · refine u_iload_n hC dX11_worthTo_14 3 rfl rfl ?_
    refine u_iload_n hC dX11_worthTo_15 2 rfl rfl ?_
    refine u_iload hC dX11_worthTo_16 4 rfl ?_
    obtain ⟨q18, hq18, hf⟩ := kc_some hf
    refine u_callS hC (ctX11_isOf (cL C) hC.tr (cG C) X.1 X.2.1 n S v2 s5.2  hq18) lk_X11_147 (by decide) (by decide) rfl rfl (Nat.le_of_ble_eq_true rfl) dX11_worthTo_18 ?_
    refine u_if_eq (tgt := 39) hC dX11_worthTo_21 (by decide) hf (fun h21 hf => ?_) (fun h21 hf => ?_)
    · refine u_iconst (v := (0 : Int32)) hC dX11_worthTo_39 (by decide) ?_
      refine u_sub (lv' := [(0, .ref (X.1 v0)), (1, .int v1), (2, .int v2), (4, .int s5.2)]) [0, 1, 2, 4] rfl ?_
      exact wjX11_worthTo_40_5 hC n S v0 v1 v2 s5.2 (0 : Int32) s5.1  hTv0 hf hN hO0
    · refine u_aload_n hC dX11_worthTo_24 0 rfl rfl ?_
      refine u_gr hC lf_X11_25 rfl hTv0 dX11_worthTo_25 hf (fun b25 hTb25 hf => ?_)
      refine u_bipush (v := (12 : Int32)) hC dX11_worthTo_28 (by decide) ?_
      refine u_iload_n hC dX11_worthTo_30 1 rfl rfl ?_
      refine u_imul hC dX11_worthTo_31 ?_
      refine u_iload hC dX11_worthTo_32 4 rfl ?_
      refine u_iadd hC dX11_worthTo_34 ?_
      refine u_ai hC hTb25 dX11_worthTo_35 hf (fun x35 hf => ?_)
      refine u_goto (tgt := 40) hC dX11_worthTo_36 (by decide) ?_
      refine u_sub (lv' := [(0, .ref (X.1 v0)), (1, .int v1), (2, .int v2), (4, .int s5.2)]) [0, 1, 2, 4] rfl ?_
      exact wjX11_worthTo_40_5 hC n S v0 v1 v2 s5.2 x35 s5.1  hTv0 hf hN hO0
theorem wX11_worthTo {C : CT} {X : XT} (hC : CK C RX11 cX11_worthTo 5 (some .int) 2) (n : Nat) (S : PS) (a0 : Nat) (x1_ : Int32) (x2_ : Int32) (hTa0 : Ty X.2.1 a0 11) {o : Int32} (hf : fX11_worthTo X.2.1 n S a0 x1_ x2_ = some o) (hR : Rt C X cX11_worthTo (some .int) (some (.int o)) S) : UW C X S 0 [(0, .ref (X.1 a0)), (1, .int x1_), (2, .int x2_)] [] := by
  unfold fX11_worthTo at hf
  refine u_iconst (v := (0 : Int32)) hC dX11_worthTo_0 (by decide) ?_
  refine u_istore_n (lv' := [(3, .int (0 : Int32)), (0, .ref (X.1 a0)), (1, .int x1_), (2, .int x2_)]) hC dX11_worthTo_1 rfl (by decide) rfl ?_
  refine u_iconst (v := (0 : Int32)) hC dX11_worthTo_2 (by decide) ?_
  refine u_istore (lv' := [(4, .int (0 : Int32)), (3, .int (0 : Int32)), (0, .ref (X.1 a0)), (1, .int x1_), (2, .int x2_)]) hC dX11_worthTo_3 (by decide) rfl ?_
  obtain ⟨r5, hr5, hf⟩ := kc_some hf
  have hk5 : UW C X S 48 [(3, .int r5)] [] := by
    refine u_iload_n hC dX11_worthTo_48 0 rfl rfl ?_
    cases hf
    exact hR _ _ dX11_worthTo_49 trivial
  refine u_sub (lv' := [(0, .ref (X.1 a0)), (1, .int x1_), (2, .int x2_), (3, .int (0 : Int32)), (4, .int (0 : Int32))]) [2, 3, 4, 1, 0] rfl ?_
  refine iter_ind (P := fun s5 => UW C X S 5 [(0, .ref (X.1 a0)), (1, .int x1_), (2, .int x2_), (3, .int s5.1), (4, .int s5.2)] []) (fun s5 o' hb hin hout => ?_) n ((0 : Int32), (0 : Int32)) hr5
  exact wbX11_worthTo_5 hC n S a0 x1_ x2_ hTa0 s5 hb hin (fun p e => by rw [hout p e]; exact hk5)
theorem ctX11_worthTo (l : Launch) (hl : l.stackTraces = false) (G : GT) (ρ : Nat → Nat) (Y : XS) (n : Nat) (S : PS) (a0 : Nat) (x1_ : Int32) (x2_ : Int32) (hTa0 : Ty Y a0 11) {o : Int32} (hf : fX11_worthTo Y n S a0 x1_ x2_ = some o) : Mt l G yX11_worthTo cX11_worthTo 5 (some .int) 2 ρ Y [.ref (ρ a0), .int x1_, .int x2_] S (some (.int o)) S :=
  Mt_of hl (by decide) (Nat.le_of_ble_eq_true rfl) (fun C _ _ hC hR => wX11_worthTo (X := (ρ, Y, 0, 0)) hC n S a0 x1_ x2_ hTa0 hf hR)
-- X11_worthToAll
theorem dX11_worthToAll_0 : decode cX11_worthToAll 0 = .ok (.iconst 0, 1) := by decide +kernel
theorem dX11_worthToAll_1 : decode cX11_worthToAll 1 = .ok (.istore_n 2, 1) := by decide +kernel
theorem dX11_worthToAll_2 : decode cX11_worthToAll 2 = .ok (.iconst 0, 1) := by decide +kernel
theorem dX11_worthToAll_3 : decode cX11_worthToAll 3 = .ok (.istore_n 3, 1) := by decide +kernel
theorem dX11_worthToAll_4 : decode cX11_worthToAll 4 = .ok (.iload_n 3, 1) := by decide +kernel
theorem dX11_worthToAll_5 : decode cX11_worthToAll 5 = .ok (.aload_n 0, 1) := by decide +kernel
theorem dX11_worthToAll_6 : decode cX11_worthToAll 6 = .ok (.invokevirtual 77, 3) := by decide +kernel
theorem dX11_worthToAll_9 : decode cX11_worthToAll 9 = .ok (.if_icmp .ge 30, 3) := by decide +kernel
theorem dX11_worthToAll_12 : decode cX11_worthToAll 12 = .ok (.iload_n 2, 1) := by decide +kernel
theorem dX11_worthToAll_13 : decode cX11_worthToAll 13 = .ok (.iload_n 1, 1) := by decide +kernel
theorem dX11_worthToAll_14 : decode cX11_worthToAll 14 = .ok (.iload_n 3, 1) := by decide +kernel
theorem dX11_worthToAll_15 : decode cX11_worthToAll 15 = .ok (.invokestatic 147, 3) := by decide +kernel
theorem dX11_worthToAll_18 : decode cX11_worthToAll 18 = .ok (.ifCond .eq 12, 3) := by decide +kernel
theorem dX11_worthToAll_21 : decode cX11_worthToAll 21 = .ok (.aload_n 0, 1) := by decide +kernel
theorem dX11_worthToAll_22 : decode cX11_worthToAll 22 = .ok (.getfield 31, 3) := by decide +kernel
theorem dX11_worthToAll_25 : decode cX11_worthToAll 25 = .ok (.iload_n 3, 1) := by decide +kernel
theorem dX11_worthToAll_26 : decode cX11_worthToAll 26 = .ok (.iaload, 1) := by decide +kernel
theorem dX11_worthToAll_27 : decode cX11_worthToAll 27 = .ok (.goto 4, 3) := by decide +kernel
theorem dX11_worthToAll_30 : decode cX11_worthToAll 30 = .ok (.iconst 0, 1) := by decide +kernel
theorem dX11_worthToAll_31 : decode cX11_worthToAll 31 = .ok (.iadd, 1) := by decide +kernel
theorem dX11_worthToAll_32 : decode cX11_worthToAll 32 = .ok (.istore_n 2, 1) := by decide +kernel
theorem dX11_worthToAll_33 : decode cX11_worthToAll 33 = .ok (.iinc 3 1, 3) := by decide +kernel
theorem dX11_worthToAll_36 : decode cX11_worthToAll 36 = .ok (.goto (-32), 3) := by decide +kernel
theorem dX11_worthToAll_39 : decode cX11_worthToAll 39 = .ok (.iload_n 2, 1) := by decide +kernel
theorem dX11_worthToAll_40 : decode cX11_worthToAll 40 = .ok (.ireturn, 1) := by decide +kernel
def jX11_worthToAll_31_4 (Y : XS) (n : Nat) (S : PS) (v0 : Nat) (v1 : Int32) (v3 : Int32) (t0 : Int32) (t1 : Int32) : Option ((Int32 × Int32) ⊕ Int32) :=
  some (.inl (t1 + t0, v3 + (1 : Int32)))
def bX11_worthToAll_4 (Y : XS) (n : Nat) (S : PS) (v0 : Nat) (v1 : Int32) (s4 : (Int32 × Int32)) : Option ((Int32 × Int32) ⊕ Int32) :=
  kc (fX11_many Y n S v0) (fun q6 => (if q6 ≤ s4.2 then some (.inr s4.1) else kc (fX11_isOf Y n S v1 s4.2) (fun q15 => (if q15 = 0 then jX11_worthToAll_31_4 Y n S v0 v1 s4.2 (0 : Int32) s4.1 else kgr S v0 14 (fun b22 => kai Y S b22 s4.2 (fun x26 => jX11_worthToAll_31_4 Y n S v0 v1 s4.2 x26 s4.1))))))
def fX11_worthToAll (Y : XS) (n : Nat) (S : PS) (a0 : Nat) (x1_ : Int32) : Option (Int32) :=
  kc (iter (bX11_worthToAll_4 Y n S a0 x1_) n ((0 : Int32), (0 : Int32))) (fun r4 => some r4)
theorem wjX11_worthToAll_31_4 {C : CT} {X : XT} (hC : CK C RX11 cX11_worthToAll 4 (some .int) 2) (n : Nat) (S : PS) (v0 : Nat) (v1 : Int32) (v3 : Int32) (t0 : Int32) (t1 : Int32)  (hTv0 : Ty X.2.1 v0 11) {o : (Int32 × Int32) ⊕ Int32} (hf : jX11_worthToAll_31_4 X.2.1 n S v0 v1 v3 t0 t1 = some o) (hN : ∀ s', o = .inl s' → UW C X S 4 [(0, .ref (X.1 v0)), (1, .int v1), (2, .int s'.1), (3, .int s'.2)] []) (hO0 : ∀ p', o = .inr p' → UW C X S 39 [(2, .int p')] []) : UW C X S 31 [(0, .ref (X.1 v0)), (1, .int v1), (3, .int v3)] [.int t0, .int t1] := by
  unfold jX11_worthToAll_31_4 at hf
  refine u_iadd hC dX11_worthToAll_31 ?_
  refine u_istore_n (lv' := [(2, .int (t1 + t0)), (0, .ref (X.1 v0)), (1, .int v1), (3, .int v3)]) hC dX11_worthToAll_32 rfl (by decide) rfl ?_
  refine u_iinc (v := v3 + (1 : Int32)) (lv' := [(3, .int (v3 + (1 : Int32))), (2, .int (t1 + t0)), (0, .ref (X.1 v0)), (1, .int v1)]) hC dX11_worthToAll_33 3 rfl rfl (by decide) rfl ?_
  refine u_goto (tgt := 4) hC dX11_worthToAll_36 (by decide) ?_
  refine u_sub (lv' := [(0, .ref (X.1 v0)), (1, .int v1), (2, .int (t1 + t0)), (3, .int (v3 + (1 : Int32)))]) [2, 3, 1, 0] rfl ?_
  exact hN _ (Option.some.inj hf).symm
theorem wbX11_worthToAll_4 {C : CT} {X : XT} (hC : CK C RX11 cX11_worthToAll 4 (some .int) 2) (n : Nat) (S : PS) (v0 : Nat) (v1 : Int32) (hTv0 : Ty X.2.1 v0 11) (s4 : (Int32 × Int32)) {o : (Int32 × Int32) ⊕ Int32} (hf : bX11_worthToAll_4 X.2.1 n S v0 v1 s4 = some o) (hN : ∀ s', o = .inl s' → UW C X S 4 [(0, .ref (X.1 v0)), (1, .int v1), (2, .int s'.1), (3, .int s'.2)] []) (hO0 : ∀ p', o = .inr p' → UW C X S 39 [(2, .int p')] []) : UW C X S 4 [(0, .ref (X.1 v0)), (1, .int v1), (2, .int s4.1), (3, .int s4.2)] [] := by
  unfold bX11_worthToAll_4 at hf
  refine u_iload_n hC dX11_worthToAll_4 3 rfl rfl ?_
  refine u_aload_n hC dX11_worthToAll_5 0 rfl rfl ?_
  obtain ⟨q6, hq6, hf⟩ := kc_some hf
  refine u_callV hC (ctX11_many (cL C) hC.tr (cG C) X.1 X.2.1 n S v0 hTv0 hq6) lk_X11_77 rfl hTv0 (by decide) rfl (by decide) (by decide) rfl rfl (Nat.le_of_ble_eq_true rfl) dX11_worthToAll_6 ?_
  refine u_icmp_ge (tgt := 39) hC dX11_worthToAll_9 (by decide) hf (fun h9 hf => ?_) (fun h9 hf => ?_)
  · refine u_sub (lv' := [(2, .int s4.1)]) [2] rfl ?_
    exact hO0 _ (Option.some.inj hf).symm
  · refine u_iload_n hC dX11_worthToAll_12 2 rfl rfl ?_
    refine u_iload_n hC dX11_worthToAll_13 1 rfl rfl ?_
    refine u_iload_n hC dX11_worthToAll_14 3 rfl rfl ?_
    obtain ⟨q15, hq15, hf⟩ := kc_some hf
    refine u_callS hC (ctX11_isOf (cL C) hC.tr (cG C) X.1 X.2.1 n S v1 s4.2  hq15) lk_X11_147 (by decide) (by decide) rfl rfl (Nat.le_of_ble_eq_true rfl) dX11_worthToAll_15 ?_
    refine u_if_eq (tgt := 30) hC dX11_worthToAll_18 (by decide) hf (fun h18 hf => ?_) (fun h18 hf => ?_)
    · refine u_iconst (v := (0 : Int32)) hC dX11_worthToAll_30 (by decide) ?_
      refine u_sub (lv' := [(0, .ref (X.1 v0)), (1, .int v1), (3, .int s4.2)]) [0, 1, 3] rfl ?_
      exact wjX11_worthToAll_31_4 hC n S v0 v1 s4.2 (0 : Int32) s4.1  hTv0 hf hN hO0
    · refine u_aload_n hC dX11_worthToAll_21 0 rfl rfl ?_
      refine u_gr hC lf_X11_31 rfl hTv0 dX11_worthToAll_22 hf (fun b22 hTb22 hf => ?_)
      refine u_iload_n hC dX11_worthToAll_25 3 rfl rfl ?_
      refine u_ai hC hTb22 dX11_worthToAll_26 hf (fun x26 hf => ?_)
      refine u_goto (tgt := 31) hC dX11_worthToAll_27 (by decide) ?_
      refine u_sub (lv' := [(0, .ref (X.1 v0)), (1, .int v1), (3, .int s4.2)]) [0, 1, 3] rfl ?_
      exact wjX11_worthToAll_31_4 hC n S v0 v1 s4.2 x26 s4.1  hTv0 hf hN hO0
theorem wX11_worthToAll {C : CT} {X : XT} (hC : CK C RX11 cX11_worthToAll 4 (some .int) 2) (n : Nat) (S : PS) (a0 : Nat) (x1_ : Int32) (hTa0 : Ty X.2.1 a0 11) {o : Int32} (hf : fX11_worthToAll X.2.1 n S a0 x1_ = some o) (hR : Rt C X cX11_worthToAll (some .int) (some (.int o)) S) : UW C X S 0 [(0, .ref (X.1 a0)), (1, .int x1_)] [] := by
  unfold fX11_worthToAll at hf
  refine u_iconst (v := (0 : Int32)) hC dX11_worthToAll_0 (by decide) ?_
  refine u_istore_n (lv' := [(2, .int (0 : Int32)), (0, .ref (X.1 a0)), (1, .int x1_)]) hC dX11_worthToAll_1 rfl (by decide) rfl ?_
  refine u_iconst (v := (0 : Int32)) hC dX11_worthToAll_2 (by decide) ?_
  refine u_istore_n (lv' := [(3, .int (0 : Int32)), (2, .int (0 : Int32)), (0, .ref (X.1 a0)), (1, .int x1_)]) hC dX11_worthToAll_3 rfl (by decide) rfl ?_
  obtain ⟨r4, hr4, hf⟩ := kc_some hf
  have hk4 : UW C X S 39 [(2, .int r4)] [] := by
    refine u_iload_n hC dX11_worthToAll_39 0 rfl rfl ?_
    cases hf
    exact hR _ _ dX11_worthToAll_40 trivial
  refine u_sub (lv' := [(0, .ref (X.1 a0)), (1, .int x1_), (2, .int (0 : Int32)), (3, .int (0 : Int32))]) [2, 3, 1, 0] rfl ?_
  refine iter_ind (P := fun s4 => UW C X S 4 [(0, .ref (X.1 a0)), (1, .int x1_), (2, .int s4.1), (3, .int s4.2)] []) (fun s4 o' hb hin hout => ?_) n ((0 : Int32), (0 : Int32)) hr4
  exact wbX11_worthToAll_4 hC n S a0 x1_ hTa0 s4 hb hin (fun p e => by rw [hout p e]; exact hk4)
theorem ctX11_worthToAll (l : Launch) (hl : l.stackTraces = false) (G : GT) (ρ : Nat → Nat) (Y : XS) (n : Nat) (S : PS) (a0 : Nat) (x1_ : Int32) (hTa0 : Ty Y a0 11) {o : Int32} (hf : fX11_worthToAll Y n S a0 x1_ = some o) : Mt l G yX11_worthToAll cX11_worthToAll 4 (some .int) 2 ρ Y [.ref (ρ a0), .int x1_] S (some (.int o)) S :=
  Mt_of hl (by decide) (Nat.le_of_ble_eq_true rfl) (fun C _ _ hC hR => wX11_worthToAll (X := (ρ, Y, 0, 0)) hC n S a0 x1_ hTa0 hf hR)
-- X11_leastWorth
theorem dX11_leastWorth_0 : decode cX11_leastWorth 0 = .ok (.aload_n 0, 1) := by decide +kernel
theorem dX11_leastWorth_1 : decode cX11_leastWorth 1 = .ok (.invokevirtual 85, 3) := by decide +kernel
theorem dX11_leastWorth_4 : decode cX11_leastWorth 4 = .ok (.ifCond .ne 7, 3) := by decide +kernel
theorem dX11_leastWorth_7 : decode cX11_leastWorth 7 = .ok (.iconst 0, 1) := by decide +kernel
theorem dX11_leastWorth_8 : decode cX11_leastWorth 8 = .ok (.goto 9, 3) := by decide +kernel
theorem dX11_leastWorth_11 : decode cX11_leastWorth 11 = .ok (.aload_n 0, 1) := by decide +kernel
theorem dX11_leastWorth_12 : decode cX11_leastWorth 12 = .ok (.iconst 0, 1) := by decide +kernel
theorem dX11_leastWorth_13 : decode cX11_leastWorth 13 = .ok (.iload_n 1, 1) := by decide +kernel
theorem dX11_leastWorth_14 : decode cX11_leastWorth 14 = .ok (.invokevirtual 151, 3) := by decide +kernel
theorem dX11_leastWorth_17 : decode cX11_leastWorth 17 = .ok (.istore_n 2, 1) := by decide +kernel
theorem dX11_leastWorth_18 : decode cX11_leastWorth 18 = .ok (.iconst 1, 1) := by decide +kernel
theorem dX11_leastWorth_19 : decode cX11_leastWorth 19 = .ok (.istore_n 3, 1) := by decide +kernel
theorem dX11_leastWorth_20 : decode cX11_leastWorth 20 = .ok (.iload_n 3, 1) := by decide +kernel
theorem dX11_leastWorth_21 : decode cX11_leastWorth 21 = .ok (.aload_n 0, 1) := by decide +kernel
theorem dX11_leastWorth_22 : decode cX11_leastWorth 22 = .ok (.invokevirtual 85, 3) := by decide +kernel
theorem dX11_leastWorth_25 : decode cX11_leastWorth 25 = .ok (.if_icmp .ge 20, 3) := by decide +kernel
theorem dX11_leastWorth_28 : decode cX11_leastWorth 28 = .ok (.iload_n 2, 1) := by decide +kernel
theorem dX11_leastWorth_29 : decode cX11_leastWorth 29 = .ok (.aload_n 0, 1) := by decide +kernel
theorem dX11_leastWorth_30 : decode cX11_leastWorth 30 = .ok (.iload_n 3, 1) := by decide +kernel
theorem dX11_leastWorth_31 : decode cX11_leastWorth 31 = .ok (.iload_n 1, 1) := by decide +kernel
theorem dX11_leastWorth_32 : decode cX11_leastWorth 32 = .ok (.invokevirtual 151, 3) := by decide +kernel
theorem dX11_leastWorth_35 : decode cX11_leastWorth 35 = .ok (.invokestatic 111, 3) := by decide +kernel
theorem dX11_leastWorth_38 : decode cX11_leastWorth 38 = .ok (.istore_n 2, 1) := by decide +kernel
theorem dX11_leastWorth_39 : decode cX11_leastWorth 39 = .ok (.iinc 3 1, 3) := by decide +kernel
theorem dX11_leastWorth_42 : decode cX11_leastWorth 42 = .ok (.goto (-22), 3) := by decide +kernel
theorem dX11_leastWorth_45 : decode cX11_leastWorth 45 = .ok (.iload_n 2, 1) := by decide +kernel
theorem dX11_leastWorth_46 : decode cX11_leastWorth 46 = .ok (.ireturn, 1) := by decide +kernel
def bX11_leastWorth_20 (Y : XS) (n : Nat) (S : PS) (v0 : Nat) (v1 : Int32) (s20 : (Int32 × Int32)) : Option ((Int32 × Int32) ⊕ Int32) :=
  kc (fX11_people Y n S v0) (fun q22 => (if q22 ≤ s20.2 then some (.inr s20.1) else kc (fX11_worthTo Y n S v0 s20.2 v1) (fun q32 => some (.inl (imin s20.1 q32, s20.2 + (1 : Int32))))))
def jX11_leastWorth_17 (Y : XS) (n : Nat) (S : PS) (v0 : Nat) (v1 : Int32) (t0 : Int32) : Option (Int32) :=
  kc (iter (bX11_leastWorth_20 Y n S v0 v1) n (t0, (1 : Int32))) (fun r20 => some r20)
def fX11_leastWorth (Y : XS) (n : Nat) (S : PS) (a0 : Nat) (x1_ : Int32) : Option (Int32) :=
  kc (fX11_people Y n S a0) (fun q1 => (if q1 = 0 then jX11_leastWorth_17 Y n S a0 x1_ (0 : Int32) else kc (fX11_worthTo Y n S a0 (0 : Int32) x1_) (fun q14 => jX11_leastWorth_17 Y n S a0 x1_ q14)))
theorem wbX11_leastWorth_20 {C : CT} {X : XT} (hC : CK C RX11 cX11_leastWorth 4 (some .int) 3) (n : Nat) (S : PS) (v0 : Nat) (v1 : Int32) (hTv0 : Ty X.2.1 v0 11) (s20 : (Int32 × Int32)) {o : (Int32 × Int32) ⊕ Int32} (hf : bX11_leastWorth_20 X.2.1 n S v0 v1 s20 = some o) (hN : ∀ s', o = .inl s' → UW C X S 20 [(0, .ref (X.1 v0)), (1, .int v1), (2, .int s'.1), (3, .int s'.2)] []) (hO0 : ∀ p', o = .inr p' → UW C X S 45 [(2, .int p')] []) : UW C X S 20 [(0, .ref (X.1 v0)), (1, .int v1), (2, .int s20.1), (3, .int s20.2)] [] := by
  unfold bX11_leastWorth_20 at hf
  refine u_iload_n hC dX11_leastWorth_20 3 rfl rfl ?_
  refine u_aload_n hC dX11_leastWorth_21 0 rfl rfl ?_
  obtain ⟨q22, hq22, hf⟩ := kc_some hf
  refine u_callV hC (ctX11_people (cL C) hC.tr (cG C) X.1 X.2.1 n S v0 hTv0 hq22) lk_X11_85 rfl hTv0 (by decide) rfl (by decide) (by decide) rfl rfl (Nat.le_of_ble_eq_true rfl) dX11_leastWorth_22 ?_
  refine u_icmp_ge (tgt := 45) hC dX11_leastWorth_25 (by decide) hf (fun h25 hf => ?_) (fun h25 hf => ?_)
  · refine u_sub (lv' := [(2, .int s20.1)]) [2] rfl ?_
    exact hO0 _ (Option.some.inj hf).symm
  · refine u_iload_n hC dX11_leastWorth_28 2 rfl rfl ?_
    refine u_aload_n hC dX11_leastWorth_29 0 rfl rfl ?_
    refine u_iload_n hC dX11_leastWorth_30 3 rfl rfl ?_
    refine u_iload_n hC dX11_leastWorth_31 1 rfl rfl ?_
    obtain ⟨q32, hq32, hf⟩ := kc_some hf
    refine u_callV hC (ctX11_worthTo (cL C) hC.tr (cG C) X.1 X.2.1 n S v0 s20.2 v1 hTv0 hq32) lk_X11_151 rfl hTv0 (by decide) rfl (by decide) (by decide) rfl rfl (Nat.le_of_ble_eq_true rfl) dX11_leastWorth_32 ?_
    refine u_mmin hC (tb_6 226 rfl rfl) (by decide) (Nat.le_of_ble_eq_true rfl) dX11_leastWorth_35 ?_
    refine u_istore_n (lv' := [(2, .int (imin s20.1 q32)), (0, .ref (X.1 v0)), (1, .int v1), (3, .int s20.2)]) hC dX11_leastWorth_38 rfl (by decide) rfl ?_
    refine u_iinc (v := s20.2 + (1 : Int32)) (lv' := [(3, .int (s20.2 + (1 : Int32))), (2, .int (imin s20.1 q32)), (0, .ref (X.1 v0)), (1, .int v1)]) hC dX11_leastWorth_39 3 rfl rfl (by decide) rfl ?_
    refine u_goto (tgt := 20) hC dX11_leastWorth_42 (by decide) ?_
    refine u_sub (lv' := [(0, .ref (X.1 v0)), (1, .int v1), (2, .int (imin s20.1 q32)), (3, .int (s20.2 + (1 : Int32)))]) [2, 3, 1, 0] rfl ?_
    exact hN _ (Option.some.inj hf).symm
theorem wjX11_leastWorth_17 {C : CT} {X : XT} (hC : CK C RX11 cX11_leastWorth 4 (some .int) 3) (n : Nat) (S : PS) (v0 : Nat) (v1 : Int32) (t0 : Int32)  (hTv0 : Ty X.2.1 v0 11) {o : Int32} (hf : jX11_leastWorth_17 X.2.1 n S v0 v1 t0 = some o) (hR : Rt C X cX11_leastWorth (some .int) (some (.int o)) S) : UW C X S 17 [(0, .ref (X.1 v0)), (1, .int v1)] [.int t0] := by
  unfold jX11_leastWorth_17 at hf
  refine u_istore_n (lv' := [(2, .int t0), (0, .ref (X.1 v0)), (1, .int v1)]) hC dX11_leastWorth_17 rfl (by decide) rfl ?_
  refine u_iconst (v := (1 : Int32)) hC dX11_leastWorth_18 (by decide) ?_
  refine u_istore_n (lv' := [(3, .int (1 : Int32)), (2, .int t0), (0, .ref (X.1 v0)), (1, .int v1)]) hC dX11_leastWorth_19 rfl (by decide) rfl ?_
  obtain ⟨r20, hr20, hf⟩ := kc_some hf
  have hk20 : UW C X S 45 [(2, .int r20)] [] := by
    refine u_iload_n hC dX11_leastWorth_45 0 rfl rfl ?_
    cases hf
    exact hR _ _ dX11_leastWorth_46 trivial
  refine u_sub (lv' := [(0, .ref (X.1 v0)), (1, .int v1), (2, .int t0), (3, .int (1 : Int32))]) [2, 3, 1, 0] rfl ?_
  refine iter_ind (P := fun s20 => UW C X S 20 [(0, .ref (X.1 v0)), (1, .int v1), (2, .int s20.1), (3, .int s20.2)] []) (fun s20 o' hb hin hout => ?_) n (t0, (1 : Int32)) hr20
  exact wbX11_leastWorth_20 hC n S v0 v1 hTv0 s20 hb hin (fun p e => by rw [hout p e]; exact hk20)
theorem wX11_leastWorth {C : CT} {X : XT} (hC : CK C RX11 cX11_leastWorth 4 (some .int) 3) (n : Nat) (S : PS) (a0 : Nat) (x1_ : Int32) (hTa0 : Ty X.2.1 a0 11) {o : Int32} (hf : fX11_leastWorth X.2.1 n S a0 x1_ = some o) (hR : Rt C X cX11_leastWorth (some .int) (some (.int o)) S) : UW C X S 0 [(0, .ref (X.1 a0)), (1, .int x1_)] [] := by
  unfold fX11_leastWorth at hf
  refine u_aload_n hC dX11_leastWorth_0 0 rfl rfl ?_
  obtain ⟨q1, hq1, hf⟩ := kc_some hf
  refine u_callV hC (ctX11_people (cL C) hC.tr (cG C) X.1 X.2.1 n S a0 hTa0 hq1) lk_X11_85 rfl hTa0 (by decide) rfl (by decide) (by decide) rfl rfl (Nat.le_of_ble_eq_true rfl) dX11_leastWorth_1 ?_
  refine u_if_ne (tgt := 11) hC dX11_leastWorth_4 (by decide) hf (fun h4 hf => ?_) (fun h4 hf => ?_)
  · refine u_aload_n hC dX11_leastWorth_11 0 rfl rfl ?_
    refine u_iconst (v := (0 : Int32)) hC dX11_leastWorth_12 (by decide) ?_
    refine u_iload_n hC dX11_leastWorth_13 1 rfl rfl ?_
    obtain ⟨q14, hq14, hf⟩ := kc_some hf
    refine u_callV hC (ctX11_worthTo (cL C) hC.tr (cG C) X.1 X.2.1 n S a0 (0 : Int32) x1_ hTa0 hq14) lk_X11_151 rfl hTa0 (by decide) rfl (by decide) (by decide) rfl rfl (Nat.le_of_ble_eq_true rfl) dX11_leastWorth_14 ?_
    exact wjX11_leastWorth_17 hC n S a0 x1_ q14  hTa0 hf hR
  · refine u_iconst (v := (0 : Int32)) hC dX11_leastWorth_7 (by decide) ?_
    refine u_goto (tgt := 17) hC dX11_leastWorth_8 (by decide) ?_
    exact wjX11_leastWorth_17 hC n S a0 x1_ (0 : Int32)  hTa0 hf hR
theorem ctX11_leastWorth (l : Launch) (hl : l.stackTraces = false) (G : GT) (ρ : Nat → Nat) (Y : XS) (n : Nat) (S : PS) (a0 : Nat) (x1_ : Int32) (hTa0 : Ty Y a0 11) {o : Int32} (hf : fX11_leastWorth Y n S a0 x1_ = some o) : Mt l G yX11_leastWorth cX11_leastWorth 4 (some .int) 3 ρ Y [.ref (ρ a0), .int x1_] S (some (.int o)) S :=
  Mt_of hl (by decide) (Nat.le_of_ble_eq_true rfl) (fun C _ _ hC hR => wX11_leastWorth (X := (ρ, Y, 0, 0)) hC n S a0 x1_ hTa0 hf hR)
-- X11_costsOf
theorem dX11_costsOf_0 : decode cX11_costsOf 0 = .ok (.iconst 0, 1) := by decide +kernel
theorem dX11_costsOf_1 : decode cX11_costsOf 1 = .ok (.istore_n 2, 1) := by decide +kernel
theorem dX11_costsOf_2 : decode cX11_costsOf 2 = .ok (.iconst 0, 1) := by decide +kernel
theorem dX11_costsOf_3 : decode cX11_costsOf 3 = .ok (.istore_n 3, 1) := by decide +kernel
theorem dX11_costsOf_4 : decode cX11_costsOf 4 = .ok (.iload_n 3, 1) := by decide +kernel
theorem dX11_costsOf_5 : decode cX11_costsOf 5 = .ok (.aload_n 0, 1) := by decide +kernel
theorem dX11_costsOf_6 : decode cX11_costsOf 6 = .ok (.invokevirtual 77, 3) := by decide +kernel
theorem dX11_costsOf_9 : decode cX11_costsOf 9 = .ok (.if_icmp .ge 29, 3) := by decide +kernel
theorem dX11_costsOf_12 : decode cX11_costsOf 12 = .ok (.iload_n 2, 1) := by decide +kernel
theorem dX11_costsOf_13 : decode cX11_costsOf 13 = .ok (.iload_n 1, 1) := by decide +kernel
theorem dX11_costsOf_14 : decode cX11_costsOf 14 = .ok (.iload_n 3, 1) := by decide +kernel
theorem dX11_costsOf_15 : decode cX11_costsOf 15 = .ok (.invokestatic 147, 3) := by decide +kernel
theorem dX11_costsOf_18 : decode cX11_costsOf 18 = .ok (.ifCond .eq 11, 3) := by decide +kernel
theorem dX11_costsOf_21 : decode cX11_costsOf 21 = .ok (.aload_n 0, 1) := by decide +kernel
theorem dX11_costsOf_22 : decode cX11_costsOf 22 = .ok (.iload_n 3, 1) := by decide +kernel
theorem dX11_costsOf_23 : decode cX11_costsOf 23 = .ok (.invokevirtual 134, 3) := by decide +kernel
theorem dX11_costsOf_26 : decode cX11_costsOf 26 = .ok (.goto 4, 3) := by decide +kernel
theorem dX11_costsOf_29 : decode cX11_costsOf 29 = .ok (.iconst 0, 1) := by decide +kernel
theorem dX11_costsOf_30 : decode cX11_costsOf 30 = .ok (.iadd, 1) := by decide +kernel
theorem dX11_costsOf_31 : decode cX11_costsOf 31 = .ok (.istore_n 2, 1) := by decide +kernel
theorem dX11_costsOf_32 : decode cX11_costsOf 32 = .ok (.iinc 3 1, 3) := by decide +kernel
theorem dX11_costsOf_35 : decode cX11_costsOf 35 = .ok (.goto (-31), 3) := by decide +kernel
theorem dX11_costsOf_38 : decode cX11_costsOf 38 = .ok (.iload_n 2, 1) := by decide +kernel
theorem dX11_costsOf_39 : decode cX11_costsOf 39 = .ok (.ireturn, 1) := by decide +kernel
def jX11_costsOf_30_4 (Y : XS) (n : Nat) (S : PS) (v0 : Nat) (v1 : Int32) (v3 : Int32) (t0 : Int32) (t1 : Int32) : Option ((Int32 × Int32) ⊕ Int32) :=
  some (.inl (t1 + t0, v3 + (1 : Int32)))
def bX11_costsOf_4 (Y : XS) (n : Nat) (S : PS) (v0 : Nat) (v1 : Int32) (s4 : (Int32 × Int32)) : Option ((Int32 × Int32) ⊕ Int32) :=
  kc (fX11_many Y n S v0) (fun q6 => (if q6 ≤ s4.2 then some (.inr s4.1) else kc (fX11_isOf Y n S v1 s4.2) (fun q15 => (if q15 = 0 then jX11_costsOf_30_4 Y n S v0 v1 s4.2 (0 : Int32) s4.1 else kc (fX11_costOf Y n S v0 s4.2) (fun q23 => jX11_costsOf_30_4 Y n S v0 v1 s4.2 q23 s4.1)))))
def fX11_costsOf (Y : XS) (n : Nat) (S : PS) (a0 : Nat) (x1_ : Int32) : Option (Int32) :=
  kc (iter (bX11_costsOf_4 Y n S a0 x1_) n ((0 : Int32), (0 : Int32))) (fun r4 => some r4)
theorem wjX11_costsOf_30_4 {C : CT} {X : XT} (hC : CK C RX11 cX11_costsOf 4 (some .int) 2) (n : Nat) (S : PS) (v0 : Nat) (v1 : Int32) (v3 : Int32) (t0 : Int32) (t1 : Int32)  (hTv0 : Ty X.2.1 v0 11) {o : (Int32 × Int32) ⊕ Int32} (hf : jX11_costsOf_30_4 X.2.1 n S v0 v1 v3 t0 t1 = some o) (hN : ∀ s', o = .inl s' → UW C X S 4 [(0, .ref (X.1 v0)), (1, .int v1), (2, .int s'.1), (3, .int s'.2)] []) (hO0 : ∀ p', o = .inr p' → UW C X S 38 [(2, .int p')] []) : UW C X S 30 [(0, .ref (X.1 v0)), (1, .int v1), (3, .int v3)] [.int t0, .int t1] := by
  unfold jX11_costsOf_30_4 at hf
  refine u_iadd hC dX11_costsOf_30 ?_
  refine u_istore_n (lv' := [(2, .int (t1 + t0)), (0, .ref (X.1 v0)), (1, .int v1), (3, .int v3)]) hC dX11_costsOf_31 rfl (by decide) rfl ?_
  refine u_iinc (v := v3 + (1 : Int32)) (lv' := [(3, .int (v3 + (1 : Int32))), (2, .int (t1 + t0)), (0, .ref (X.1 v0)), (1, .int v1)]) hC dX11_costsOf_32 3 rfl rfl (by decide) rfl ?_
  refine u_goto (tgt := 4) hC dX11_costsOf_35 (by decide) ?_
  refine u_sub (lv' := [(0, .ref (X.1 v0)), (1, .int v1), (2, .int (t1 + t0)), (3, .int (v3 + (1 : Int32)))]) [2, 3, 1, 0] rfl ?_
  exact hN _ (Option.some.inj hf).symm
theorem wbX11_costsOf_4 {C : CT} {X : XT} (hC : CK C RX11 cX11_costsOf 4 (some .int) 2) (n : Nat) (S : PS) (v0 : Nat) (v1 : Int32) (hTv0 : Ty X.2.1 v0 11) (s4 : (Int32 × Int32)) {o : (Int32 × Int32) ⊕ Int32} (hf : bX11_costsOf_4 X.2.1 n S v0 v1 s4 = some o) (hN : ∀ s', o = .inl s' → UW C X S 4 [(0, .ref (X.1 v0)), (1, .int v1), (2, .int s'.1), (3, .int s'.2)] []) (hO0 : ∀ p', o = .inr p' → UW C X S 38 [(2, .int p')] []) : UW C X S 4 [(0, .ref (X.1 v0)), (1, .int v1), (2, .int s4.1), (3, .int s4.2)] [] := by
  unfold bX11_costsOf_4 at hf
  refine u_iload_n hC dX11_costsOf_4 3 rfl rfl ?_
  refine u_aload_n hC dX11_costsOf_5 0 rfl rfl ?_
  obtain ⟨q6, hq6, hf⟩ := kc_some hf
  refine u_callV hC (ctX11_many (cL C) hC.tr (cG C) X.1 X.2.1 n S v0 hTv0 hq6) lk_X11_77 rfl hTv0 (by decide) rfl (by decide) (by decide) rfl rfl (Nat.le_of_ble_eq_true rfl) dX11_costsOf_6 ?_
  refine u_icmp_ge (tgt := 38) hC dX11_costsOf_9 (by decide) hf (fun h9 hf => ?_) (fun h9 hf => ?_)
  · refine u_sub (lv' := [(2, .int s4.1)]) [2] rfl ?_
    exact hO0 _ (Option.some.inj hf).symm
  · refine u_iload_n hC dX11_costsOf_12 2 rfl rfl ?_
    refine u_iload_n hC dX11_costsOf_13 1 rfl rfl ?_
    refine u_iload_n hC dX11_costsOf_14 3 rfl rfl ?_
    obtain ⟨q15, hq15, hf⟩ := kc_some hf
    refine u_callS hC (ctX11_isOf (cL C) hC.tr (cG C) X.1 X.2.1 n S v1 s4.2  hq15) lk_X11_147 (by decide) (by decide) rfl rfl (Nat.le_of_ble_eq_true rfl) dX11_costsOf_15 ?_
    refine u_if_eq (tgt := 29) hC dX11_costsOf_18 (by decide) hf (fun h18 hf => ?_) (fun h18 hf => ?_)
    · refine u_iconst (v := (0 : Int32)) hC dX11_costsOf_29 (by decide) ?_
      refine u_sub (lv' := [(0, .ref (X.1 v0)), (1, .int v1), (3, .int s4.2)]) [0, 1, 3] rfl ?_
      exact wjX11_costsOf_30_4 hC n S v0 v1 s4.2 (0 : Int32) s4.1  hTv0 hf hN hO0
    · refine u_aload_n hC dX11_costsOf_21 0 rfl rfl ?_
      refine u_iload_n hC dX11_costsOf_22 3 rfl rfl ?_
      obtain ⟨q23, hq23, hf⟩ := kc_some hf
      refine u_callV hC (ctX11_costOf (cL C) hC.tr (cG C) X.1 X.2.1 n S v0 s4.2 hTv0 hq23) lk_X11_134 rfl hTv0 (by decide) rfl (by decide) (by decide) rfl rfl (Nat.le_of_ble_eq_true rfl) dX11_costsOf_23 ?_
      refine u_goto (tgt := 30) hC dX11_costsOf_26 (by decide) ?_
      refine u_sub (lv' := [(0, .ref (X.1 v0)), (1, .int v1), (3, .int s4.2)]) [0, 1, 3] rfl ?_
      exact wjX11_costsOf_30_4 hC n S v0 v1 s4.2 q23 s4.1  hTv0 hf hN hO0
theorem wX11_costsOf {C : CT} {X : XT} (hC : CK C RX11 cX11_costsOf 4 (some .int) 2) (n : Nat) (S : PS) (a0 : Nat) (x1_ : Int32) (hTa0 : Ty X.2.1 a0 11) {o : Int32} (hf : fX11_costsOf X.2.1 n S a0 x1_ = some o) (hR : Rt C X cX11_costsOf (some .int) (some (.int o)) S) : UW C X S 0 [(0, .ref (X.1 a0)), (1, .int x1_)] [] := by
  unfold fX11_costsOf at hf
  refine u_iconst (v := (0 : Int32)) hC dX11_costsOf_0 (by decide) ?_
  refine u_istore_n (lv' := [(2, .int (0 : Int32)), (0, .ref (X.1 a0)), (1, .int x1_)]) hC dX11_costsOf_1 rfl (by decide) rfl ?_
  refine u_iconst (v := (0 : Int32)) hC dX11_costsOf_2 (by decide) ?_
  refine u_istore_n (lv' := [(3, .int (0 : Int32)), (2, .int (0 : Int32)), (0, .ref (X.1 a0)), (1, .int x1_)]) hC dX11_costsOf_3 rfl (by decide) rfl ?_
  obtain ⟨r4, hr4, hf⟩ := kc_some hf
  have hk4 : UW C X S 38 [(2, .int r4)] [] := by
    refine u_iload_n hC dX11_costsOf_38 0 rfl rfl ?_
    cases hf
    exact hR _ _ dX11_costsOf_39 trivial
  refine u_sub (lv' := [(0, .ref (X.1 a0)), (1, .int x1_), (2, .int (0 : Int32)), (3, .int (0 : Int32))]) [2, 3, 1, 0] rfl ?_
  refine iter_ind (P := fun s4 => UW C X S 4 [(0, .ref (X.1 a0)), (1, .int x1_), (2, .int s4.1), (3, .int s4.2)] []) (fun s4 o' hb hin hout => ?_) n ((0 : Int32), (0 : Int32)) hr4
  exact wbX11_costsOf_4 hC n S a0 x1_ hTa0 s4 hb hin (fun p e => by rw [hout p e]; exact hk4)
theorem ctX11_costsOf (l : Launch) (hl : l.stackTraces = false) (G : GT) (ρ : Nat → Nat) (Y : XS) (n : Nat) (S : PS) (a0 : Nat) (x1_ : Int32) (hTa0 : Ty Y a0 11) {o : Int32} (hf : fX11_costsOf Y n S a0 x1_ = some o) : Mt l G yX11_costsOf cX11_costsOf 4 (some .int) 2 ρ Y [.ref (ρ a0), .int x1_] S (some (.int o)) S :=
  Mt_of hl (by decide) (Nat.le_of_ble_eq_true rfl) (fun C _ _ hC hR => wX11_costsOf (X := (ρ, Y, 0, 0)) hC n S a0 x1_ hTa0 hf hR)
-- X11_clear
theorem dX11_clear_0 : decode cX11_clear 0 = .ok (.aload_n 0, 1) := by decide +kernel
theorem dX11_clear_1 : decode cX11_clear 1 = .ok (.iconst 0, 1) := by decide +kernel
theorem dX11_clear_2 : decode cX11_clear 2 = .ok (.putfield 154, 3) := by decide +kernel
theorem dX11_clear_5 : decode cX11_clear 5 = .ok (.aload_n 0, 1) := by decide +kernel
theorem dX11_clear_6 : decode cX11_clear 6 = .ok (.iconst 0, 1) := by decide +kernel
theorem dX11_clear_7 : decode cX11_clear 7 = .ok (.putfield 157, 3) := by decide +kernel
theorem dX11_clear_10 : decode cX11_clear 10 = .ok (.iconst 0, 1) := by decide +kernel
theorem dX11_clear_11 : decode cX11_clear 11 = .ok (.istore_n 1, 1) := by decide +kernel
theorem dX11_clear_12 : decode cX11_clear 12 = .ok (.iload_n 1, 1) := by decide +kernel
theorem dX11_clear_13 : decode cX11_clear 13 = .ok (.aload_n 0, 1) := by decide +kernel
theorem dX11_clear_14 : decode cX11_clear 14 = .ok (.getfield 40, 3) := by decide +kernel
theorem dX11_clear_17 : decode cX11_clear 17 = .ok (.arraylength, 1) := by decide +kernel
theorem dX11_clear_18 : decode cX11_clear 18 = .ok (.if_icmp .ge 16, 3) := by decide +kernel
theorem dX11_clear_21 : decode cX11_clear 21 = .ok (.aload_n 0, 1) := by decide +kernel
theorem dX11_clear_22 : decode cX11_clear 22 = .ok (.getfield 40, 3) := by decide +kernel
theorem dX11_clear_25 : decode cX11_clear 25 = .ok (.iload_n 1, 1) := by decide +kernel
theorem dX11_clear_26 : decode cX11_clear 26 = .ok (.iconst 0, 1) := by decide +kernel
theorem dX11_clear_27 : decode cX11_clear 27 = .ok (.iastore, 1) := by decide +kernel
theorem dX11_clear_28 : decode cX11_clear 28 = .ok (.iinc 1 1, 3) := by decide +kernel
theorem dX11_clear_31 : decode cX11_clear 31 = .ok (.goto (-19), 3) := by decide +kernel
theorem dX11_clear_34 : decode cX11_clear 34 = .ok (.return_, 1) := by decide +kernel
def bX11_clear_12 (Y : XS) (n : Nat) (v0 : Nat) (s12 : (Int32 × PS)) : Option ((Int32 × PS) ⊕ PS) :=
  kgr s12.2 v0 17 (fun b14 => kln Y b14 (fun x17 => (if x17 ≤ s12.1 then some (.inr s12.2) else kgr s12.2 v0 17 (fun b22 => kwi Y s12.2 b22 s12.1 (0 : Int32) (fun S27 => some (.inl (s12.1 + (1 : Int32), S27)))))))
def fX11_clear (Y : XS) (n : Nat) (S : PS) (a0 : Nat) : Option (PS) :=
  kpi S a0 21 (0 : Int32) (fun S2 => kpi S2 a0 22 (0 : Int32) (fun S7 => kc (iter (bX11_clear_12 Y n a0) n ((0 : Int32), S7)) (fun r12 => some r12)))
theorem wbX11_clear_12 {C : CT} {X : XT} (hC : CK C RX11 cX11_clear 2 none 1) (n : Nat) (v0 : Nat) (hTv0 : Ty X.2.1 v0 11) (s12 : (Int32 × PS)) {o : (Int32 × PS) ⊕ PS} (hf : bX11_clear_12 X.2.1 n v0 s12 = some o) (hN : ∀ s', o = .inl s' → UW C X s'.2 12 [(0, .ref (X.1 v0)), (1, .int s'.1)] []) (hO0 : ∀ p', o = .inr p' → UW C X p' 34 [] []) : UW C X s12.2 12 [(0, .ref (X.1 v0)), (1, .int s12.1)] [] := by
  unfold bX11_clear_12 at hf
  refine u_iload_n hC dX11_clear_12 1 rfl rfl ?_
  refine u_aload_n hC dX11_clear_13 0 rfl rfl ?_
  refine u_gr hC lf_X11_40 rfl hTv0 dX11_clear_14 hf (fun b14 hTb14 hf => ?_)
  refine u_ln hC hTb14 dX11_clear_17 hf (fun x17 hf => ?_)
  refine u_icmp_ge (tgt := 34) hC dX11_clear_18 (by decide) hf (fun h18 hf => ?_) (fun h18 hf => ?_)
  · refine u_sub (lv' := []) [] rfl ?_
    exact hO0 _ (Option.some.inj hf).symm
  · refine u_aload_n hC dX11_clear_21 0 rfl rfl ?_
    refine u_gr hC lf_X11_40 rfl hTv0 dX11_clear_22 hf (fun b22 hTb22 hf => ?_)
    refine u_iload_n hC dX11_clear_25 1 rfl rfl ?_
    refine u_iconst (v := (0 : Int32)) hC dX11_clear_26 (by decide) ?_
    refine u_wi hC hTb22 dX11_clear_27 hf (fun S27 hf => ?_)
    refine u_iinc (v := s12.1 + (1 : Int32)) (lv' := [(1, .int (s12.1 + (1 : Int32))), (0, .ref (X.1 v0))]) hC dX11_clear_28 1 rfl rfl (by decide) rfl ?_
    refine u_goto (tgt := 12) hC dX11_clear_31 (by decide) ?_
    refine u_sub (lv' := [(0, .ref (X.1 v0)), (1, .int (s12.1 + (1 : Int32)))]) [1, 0] rfl ?_
    exact hN _ (Option.some.inj hf).symm
theorem wX11_clear {C : CT} {X : XT} (hC : CK C RX11 cX11_clear 2 none 1) (n : Nat) (S : PS) (a0 : Nat) (hTa0 : Ty X.2.1 a0 11) {o : PS} (hf : fX11_clear X.2.1 n S a0 = some o) (hR : Rt C X cX11_clear none none o) : UW C X S 0 [(0, .ref (X.1 a0))] [] := by
  unfold fX11_clear at hf
  refine u_aload_n hC dX11_clear_0 0 rfl rfl ?_
  refine u_iconst (v := (0 : Int32)) hC dX11_clear_1 (by decide) ?_
  refine u_pi hC lf_X11_154 rfl rfl rfl hTa0 dX11_clear_2 hf (fun S2 hf => ?_)
  refine u_aload_n hC dX11_clear_5 0 rfl rfl ?_
  refine u_iconst (v := (0 : Int32)) hC dX11_clear_6 (by decide) ?_
  refine u_pi hC lf_X11_157 rfl rfl rfl hTa0 dX11_clear_7 hf (fun S7 hf => ?_)
  refine u_iconst (v := (0 : Int32)) hC dX11_clear_10 (by decide) ?_
  refine u_istore_n (lv' := [(1, .int (0 : Int32)), (0, .ref (X.1 a0))]) hC dX11_clear_11 rfl (by decide) rfl ?_
  obtain ⟨r12, hr12, hf⟩ := kc_some hf
  have hk12 : UW C X r12 34 [] [] := by
    cases hf
    exact hR _ _ dX11_clear_34 trivial
  refine u_sub (lv' := [(0, .ref (X.1 a0)), (1, .int (0 : Int32))]) [1, 0] rfl ?_
  refine iter_ind (P := fun s12 => UW C X s12.2 12 [(0, .ref (X.1 a0)), (1, .int s12.1)] []) (fun s12 o' hb hin hout => ?_) n ((0 : Int32), S7) hr12
  exact wbX11_clear_12 hC n a0 hTa0 s12 hb hin (fun p e => by rw [hout p e]; exact hk12)
theorem ctX11_clear (l : Launch) (hl : l.stackTraces = false) (G : GT) (ρ : Nat → Nat) (Y : XS) (n : Nat) (S : PS) (a0 : Nat) (hTa0 : Ty Y a0 11) {o : PS} (hf : fX11_clear Y n S a0 = some o) : Mt l G yX11_clear cX11_clear 2 none 1 ρ Y [.ref (ρ a0)] S none o :=
  Mt_of hl (by decide) (Nat.le_of_ble_eq_true rfl) (fun C _ _ hC hR => wX11_clear (X := (ρ, Y, 0, 0)) hC n S a0 hTa0 hf hR)
-- X11_choose
theorem dX11_choose_0 : decode cX11_choose 0 = .ok (.aload_n 0, 1) := by decide +kernel
theorem dX11_choose_1 : decode cX11_choose 1 = .ok (.getfield 34, 3) := by decide +kernel
theorem dX11_choose_4 : decode cX11_choose 4 = .ok (.aload_n 0, 1) := by decide +kernel
theorem dX11_choose_5 : decode cX11_choose 5 = .ok (.getfield 157, 3) := by decide +kernel
theorem dX11_choose_8 : decode cX11_choose 8 = .ok (.iload_n 1, 1) := by decide +kernel
theorem dX11_choose_9 : decode cX11_choose 9 = .ok (.iastore, 1) := by decide +kernel
theorem dX11_choose_10 : decode cX11_choose 10 = .ok (.aload_n 0, 1) := by decide +kernel
theorem dX11_choose_11 : decode cX11_choose 11 = .ok (.dup, 1) := by decide +kernel
theorem dX11_choose_12 : decode cX11_choose 12 = .ok (.getfield 157, 3) := by decide +kernel
theorem dX11_choose_15 : decode cX11_choose 15 = .ok (.iconst 1, 1) := by decide +kernel
theorem dX11_choose_16 : decode cX11_choose 16 = .ok (.iadd, 1) := by decide +kernel
theorem dX11_choose_17 : decode cX11_choose 17 = .ok (.putfield 157, 3) := by decide +kernel
theorem dX11_choose_20 : decode cX11_choose 20 = .ok (.aload_n 0, 1) := by decide +kernel
theorem dX11_choose_21 : decode cX11_choose 21 = .ok (.dup, 1) := by decide +kernel
theorem dX11_choose_22 : decode cX11_choose 22 = .ok (.getfield 154, 3) := by decide +kernel
theorem dX11_choose_25 : decode cX11_choose 25 = .ok (.iconst 1, 1) := by decide +kernel
theorem dX11_choose_26 : decode cX11_choose 26 = .ok (.iload_n 1, 1) := by decide +kernel
theorem dX11_choose_27 : decode cX11_choose 27 = .ok (.ishl, 1) := by decide +kernel
theorem dX11_choose_28 : decode cX11_choose 28 = .ok (.ior, 1) := by decide +kernel
theorem dX11_choose_29 : decode cX11_choose 29 = .ok (.putfield 154, 3) := by decide +kernel
theorem dX11_choose_32 : decode cX11_choose 32 = .ok (.return_, 1) := by decide +kernel
def fX11_choose (Y : XS) (n : Nat) (S : PS) (a0 : Nat) (x1_ : Int32) : Option (PS) :=
  kgr S a0 15 (fun b1 => kgi S a0 22 (fun x5 => kwi Y S b1 x5 x1_ (fun S9 => kgi S9 a0 22 (fun x12 => kpi S9 a0 22 (x12 + (1 : Int32)) (fun S17 => kgi S17 a0 21 (fun x22 => kpi S17 a0 21 (x22 ||| ((1 : Int32) <<< (x1_ &&& 31))) (fun S29 => some S29)))))))
theorem wX11_choose {C : CT} {X : XT} (hC : CK C RX11 cX11_choose 2 none 1) (n : Nat) (S : PS) (a0 : Nat) (x1_ : Int32) (hTa0 : Ty X.2.1 a0 11) {o : PS} (hf : fX11_choose X.2.1 n S a0 x1_ = some o) (hR : Rt C X cX11_choose none none o) : UW C X S 0 [(0, .ref (X.1 a0)), (1, .int x1_)] [] := by
  unfold fX11_choose at hf
  refine u_aload_n hC dX11_choose_0 0 rfl rfl ?_
  refine u_gr hC lf_X11_34 rfl hTa0 dX11_choose_1 hf (fun b1 hTb1 hf => ?_)
  refine u_aload_n hC dX11_choose_4 0 rfl rfl ?_
  refine u_gi hC lf_X11_157 rfl hTa0 dX11_choose_5 hf (fun x5 hf => ?_)
  refine u_iload_n hC dX11_choose_8 1 rfl rfl ?_
  refine u_wi hC hTb1 dX11_choose_9 hf (fun S9 hf => ?_)
  refine u_aload_n hC dX11_choose_10 0 rfl rfl ?_
  refine u_dup hC dX11_choose_11 rfl ?_
  refine u_gi hC lf_X11_157 rfl hTa0 dX11_choose_12 hf (fun x12 hf => ?_)
  refine u_iconst (v := (1 : Int32)) hC dX11_choose_15 (by decide) ?_
  refine u_iadd hC dX11_choose_16 ?_
  refine u_pi hC lf_X11_157 rfl rfl rfl hTa0 dX11_choose_17 hf (fun S17 hf => ?_)
  refine u_aload_n hC dX11_choose_20 0 rfl rfl ?_
  refine u_dup hC dX11_choose_21 rfl ?_
  refine u_gi hC lf_X11_154 rfl hTa0 dX11_choose_22 hf (fun x22 hf => ?_)
  refine u_iconst (v := (1 : Int32)) hC dX11_choose_25 (by decide) ?_
  refine u_iload_n hC dX11_choose_26 1 rfl rfl ?_
  refine u_ishl hC dX11_choose_27 ?_
  refine u_ior hC dX11_choose_28 ?_
  refine u_pi hC lf_X11_154 rfl rfl rfl hTa0 dX11_choose_29 hf (fun S29 hf => ?_)
  cases hf
  exact hR _ _ dX11_choose_32 trivial
theorem ctX11_choose (l : Launch) (hl : l.stackTraces = false) (G : GT) (ρ : Nat → Nat) (Y : XS) (n : Nat) (S : PS) (a0 : Nat) (x1_ : Int32) (hTa0 : Ty Y a0 11) {o : PS} (hf : fX11_choose Y n S a0 x1_ = some o) : Mt l G yX11_choose cX11_choose 2 none 1 ρ Y [.ref (ρ a0), .int x1_] S none o :=
  Mt_of hl (by decide) (Nat.le_of_ble_eq_true rfl) (fun C _ _ hC hR => wX11_choose (X := (ρ, Y, 0, 0)) hC n S a0 x1_ hTa0 hf hR)
-- X11_layPurses
theorem dX11_layPurses_0 : decode cX11_layPurses 0 = .ok (.iconst 0, 1) := by decide +kernel
theorem dX11_layPurses_1 : decode cX11_layPurses 1 = .ok (.istore_n 2, 1) := by decide +kernel
theorem dX11_layPurses_2 : decode cX11_layPurses 2 = .ok (.iload_n 2, 1) := by decide +kernel
theorem dX11_layPurses_3 : decode cX11_layPurses 3 = .ok (.aload_n 0, 1) := by decide +kernel
theorem dX11_layPurses_4 : decode cX11_layPurses 4 = .ok (.invokevirtual 85, 3) := by decide +kernel
theorem dX11_layPurses_7 : decode cX11_layPurses 7 = .ok (.if_icmp .ge 32, 3) := by decide +kernel
theorem dX11_layPurses_10 : decode cX11_layPurses 10 = .ok (.aload_n 0, 1) := by decide +kernel
theorem dX11_layPurses_11 : decode cX11_layPurses 11 = .ok (.getfield 37, 3) := by decide +kernel
theorem dX11_layPurses_14 : decode cX11_layPurses 14 = .ok (.iload_n 2, 1) := by decide +kernel
theorem dX11_layPurses_15 : decode cX11_layPurses 15 = .ok (.aload_n 0, 1) := by decide +kernel
theorem dX11_layPurses_16 : decode cX11_layPurses 16 = .ok (.getfield 9, 3) := by decide +kernel
theorem dX11_layPurses_19 : decode cX11_layPurses 19 = .ok (.iconst 0, 1) := by decide +kernel
theorem dX11_layPurses_20 : decode cX11_layPurses 20 = .ok (.iaload, 1) := by decide +kernel
theorem dX11_layPurses_21 : decode cX11_layPurses 21 = .ok (.sipush 1000, 3) := by decide +kernel
theorem dX11_layPurses_24 : decode cX11_layPurses 24 = .ok (.imul, 1) := by decide +kernel
theorem dX11_layPurses_25 : decode cX11_layPurses 25 = .ok (.aload_n 0, 1) := by decide +kernel
theorem dX11_layPurses_26 : decode cX11_layPurses 26 = .ok (.invokevirtual 85, 3) := by decide +kernel
theorem dX11_layPurses_29 : decode cX11_layPurses 29 = .ok (.idiv, 1) := by decide +kernel
theorem dX11_layPurses_30 : decode cX11_layPurses 30 = .ok (.iload_n 1, 1) := by decide +kernel
theorem dX11_layPurses_31 : decode cX11_layPurses 31 = .ok (.iadd, 1) := by decide +kernel
theorem dX11_layPurses_32 : decode cX11_layPurses 32 = .ok (.iastore, 1) := by decide +kernel
theorem dX11_layPurses_33 : decode cX11_layPurses 33 = .ok (.iinc 2 1, 3) := by decide +kernel
theorem dX11_layPurses_36 : decode cX11_layPurses 36 = .ok (.goto (-34), 3) := by decide +kernel
theorem dX11_layPurses_39 : decode cX11_layPurses 39 = .ok (.return_, 1) := by decide +kernel
def bX11_layPurses_2 (Y : XS) (n : Nat) (v0 : Nat) (v1 : Int32) (s2 : (Int32 × PS)) : Option ((Int32 × PS) ⊕ PS) :=
  kc (fX11_people Y n s2.2 v0) (fun q4 => (if q4 ≤ s2.1 then some (.inr s2.2) else kgr s2.2 v0 16 (fun b11 => kgr s2.2 v0 0 (fun b16 => kai Y s2.2 b16 (0 : Int32) (fun x20 => kc (fX11_people Y n s2.2 v0) (fun q26 => kidiv (x20 * (1000 : Int32)) q26 (fun z29 => kwi Y s2.2 b11 s2.1 (z29 + v1) (fun S32 => some (.inl (s2.1 + (1 : Int32), S32))))))))))
def fX11_layPurses (Y : XS) (n : Nat) (S : PS) (a0 : Nat) (x1_ : Int32) : Option (PS) :=
  kc (iter (bX11_layPurses_2 Y n a0 x1_) n ((0 : Int32), S)) (fun r2 => some r2)
theorem wbX11_layPurses_2 {C : CT} {X : XT} (hC : CK C RX11 cX11_layPurses 3 none 2) (n : Nat) (v0 : Nat) (v1 : Int32) (hTv0 : Ty X.2.1 v0 11) (s2 : (Int32 × PS)) {o : (Int32 × PS) ⊕ PS} (hf : bX11_layPurses_2 X.2.1 n v0 v1 s2 = some o) (hN : ∀ s', o = .inl s' → UW C X s'.2 2 [(0, .ref (X.1 v0)), (1, .int v1), (2, .int s'.1)] []) (hO0 : ∀ p', o = .inr p' → UW C X p' 39 [] []) : UW C X s2.2 2 [(0, .ref (X.1 v0)), (1, .int v1), (2, .int s2.1)] [] := by
  unfold bX11_layPurses_2 at hf
  refine u_iload_n hC dX11_layPurses_2 2 rfl rfl ?_
  refine u_aload_n hC dX11_layPurses_3 0 rfl rfl ?_
  obtain ⟨q4, hq4, hf⟩ := kc_some hf
  refine u_callV hC (ctX11_people (cL C) hC.tr (cG C) X.1 X.2.1 n s2.2 v0 hTv0 hq4) lk_X11_85 rfl hTv0 (by decide) rfl (by decide) (by decide) rfl rfl (Nat.le_of_ble_eq_true rfl) dX11_layPurses_4 ?_
  refine u_icmp_ge (tgt := 39) hC dX11_layPurses_7 (by decide) hf (fun h7 hf => ?_) (fun h7 hf => ?_)
  · refine u_sub (lv' := []) [] rfl ?_
    exact hO0 _ (Option.some.inj hf).symm
  · refine u_aload_n hC dX11_layPurses_10 0 rfl rfl ?_
    refine u_gr hC lf_X11_37 rfl hTv0 dX11_layPurses_11 hf (fun b11 hTb11 hf => ?_)
    refine u_iload_n hC dX11_layPurses_14 2 rfl rfl ?_
    refine u_aload_n hC dX11_layPurses_15 0 rfl rfl ?_
    refine u_gr hC lf_X11_9 rfl hTv0 dX11_layPurses_16 hf (fun b16 hTb16 hf => ?_)
    refine u_iconst (v := (0 : Int32)) hC dX11_layPurses_19 (by decide) ?_
    refine u_ai hC hTb16 dX11_layPurses_20 hf (fun x20 hf => ?_)
    refine u_sipush (v := (1000 : Int32)) hC dX11_layPurses_21 (by decide) ?_
    refine u_imul hC dX11_layPurses_24 ?_
    refine u_aload_n hC dX11_layPurses_25 0 rfl rfl ?_
    obtain ⟨q26, hq26, hf⟩ := kc_some hf
    refine u_callV hC (ctX11_people (cL C) hC.tr (cG C) X.1 X.2.1 n s2.2 v0 hTv0 hq26) lk_X11_85 rfl hTv0 (by decide) rfl (by decide) (by decide) rfl rfl (Nat.le_of_ble_eq_true rfl) dX11_layPurses_26 ?_
    refine u_idiv hC dX11_layPurses_29 hf (fun z29 hf => ?_)
    refine u_iload_n hC dX11_layPurses_30 1 rfl rfl ?_
    refine u_iadd hC dX11_layPurses_31 ?_
    refine u_wi hC hTb11 dX11_layPurses_32 hf (fun S32 hf => ?_)
    refine u_iinc (v := s2.1 + (1 : Int32)) (lv' := [(2, .int (s2.1 + (1 : Int32))), (0, .ref (X.1 v0)), (1, .int v1)]) hC dX11_layPurses_33 2 rfl rfl (by decide) rfl ?_
    refine u_goto (tgt := 2) hC dX11_layPurses_36 (by decide) ?_
    refine u_sub (lv' := [(0, .ref (X.1 v0)), (1, .int v1), (2, .int (s2.1 + (1 : Int32)))]) [1, 2, 0] rfl ?_
    exact hN _ (Option.some.inj hf).symm
theorem wX11_layPurses {C : CT} {X : XT} (hC : CK C RX11 cX11_layPurses 3 none 2) (n : Nat) (S : PS) (a0 : Nat) (x1_ : Int32) (hTa0 : Ty X.2.1 a0 11) {o : PS} (hf : fX11_layPurses X.2.1 n S a0 x1_ = some o) (hR : Rt C X cX11_layPurses none none o) : UW C X S 0 [(0, .ref (X.1 a0)), (1, .int x1_)] [] := by
  unfold fX11_layPurses at hf
  refine u_iconst (v := (0 : Int32)) hC dX11_layPurses_0 (by decide) ?_
  refine u_istore_n (lv' := [(2, .int (0 : Int32)), (0, .ref (X.1 a0)), (1, .int x1_)]) hC dX11_layPurses_1 rfl (by decide) rfl ?_
  obtain ⟨r2, hr2, hf⟩ := kc_some hf
  have hk2 : UW C X r2 39 [] [] := by
    cases hf
    exact hR _ _ dX11_layPurses_39 trivial
  refine u_sub (lv' := [(0, .ref (X.1 a0)), (1, .int x1_), (2, .int (0 : Int32))]) [1, 2, 0] rfl ?_
  refine iter_ind (P := fun s2 => UW C X s2.2 2 [(0, .ref (X.1 a0)), (1, .int x1_), (2, .int s2.1)] []) (fun s2 o' hb hin hout => ?_) n ((0 : Int32), S) hr2
  exact wbX11_layPurses_2 hC n a0 x1_ hTa0 s2 hb hin (fun p e => by rw [hout p e]; exact hk2)
theorem ctX11_layPurses (l : Launch) (hl : l.stackTraces = false) (G : GT) (ρ : Nat → Nat) (Y : XS) (n : Nat) (S : PS) (a0 : Nat) (x1_ : Int32) (hTa0 : Ty Y a0 11) {o : PS} (hf : fX11_layPurses Y n S a0 x1_ = some o) : Mt l G yX11_layPurses cX11_layPurses 3 none 2 ρ Y [.ref (ρ a0), .int x1_] S none o :=
  Mt_of hl (by decide) (Nat.le_of_ble_eq_true rfl) (fun C _ _ hC hR => wX11_layPurses (X := (ρ, Y, 0, 0)) hC n S a0 x1_ hTa0 hf hR)
-- X11_givenBy
theorem dX11_givenBy_0 : decode cX11_givenBy 0 = .ok (.lconst 0, 1) := by decide +kernel
theorem dX11_givenBy_1 : decode cX11_givenBy 1 = .ok (.lstore 4, 2) := by decide +kernel
theorem dX11_givenBy_3 : decode cX11_givenBy 3 = .ok (.iconst 0, 1) := by decide +kernel
theorem dX11_givenBy_4 : decode cX11_givenBy 4 = .ok (.istore 6, 2) := by decide +kernel
theorem dX11_givenBy_6 : decode cX11_givenBy 6 = .ok (.iload 6, 2) := by decide +kernel
theorem dX11_givenBy_8 : decode cX11_givenBy 8 = .ok (.aload_n 0, 1) := by decide +kernel
theorem dX11_givenBy_9 : decode cX11_givenBy 9 = .ok (.invokevirtual 85, 3) := by decide +kernel
theorem dX11_givenBy_12 : decode cX11_givenBy 12 = .ok (.if_icmp .ge 40, 3) := by decide +kernel
theorem dX11_givenBy_15 : decode cX11_givenBy 15 = .ok (.lload 4, 2) := by decide +kernel
theorem dX11_givenBy_17 : decode cX11_givenBy 17 = .ok (.aload_n 0, 1) := by decide +kernel
theorem dX11_givenBy_18 : decode cX11_givenBy 18 = .ok (.getfield 37, 3) := by decide +kernel
theorem dX11_givenBy_21 : decode cX11_givenBy 21 = .ok (.iload 6, 2) := by decide +kernel
theorem dX11_givenBy_23 : decode cX11_givenBy 23 = .ok (.iaload, 1) := by decide +kernel
theorem dX11_givenBy_24 : decode cX11_givenBy 24 = .ok (.i2l, 1) := by decide +kernel
theorem dX11_givenBy_25 : decode cX11_givenBy 25 = .ok (.lload_n 2, 1) := by decide +kernel
theorem dX11_givenBy_26 : decode cX11_givenBy 26 = .ok (.aload_n 0, 1) := by decide +kernel
theorem dX11_givenBy_27 : decode cX11_givenBy 27 = .ok (.getfield 25, 3) := by decide +kernel
theorem dX11_givenBy_30 : decode cX11_givenBy 30 = .ok (.bipush 12, 2) := by decide +kernel
theorem dX11_givenBy_32 : decode cX11_givenBy 32 = .ok (.iload 6, 2) := by decide +kernel
theorem dX11_givenBy_34 : decode cX11_givenBy 34 = .ok (.imul, 1) := by decide +kernel
theorem dX11_givenBy_35 : decode cX11_givenBy 35 = .ok (.iload_n 1, 1) := by decide +kernel
theorem dX11_givenBy_36 : decode cX11_givenBy 36 = .ok (.iadd, 1) := by decide +kernel
theorem dX11_givenBy_37 : decode cX11_givenBy 37 = .ok (.iaload, 1) := by decide +kernel
theorem dX11_givenBy_38 : decode cX11_givenBy 38 = .ok (.i2l, 1) := by decide +kernel
theorem dX11_givenBy_39 : decode cX11_givenBy 39 = .ok (.lmul, 1) := by decide +kernel
theorem dX11_givenBy_40 : decode cX11_givenBy 40 = .ok (.invokestatic 166, 3) := by decide +kernel
theorem dX11_givenBy_43 : decode cX11_givenBy 43 = .ok (.ladd, 1) := by decide +kernel
theorem dX11_givenBy_44 : decode cX11_givenBy 44 = .ok (.lstore 4, 2) := by decide +kernel
theorem dX11_givenBy_46 : decode cX11_givenBy 46 = .ok (.iinc 6 1, 3) := by decide +kernel
theorem dX11_givenBy_49 : decode cX11_givenBy 49 = .ok (.goto (-43), 3) := by decide +kernel
theorem dX11_givenBy_52 : decode cX11_givenBy 52 = .ok (.lload 4, 2) := by decide +kernel
theorem dX11_givenBy_54 : decode cX11_givenBy 54 = .ok (.lreturn, 1) := by decide +kernel
def bX11_givenBy_6 (Y : XS) (n : Nat) (S : PS) (v0 : Nat) (v1 : Int32) (v2 : Int64) (s6 : (Int64 × Int32)) : Option ((Int64 × Int32) ⊕ Int64) :=
  kc (fX11_people Y n S v0) (fun q9 => (if q9 ≤ s6.2 then some (.inr s6.1) else kgr S v0 16 (fun b18 => kai Y S b18 s6.2 (fun x23 => kgr S v0 12 (fun b27 => kai Y S b27 (((12 : Int32) * s6.2) + v1) (fun x37 => some (.inl (s6.1 + (lmin (Int32.toInt64 x23) (v2 * (Int32.toInt64 x37))), s6.2 + (1 : Int32)))))))))
def fX11_givenBy (Y : XS) (n : Nat) (S : PS) (a0 : Nat) (x1_ : Int32) (x2_ : Int64) : Option (Int64) :=
  kc (iter (bX11_givenBy_6 Y n S a0 x1_ x2_) n ((0 : Int64), (0 : Int32))) (fun r6 => some r6)
theorem wbX11_givenBy_6 {C : CT} {X : XT} (hC : CK C RX11 cX11_givenBy 7 (some .long) 2) (n : Nat) (S : PS) (v0 : Nat) (v1 : Int32) (v2 : Int64) (hTv0 : Ty X.2.1 v0 11) (s6 : (Int64 × Int32)) {o : (Int64 × Int32) ⊕ Int64} (hf : bX11_givenBy_6 X.2.1 n S v0 v1 v2 s6 = some o) (hN : ∀ s', o = .inl s' → UW C X S 6 [(0, .ref (X.1 v0)), (1, .int v1), (2, .long v2), (4, .long s'.1), (6, .int s'.2)] []) (hO0 : ∀ p', o = .inr p' → UW C X S 52 [(4, .long p')] []) : UW C X S 6 [(0, .ref (X.1 v0)), (1, .int v1), (2, .long v2), (4, .long s6.1), (6, .int s6.2)] [] := by
  unfold bX11_givenBy_6 at hf
  refine u_iload hC dX11_givenBy_6 4 rfl ?_
  refine u_aload_n hC dX11_givenBy_8 0 rfl rfl ?_
  obtain ⟨q9, hq9, hf⟩ := kc_some hf
  refine u_callV hC (ctX11_people (cL C) hC.tr (cG C) X.1 X.2.1 n S v0 hTv0 hq9) lk_X11_85 rfl hTv0 (by decide) rfl (by decide) (by decide) rfl rfl (Nat.le_of_ble_eq_true rfl) dX11_givenBy_9 ?_
  refine u_icmp_ge (tgt := 52) hC dX11_givenBy_12 (by decide) hf (fun h12 hf => ?_) (fun h12 hf => ?_)
  · refine u_sub (lv' := [(4, .long s6.1)]) [3] rfl ?_
    exact hO0 _ (Option.some.inj hf).symm
  · refine u_lload hC dX11_givenBy_15 3 rfl ?_
    refine u_aload_n hC dX11_givenBy_17 0 rfl rfl ?_
    refine u_gr hC lf_X11_37 rfl hTv0 dX11_givenBy_18 hf (fun b18 hTb18 hf => ?_)
    refine u_iload hC dX11_givenBy_21 4 rfl ?_
    refine u_ai hC hTb18 dX11_givenBy_23 hf (fun x23 hf => ?_)
    refine u_i2l hC dX11_givenBy_24 ?_
    refine u_lload_n hC dX11_givenBy_25 2 rfl rfl ?_
    refine u_aload_n hC dX11_givenBy_26 0 rfl rfl ?_
    refine u_gr hC lf_X11_25 rfl hTv0 dX11_givenBy_27 hf (fun b27 hTb27 hf => ?_)
    refine u_bipush (v := (12 : Int32)) hC dX11_givenBy_30 (by decide) ?_
    refine u_iload hC dX11_givenBy_32 4 rfl ?_
    refine u_imul hC dX11_givenBy_34 ?_
    refine u_iload_n hC dX11_givenBy_35 1 rfl rfl ?_
    refine u_iadd hC dX11_givenBy_36 ?_
    refine u_ai hC hTb27 dX11_givenBy_37 hf (fun x37 hf => ?_)
    refine u_i2l hC dX11_givenBy_38 ?_
    refine u_lmul hC dX11_givenBy_39 ?_
    refine u_mminl hC (tb_7 35 rfl rfl) (by decide) (Nat.le_of_ble_eq_true rfl) dX11_givenBy_40 ?_
    refine u_ladd hC dX11_givenBy_43 ?_
    refine u_lstore (lv' := [(4, .long (s6.1 + (lmin (Int32.toInt64 x23) (v2 * (Int32.toInt64 x37))))), (0, .ref (X.1 v0)), (1, .int v1), (2, .long v2), (6, .int s6.2)]) hC dX11_givenBy_44 (by decide) rfl ?_
    refine u_iinc (v := s6.2 + (1 : Int32)) (lv' := [(6, .int (s6.2 + (1 : Int32))), (4, .long (s6.1 + (lmin (Int32.toInt64 x23) (v2 * (Int32.toInt64 x37))))), (0, .ref (X.1 v0)), (1, .int v1), (2, .long v2)]) hC dX11_givenBy_46 4 rfl rfl (by decide) rfl ?_
    refine u_goto (tgt := 6) hC dX11_givenBy_49 (by decide) ?_
    refine u_sub (lv' := [(0, .ref (X.1 v0)), (1, .int v1), (2, .long v2), (4, .long (s6.1 + (lmin (Int32.toInt64 x23) (v2 * (Int32.toInt64 x37))))), (6, .int (s6.2 + (1 : Int32)))]) [2, 3, 4, 1, 0] rfl ?_
    exact hN _ (Option.some.inj hf).symm
theorem wX11_givenBy {C : CT} {X : XT} (hC : CK C RX11 cX11_givenBy 7 (some .long) 2) (n : Nat) (S : PS) (a0 : Nat) (x1_ : Int32) (x2_ : Int64) (hTa0 : Ty X.2.1 a0 11) {o : Int64} (hf : fX11_givenBy X.2.1 n S a0 x1_ x2_ = some o) (hR : Rt C X cX11_givenBy (some .long) (some (.long o)) S) : UW C X S 0 [(0, .ref (X.1 a0)), (1, .int x1_), (2, .long x2_)] [] := by
  unfold fX11_givenBy at hf
  refine u_lconst (v := (0 : Int64)) hC dX11_givenBy_0 (by decide) ?_
  refine u_lstore (lv' := [(4, .long (0 : Int64)), (0, .ref (X.1 a0)), (1, .int x1_), (2, .long x2_)]) hC dX11_givenBy_1 (by decide) rfl ?_
  refine u_iconst (v := (0 : Int32)) hC dX11_givenBy_3 (by decide) ?_
  refine u_istore (lv' := [(6, .int (0 : Int32)), (4, .long (0 : Int64)), (0, .ref (X.1 a0)), (1, .int x1_), (2, .long x2_)]) hC dX11_givenBy_4 (by decide) rfl ?_
  obtain ⟨r6, hr6, hf⟩ := kc_some hf
  have hk6 : UW C X S 52 [(4, .long r6)] [] := by
    refine u_lload hC dX11_givenBy_52 0 rfl ?_
    cases hf
    exact hR _ _ dX11_givenBy_54 trivial
  refine u_sub (lv' := [(0, .ref (X.1 a0)), (1, .int x1_), (2, .long x2_), (4, .long (0 : Int64)), (6, .int (0 : Int32))]) [2, 3, 4, 1, 0] rfl ?_
  refine iter_ind (P := fun s6 => UW C X S 6 [(0, .ref (X.1 a0)), (1, .int x1_), (2, .long x2_), (4, .long s6.1), (6, .int s6.2)] []) (fun s6 o' hb hin hout => ?_) n ((0 : Int64), (0 : Int32)) hr6
  exact wbX11_givenBy_6 hC n S a0 x1_ x2_ hTa0 s6 hb hin (fun p e => by rw [hout p e]; exact hk6)
theorem ctX11_givenBy (l : Launch) (hl : l.stackTraces = false) (G : GT) (ρ : Nat → Nat) (Y : XS) (n : Nat) (S : PS) (a0 : Nat) (x1_ : Int32) (x2_ : Int64) (hTa0 : Ty Y a0 11) {o : Int64} (hf : fX11_givenBy Y n S a0 x1_ x2_ = some o) : Mt l G yX11_givenBy cX11_givenBy 7 (some .long) 2 ρ Y [.ref (ρ a0), .int x1_, .long x2_] S (some (.long o)) S :=
  Mt_of hl (by decide) (Nat.le_of_ble_eq_true rfl) (fun C _ _ hC hR => wX11_givenBy (X := (ρ, Y, 0, 0)) hC n S a0 x1_ x2_ hTa0 hf hR)
-- X11_priceOf
theorem dX11_priceOf_0 : decode cX11_priceOf 0 = .ok (.ldc2_w 160, 3) := by decide +kernel
theorem dX11_priceOf_3 : decode cX11_priceOf 3 = .ok (.aload_n 0, 1) := by decide +kernel
theorem dX11_priceOf_4 : decode cX11_priceOf 4 = .ok (.iload_n 1, 1) := by decide +kernel
theorem dX11_priceOf_5 : decode cX11_priceOf 5 = .ok (.invokevirtual 134, 3) := by decide +kernel
theorem dX11_priceOf_8 : decode cX11_priceOf 8 = .ok (.i2l, 1) := by decide +kernel
theorem dX11_priceOf_9 : decode cX11_priceOf 9 = .ok (.lmul, 1) := by decide +kernel
theorem dX11_priceOf_10 : decode cX11_priceOf 10 = .ok (.lstore_n 2, 1) := by decide +kernel
theorem dX11_priceOf_11 : decode cX11_priceOf 11 = .ok (.lconst 0, 1) := by decide +kernel
theorem dX11_priceOf_12 : decode cX11_priceOf 12 = .ok (.lstore 4, 2) := by decide +kernel
theorem dX11_priceOf_14 : decode cX11_priceOf 14 = .ok (.iconst 0, 1) := by decide +kernel
theorem dX11_priceOf_15 : decode cX11_priceOf 15 = .ok (.istore 6, 2) := by decide +kernel
theorem dX11_priceOf_17 : decode cX11_priceOf 17 = .ok (.iload 6, 2) := by decide +kernel
theorem dX11_priceOf_19 : decode cX11_priceOf 19 = .ok (.aload_n 0, 1) := by decide +kernel
theorem dX11_priceOf_20 : decode cX11_priceOf 20 = .ok (.invokevirtual 85, 3) := by decide +kernel
theorem dX11_priceOf_23 : decode cX11_priceOf 23 = .ok (.if_icmp .ge 68, 3) := by decide +kernel
theorem dX11_priceOf_26 : decode cX11_priceOf 26 = .ok (.aload_n 0, 1) := by decide +kernel
theorem dX11_priceOf_27 : decode cX11_priceOf 27 = .ok (.getfield 52, 3) := by decide +kernel
theorem dX11_priceOf_30 : decode cX11_priceOf 30 = .ok (.iload 6, 2) := by decide +kernel
theorem dX11_priceOf_32 : decode cX11_priceOf 32 = .ok (.aload_n 0, 1) := by decide +kernel
theorem dX11_priceOf_33 : decode cX11_priceOf 33 = .ok (.getfield 25, 3) := by decide +kernel
theorem dX11_priceOf_36 : decode cX11_priceOf 36 = .ok (.bipush 12, 2) := by decide +kernel
theorem dX11_priceOf_38 : decode cX11_priceOf 38 = .ok (.iload 6, 2) := by decide +kernel
theorem dX11_priceOf_40 : decode cX11_priceOf 40 = .ok (.imul, 1) := by decide +kernel
theorem dX11_priceOf_41 : decode cX11_priceOf 41 = .ok (.iload_n 1, 1) := by decide +kernel
theorem dX11_priceOf_42 : decode cX11_priceOf 42 = .ok (.iadd, 1) := by decide +kernel
theorem dX11_priceOf_43 : decode cX11_priceOf 43 = .ok (.iaload, 1) := by decide +kernel
theorem dX11_priceOf_44 : decode cX11_priceOf 44 = .ok (.ifCond .ne 7, 3) := by decide +kernel
theorem dX11_priceOf_47 : decode cX11_priceOf 47 = .ok (.iconst 1, 1) := by decide +kernel
theorem dX11_priceOf_48 : decode cX11_priceOf 48 = .ok (.goto 4, 3) := by decide +kernel
theorem dX11_priceOf_51 : decode cX11_priceOf 51 = .ok (.iconst 0, 1) := by decide +kernel
theorem dX11_priceOf_52 : decode cX11_priceOf 52 = .ok (.bastore, 1) := by decide +kernel
theorem dX11_priceOf_53 : decode cX11_priceOf 53 = .ok (.lload 4, 2) := by decide +kernel
theorem dX11_priceOf_55 : decode cX11_priceOf 55 = .ok (.aload_n 0, 1) := by decide +kernel
theorem dX11_priceOf_56 : decode cX11_priceOf 56 = .ok (.getfield 52, 3) := by decide +kernel
theorem dX11_priceOf_59 : decode cX11_priceOf 59 = .ok (.iload 6, 2) := by decide +kernel
theorem dX11_priceOf_61 : decode cX11_priceOf 61 = .ok (.baload, 1) := by decide +kernel
theorem dX11_priceOf_62 : decode cX11_priceOf 62 = .ok (.ifCond .eq 7, 3) := by decide +kernel
theorem dX11_priceOf_65 : decode cX11_priceOf 65 = .ok (.lconst 0, 1) := by decide +kernel
theorem dX11_priceOf_66 : decode cX11_priceOf 66 = .ok (.goto 16, 3) := by decide +kernel
theorem dX11_priceOf_69 : decode cX11_priceOf 69 = .ok (.aload_n 0, 1) := by decide +kernel
theorem dX11_priceOf_70 : decode cX11_priceOf 70 = .ok (.getfield 25, 3) := by decide +kernel
theorem dX11_priceOf_73 : decode cX11_priceOf 73 = .ok (.bipush 12, 2) := by decide +kernel
theorem dX11_priceOf_75 : decode cX11_priceOf 75 = .ok (.iload 6, 2) := by decide +kernel
theorem dX11_priceOf_77 : decode cX11_priceOf 77 = .ok (.imul, 1) := by decide +kernel
theorem dX11_priceOf_78 : decode cX11_priceOf 78 = .ok (.iload_n 1, 1) := by decide +kernel
theorem dX11_priceOf_79 : decode cX11_priceOf 79 = .ok (.iadd, 1) := by decide +kernel
theorem dX11_priceOf_80 : decode cX11_priceOf 80 = .ok (.iaload, 1) := by decide +kernel
theorem dX11_priceOf_81 : decode cX11_priceOf 81 = .ok (.i2l, 1) := by decide +kernel
theorem dX11_priceOf_82 : decode cX11_priceOf 82 = .ok (.ladd, 1) := by decide +kernel
theorem dX11_priceOf_83 : decode cX11_priceOf 83 = .ok (.lstore 4, 2) := by decide +kernel
theorem dX11_priceOf_85 : decode cX11_priceOf 85 = .ok (.iinc 6 1, 3) := by decide +kernel
theorem dX11_priceOf_88 : decode cX11_priceOf 88 = .ok (.goto (-71), 3) := by decide +kernel
theorem dX11_priceOf_91 : decode cX11_priceOf 91 = .ok (.lload 4, 2) := by decide +kernel
theorem dX11_priceOf_93 : decode cX11_priceOf 93 = .ok (.lconst 0, 1) := by decide +kernel
theorem dX11_priceOf_94 : decode cX11_priceOf 94 = .ok (.lcmp, 1) := by decide +kernel
theorem dX11_priceOf_95 : decode cX11_priceOf 95 = .ok (.ifCond .le 138, 3) := by decide +kernel
theorem dX11_priceOf_98 : decode cX11_priceOf 98 = .ok (.lload_n 2, 1) := by decide +kernel
theorem dX11_priceOf_99 : decode cX11_priceOf 99 = .ok (.lload 4, 2) := by decide +kernel
theorem dX11_priceOf_101 : decode cX11_priceOf 101 = .ok (.ladd, 1) := by decide +kernel
theorem dX11_priceOf_102 : decode cX11_priceOf 102 = .ok (.lconst 1, 1) := by decide +kernel
theorem dX11_priceOf_103 : decode cX11_priceOf 103 = .ok (.lsub, 1) := by decide +kernel
theorem dX11_priceOf_104 : decode cX11_priceOf 104 = .ok (.lload 4, 2) := by decide +kernel
theorem dX11_priceOf_106 : decode cX11_priceOf 106 = .ok (.ldiv, 1) := by decide +kernel
theorem dX11_priceOf_107 : decode cX11_priceOf 107 = .ok (.lstore 6, 2) := by decide +kernel
theorem dX11_priceOf_109 : decode cX11_priceOf 109 = .ok (.aload_n 0, 1) := by decide +kernel
theorem dX11_priceOf_110 : decode cX11_priceOf 110 = .ok (.iload_n 1, 1) := by decide +kernel
theorem dX11_priceOf_111 : decode cX11_priceOf 111 = .ok (.lload 6, 2) := by decide +kernel
theorem dX11_priceOf_113 : decode cX11_priceOf 113 = .ok (.invokevirtual 162, 3) := by decide +kernel
theorem dX11_priceOf_116 : decode cX11_priceOf 116 = .ok (.ldc2_w 160, 3) := by decide +kernel
theorem dX11_priceOf_119 : decode cX11_priceOf 119 = .ok (.aload_n 0, 1) := by decide +kernel
theorem dX11_priceOf_120 : decode cX11_priceOf 120 = .ok (.iload_n 1, 1) := by decide +kernel
theorem dX11_priceOf_121 : decode cX11_priceOf 121 = .ok (.invokevirtual 134, 3) := by decide +kernel
theorem dX11_priceOf_124 : decode cX11_priceOf 124 = .ok (.i2l, 1) := by decide +kernel
theorem dX11_priceOf_125 : decode cX11_priceOf 125 = .ok (.lmul, 1) := by decide +kernel
theorem dX11_priceOf_126 : decode cX11_priceOf 126 = .ok (.lcmp, 1) := by decide +kernel
theorem dX11_priceOf_127 : decode cX11_priceOf 127 = .ok (.ifCond .lt 7, 3) := by decide +kernel
theorem dX11_priceOf_130 : decode cX11_priceOf 130 = .ok (.lload 6, 2) := by decide +kernel
theorem dX11_priceOf_132 : decode cX11_priceOf 132 = .ok (.l2i, 1) := by decide +kernel
theorem dX11_priceOf_133 : decode cX11_priceOf 133 = .ok (.ireturn, 1) := by decide +kernel
theorem dX11_priceOf_134 : decode cX11_priceOf 134 = .ok (.iconst 0, 1) := by decide +kernel
theorem dX11_priceOf_135 : decode cX11_priceOf 135 = .ok (.istore 8, 2) := by decide +kernel
theorem dX11_priceOf_137 : decode cX11_priceOf 137 = .ok (.iload 8, 2) := by decide +kernel
theorem dX11_priceOf_139 : decode cX11_priceOf 139 = .ok (.aload_n 0, 1) := by decide +kernel
theorem dX11_priceOf_140 : decode cX11_priceOf 140 = .ok (.invokevirtual 85, 3) := by decide +kernel
theorem dX11_priceOf_143 : decode cX11_priceOf 143 = .ok (.if_icmp .ge 87, 3) := by decide +kernel
theorem dX11_priceOf_146 : decode cX11_priceOf 146 = .ok (.aload_n 0, 1) := by decide +kernel
theorem dX11_priceOf_147 : decode cX11_priceOf 147 = .ok (.getfield 52, 3) := by decide +kernel
theorem dX11_priceOf_150 : decode cX11_priceOf 150 = .ok (.iload 8, 2) := by decide +kernel
theorem dX11_priceOf_152 : decode cX11_priceOf 152 = .ok (.baload, 1) := by decide +kernel
theorem dX11_priceOf_153 : decode cX11_priceOf 153 = .ok (.ifCond .ne 71, 3) := by decide +kernel
theorem dX11_priceOf_156 : decode cX11_priceOf 156 = .ok (.aload_n 0, 1) := by decide +kernel
theorem dX11_priceOf_157 : decode cX11_priceOf 157 = .ok (.getfield 37, 3) := by decide +kernel
theorem dX11_priceOf_160 : decode cX11_priceOf 160 = .ok (.iload 8, 2) := by decide +kernel
theorem dX11_priceOf_162 : decode cX11_priceOf 162 = .ok (.iaload, 1) := by decide +kernel
theorem dX11_priceOf_163 : decode cX11_priceOf 163 = .ok (.i2l, 1) := by decide +kernel
theorem dX11_priceOf_164 : decode cX11_priceOf 164 = .ok (.lload 6, 2) := by decide +kernel
theorem dX11_priceOf_166 : decode cX11_priceOf 166 = .ok (.aload_n 0, 1) := by decide +kernel
theorem dX11_priceOf_167 : decode cX11_priceOf 167 = .ok (.getfield 25, 3) := by decide +kernel
theorem dX11_priceOf_170 : decode cX11_priceOf 170 = .ok (.bipush 12, 2) := by decide +kernel
theorem dX11_priceOf_172 : decode cX11_priceOf 172 = .ok (.iload 8, 2) := by decide +kernel
theorem dX11_priceOf_174 : decode cX11_priceOf 174 = .ok (.imul, 1) := by decide +kernel
theorem dX11_priceOf_175 : decode cX11_priceOf 175 = .ok (.iload_n 1, 1) := by decide +kernel
theorem dX11_priceOf_176 : decode cX11_priceOf 176 = .ok (.iadd, 1) := by decide +kernel
theorem dX11_priceOf_177 : decode cX11_priceOf 177 = .ok (.iaload, 1) := by decide +kernel
theorem dX11_priceOf_178 : decode cX11_priceOf 178 = .ok (.i2l, 1) := by decide +kernel
theorem dX11_priceOf_179 : decode cX11_priceOf 179 = .ok (.lmul, 1) := by decide +kernel
theorem dX11_priceOf_180 : decode cX11_priceOf 180 = .ok (.lcmp, 1) := by decide +kernel
theorem dX11_priceOf_181 : decode cX11_priceOf 181 = .ok (.ifCond .lt 6, 3) := by decide +kernel
theorem dX11_priceOf_184 : decode cX11_priceOf 184 = .ok (.goto 40, 3) := by decide +kernel
theorem dX11_priceOf_187 : decode cX11_priceOf 187 = .ok (.aload_n 0, 1) := by decide +kernel
theorem dX11_priceOf_188 : decode cX11_priceOf 188 = .ok (.getfield 52, 3) := by decide +kernel
theorem dX11_priceOf_191 : decode cX11_priceOf 191 = .ok (.iload 8, 2) := by decide +kernel
theorem dX11_priceOf_193 : decode cX11_priceOf 193 = .ok (.iconst 1, 1) := by decide +kernel
theorem dX11_priceOf_194 : decode cX11_priceOf 194 = .ok (.bastore, 1) := by decide +kernel
theorem dX11_priceOf_195 : decode cX11_priceOf 195 = .ok (.lload_n 2, 1) := by decide +kernel
theorem dX11_priceOf_196 : decode cX11_priceOf 196 = .ok (.aload_n 0, 1) := by decide +kernel
theorem dX11_priceOf_197 : decode cX11_priceOf 197 = .ok (.getfield 37, 3) := by decide +kernel
theorem dX11_priceOf_200 : decode cX11_priceOf 200 = .ok (.iload 8, 2) := by decide +kernel
theorem dX11_priceOf_202 : decode cX11_priceOf 202 = .ok (.iaload, 1) := by decide +kernel
theorem dX11_priceOf_203 : decode cX11_priceOf 203 = .ok (.i2l, 1) := by decide +kernel
theorem dX11_priceOf_204 : decode cX11_priceOf 204 = .ok (.lsub, 1) := by decide +kernel
theorem dX11_priceOf_205 : decode cX11_priceOf 205 = .ok (.lstore_n 2, 1) := by decide +kernel
theorem dX11_priceOf_206 : decode cX11_priceOf 206 = .ok (.lload 4, 2) := by decide +kernel
theorem dX11_priceOf_208 : decode cX11_priceOf 208 = .ok (.aload_n 0, 1) := by decide +kernel
theorem dX11_priceOf_209 : decode cX11_priceOf 209 = .ok (.getfield 25, 3) := by decide +kernel
theorem dX11_priceOf_212 : decode cX11_priceOf 212 = .ok (.bipush 12, 2) := by decide +kernel
theorem dX11_priceOf_214 : decode cX11_priceOf 214 = .ok (.iload 8, 2) := by decide +kernel
theorem dX11_priceOf_216 : decode cX11_priceOf 216 = .ok (.imul, 1) := by decide +kernel
theorem dX11_priceOf_217 : decode cX11_priceOf 217 = .ok (.iload_n 1, 1) := by decide +kernel
theorem dX11_priceOf_218 : decode cX11_priceOf 218 = .ok (.iadd, 1) := by decide +kernel
theorem dX11_priceOf_219 : decode cX11_priceOf 219 = .ok (.iaload, 1) := by decide +kernel
theorem dX11_priceOf_220 : decode cX11_priceOf 220 = .ok (.i2l, 1) := by decide +kernel
theorem dX11_priceOf_221 : decode cX11_priceOf 221 = .ok (.lsub, 1) := by decide +kernel
theorem dX11_priceOf_222 : decode cX11_priceOf 222 = .ok (.lstore 4, 2) := by decide +kernel
theorem dX11_priceOf_224 : decode cX11_priceOf 224 = .ok (.iinc 8 1, 3) := by decide +kernel
theorem dX11_priceOf_227 : decode cX11_priceOf 227 = .ok (.goto (-90), 3) := by decide +kernel
theorem dX11_priceOf_230 : decode cX11_priceOf 230 = .ok (.goto (-139), 3) := by decide +kernel
theorem dX11_priceOf_233 : decode cX11_priceOf 233 = .ok (.iconst (-1), 1) := by decide +kernel
theorem dX11_priceOf_234 : decode cX11_priceOf 234 = .ok (.ireturn, 1) := by decide +kernel
def jX11_priceOf_82_17 (Y : XS) (n : Nat) (S : PS) (v0 : Nat) (v1 : Int32) (v2 : Int64) (v6 : Int32) (t0 : Int64) (t1 : Int64) : Option ((Int64 × Int32 × PS) ⊕ (Int64 × PS)) :=
  some (.inl (t1 + t0, v6 + (1 : Int32), S))
def jX11_priceOf_52_17 (Y : XS) (n : Nat) (S : PS) (v0 : Nat) (v1 : Int32) (v2 : Int64) (v4 : Int64) (v6 : Int32) (t0 : Int32) (t1 : Int32) (t2 : Nat) : Option ((Int64 × Int32 × PS) ⊕ (Int64 × PS)) :=
  kwz Y S t2 t1 t0 (fun S52 => kgr S52 v0 24 (fun b56 => kai Y S52 b56 v6 (fun x61 => (if x61 = 0 then kgr S52 v0 12 (fun b70 => kai Y S52 b70 (((12 : Int32) * v6) + v1) (fun x80 => jX11_priceOf_82_17 Y n S52 v0 v1 v2 v6 (Int32.toInt64 x80) v4)) else jX11_priceOf_82_17 Y n S52 v0 v1 v2 v6 (0 : Int64) v4))))
def bX11_priceOf_17 (Y : XS) (n : Nat) (v0 : Nat) (v1 : Int32) (v2 : Int64) (s17 : (Int64 × Int32 × PS)) : Option ((Int64 × Int32 × PS) ⊕ (Int64 × PS)) :=
  kc (fX11_people Y n s17.2.2 v0) (fun q20 => (if q20 ≤ s17.2.1 then some (.inr (s17.1, s17.2.2)) else kgr s17.2.2 v0 24 (fun b27 => kgr s17.2.2 v0 12 (fun b33 => kai Y s17.2.2 b33 (((12 : Int32) * s17.2.1) + v1) (fun x43 => (if x43 = 0 then jX11_priceOf_52_17 Y n s17.2.2 v0 v1 v2 s17.1 s17.2.1 (1 : Int32) s17.2.1 b27 else jX11_priceOf_52_17 Y n s17.2.2 v0 v1 v2 s17.1 s17.2.1 (0 : Int32) s17.2.1 b27))))))
def jX11_priceOf_224_137 (Y : XS) (n : Nat) (S : PS) (v0 : Nat) (v1 : Int32) (v2 : Int64) (v4 : Int64) (v6 : Int64) (v8 : Int32) : Option ((Int64 × Int64 × Int32 × PS) ⊕ (Int64 × Int64 × PS)) :=
  some (.inl (v2, v4, v8 + (1 : Int32), S))
def bX11_priceOf_137 (Y : XS) (n : Nat) (v0 : Nat) (v1 : Int32) (v6 : Int64) (s137 : (Int64 × Int64 × Int32 × PS)) : Option ((Int64 × Int64 × Int32 × PS) ⊕ (Int64 × Int64 × PS)) :=
  kc (fX11_people Y n s137.2.2.2 v0) (fun q140 => (if q140 ≤ s137.2.2.1 then some (.inr (s137.1, s137.2.1, s137.2.2.2)) else kgr s137.2.2.2 v0 24 (fun b147 => kai Y s137.2.2.2 b147 s137.2.2.1 (fun x152 => (if x152 = 0 then kgr s137.2.2.2 v0 16 (fun b157 => kai Y s137.2.2.2 b157 s137.2.2.1 (fun x162 => kgr s137.2.2.2 v0 12 (fun b167 => kai Y s137.2.2.2 b167 (((12 : Int32) * s137.2.2.1) + v1) (fun x177 => (if (lg_cmp (Int32.toInt64 x162) (v6 * (Int32.toInt64 x177))) < 0 then kgr s137.2.2.2 v0 24 (fun b188 => kwz Y s137.2.2.2 b188 s137.2.2.1 (1 : Int32) (fun S194 => kgr S194 v0 16 (fun b197 => kai Y S194 b197 s137.2.2.1 (fun x202 => kgr S194 v0 12 (fun b209 => kai Y S194 b209 (((12 : Int32) * s137.2.2.1) + v1) (fun x219 => jX11_priceOf_224_137 Y n S194 v0 v1 (s137.1 - (Int32.toInt64 x202)) (s137.2.1 - (Int32.toInt64 x219)) v6 s137.2.2.1)))))) else jX11_priceOf_224_137 Y n s137.2.2.2 v0 v1 s137.1 s137.2.1 v6 s137.2.2.1))))) else jX11_priceOf_224_137 Y n s137.2.2.2 v0 v1 s137.1 s137.2.1 v6 s137.2.2.1)))))
def bX11_priceOf_91 (Y : XS) (n : Nat) (v0 : Nat) (v1 : Int32) (s91 : (Int64 × Int64 × PS)) : Option ((Int64 × Int64 × PS) ⊕ (PS ⊕ (Int32 × PS))) :=
  (if (lg_cmp s91.2.1 (0 : Int64)) ≤ 0 then some (.inr (.inl s91.2.2)) else kldiv ((s91.1 + s91.2.1) - (1 : Int64)) s91.2.1 (fun z106 => kc (fX11_givenBy Y n s91.2.2 v0 v1 z106) (fun q113 => kc (fX11_costOf Y n s91.2.2 v0 v1) (fun q121 => (if (lg_cmp q113 ((1000 : Int64) * (Int32.toInt64 q121))) < 0 then kc (iter (bX11_priceOf_137 Y n v0 v1 z106) n (s91.1, s91.2.1, (0 : Int32), s91.2.2)) (fun r137 => some (.inl (r137.1, r137.2.1, r137.2.2))) else some (.inr (.inr (Int64.toInt32 z106, s91.2.2))))))))
def fX11_priceOf (Y : XS) (n : Nat) (S : PS) (a0 : Nat) (x1_ : Int32) : Option (Int32 × PS) :=
  kc (fX11_costOf Y n S a0 x1_) (fun q5 => kc (iter (bX11_priceOf_17 Y n a0 x1_ ((1000 : Int64) * (Int32.toInt64 q5))) n ((0 : Int64), (0 : Int32), S)) (fun r17 => kc (iter (bX11_priceOf_91 Y n a0 x1_) n ((1000 : Int64) * (Int32.toInt64 q5), r17.1, r17.2)) (fun r91 => ks r91 (fun p91_0 => some ((-1 : Int32), p91_0)) (fun p91_1 => some p91_1))))
theorem wjX11_priceOf_82_17 {C : CT} {X : XT} (hC : CK C RX11 cX11_priceOf 9 (some .int) 3) (n : Nat) (S : PS) (v0 : Nat) (v1 : Int32) (v2 : Int64) (v6 : Int32) (t0 : Int64) (t1 : Int64)  (hTv0 : Ty X.2.1 v0 11) {o : (Int64 × Int32 × PS) ⊕ (Int64 × PS)} (hf : jX11_priceOf_82_17 X.2.1 n S v0 v1 v2 v6 t0 t1 = some o) (hN : ∀ s', o = .inl s' → UW C X s'.2.2 17 [(0, .ref (X.1 v0)), (1, .int v1), (2, .long v2), (4, .long s'.1), (6, .int s'.2.1)] []) (hO0 : ∀ p', o = .inr p' → UW C X p'.2 91 [(0, .ref (X.1 v0)), (1, .int v1), (2, .long v2), (4, .long p'.1)] []) : UW C X S 82 [(0, .ref (X.1 v0)), (1, .int v1), (2, .long v2), (6, .int v6)] [.long t0, .long t1] := by
  unfold jX11_priceOf_82_17 at hf
  refine u_ladd hC dX11_priceOf_82 ?_
  refine u_lstore (lv' := [(4, .long (t1 + t0)), (0, .ref (X.1 v0)), (1, .int v1), (2, .long v2), (6, .int v6)]) hC dX11_priceOf_83 (by decide) rfl ?_
  refine u_iinc (v := v6 + (1 : Int32)) (lv' := [(6, .int (v6 + (1 : Int32))), (4, .long (t1 + t0)), (0, .ref (X.1 v0)), (1, .int v1), (2, .long v2)]) hC dX11_priceOf_85 4 rfl rfl (by decide) rfl ?_
  refine u_goto (tgt := 17) hC dX11_priceOf_88 (by decide) ?_
  refine u_sub (lv' := [(0, .ref (X.1 v0)), (1, .int v1), (2, .long v2), (4, .long (t1 + t0)), (6, .int (v6 + (1 : Int32)))]) [2, 3, 4, 1, 0] rfl ?_
  exact hN _ (Option.some.inj hf).symm
theorem wjX11_priceOf_52_17 {C : CT} {X : XT} (hC : CK C RX11 cX11_priceOf 9 (some .int) 3) (n : Nat) (S : PS) (v0 : Nat) (v1 : Int32) (v2 : Int64) (v4 : Int64) (v6 : Int32) (t0 : Int32) (t1 : Int32) (t2 : Nat)  (hTv0 : Ty X.2.1 v0 11) (hTt2 : Ty X.2.1 t2 14) {o : (Int64 × Int32 × PS) ⊕ (Int64 × PS)} (hf : jX11_priceOf_52_17 X.2.1 n S v0 v1 v2 v4 v6 t0 t1 t2 = some o) (hN : ∀ s', o = .inl s' → UW C X s'.2.2 17 [(0, .ref (X.1 v0)), (1, .int v1), (2, .long v2), (4, .long s'.1), (6, .int s'.2.1)] []) (hO0 : ∀ p', o = .inr p' → UW C X p'.2 91 [(0, .ref (X.1 v0)), (1, .int v1), (2, .long v2), (4, .long p'.1)] []) : UW C X S 52 [(0, .ref (X.1 v0)), (1, .int v1), (2, .long v2), (4, .long v4), (6, .int v6)] [.int t0, .int t1, .ref (X.1 t2)] := by
  unfold jX11_priceOf_52_17 at hf
  refine u_wz hC hTt2 dX11_priceOf_52 hf (fun S52 hf => ?_)
  refine u_lload hC dX11_priceOf_53 3 rfl ?_
  refine u_aload_n hC dX11_priceOf_55 0 rfl rfl ?_
  refine u_gr hC lf_X11_52 rfl hTv0 dX11_priceOf_56 hf (fun b56 hTb56 hf => ?_)
  refine u_iload hC dX11_priceOf_59 4 rfl ?_
  refine u_az hC hTb56 dX11_priceOf_61 hf (fun x61 hf => ?_)
  refine u_if_eq (tgt := 69) hC dX11_priceOf_62 (by decide) hf (fun h62 hf => ?_) (fun h62 hf => ?_)
  · refine u_aload_n hC dX11_priceOf_69 0 rfl rfl ?_
    refine u_gr hC lf_X11_25 rfl hTv0 dX11_priceOf_70 hf (fun b70 hTb70 hf => ?_)
    refine u_bipush (v := (12 : Int32)) hC dX11_priceOf_73 (by decide) ?_
    refine u_iload hC dX11_priceOf_75 4 rfl ?_
    refine u_imul hC dX11_priceOf_77 ?_
    refine u_iload_n hC dX11_priceOf_78 1 rfl rfl ?_
    refine u_iadd hC dX11_priceOf_79 ?_
    refine u_ai hC hTb70 dX11_priceOf_80 hf (fun x80 hf => ?_)
    refine u_i2l hC dX11_priceOf_81 ?_
    refine u_sub (lv' := [(0, .ref (X.1 v0)), (1, .int v1), (2, .long v2), (6, .int v6)]) [0, 1, 2, 4] rfl ?_
    exact wjX11_priceOf_82_17 hC n S52 v0 v1 v2 v6 (Int32.toInt64 x80) v4  hTv0 hf hN hO0
  · refine u_lconst (v := (0 : Int64)) hC dX11_priceOf_65 (by decide) ?_
    refine u_goto (tgt := 82) hC dX11_priceOf_66 (by decide) ?_
    refine u_sub (lv' := [(0, .ref (X.1 v0)), (1, .int v1), (2, .long v2), (6, .int v6)]) [0, 1, 2, 4] rfl ?_
    exact wjX11_priceOf_82_17 hC n S52 v0 v1 v2 v6 (0 : Int64) v4  hTv0 hf hN hO0
theorem wbX11_priceOf_17 {C : CT} {X : XT} (hC : CK C RX11 cX11_priceOf 9 (some .int) 3) (n : Nat) (v0 : Nat) (v1 : Int32) (v2 : Int64) (hTv0 : Ty X.2.1 v0 11) (s17 : (Int64 × Int32 × PS)) {o : (Int64 × Int32 × PS) ⊕ (Int64 × PS)} (hf : bX11_priceOf_17 X.2.1 n v0 v1 v2 s17 = some o) (hN : ∀ s', o = .inl s' → UW C X s'.2.2 17 [(0, .ref (X.1 v0)), (1, .int v1), (2, .long v2), (4, .long s'.1), (6, .int s'.2.1)] []) (hO0 : ∀ p', o = .inr p' → UW C X p'.2 91 [(0, .ref (X.1 v0)), (1, .int v1), (2, .long v2), (4, .long p'.1)] []) : UW C X s17.2.2 17 [(0, .ref (X.1 v0)), (1, .int v1), (2, .long v2), (4, .long s17.1), (6, .int s17.2.1)] [] := by
  unfold bX11_priceOf_17 at hf
  refine u_iload hC dX11_priceOf_17 4 rfl ?_
  refine u_aload_n hC dX11_priceOf_19 0 rfl rfl ?_
  obtain ⟨q20, hq20, hf⟩ := kc_some hf
  refine u_callV hC (ctX11_people (cL C) hC.tr (cG C) X.1 X.2.1 n s17.2.2 v0 hTv0 hq20) lk_X11_85 rfl hTv0 (by decide) rfl (by decide) (by decide) rfl rfl (Nat.le_of_ble_eq_true rfl) dX11_priceOf_20 ?_
  refine u_icmp_ge (tgt := 91) hC dX11_priceOf_23 (by decide) hf (fun h23 hf => ?_) (fun h23 hf => ?_)
  · refine u_sub (lv' := [(0, .ref (X.1 v0)), (1, .int v1), (2, .long v2), (4, .long s17.1)]) [0, 1, 2, 3] rfl ?_
    exact hO0 _ (Option.some.inj hf).symm
  · refine u_aload_n hC dX11_priceOf_26 0 rfl rfl ?_
    refine u_gr hC lf_X11_52 rfl hTv0 dX11_priceOf_27 hf (fun b27 hTb27 hf => ?_)
    refine u_iload hC dX11_priceOf_30 4 rfl ?_
    refine u_aload_n hC dX11_priceOf_32 0 rfl rfl ?_
    refine u_gr hC lf_X11_25 rfl hTv0 dX11_priceOf_33 hf (fun b33 hTb33 hf => ?_)
    refine u_bipush (v := (12 : Int32)) hC dX11_priceOf_36 (by decide) ?_
    refine u_iload hC dX11_priceOf_38 4 rfl ?_
    refine u_imul hC dX11_priceOf_40 ?_
    refine u_iload_n hC dX11_priceOf_41 1 rfl rfl ?_
    refine u_iadd hC dX11_priceOf_42 ?_
    refine u_ai hC hTb33 dX11_priceOf_43 hf (fun x43 hf => ?_)
    refine u_if_ne (tgt := 51) hC dX11_priceOf_44 (by decide) hf (fun h44 hf => ?_) (fun h44 hf => ?_)
    · refine u_iconst (v := (0 : Int32)) hC dX11_priceOf_51 (by decide) ?_
      exact wjX11_priceOf_52_17 hC n s17.2.2 v0 v1 v2 s17.1 s17.2.1 (0 : Int32) s17.2.1 b27  hTv0 hTb27 hf hN hO0
    · refine u_iconst (v := (1 : Int32)) hC dX11_priceOf_47 (by decide) ?_
      refine u_goto (tgt := 52) hC dX11_priceOf_48 (by decide) ?_
      exact wjX11_priceOf_52_17 hC n s17.2.2 v0 v1 v2 s17.1 s17.2.1 (1 : Int32) s17.2.1 b27  hTv0 hTb27 hf hN hO0
theorem wjX11_priceOf_224_137 {C : CT} {X : XT} (hC : CK C RX11 cX11_priceOf 9 (some .int) 3) (n : Nat) (S : PS) (v0 : Nat) (v1 : Int32) (v2 : Int64) (v4 : Int64) (v6 : Int64) (v8 : Int32)  (hTv0 : Ty X.2.1 v0 11) {o : (Int64 × Int64 × Int32 × PS) ⊕ (Int64 × Int64 × PS)} (hf : jX11_priceOf_224_137 X.2.1 n S v0 v1 v2 v4 v6 v8 = some o) (hN : ∀ s', o = .inl s' → UW C X s'.2.2.2 137 [(0, .ref (X.1 v0)), (1, .int v1), (2, .long s'.1), (4, .long s'.2.1), (6, .long v6), (8, .int s'.2.2.1)] []) (hO0 : ∀ p', o = .inr p' → UW C X p'.2.2 230 [(0, .ref (X.1 v0)), (1, .int v1), (2, .long p'.1), (4, .long p'.2.1)] []) : UW C X S 224 [(0, .ref (X.1 v0)), (1, .int v1), (2, .long v2), (4, .long v4), (6, .long v6), (8, .int v8)] [] := by
  unfold jX11_priceOf_224_137 at hf
  refine u_iinc (v := v8 + (1 : Int32)) (lv' := [(8, .int (v8 + (1 : Int32))), (0, .ref (X.1 v0)), (1, .int v1), (2, .long v2), (4, .long v4), (6, .long v6)]) hC dX11_priceOf_224 5 rfl rfl (by decide) rfl ?_
  refine u_goto (tgt := 137) hC dX11_priceOf_227 (by decide) ?_
  refine u_sub (lv' := [(0, .ref (X.1 v0)), (1, .int v1), (2, .long v2), (4, .long v4), (6, .long v6), (8, .int (v8 + (1 : Int32)))]) [1, 2, 3, 4, 5, 0] rfl ?_
  exact hN _ (Option.some.inj hf).symm
theorem wbX11_priceOf_137 {C : CT} {X : XT} (hC : CK C RX11 cX11_priceOf 9 (some .int) 3) (n : Nat) (v0 : Nat) (v1 : Int32) (v6 : Int64) (hTv0 : Ty X.2.1 v0 11) (s137 : (Int64 × Int64 × Int32 × PS)) {o : (Int64 × Int64 × Int32 × PS) ⊕ (Int64 × Int64 × PS)} (hf : bX11_priceOf_137 X.2.1 n v0 v1 v6 s137 = some o) (hN : ∀ s', o = .inl s' → UW C X s'.2.2.2 137 [(0, .ref (X.1 v0)), (1, .int v1), (2, .long s'.1), (4, .long s'.2.1), (6, .long v6), (8, .int s'.2.2.1)] []) (hO0 : ∀ p', o = .inr p' → UW C X p'.2.2 230 [(0, .ref (X.1 v0)), (1, .int v1), (2, .long p'.1), (4, .long p'.2.1)] []) : UW C X s137.2.2.2 137 [(0, .ref (X.1 v0)), (1, .int v1), (2, .long s137.1), (4, .long s137.2.1), (6, .long v6), (8, .int s137.2.2.1)] [] := by
  unfold bX11_priceOf_137 at hf
  refine u_iload hC dX11_priceOf_137 5 rfl ?_
  refine u_aload_n hC dX11_priceOf_139 0 rfl rfl ?_
  obtain ⟨q140, hq140, hf⟩ := kc_some hf
  refine u_callV hC (ctX11_people (cL C) hC.tr (cG C) X.1 X.2.1 n s137.2.2.2 v0 hTv0 hq140) lk_X11_85 rfl hTv0 (by decide) rfl (by decide) (by decide) rfl rfl (Nat.le_of_ble_eq_true rfl) dX11_priceOf_140 ?_
  refine u_icmp_ge (tgt := 230) hC dX11_priceOf_143 (by decide) hf (fun h143 hf => ?_) (fun h143 hf => ?_)
  · refine u_sub (lv' := [(0, .ref (X.1 v0)), (1, .int v1), (2, .long s137.1), (4, .long s137.2.1)]) [0, 1, 2, 3] rfl ?_
    exact hO0 _ (Option.some.inj hf).symm
  · refine u_aload_n hC dX11_priceOf_146 0 rfl rfl ?_
    refine u_gr hC lf_X11_52 rfl hTv0 dX11_priceOf_147 hf (fun b147 hTb147 hf => ?_)
    refine u_iload hC dX11_priceOf_150 5 rfl ?_
    refine u_az hC hTb147 dX11_priceOf_152 hf (fun x152 hf => ?_)
    refine u_if_ne (tgt := 224) hC dX11_priceOf_153 (by decide) hf (fun h153 hf => ?_) (fun h153 hf => ?_)
    · exact wjX11_priceOf_224_137 hC n s137.2.2.2 v0 v1 s137.1 s137.2.1 v6 s137.2.2.1  hTv0 hf hN hO0
    · refine u_aload_n hC dX11_priceOf_156 0 rfl rfl ?_
      refine u_gr hC lf_X11_37 rfl hTv0 dX11_priceOf_157 hf (fun b157 hTb157 hf => ?_)
      refine u_iload hC dX11_priceOf_160 5 rfl ?_
      refine u_ai hC hTb157 dX11_priceOf_162 hf (fun x162 hf => ?_)
      refine u_i2l hC dX11_priceOf_163 ?_
      refine u_lload hC dX11_priceOf_164 4 rfl ?_
      refine u_aload_n hC dX11_priceOf_166 0 rfl rfl ?_
      refine u_gr hC lf_X11_25 rfl hTv0 dX11_priceOf_167 hf (fun b167 hTb167 hf => ?_)
      refine u_bipush (v := (12 : Int32)) hC dX11_priceOf_170 (by decide) ?_
      refine u_iload hC dX11_priceOf_172 5 rfl ?_
      refine u_imul hC dX11_priceOf_174 ?_
      refine u_iload_n hC dX11_priceOf_175 1 rfl rfl ?_
      refine u_iadd hC dX11_priceOf_176 ?_
      refine u_ai hC hTb167 dX11_priceOf_177 hf (fun x177 hf => ?_)
      refine u_i2l hC dX11_priceOf_178 ?_
      refine u_lmul hC dX11_priceOf_179 ?_
      refine u_lcmp hC dX11_priceOf_180 ?_
      refine u_if_lt (tgt := 187) hC dX11_priceOf_181 (by decide) hf (fun h181 hf => ?_) (fun h181 hf => ?_)
      · refine u_aload_n hC dX11_priceOf_187 0 rfl rfl ?_
        refine u_gr hC lf_X11_52 rfl hTv0 dX11_priceOf_188 hf (fun b188 hTb188 hf => ?_)
        refine u_iload hC dX11_priceOf_191 5 rfl ?_
        refine u_iconst (v := (1 : Int32)) hC dX11_priceOf_193 (by decide) ?_
        refine u_wz hC hTb188 dX11_priceOf_194 hf (fun S194 hf => ?_)
        refine u_lload_n hC dX11_priceOf_195 2 rfl rfl ?_
        refine u_aload_n hC dX11_priceOf_196 0 rfl rfl ?_
        refine u_gr hC lf_X11_37 rfl hTv0 dX11_priceOf_197 hf (fun b197 hTb197 hf => ?_)
        refine u_iload hC dX11_priceOf_200 5 rfl ?_
        refine u_ai hC hTb197 dX11_priceOf_202 hf (fun x202 hf => ?_)
        refine u_i2l hC dX11_priceOf_203 ?_
        refine u_lsub hC dX11_priceOf_204 ?_
        refine u_lstore_n (lv' := [(2, .long (s137.1 - (Int32.toInt64 x202))), (0, .ref (X.1 v0)), (1, .int v1), (4, .long s137.2.1), (6, .long v6), (8, .int s137.2.2.1)]) hC dX11_priceOf_205 rfl (by decide) rfl ?_
        refine u_lload hC dX11_priceOf_206 3 rfl ?_
        refine u_aload_n hC dX11_priceOf_208 1 rfl rfl ?_
        refine u_gr hC lf_X11_25 rfl hTv0 dX11_priceOf_209 hf (fun b209 hTb209 hf => ?_)
        refine u_bipush (v := (12 : Int32)) hC dX11_priceOf_212 (by decide) ?_
        refine u_iload hC dX11_priceOf_214 5 rfl ?_
        refine u_imul hC dX11_priceOf_216 ?_
        refine u_iload_n hC dX11_priceOf_217 2 rfl rfl ?_
        refine u_iadd hC dX11_priceOf_218 ?_
        refine u_ai hC hTb209 dX11_priceOf_219 hf (fun x219 hf => ?_)
        refine u_i2l hC dX11_priceOf_220 ?_
        refine u_lsub hC dX11_priceOf_221 ?_
        refine u_lstore (lv' := [(4, .long (s137.2.1 - (Int32.toInt64 x219))), (2, .long (s137.1 - (Int32.toInt64 x202))), (0, .ref (X.1 v0)), (1, .int v1), (6, .long v6), (8, .int s137.2.2.1)]) hC dX11_priceOf_222 (by decide) rfl ?_
        refine u_sub (lv' := [(0, .ref (X.1 v0)), (1, .int v1), (2, .long (s137.1 - (Int32.toInt64 x202))), (4, .long (s137.2.1 - (Int32.toInt64 x219))), (6, .long v6), (8, .int s137.2.2.1)]) [2, 3, 1, 0, 4, 5] rfl ?_
        exact wjX11_priceOf_224_137 hC n S194 v0 v1 (s137.1 - (Int32.toInt64 x202)) (s137.2.1 - (Int32.toInt64 x219)) v6 s137.2.2.1  hTv0 hf hN hO0
      · refine u_goto (tgt := 224) hC dX11_priceOf_184 (by decide) ?_
        exact wjX11_priceOf_224_137 hC n s137.2.2.2 v0 v1 s137.1 s137.2.1 v6 s137.2.2.1  hTv0 hf hN hO0
theorem wbX11_priceOf_91 {C : CT} {X : XT} (hC : CK C RX11 cX11_priceOf 9 (some .int) 3) (n : Nat) (v0 : Nat) (v1 : Int32) (hTv0 : Ty X.2.1 v0 11) (s91 : (Int64 × Int64 × PS)) {o : (Int64 × Int64 × PS) ⊕ (PS ⊕ (Int32 × PS))} (hf : bX11_priceOf_91 X.2.1 n v0 v1 s91 = some o) (hN : ∀ s', o = .inl s' → UW C X s'.2.2 91 [(0, .ref (X.1 v0)), (1, .int v1), (2, .long s'.1), (4, .long s'.2.1)] []) (hO0 : ∀ p', o = .inr (.inl p') → UW C X p' 233 [] []) (hR : ∀ q', o = .inr (.inr q') → Rt C X cX11_priceOf (some .int) (some (.int q'.1)) q'.2) : UW C X s91.2.2 91 [(0, .ref (X.1 v0)), (1, .int v1), (2, .long s91.1), (4, .long s91.2.1)] [] := by
  unfold bX11_priceOf_91 at hf
  refine u_lload hC dX11_priceOf_91 3 rfl ?_
  refine u_lconst (v := (0 : Int64)) hC dX11_priceOf_93 (by decide) ?_
  refine u_lcmp hC dX11_priceOf_94 ?_
  refine u_if_le (tgt := 233) hC dX11_priceOf_95 (by decide) hf (fun h95 hf => ?_) (fun h95 hf => ?_)
  · refine u_sub (lv' := []) [] rfl ?_
    exact hO0 _ (Option.some.inj hf).symm
  · refine u_lload_n hC dX11_priceOf_98 2 rfl rfl ?_
    refine u_lload hC dX11_priceOf_99 3 rfl ?_
    refine u_ladd hC dX11_priceOf_101 ?_
    refine u_lconst (v := (1 : Int64)) hC dX11_priceOf_102 (by decide) ?_
    refine u_lsub hC dX11_priceOf_103 ?_
    refine u_lload hC dX11_priceOf_104 3 rfl ?_
    refine u_ldiv hC dX11_priceOf_106 hf (fun z106 hf => ?_)
    refine u_lstore (lv' := [(6, .long z106), (0, .ref (X.1 v0)), (1, .int v1), (2, .long s91.1), (4, .long s91.2.1)]) hC dX11_priceOf_107 (by decide) rfl ?_
    refine u_aload_n hC dX11_priceOf_109 1 rfl rfl ?_
    refine u_iload_n hC dX11_priceOf_110 2 rfl rfl ?_
    refine u_lload hC dX11_priceOf_111 0 rfl ?_
    obtain ⟨q113, hq113, hf⟩ := kc_some hf
    refine u_callV hC (ctX11_givenBy (cL C) hC.tr (cG C) X.1 X.2.1 n s91.2.2 v0 v1 z106 hTv0 hq113) lk_X11_162 rfl hTv0 (by decide) rfl (by decide) (by decide) rfl rfl (Nat.le_of_ble_eq_true rfl) dX11_priceOf_113 ?_
    refine u_ldc2 (v := (1000 : Int64)) hC dX11_priceOf_116 (tb_7 30 rfl rfl) ?_
    refine u_aload_n hC dX11_priceOf_119 1 rfl rfl ?_
    refine u_iload_n hC dX11_priceOf_120 2 rfl rfl ?_
    obtain ⟨q121, hq121, hf⟩ := kc_some hf
    refine u_callV hC (ctX11_costOf (cL C) hC.tr (cG C) X.1 X.2.1 n s91.2.2 v0 v1 hTv0 hq121) lk_X11_134 rfl hTv0 (by decide) rfl (by decide) (by decide) rfl rfl (Nat.le_of_ble_eq_true rfl) dX11_priceOf_121 ?_
    refine u_i2l hC dX11_priceOf_124 ?_
    refine u_lmul hC dX11_priceOf_125 ?_
    refine u_lcmp hC dX11_priceOf_126 ?_
    refine u_if_lt (tgt := 134) hC dX11_priceOf_127 (by decide) hf (fun h127 hf => ?_) (fun h127 hf => ?_)
    · refine u_iconst (v := (0 : Int32)) hC dX11_priceOf_134 (by decide) ?_
      refine u_istore (lv' := [(8, .int (0 : Int32)), (6, .long z106), (0, .ref (X.1 v0)), (1, .int v1), (2, .long s91.1), (4, .long s91.2.1)]) hC dX11_priceOf_135 (by decide) rfl ?_
      obtain ⟨r137, hr137, hf⟩ := kc_some hf
      have hk137 : UW C X r137.2.2 230 [(0, .ref (X.1 v0)), (1, .int v1), (2, .long r137.1), (4, .long r137.2.1)] [] := by
        refine u_goto (tgt := 91) hC dX11_priceOf_230 (by decide) ?_
        exact hN _ (Option.some.inj hf).symm
      refine u_sub (lv' := [(0, .ref (X.1 v0)), (1, .int v1), (2, .long s91.1), (4, .long s91.2.1), (6, .long z106), (8, .int (0 : Int32))]) [2, 3, 4, 5, 1, 0] rfl ?_
      refine iter_ind (P := fun s137 => UW C X s137.2.2.2 137 [(0, .ref (X.1 v0)), (1, .int v1), (2, .long s137.1), (4, .long s137.2.1), (6, .long z106), (8, .int s137.2.2.1)] []) (fun s137 o' hb hin hout => ?_) n (s91.1, s91.2.1, (0 : Int32), s91.2.2) hr137
      exact wbX11_priceOf_137 hC n v0 v1 z106 hTv0 s137 hb hin (fun p e => by rw [hout p e]; exact hk137)
    · refine u_lload hC dX11_priceOf_130 0 rfl ?_
      refine u_l2i hC dX11_priceOf_132 ?_
      exact hR _ (Option.some.inj hf).symm _ _ dX11_priceOf_133 trivial
theorem wX11_priceOf {C : CT} {X : XT} (hC : CK C RX11 cX11_priceOf 9 (some .int) 3) (n : Nat) (S : PS) (a0 : Nat) (x1_ : Int32) (hTa0 : Ty X.2.1 a0 11) {o : Int32 × PS} (hf : fX11_priceOf X.2.1 n S a0 x1_ = some o) (hR : Rt C X cX11_priceOf (some .int) (some (.int o.1)) o.2) : UW C X S 0 [(0, .ref (X.1 a0)), (1, .int x1_)] [] := by
  unfold fX11_priceOf at hf
  refine u_ldc2 (v := (1000 : Int64)) hC dX11_priceOf_0 (tb_7 30 rfl rfl) ?_
  refine u_aload_n hC dX11_priceOf_3 0 rfl rfl ?_
  refine u_iload_n hC dX11_priceOf_4 1 rfl rfl ?_
  obtain ⟨q5, hq5, hf⟩ := kc_some hf
  refine u_callV hC (ctX11_costOf (cL C) hC.tr (cG C) X.1 X.2.1 n S a0 x1_ hTa0 hq5) lk_X11_134 rfl hTa0 (by decide) rfl (by decide) (by decide) rfl rfl (Nat.le_of_ble_eq_true rfl) dX11_priceOf_5 ?_
  refine u_i2l hC dX11_priceOf_8 ?_
  refine u_lmul hC dX11_priceOf_9 ?_
  refine u_lstore_n (lv' := [(2, .long ((1000 : Int64) * (Int32.toInt64 q5))), (0, .ref (X.1 a0)), (1, .int x1_)]) hC dX11_priceOf_10 rfl (by decide) rfl ?_
  refine u_lconst (v := (0 : Int64)) hC dX11_priceOf_11 (by decide) ?_
  refine u_lstore (lv' := [(4, .long (0 : Int64)), (2, .long ((1000 : Int64) * (Int32.toInt64 q5))), (0, .ref (X.1 a0)), (1, .int x1_)]) hC dX11_priceOf_12 (by decide) rfl ?_
  refine u_iconst (v := (0 : Int32)) hC dX11_priceOf_14 (by decide) ?_
  refine u_istore (lv' := [(6, .int (0 : Int32)), (4, .long (0 : Int64)), (2, .long ((1000 : Int64) * (Int32.toInt64 q5))), (0, .ref (X.1 a0)), (1, .int x1_)]) hC dX11_priceOf_15 (by decide) rfl ?_
  obtain ⟨r17, hr17, hf⟩ := kc_some hf
  have hk17 : UW C X r17.2 91 [(0, .ref (X.1 a0)), (1, .int x1_), (2, .long ((1000 : Int64) * (Int32.toInt64 q5))), (4, .long r17.1)] [] := by
    obtain ⟨r91, hr91, hf⟩ := kc_some hf
    have hk91_0 : ∀ p91_0, r91 = (.inl p91_0) → UW C X p91_0 233 [] [] := by
      intro p91_0 he
      subst he
      have hf := ks_l hf
      refine u_iconst (v := (-1 : Int32)) hC dX11_priceOf_233 (by decide) ?_
      cases hf
      exact hR _ _ dX11_priceOf_234 trivial
    have hk91_1 : ∀ p91_1, r91 = (.inr p91_1) → Rt C X cX11_priceOf (some .int) (some (.int p91_1.1)) p91_1.2 := by
      intro p91_1 he
      subst he
      have hf := ks_r hf
      cases hf
      exact hR
    refine iter_ind (P := fun s91 => UW C X s91.2.2 91 [(0, .ref (X.1 a0)), (1, .int x1_), (2, .long s91.1), (4, .long s91.2.1)] []) (fun s91 o' hb hin hout => ?_) n ((1000 : Int64) * (Int32.toInt64 q5), r17.1, r17.2) hr91
    exact wbX11_priceOf_91 hC n a0 x1_ hTa0 s91 hb hin (fun p e => hk91_0 p (hout _ e).symm) (fun p e => hk91_1 p (hout _ e).symm)
  refine u_sub (lv' := [(0, .ref (X.1 a0)), (1, .int x1_), (2, .long ((1000 : Int64) * (Int32.toInt64 q5))), (4, .long (0 : Int64)), (6, .int (0 : Int32))]) [3, 4, 2, 1, 0] rfl ?_
  refine iter_ind (P := fun s17 => UW C X s17.2.2 17 [(0, .ref (X.1 a0)), (1, .int x1_), (2, .long ((1000 : Int64) * (Int32.toInt64 q5))), (4, .long s17.1), (6, .int s17.2.1)] []) (fun s17 o' hb hin hout => ?_) n ((0 : Int64), (0 : Int32), S) hr17
  exact wbX11_priceOf_17 hC n a0 x1_ ((1000 : Int64) * (Int32.toInt64 q5)) hTa0 s17 hb hin (fun p e => by rw [hout p e]; exact hk17)
theorem ctX11_priceOf (l : Launch) (hl : l.stackTraces = false) (G : GT) (ρ : Nat → Nat) (Y : XS) (n : Nat) (S : PS) (a0 : Nat) (x1_ : Int32) (hTa0 : Ty Y a0 11) {o : Int32 × PS} (hf : fX11_priceOf Y n S a0 x1_ = some o) : Mt l G yX11_priceOf cX11_priceOf 9 (some .int) 3 ρ Y [.ref (ρ a0), .int x1_] S (some (.int o.1)) o.2 :=
  Mt_of hl (by decide) (Nat.le_of_ble_eq_true rfl) (fun C _ _ hC hR => wX11_priceOf (X := (ρ, Y, 0, 0)) hC n S a0 x1_ hTa0 hf hR)
-- X11_pay
theorem dX11_pay_0 : decode cX11_pay 0 = .ok (.sipush 1000, 3) := by decide +kernel
theorem dX11_pay_3 : decode cX11_pay 3 = .ok (.aload_n 0, 1) := by decide +kernel
theorem dX11_pay_4 : decode cX11_pay 4 = .ok (.iload_n 1, 1) := by decide +kernel
theorem dX11_pay_5 : decode cX11_pay 5 = .ok (.invokevirtual 134, 3) := by decide +kernel
theorem dX11_pay_8 : decode cX11_pay 8 = .ok (.imul, 1) := by decide +kernel
theorem dX11_pay_9 : decode cX11_pay 9 = .ok (.istore_n 3, 1) := by decide +kernel
theorem dX11_pay_10 : decode cX11_pay 10 = .ok (.aload_n 0, 1) := by decide +kernel
theorem dX11_pay_11 : decode cX11_pay 11 = .ok (.getfield 46, 3) := by decide +kernel
theorem dX11_pay_14 : decode cX11_pay 14 = .ok (.aload_n 0, 1) := by decide +kernel
theorem dX11_pay_15 : decode cX11_pay 15 = .ok (.getfield 157, 3) := by decide +kernel
theorem dX11_pay_18 : decode cX11_pay 18 = .ok (.iconst 0, 1) := by decide +kernel
theorem dX11_pay_19 : decode cX11_pay 19 = .ok (.iastore, 1) := by decide +kernel
theorem dX11_pay_20 : decode cX11_pay 20 = .ok (.aload_n 0, 1) := by decide +kernel
theorem dX11_pay_21 : decode cX11_pay 21 = .ok (.getfield 49, 3) := by decide +kernel
theorem dX11_pay_24 : decode cX11_pay 24 = .ok (.aload_n 0, 1) := by decide +kernel
theorem dX11_pay_25 : decode cX11_pay 25 = .ok (.getfield 157, 3) := by decide +kernel
theorem dX11_pay_28 : decode cX11_pay 28 = .ok (.iconst 0, 1) := by decide +kernel
theorem dX11_pay_29 : decode cX11_pay 29 = .ok (.iastore, 1) := by decide +kernel
theorem dX11_pay_30 : decode cX11_pay 30 = .ok (.aload_n 0, 1) := by decide +kernel
theorem dX11_pay_31 : decode cX11_pay 31 = .ok (.getfield 43, 3) := by decide +kernel
theorem dX11_pay_34 : decode cX11_pay 34 = .ok (.aload_n 0, 1) := by decide +kernel
theorem dX11_pay_35 : decode cX11_pay 35 = .ok (.getfield 157, 3) := by decide +kernel
theorem dX11_pay_38 : decode cX11_pay 38 = .ok (.iload_n 2, 1) := by decide +kernel
theorem dX11_pay_39 : decode cX11_pay 39 = .ok (.iastore, 1) := by decide +kernel
theorem dX11_pay_40 : decode cX11_pay 40 = .ok (.iconst 0, 1) := by decide +kernel
theorem dX11_pay_41 : decode cX11_pay 41 = .ok (.istore 4, 2) := by decide +kernel
theorem dX11_pay_43 : decode cX11_pay 43 = .ok (.iload 4, 2) := by decide +kernel
theorem dX11_pay_45 : decode cX11_pay 45 = .ok (.aload_n 0, 1) := by decide +kernel
theorem dX11_pay_46 : decode cX11_pay 46 = .ok (.invokevirtual 85, 3) := by decide +kernel
theorem dX11_pay_49 : decode cX11_pay 49 = .ok (.if_icmp .ge 135, 3) := by decide +kernel
theorem dX11_pay_52 : decode cX11_pay 52 = .ok (.iload_n 3, 1) := by decide +kernel
theorem dX11_pay_53 : decode cX11_pay 53 = .ok (.i2l, 1) := by decide +kernel
theorem dX11_pay_54 : decode cX11_pay 54 = .ok (.aload_n 0, 1) := by decide +kernel
theorem dX11_pay_55 : decode cX11_pay 55 = .ok (.getfield 37, 3) := by decide +kernel
theorem dX11_pay_58 : decode cX11_pay 58 = .ok (.iload 4, 2) := by decide +kernel
theorem dX11_pay_60 : decode cX11_pay 60 = .ok (.iaload, 1) := by decide +kernel
theorem dX11_pay_61 : decode cX11_pay 61 = .ok (.i2l, 1) := by decide +kernel
theorem dX11_pay_62 : decode cX11_pay 62 = .ok (.iload_n 2, 1) := by decide +kernel
theorem dX11_pay_63 : decode cX11_pay 63 = .ok (.i2l, 1) := by decide +kernel
theorem dX11_pay_64 : decode cX11_pay 64 = .ok (.aload_n 0, 1) := by decide +kernel
theorem dX11_pay_65 : decode cX11_pay 65 = .ok (.getfield 25, 3) := by decide +kernel
theorem dX11_pay_68 : decode cX11_pay 68 = .ok (.bipush 12, 2) := by decide +kernel
theorem dX11_pay_70 : decode cX11_pay 70 = .ok (.iload 4, 2) := by decide +kernel
theorem dX11_pay_72 : decode cX11_pay 72 = .ok (.imul, 1) := by decide +kernel
theorem dX11_pay_73 : decode cX11_pay 73 = .ok (.iload_n 1, 1) := by decide +kernel
theorem dX11_pay_74 : decode cX11_pay 74 = .ok (.iadd, 1) := by decide +kernel
theorem dX11_pay_75 : decode cX11_pay 75 = .ok (.iaload, 1) := by decide +kernel
theorem dX11_pay_76 : decode cX11_pay 76 = .ok (.i2l, 1) := by decide +kernel
theorem dX11_pay_77 : decode cX11_pay 77 = .ok (.lmul, 1) := by decide +kernel
theorem dX11_pay_78 : decode cX11_pay 78 = .ok (.invokestatic 166, 3) := by decide +kernel
theorem dX11_pay_81 : decode cX11_pay 81 = .ok (.invokestatic 166, 3) := by decide +kernel
theorem dX11_pay_84 : decode cX11_pay 84 = .ok (.lstore 5, 2) := by decide +kernel
theorem dX11_pay_86 : decode cX11_pay 86 = .ok (.aload_n 0, 1) := by decide +kernel
theorem dX11_pay_87 : decode cX11_pay 87 = .ok (.getfield 37, 3) := by decide +kernel
theorem dX11_pay_90 : decode cX11_pay 90 = .ok (.iload 4, 2) := by decide +kernel
theorem dX11_pay_92 : decode cX11_pay 92 = .ok (.dup2, 1) := by decide +kernel
theorem dX11_pay_93 : decode cX11_pay 93 = .ok (.iaload, 1) := by decide +kernel
theorem dX11_pay_94 : decode cX11_pay 94 = .ok (.lload 5, 2) := by decide +kernel
theorem dX11_pay_96 : decode cX11_pay 96 = .ok (.l2i, 1) := by decide +kernel
theorem dX11_pay_97 : decode cX11_pay 97 = .ok (.isub, 1) := by decide +kernel
theorem dX11_pay_98 : decode cX11_pay 98 = .ok (.iastore, 1) := by decide +kernel
theorem dX11_pay_99 : decode cX11_pay 99 = .ok (.iload_n 3, 1) := by decide +kernel
theorem dX11_pay_100 : decode cX11_pay 100 = .ok (.lload 5, 2) := by decide +kernel
theorem dX11_pay_102 : decode cX11_pay 102 = .ok (.l2i, 1) := by decide +kernel
theorem dX11_pay_103 : decode cX11_pay 103 = .ok (.isub, 1) := by decide +kernel
theorem dX11_pay_104 : decode cX11_pay 104 = .ok (.istore_n 3, 1) := by decide +kernel
theorem dX11_pay_105 : decode cX11_pay 105 = .ok (.aload_n 0, 1) := by decide +kernel
theorem dX11_pay_106 : decode cX11_pay 106 = .ok (.getfield 40, 3) := by decide +kernel
theorem dX11_pay_109 : decode cX11_pay 109 = .ok (.bipush 12, 2) := by decide +kernel
theorem dX11_pay_111 : decode cX11_pay 111 = .ok (.iload 4, 2) := by decide +kernel
theorem dX11_pay_113 : decode cX11_pay 113 = .ok (.imul, 1) := by decide +kernel
theorem dX11_pay_114 : decode cX11_pay 114 = .ok (.iload_n 1, 1) := by decide +kernel
theorem dX11_pay_115 : decode cX11_pay 115 = .ok (.iadd, 1) := by decide +kernel
theorem dX11_pay_116 : decode cX11_pay 116 = .ok (.lload 5, 2) := by decide +kernel
theorem dX11_pay_118 : decode cX11_pay 118 = .ok (.l2i, 1) := by decide +kernel
theorem dX11_pay_119 : decode cX11_pay 119 = .ok (.iastore, 1) := by decide +kernel
theorem dX11_pay_120 : decode cX11_pay 120 = .ok (.aload_n 0, 1) := by decide +kernel
theorem dX11_pay_121 : decode cX11_pay 121 = .ok (.getfield 46, 3) := by decide +kernel
theorem dX11_pay_124 : decode cX11_pay 124 = .ok (.aload_n 0, 1) := by decide +kernel
theorem dX11_pay_125 : decode cX11_pay 125 = .ok (.getfield 157, 3) := by decide +kernel
theorem dX11_pay_128 : decode cX11_pay 128 = .ok (.dup2, 1) := by decide +kernel
theorem dX11_pay_129 : decode cX11_pay 129 = .ok (.iaload, 1) := by decide +kernel
theorem dX11_pay_130 : decode cX11_pay 130 = .ok (.lload 5, 2) := by decide +kernel
theorem dX11_pay_132 : decode cX11_pay 132 = .ok (.lconst 0, 1) := by decide +kernel
theorem dX11_pay_133 : decode cX11_pay 133 = .ok (.lcmp, 1) := by decide +kernel
theorem dX11_pay_134 : decode cX11_pay 134 = .ok (.ifCond .le 7, 3) := by decide +kernel
theorem dX11_pay_137 : decode cX11_pay 137 = .ok (.iconst 1, 1) := by decide +kernel
theorem dX11_pay_138 : decode cX11_pay 138 = .ok (.goto 4, 3) := by decide +kernel
theorem dX11_pay_141 : decode cX11_pay 141 = .ok (.iconst 0, 1) := by decide +kernel
theorem dX11_pay_142 : decode cX11_pay 142 = .ok (.iadd, 1) := by decide +kernel
theorem dX11_pay_143 : decode cX11_pay 143 = .ok (.iastore, 1) := by decide +kernel
theorem dX11_pay_144 : decode cX11_pay 144 = .ok (.aload_n 0, 1) := by decide +kernel
theorem dX11_pay_145 : decode cX11_pay 145 = .ok (.getfield 49, 3) := by decide +kernel
theorem dX11_pay_148 : decode cX11_pay 148 = .ok (.aload_n 0, 1) := by decide +kernel
theorem dX11_pay_149 : decode cX11_pay 149 = .ok (.getfield 157, 3) := by decide +kernel
theorem dX11_pay_152 : decode cX11_pay 152 = .ok (.dup2, 1) := by decide +kernel
theorem dX11_pay_153 : decode cX11_pay 153 = .ok (.iaload, 1) := by decide +kernel
theorem dX11_pay_154 : decode cX11_pay 154 = .ok (.lload 5, 2) := by decide +kernel
theorem dX11_pay_156 : decode cX11_pay 156 = .ok (.lconst 0, 1) := by decide +kernel
theorem dX11_pay_157 : decode cX11_pay 157 = .ok (.lcmp, 1) := by decide +kernel
theorem dX11_pay_158 : decode cX11_pay 158 = .ok (.ifCond .le 17, 3) := by decide +kernel
theorem dX11_pay_161 : decode cX11_pay 161 = .ok (.aload_n 0, 1) := by decide +kernel
theorem dX11_pay_162 : decode cX11_pay 162 = .ok (.getfield 37, 3) := by decide +kernel
theorem dX11_pay_165 : decode cX11_pay 165 = .ok (.iload 4, 2) := by decide +kernel
theorem dX11_pay_167 : decode cX11_pay 167 = .ok (.iaload, 1) := by decide +kernel
theorem dX11_pay_168 : decode cX11_pay 168 = .ok (.ifCond .ne 7, 3) := by decide +kernel
theorem dX11_pay_171 : decode cX11_pay 171 = .ok (.iconst 1, 1) := by decide +kernel
theorem dX11_pay_172 : decode cX11_pay 172 = .ok (.goto 4, 3) := by decide +kernel
theorem dX11_pay_175 : decode cX11_pay 175 = .ok (.iconst 0, 1) := by decide +kernel
theorem dX11_pay_176 : decode cX11_pay 176 = .ok (.iadd, 1) := by decide +kernel
theorem dX11_pay_177 : decode cX11_pay 177 = .ok (.iastore, 1) := by decide +kernel
theorem dX11_pay_178 : decode cX11_pay 178 = .ok (.iinc 4 1, 3) := by decide +kernel
theorem dX11_pay_181 : decode cX11_pay 181 = .ok (.goto (-138), 3) := by decide +kernel
theorem dX11_pay_184 : decode cX11_pay 184 = .ok (.aload_n 0, 1) := by decide +kernel
theorem dX11_pay_185 : decode cX11_pay 185 = .ok (.iload_n 1, 1) := by decide +kernel
theorem dX11_pay_186 : decode cX11_pay 186 = .ok (.invokevirtual 169, 3) := by decide +kernel
theorem dX11_pay_189 : decode cX11_pay 189 = .ok (.return_, 1) := by decide +kernel
def jX11_pay_176_43 (Y : XS) (n : Nat) (S : PS) (v0 : Nat) (v1 : Int32) (v2 : Int32) (v3 : Int32) (v4 : Int32) (t0 : Int32) (t1 : Int32) (t2 : Int32) (t3 : Nat) : Option ((Int32 × Int32 × PS) ⊕ PS) :=
  kwi Y S t3 t2 (t1 + t0) (fun S177 => some (.inl (v3, v4 + (1 : Int32), S177)))
def jX11_pay_175_43 (Y : XS) (n : Nat) (S : PS) (v0 : Nat) (v1 : Int32) (v2 : Int32) (v3 : Int32) (v4 : Int32) (t0 : Int32) (t1 : Int32) (t2 : Nat) : Option ((Int32 × Int32 × PS) ⊕ PS) :=
  jX11_pay_176_43 Y n S v0 v1 v2 v3 v4 (0 : Int32) t0 t1 t2
def jX11_pay_142_43 (Y : XS) (n : Nat) (S : PS) (v0 : Nat) (v1 : Int32) (v2 : Int32) (v3 : Int32) (v4 : Int32) (v5 : Int64) (t0 : Int32) (t1 : Int32) (t2 : Int32) (t3 : Nat) : Option ((Int32 × Int32 × PS) ⊕ PS) :=
  kwi Y S t3 t2 (t1 + t0) (fun S143 => kgr S143 v0 20 (fun b145 => kgi S143 v0 22 (fun x149 => kai Y S143 b145 x149 (fun x153 => (if (lg_cmp v5 (0 : Int64)) ≤ 0 then jX11_pay_175_43 Y n S143 v0 v1 v2 v3 v4 x153 x149 b145 else kgr S143 v0 16 (fun b162 => kai Y S143 b162 v4 (fun x167 => (if x167 = 0 then jX11_pay_176_43 Y n S143 v0 v1 v2 v3 v4 (1 : Int32) x153 x149 b145 else jX11_pay_175_43 Y n S143 v0 v1 v2 v3 v4 x153 x149 b145))))))))
def bX11_pay_43 (Y : XS) (n : Nat) (v0 : Nat) (v1 : Int32) (v2 : Int32) (s43 : (Int32 × Int32 × PS)) : Option ((Int32 × Int32 × PS) ⊕ PS) :=
  kc (fX11_people Y n s43.2.2 v0) (fun q46 => (if q46 ≤ s43.2.1 then some (.inr s43.2.2) else kgr s43.2.2 v0 16 (fun b55 => kai Y s43.2.2 b55 s43.2.1 (fun x60 => kgr s43.2.2 v0 12 (fun b65 => kai Y s43.2.2 b65 (((12 : Int32) * s43.2.1) + v1) (fun x75 => kgr s43.2.2 v0 16 (fun b87 => kai Y s43.2.2 b87 s43.2.1 (fun x93 => kwi Y s43.2.2 b87 s43.2.1 (x93 - (Int64.toInt32 (lmin (Int32.toInt64 s43.1) (lmin (Int32.toInt64 x60) ((Int32.toInt64 v2) * (Int32.toInt64 x75)))))) (fun S98 => kgr S98 v0 17 (fun b106 => kwi Y S98 b106 (((12 : Int32) * s43.2.1) + v1) (Int64.toInt32 (lmin (Int32.toInt64 s43.1) (lmin (Int32.toInt64 x60) ((Int32.toInt64 v2) * (Int32.toInt64 x75))))) (fun S119 => kgr S119 v0 19 (fun b121 => kgi S119 v0 22 (fun x125 => kai Y S119 b121 x125 (fun x129 => (if (lg_cmp (lmin (Int32.toInt64 s43.1) (lmin (Int32.toInt64 x60) ((Int32.toInt64 v2) * (Int32.toInt64 x75)))) (0 : Int64)) ≤ 0 then jX11_pay_142_43 Y n S119 v0 v1 v2 (s43.1 - (Int64.toInt32 (lmin (Int32.toInt64 s43.1) (lmin (Int32.toInt64 x60) ((Int32.toInt64 v2) * (Int32.toInt64 x75)))))) s43.2.1 (lmin (Int32.toInt64 s43.1) (lmin (Int32.toInt64 x60) ((Int32.toInt64 v2) * (Int32.toInt64 x75)))) (0 : Int32) x129 x125 b121 else jX11_pay_142_43 Y n S119 v0 v1 v2 (s43.1 - (Int64.toInt32 (lmin (Int32.toInt64 s43.1) (lmin (Int32.toInt64 x60) ((Int32.toInt64 v2) * (Int32.toInt64 x75)))))) s43.2.1 (lmin (Int32.toInt64 s43.1) (lmin (Int32.toInt64 x60) ((Int32.toInt64 v2) * (Int32.toInt64 x75)))) (1 : Int32) x129 x125 b121)))))))))))))))
def fX11_pay (Y : XS) (n : Nat) (S : PS) (a0 : Nat) (x1_ : Int32) (x2_ : Int32) : Option (PS) :=
  kc (fX11_costOf Y n S a0 x1_) (fun q5 => kgr S a0 19 (fun b11 => kgi S a0 22 (fun x15 => kwi Y S b11 x15 (0 : Int32) (fun S19 => kgr S19 a0 20 (fun b21 => kgi S19 a0 22 (fun x25 => kwi Y S19 b21 x25 (0 : Int32) (fun S29 => kgr S29 a0 18 (fun b31 => kgi S29 a0 22 (fun x35 => kwi Y S29 b31 x35 x2_ (fun S39 => kc (iter (bX11_pay_43 Y n a0 x1_ x2_) n ((1000 : Int32) * q5, (0 : Int32), S39)) (fun r43 => kc (fX11_choose Y n r43 a0 x1_) (fun q186 => some q186))))))))))))
theorem wjX11_pay_176_43 {C : CT} {X : XT} (hC : CK C RX11 cX11_pay 7 none 2) (n : Nat) (S : PS) (v0 : Nat) (v1 : Int32) (v2 : Int32) (v3 : Int32) (v4 : Int32) (t0 : Int32) (t1 : Int32) (t2 : Int32) (t3 : Nat)  (hTv0 : Ty X.2.1 v0 11) (hTt3 : Ty X.2.1 t3 12) {o : (Int32 × Int32 × PS) ⊕ PS} (hf : jX11_pay_176_43 X.2.1 n S v0 v1 v2 v3 v4 t0 t1 t2 t3 = some o) (hN : ∀ s', o = .inl s' → UW C X s'.2.2 43 [(0, .ref (X.1 v0)), (1, .int v1), (2, .int v2), (3, .int s'.1), (4, .int s'.2.1)] []) (hO0 : ∀ p', o = .inr p' → UW C X p' 184 [(0, .ref (X.1 v0)), (1, .int v1)] []) : UW C X S 176 [(0, .ref (X.1 v0)), (1, .int v1), (2, .int v2), (3, .int v3), (4, .int v4)] [.int t0, .int t1, .int t2, .ref (X.1 t3)] := by
  unfold jX11_pay_176_43 at hf
  refine u_iadd hC dX11_pay_176 ?_
  refine u_wi hC hTt3 dX11_pay_177 hf (fun S177 hf => ?_)
  refine u_iinc (v := v4 + (1 : Int32)) (lv' := [(4, .int (v4 + (1 : Int32))), (0, .ref (X.1 v0)), (1, .int v1), (2, .int v2), (3, .int v3)]) hC dX11_pay_178 4 rfl rfl (by decide) rfl ?_
  refine u_goto (tgt := 43) hC dX11_pay_181 (by decide) ?_
  refine u_sub (lv' := [(0, .ref (X.1 v0)), (1, .int v1), (2, .int v2), (3, .int v3), (4, .int (v4 + (1 : Int32)))]) [1, 2, 3, 4, 0] rfl ?_
  exact hN _ (Option.some.inj hf).symm
theorem wjX11_pay_175_43 {C : CT} {X : XT} (hC : CK C RX11 cX11_pay 7 none 2) (n : Nat) (S : PS) (v0 : Nat) (v1 : Int32) (v2 : Int32) (v3 : Int32) (v4 : Int32) (t0 : Int32) (t1 : Int32) (t2 : Nat)  (hTv0 : Ty X.2.1 v0 11) (hTt2 : Ty X.2.1 t2 12) {o : (Int32 × Int32 × PS) ⊕ PS} (hf : jX11_pay_175_43 X.2.1 n S v0 v1 v2 v3 v4 t0 t1 t2 = some o) (hN : ∀ s', o = .inl s' → UW C X s'.2.2 43 [(0, .ref (X.1 v0)), (1, .int v1), (2, .int v2), (3, .int s'.1), (4, .int s'.2.1)] []) (hO0 : ∀ p', o = .inr p' → UW C X p' 184 [(0, .ref (X.1 v0)), (1, .int v1)] []) : UW C X S 175 [(0, .ref (X.1 v0)), (1, .int v1), (2, .int v2), (3, .int v3), (4, .int v4)] [.int t0, .int t1, .ref (X.1 t2)] := by
  unfold jX11_pay_175_43 at hf
  refine u_iconst (v := (0 : Int32)) hC dX11_pay_175 (by decide) ?_
  exact wjX11_pay_176_43 hC n S v0 v1 v2 v3 v4 (0 : Int32) t0 t1 t2  hTv0 hTt2 hf hN hO0
theorem wjX11_pay_142_43 {C : CT} {X : XT} (hC : CK C RX11 cX11_pay 7 none 2) (n : Nat) (S : PS) (v0 : Nat) (v1 : Int32) (v2 : Int32) (v3 : Int32) (v4 : Int32) (v5 : Int64) (t0 : Int32) (t1 : Int32) (t2 : Int32) (t3 : Nat)  (hTv0 : Ty X.2.1 v0 11) (hTt3 : Ty X.2.1 t3 12) {o : (Int32 × Int32 × PS) ⊕ PS} (hf : jX11_pay_142_43 X.2.1 n S v0 v1 v2 v3 v4 v5 t0 t1 t2 t3 = some o) (hN : ∀ s', o = .inl s' → UW C X s'.2.2 43 [(0, .ref (X.1 v0)), (1, .int v1), (2, .int v2), (3, .int s'.1), (4, .int s'.2.1)] []) (hO0 : ∀ p', o = .inr p' → UW C X p' 184 [(0, .ref (X.1 v0)), (1, .int v1)] []) : UW C X S 142 [(0, .ref (X.1 v0)), (1, .int v1), (2, .int v2), (3, .int v3), (4, .int v4), (5, .long v5)] [.int t0, .int t1, .int t2, .ref (X.1 t3)] := by
  unfold jX11_pay_142_43 at hf
  refine u_iadd hC dX11_pay_142 ?_
  refine u_wi hC hTt3 dX11_pay_143 hf (fun S143 hf => ?_)
  refine u_aload_n hC dX11_pay_144 0 rfl rfl ?_
  refine u_gr hC lf_X11_49 rfl hTv0 dX11_pay_145 hf (fun b145 hTb145 hf => ?_)
  refine u_aload_n hC dX11_pay_148 0 rfl rfl ?_
  refine u_gi hC lf_X11_157 rfl hTv0 dX11_pay_149 hf (fun x149 hf => ?_)
  refine u_dup2 hC dX11_pay_152 rfl rfl ?_
  refine u_ai hC hTb145 dX11_pay_153 hf (fun x153 hf => ?_)
  refine u_lload hC dX11_pay_154 5 rfl ?_
  refine u_lconst (v := (0 : Int64)) hC dX11_pay_156 (by decide) ?_
  refine u_lcmp hC dX11_pay_157 ?_
  refine u_if_le (tgt := 175) hC dX11_pay_158 (by decide) hf (fun h158 hf => ?_) (fun h158 hf => ?_)
  · refine u_sub (lv' := [(0, .ref (X.1 v0)), (1, .int v1), (2, .int v2), (3, .int v3), (4, .int v4)]) [0, 1, 2, 3, 4] rfl ?_
    exact wjX11_pay_175_43 hC n S143 v0 v1 v2 v3 v4 x153 x149 b145  hTv0 hTb145 hf hN hO0
  · refine u_aload_n hC dX11_pay_161 0 rfl rfl ?_
    refine u_gr hC lf_X11_37 rfl hTv0 dX11_pay_162 hf (fun b162 hTb162 hf => ?_)
    refine u_iload hC dX11_pay_165 4 rfl ?_
    refine u_ai hC hTb162 dX11_pay_167 hf (fun x167 hf => ?_)
    refine u_if_ne (tgt := 175) hC dX11_pay_168 (by decide) hf (fun h168 hf => ?_) (fun h168 hf => ?_)
    · refine u_sub (lv' := [(0, .ref (X.1 v0)), (1, .int v1), (2, .int v2), (3, .int v3), (4, .int v4)]) [0, 1, 2, 3, 4] rfl ?_
      exact wjX11_pay_175_43 hC n S143 v0 v1 v2 v3 v4 x153 x149 b145  hTv0 hTb145 hf hN hO0
    · refine u_iconst (v := (1 : Int32)) hC dX11_pay_171 (by decide) ?_
      refine u_goto (tgt := 176) hC dX11_pay_172 (by decide) ?_
      refine u_sub (lv' := [(0, .ref (X.1 v0)), (1, .int v1), (2, .int v2), (3, .int v3), (4, .int v4)]) [0, 1, 2, 3, 4] rfl ?_
      exact wjX11_pay_176_43 hC n S143 v0 v1 v2 v3 v4 (1 : Int32) x153 x149 b145  hTv0 hTb145 hf hN hO0
theorem wbX11_pay_43 {C : CT} {X : XT} (hC : CK C RX11 cX11_pay 7 none 2) (n : Nat) (v0 : Nat) (v1 : Int32) (v2 : Int32) (hTv0 : Ty X.2.1 v0 11) (s43 : (Int32 × Int32 × PS)) {o : (Int32 × Int32 × PS) ⊕ PS} (hf : bX11_pay_43 X.2.1 n v0 v1 v2 s43 = some o) (hN : ∀ s', o = .inl s' → UW C X s'.2.2 43 [(0, .ref (X.1 v0)), (1, .int v1), (2, .int v2), (3, .int s'.1), (4, .int s'.2.1)] []) (hO0 : ∀ p', o = .inr p' → UW C X p' 184 [(0, .ref (X.1 v0)), (1, .int v1)] []) : UW C X s43.2.2 43 [(0, .ref (X.1 v0)), (1, .int v1), (2, .int v2), (3, .int s43.1), (4, .int s43.2.1)] [] := by
  unfold bX11_pay_43 at hf
  refine u_iload hC dX11_pay_43 4 rfl ?_
  refine u_aload_n hC dX11_pay_45 0 rfl rfl ?_
  obtain ⟨q46, hq46, hf⟩ := kc_some hf
  refine u_callV hC (ctX11_people (cL C) hC.tr (cG C) X.1 X.2.1 n s43.2.2 v0 hTv0 hq46) lk_X11_85 rfl hTv0 (by decide) rfl (by decide) (by decide) rfl rfl (Nat.le_of_ble_eq_true rfl) dX11_pay_46 ?_
  refine u_icmp_ge (tgt := 184) hC dX11_pay_49 (by decide) hf (fun h49 hf => ?_) (fun h49 hf => ?_)
  · refine u_sub (lv' := [(0, .ref (X.1 v0)), (1, .int v1)]) [0, 1] rfl ?_
    exact hO0 _ (Option.some.inj hf).symm
  · refine u_iload_n hC dX11_pay_52 3 rfl rfl ?_
    refine u_i2l hC dX11_pay_53 ?_
    refine u_aload_n hC dX11_pay_54 0 rfl rfl ?_
    refine u_gr hC lf_X11_37 rfl hTv0 dX11_pay_55 hf (fun b55 hTb55 hf => ?_)
    refine u_iload hC dX11_pay_58 4 rfl ?_
    refine u_ai hC hTb55 dX11_pay_60 hf (fun x60 hf => ?_)
    refine u_i2l hC dX11_pay_61 ?_
    refine u_iload_n hC dX11_pay_62 2 rfl rfl ?_
    refine u_i2l hC dX11_pay_63 ?_
    refine u_aload_n hC dX11_pay_64 0 rfl rfl ?_
    refine u_gr hC lf_X11_25 rfl hTv0 dX11_pay_65 hf (fun b65 hTb65 hf => ?_)
    refine u_bipush (v := (12 : Int32)) hC dX11_pay_68 (by decide) ?_
    refine u_iload hC dX11_pay_70 4 rfl ?_
    refine u_imul hC dX11_pay_72 ?_
    refine u_iload_n hC dX11_pay_73 1 rfl rfl ?_
    refine u_iadd hC dX11_pay_74 ?_
    refine u_ai hC hTb65 dX11_pay_75 hf (fun x75 hf => ?_)
    refine u_i2l hC dX11_pay_76 ?_
    refine u_lmul hC dX11_pay_77 ?_
    refine u_mminl hC (tb_7 35 rfl rfl) (by decide) (Nat.le_of_ble_eq_true rfl) dX11_pay_78 ?_
    refine u_mminl hC (tb_7 35 rfl rfl) (by decide) (Nat.le_of_ble_eq_true rfl) dX11_pay_81 ?_
    refine u_lstore (lv' := [(5, .long (lmin (Int32.toInt64 s43.1) (lmin (Int32.toInt64 x60) ((Int32.toInt64 v2) * (Int32.toInt64 x75))))), (0, .ref (X.1 v0)), (1, .int v1), (2, .int v2), (3, .int s43.1), (4, .int s43.2.1)]) hC dX11_pay_84 (by decide) rfl ?_
    refine u_aload_n hC dX11_pay_86 1 rfl rfl ?_
    refine u_gr hC lf_X11_37 rfl hTv0 dX11_pay_87 hf (fun b87 hTb87 hf => ?_)
    refine u_iload hC dX11_pay_90 5 rfl ?_
    refine u_dup2 hC dX11_pay_92 rfl rfl ?_
    refine u_ai hC hTb87 dX11_pay_93 hf (fun x93 hf => ?_)
    refine u_lload hC dX11_pay_94 0 rfl ?_
    refine u_l2i hC dX11_pay_96 ?_
    refine u_isub hC dX11_pay_97 ?_
    refine u_wi hC hTb87 dX11_pay_98 hf (fun S98 hf => ?_)
    refine u_iload_n hC dX11_pay_99 4 rfl rfl ?_
    refine u_lload hC dX11_pay_100 0 rfl ?_
    refine u_l2i hC dX11_pay_102 ?_
    refine u_isub hC dX11_pay_103 ?_
    refine u_istore_n (lv' := [(3, .int (s43.1 - (Int64.toInt32 (lmin (Int32.toInt64 s43.1) (lmin (Int32.toInt64 x60) ((Int32.toInt64 v2) * (Int32.toInt64 x75))))))), (5, .long (lmin (Int32.toInt64 s43.1) (lmin (Int32.toInt64 x60) ((Int32.toInt64 v2) * (Int32.toInt64 x75))))), (0, .ref (X.1 v0)), (1, .int v1), (2, .int v2), (4, .int s43.2.1)]) hC dX11_pay_104 rfl (by decide) rfl ?_
    refine u_aload_n hC dX11_pay_105 2 rfl rfl ?_
    refine u_gr hC lf_X11_40 rfl hTv0 dX11_pay_106 hf (fun b106 hTb106 hf => ?_)
    refine u_bipush (v := (12 : Int32)) hC dX11_pay_109 (by decide) ?_
    refine u_iload hC dX11_pay_111 5 rfl ?_
    refine u_imul hC dX11_pay_113 ?_
    refine u_iload_n hC dX11_pay_114 3 rfl rfl ?_
    refine u_iadd hC dX11_pay_115 ?_
    refine u_lload hC dX11_pay_116 1 rfl ?_
    refine u_l2i hC dX11_pay_118 ?_
    refine u_wi hC hTb106 dX11_pay_119 hf (fun S119 hf => ?_)
    refine u_aload_n hC dX11_pay_120 2 rfl rfl ?_
    refine u_gr hC lf_X11_46 rfl hTv0 dX11_pay_121 hf (fun b121 hTb121 hf => ?_)
    refine u_aload_n hC dX11_pay_124 2 rfl rfl ?_
    refine u_gi hC lf_X11_157 rfl hTv0 dX11_pay_125 hf (fun x125 hf => ?_)
    refine u_dup2 hC dX11_pay_128 rfl rfl ?_
    refine u_ai hC hTb121 dX11_pay_129 hf (fun x129 hf => ?_)
    refine u_lload hC dX11_pay_130 1 rfl ?_
    refine u_lconst (v := (0 : Int64)) hC dX11_pay_132 (by decide) ?_
    refine u_lcmp hC dX11_pay_133 ?_
    refine u_if_le (tgt := 141) hC dX11_pay_134 (by decide) hf (fun h134 hf => ?_) (fun h134 hf => ?_)
    · refine u_iconst (v := (0 : Int32)) hC dX11_pay_141 (by decide) ?_
      refine u_sub (lv' := [(0, .ref (X.1 v0)), (1, .int v1), (2, .int v2), (3, .int (s43.1 - (Int64.toInt32 (lmin (Int32.toInt64 s43.1) (lmin (Int32.toInt64 x60) ((Int32.toInt64 v2) * (Int32.toInt64 x75))))))), (4, .int s43.2.1), (5, .long (lmin (Int32.toInt64 s43.1) (lmin (Int32.toInt64 x60) ((Int32.toInt64 v2) * (Int32.toInt64 x75)))))]) [2, 3, 4, 0, 5, 1] rfl ?_
      exact wjX11_pay_142_43 hC n S119 v0 v1 v2 (s43.1 - (Int64.toInt32 (lmin (Int32.toInt64 s43.1) (lmin (Int32.toInt64 x60) ((Int32.toInt64 v2) * (Int32.toInt64 x75)))))) s43.2.1 (lmin (Int32.toInt64 s43.1) (lmin (Int32.toInt64 x60) ((Int32.toInt64 v2) * (Int32.toInt64 x75)))) (0 : Int32) x129 x125 b121  hTv0 hTb121 hf hN hO0
    · refine u_iconst (v := (1 : Int32)) hC dX11_pay_137 (by decide) ?_
      refine u_goto (tgt := 142) hC dX11_pay_138 (by decide) ?_
      refine u_sub (lv' := [(0, .ref (X.1 v0)), (1, .int v1), (2, .int v2), (3, .int (s43.1 - (Int64.toInt32 (lmin (Int32.toInt64 s43.1) (lmin (Int32.toInt64 x60) ((Int32.toInt64 v2) * (Int32.toInt64 x75))))))), (4, .int s43.2.1), (5, .long (lmin (Int32.toInt64 s43.1) (lmin (Int32.toInt64 x60) ((Int32.toInt64 v2) * (Int32.toInt64 x75)))))]) [2, 3, 4, 0, 5, 1] rfl ?_
      exact wjX11_pay_142_43 hC n S119 v0 v1 v2 (s43.1 - (Int64.toInt32 (lmin (Int32.toInt64 s43.1) (lmin (Int32.toInt64 x60) ((Int32.toInt64 v2) * (Int32.toInt64 x75)))))) s43.2.1 (lmin (Int32.toInt64 s43.1) (lmin (Int32.toInt64 x60) ((Int32.toInt64 v2) * (Int32.toInt64 x75)))) (1 : Int32) x129 x125 b121  hTv0 hTb121 hf hN hO0
theorem wX11_pay {C : CT} {X : XT} (hC : CK C RX11 cX11_pay 7 none 2) (n : Nat) (S : PS) (a0 : Nat) (x1_ : Int32) (x2_ : Int32) (hTa0 : Ty X.2.1 a0 11) {o : PS} (hf : fX11_pay X.2.1 n S a0 x1_ x2_ = some o) (hR : Rt C X cX11_pay none none o) : UW C X S 0 [(0, .ref (X.1 a0)), (1, .int x1_), (2, .int x2_)] [] := by
  unfold fX11_pay at hf
  refine u_sipush (v := (1000 : Int32)) hC dX11_pay_0 (by decide) ?_
  refine u_aload_n hC dX11_pay_3 0 rfl rfl ?_
  refine u_iload_n hC dX11_pay_4 1 rfl rfl ?_
  obtain ⟨q5, hq5, hf⟩ := kc_some hf
  refine u_callV hC (ctX11_costOf (cL C) hC.tr (cG C) X.1 X.2.1 n S a0 x1_ hTa0 hq5) lk_X11_134 rfl hTa0 (by decide) rfl (by decide) (by decide) rfl rfl (Nat.le_of_ble_eq_true rfl) dX11_pay_5 ?_
  refine u_imul hC dX11_pay_8 ?_
  refine u_istore_n (lv' := [(3, .int ((1000 : Int32) * q5)), (0, .ref (X.1 a0)), (1, .int x1_), (2, .int x2_)]) hC dX11_pay_9 rfl (by decide) rfl ?_
  refine u_aload_n hC dX11_pay_10 1 rfl rfl ?_
  refine u_gr hC lf_X11_46 rfl hTa0 dX11_pay_11 hf (fun b11 hTb11 hf => ?_)
  refine u_aload_n hC dX11_pay_14 1 rfl rfl ?_
  refine u_gi hC lf_X11_157 rfl hTa0 dX11_pay_15 hf (fun x15 hf => ?_)
  refine u_iconst (v := (0 : Int32)) hC dX11_pay_18 (by decide) ?_
  refine u_wi hC hTb11 dX11_pay_19 hf (fun S19 hf => ?_)
  refine u_aload_n hC dX11_pay_20 1 rfl rfl ?_
  refine u_gr hC lf_X11_49 rfl hTa0 dX11_pay_21 hf (fun b21 hTb21 hf => ?_)
  refine u_aload_n hC dX11_pay_24 1 rfl rfl ?_
  refine u_gi hC lf_X11_157 rfl hTa0 dX11_pay_25 hf (fun x25 hf => ?_)
  refine u_iconst (v := (0 : Int32)) hC dX11_pay_28 (by decide) ?_
  refine u_wi hC hTb21 dX11_pay_29 hf (fun S29 hf => ?_)
  refine u_aload_n hC dX11_pay_30 1 rfl rfl ?_
  refine u_gr hC lf_X11_43 rfl hTa0 dX11_pay_31 hf (fun b31 hTb31 hf => ?_)
  refine u_aload_n hC dX11_pay_34 1 rfl rfl ?_
  refine u_gi hC lf_X11_157 rfl hTa0 dX11_pay_35 hf (fun x35 hf => ?_)
  refine u_iload_n hC dX11_pay_38 3 rfl rfl ?_
  refine u_wi hC hTb31 dX11_pay_39 hf (fun S39 hf => ?_)
  refine u_iconst (v := (0 : Int32)) hC dX11_pay_40 (by decide) ?_
  refine u_istore (lv' := [(4, .int (0 : Int32)), (3, .int ((1000 : Int32) * q5)), (0, .ref (X.1 a0)), (1, .int x1_), (2, .int x2_)]) hC dX11_pay_41 (by decide) rfl ?_
  obtain ⟨r43, hr43, hf⟩ := kc_some hf
  have hk43 : UW C X r43 184 [(0, .ref (X.1 a0)), (1, .int x1_)] [] := by
    refine u_aload_n hC dX11_pay_184 0 rfl rfl ?_
    refine u_iload_n hC dX11_pay_185 1 rfl rfl ?_
    obtain ⟨q186, hq186, hf⟩ := kc_some hf
    refine u_callV hC (ctX11_choose (cL C) hC.tr (cG C) X.1 X.2.1 n r43 a0 x1_ hTa0 hq186) lk_X11_169 rfl hTa0 (by decide) rfl (by decide) (by decide) rfl rfl (Nat.le_of_ble_eq_true rfl) dX11_pay_186 ?_
    cases hf
    exact hR _ _ dX11_pay_189 trivial
  refine u_sub (lv' := [(0, .ref (X.1 a0)), (1, .int x1_), (2, .int x2_), (3, .int ((1000 : Int32) * q5)), (4, .int (0 : Int32))]) [2, 3, 4, 1, 0] rfl ?_
  refine iter_ind (P := fun s43 => UW C X s43.2.2 43 [(0, .ref (X.1 a0)), (1, .int x1_), (2, .int x2_), (3, .int s43.1), (4, .int s43.2.1)] []) (fun s43 o' hb hin hout => ?_) n ((1000 : Int32) * q5, (0 : Int32), S39) hr43
  exact wbX11_pay_43 hC n a0 x1_ x2_ hTa0 s43 hb hin (fun p e => by rw [hout p e]; exact hk43)
theorem ctX11_pay (l : Launch) (hl : l.stackTraces = false) (G : GT) (ρ : Nat → Nat) (Y : XS) (n : Nat) (S : PS) (a0 : Nat) (x1_ : Int32) (x2_ : Int32) (hTa0 : Ty Y a0 11) {o : PS} (hf : fX11_pay Y n S a0 x1_ x2_ = some o) : Mt l G yX11_pay cX11_pay 7 none 2 ρ Y [.ref (ρ a0), .int x1_, .int x2_] S none o :=
  Mt_of hl (by decide) (Nat.le_of_ble_eq_true rfl) (fun C _ _ hC hR => wX11_pay (X := (ρ, Y, 0, 0)) hC n S a0 x1_ x2_ hTa0 hf hR)
-- X11_isFirst
theorem dX11_isFirst_0 : decode cX11_isFirst 0 = .ok (.lload_n 1, 1) := by decide +kernel
theorem dX11_isFirst_1 : decode cX11_isFirst 1 = .ok (.lload 4, 2) := by decide +kernel
theorem dX11_isFirst_3 : decode cX11_isFirst 3 = .ok (.lcmp, 1) := by decide +kernel
theorem dX11_isFirst_4 : decode cX11_isFirst 4 = .ok (.ifCond .eq 16, 3) := by decide +kernel
theorem dX11_isFirst_7 : decode cX11_isFirst 7 = .ok (.lload_n 1, 1) := by decide +kernel
theorem dX11_isFirst_8 : decode cX11_isFirst 8 = .ok (.lload 4, 2) := by decide +kernel
theorem dX11_isFirst_10 : decode cX11_isFirst 10 = .ok (.lcmp, 1) := by decide +kernel
theorem dX11_isFirst_11 : decode cX11_isFirst 11 = .ok (.ifCond .ge 7, 3) := by decide +kernel
theorem dX11_isFirst_14 : decode cX11_isFirst 14 = .ok (.iconst 1, 1) := by decide +kernel
theorem dX11_isFirst_15 : decode cX11_isFirst 15 = .ok (.goto 4, 3) := by decide +kernel
theorem dX11_isFirst_18 : decode cX11_isFirst 18 = .ok (.iconst 0, 1) := by decide +kernel
theorem dX11_isFirst_19 : decode cX11_isFirst 19 = .ok (.ireturn, 1) := by decide +kernel
theorem dX11_isFirst_20 : decode cX11_isFirst 20 = .ok (.aload_n 0, 1) := by decide +kernel
theorem dX11_isFirst_21 : decode cX11_isFirst 21 = .ok (.getfield 28, 3) := by decide +kernel
theorem dX11_isFirst_24 : decode cX11_isFirst 24 = .ok (.iload_n 3, 1) := by decide +kernel
theorem dX11_isFirst_25 : decode cX11_isFirst 25 = .ok (.iaload, 1) := by decide +kernel
theorem dX11_isFirst_26 : decode cX11_isFirst 26 = .ok (.aload_n 0, 1) := by decide +kernel
theorem dX11_isFirst_27 : decode cX11_isFirst 27 = .ok (.getfield 28, 3) := by decide +kernel
theorem dX11_isFirst_30 : decode cX11_isFirst 30 = .ok (.iload 6, 2) := by decide +kernel
theorem dX11_isFirst_32 : decode cX11_isFirst 32 = .ok (.iaload, 1) := by decide +kernel
theorem dX11_isFirst_33 : decode cX11_isFirst 33 = .ok (.if_icmp .eq 27, 3) := by decide +kernel
theorem dX11_isFirst_36 : decode cX11_isFirst 36 = .ok (.aload_n 0, 1) := by decide +kernel
theorem dX11_isFirst_37 : decode cX11_isFirst 37 = .ok (.getfield 28, 3) := by decide +kernel
theorem dX11_isFirst_40 : decode cX11_isFirst 40 = .ok (.iload_n 3, 1) := by decide +kernel
theorem dX11_isFirst_41 : decode cX11_isFirst 41 = .ok (.iaload, 1) := by decide +kernel
theorem dX11_isFirst_42 : decode cX11_isFirst 42 = .ok (.aload_n 0, 1) := by decide +kernel
theorem dX11_isFirst_43 : decode cX11_isFirst 43 = .ok (.getfield 28, 3) := by decide +kernel
theorem dX11_isFirst_46 : decode cX11_isFirst 46 = .ok (.iload 6, 2) := by decide +kernel
theorem dX11_isFirst_48 : decode cX11_isFirst 48 = .ok (.iaload, 1) := by decide +kernel
theorem dX11_isFirst_49 : decode cX11_isFirst 49 = .ok (.if_icmp .le 7, 3) := by decide +kernel
theorem dX11_isFirst_52 : decode cX11_isFirst 52 = .ok (.iconst 1, 1) := by decide +kernel
theorem dX11_isFirst_53 : decode cX11_isFirst 53 = .ok (.goto 18, 3) := by decide +kernel
theorem dX11_isFirst_56 : decode cX11_isFirst 56 = .ok (.iconst 0, 1) := by decide +kernel
theorem dX11_isFirst_57 : decode cX11_isFirst 57 = .ok (.goto 14, 3) := by decide +kernel
theorem dX11_isFirst_60 : decode cX11_isFirst 60 = .ok (.iload_n 3, 1) := by decide +kernel
theorem dX11_isFirst_61 : decode cX11_isFirst 61 = .ok (.iload 6, 2) := by decide +kernel
theorem dX11_isFirst_63 : decode cX11_isFirst 63 = .ok (.if_icmp .ge 7, 3) := by decide +kernel
theorem dX11_isFirst_66 : decode cX11_isFirst 66 = .ok (.iconst 1, 1) := by decide +kernel
theorem dX11_isFirst_67 : decode cX11_isFirst 67 = .ok (.goto 4, 3) := by decide +kernel
theorem dX11_isFirst_70 : decode cX11_isFirst 70 = .ok (.iconst 0, 1) := by decide +kernel
theorem dX11_isFirst_71 : decode cX11_isFirst 71 = .ok (.ireturn, 1) := by decide +kernel
def jX11_isFirst_71 (Y : XS) (n : Nat) (S : PS) (t0 : Int32) : Option (Int32) :=
  kzr t0 (some t0)
def jX11_isFirst_19 (Y : XS) (n : Nat) (S : PS) (t0 : Int32) : Option (Int32) :=
  kzr t0 (some t0)
def fX11_isFirst (Y : XS) (n : Nat) (S : PS) (a0 : Nat) (x1_ : Int64) (x3_ : Int32) (x4_ : Int64) (x6_ : Int32) : Option (Int32) :=
  (if (lg_cmp x1_ x4_) = 0 then kgr S a0 13 (fun b21 => kai Y S b21 x3_ (fun x25 => kgr S a0 13 (fun b27 => kai Y S b27 x6_ (fun x32 => (if x25 = x32 then (if x6_ ≤ x3_ then jX11_isFirst_71 Y n S (0 : Int32) else jX11_isFirst_71 Y n S (1 : Int32)) else kgr S a0 13 (fun b37 => kai Y S b37 x3_ (fun x41 => kgr S a0 13 (fun b43 => kai Y S b43 x6_ (fun x48 => (if x41 ≤ x48 then jX11_isFirst_71 Y n S (0 : Int32) else jX11_isFirst_71 Y n S (1 : Int32))))))))))) else (if 0 ≤ (lg_cmp x1_ x4_) then jX11_isFirst_19 Y n S (0 : Int32) else jX11_isFirst_19 Y n S (1 : Int32)))
theorem wjX11_isFirst_71 {C : CT} {X : XT} (hC : CK C RX11 cX11_isFirst 7 (some .boolean) 1) (n : Nat) (S : PS) (t0 : Int32)   {o : Int32} (hf : jX11_isFirst_71 X.2.1 n S t0 = some o) (hR : Rt C X cX11_isFirst (some .boolean) (some (.int o)) S) : UW C X S 71 [] [.int t0] := by
  unfold jX11_isFirst_71 at hf
  obtain ⟨hz, hf⟩ := kzr_some hf
  cases hf
  exact hR _ _ dX11_isFirst_71 hz
theorem wjX11_isFirst_19 {C : CT} {X : XT} (hC : CK C RX11 cX11_isFirst 7 (some .boolean) 1) (n : Nat) (S : PS) (t0 : Int32)   {o : Int32} (hf : jX11_isFirst_19 X.2.1 n S t0 = some o) (hR : Rt C X cX11_isFirst (some .boolean) (some (.int o)) S) : UW C X S 19 [] [.int t0] := by
  unfold jX11_isFirst_19 at hf
  obtain ⟨hz, hf⟩ := kzr_some hf
  cases hf
  exact hR _ _ dX11_isFirst_19 hz
theorem wX11_isFirst {C : CT} {X : XT} (hC : CK C RX11 cX11_isFirst 7 (some .boolean) 1) (n : Nat) (S : PS) (a0 : Nat) (x1_ : Int64) (x3_ : Int32) (x4_ : Int64) (x6_ : Int32) (hTa0 : Ty X.2.1 a0 11) {o : Int32} (hf : fX11_isFirst X.2.1 n S a0 x1_ x3_ x4_ x6_ = some o) (hR : Rt C X cX11_isFirst (some .boolean) (some (.int o)) S) : UW C X S 0 [(0, .ref (X.1 a0)), (1, .long x1_), (3, .int x3_), (4, .long x4_), (6, .int x6_)] [] := by
  unfold fX11_isFirst at hf
  refine u_lload_n hC dX11_isFirst_0 1 rfl rfl ?_
  refine u_lload hC dX11_isFirst_1 3 rfl ?_
  refine u_lcmp hC dX11_isFirst_3 ?_
  refine u_if_eq (tgt := 20) hC dX11_isFirst_4 (by decide) hf (fun h4 hf => ?_) (fun h4 hf => ?_)
  · refine u_aload_n hC dX11_isFirst_20 0 rfl rfl ?_
    refine u_gr hC lf_X11_28 rfl hTa0 dX11_isFirst_21 hf (fun b21 hTb21 hf => ?_)
    refine u_iload_n hC dX11_isFirst_24 2 rfl rfl ?_
    refine u_ai hC hTb21 dX11_isFirst_25 hf (fun x25 hf => ?_)
    refine u_aload_n hC dX11_isFirst_26 0 rfl rfl ?_
    refine u_gr hC lf_X11_28 rfl hTa0 dX11_isFirst_27 hf (fun b27 hTb27 hf => ?_)
    refine u_iload hC dX11_isFirst_30 4 rfl ?_
    refine u_ai hC hTb27 dX11_isFirst_32 hf (fun x32 hf => ?_)
    refine u_icmp_eq (tgt := 60) hC dX11_isFirst_33 (by decide) hf (fun h33 hf => ?_) (fun h33 hf => ?_)
    · refine u_iload_n hC dX11_isFirst_60 2 rfl rfl ?_
      refine u_iload hC dX11_isFirst_61 4 rfl ?_
      refine u_icmp_ge (tgt := 70) hC dX11_isFirst_63 (by decide) hf (fun h63 hf => ?_) (fun h63 hf => ?_)
      · refine u_iconst (v := (0 : Int32)) hC dX11_isFirst_70 (by decide) ?_
        refine u_sub (lv' := []) [] rfl ?_
        exact wjX11_isFirst_71 hC n S (0 : Int32)   hf hR
      · refine u_iconst (v := (1 : Int32)) hC dX11_isFirst_66 (by decide) ?_
        refine u_goto (tgt := 71) hC dX11_isFirst_67 (by decide) ?_
        refine u_sub (lv' := []) [] rfl ?_
        exact wjX11_isFirst_71 hC n S (1 : Int32)   hf hR
    · refine u_aload_n hC dX11_isFirst_36 0 rfl rfl ?_
      refine u_gr hC lf_X11_28 rfl hTa0 dX11_isFirst_37 hf (fun b37 hTb37 hf => ?_)
      refine u_iload_n hC dX11_isFirst_40 2 rfl rfl ?_
      refine u_ai hC hTb37 dX11_isFirst_41 hf (fun x41 hf => ?_)
      refine u_aload_n hC dX11_isFirst_42 0 rfl rfl ?_
      refine u_gr hC lf_X11_28 rfl hTa0 dX11_isFirst_43 hf (fun b43 hTb43 hf => ?_)
      refine u_iload hC dX11_isFirst_46 4 rfl ?_
      refine u_ai hC hTb43 dX11_isFirst_48 hf (fun x48 hf => ?_)
      refine u_icmp_le (tgt := 56) hC dX11_isFirst_49 (by decide) hf (fun h49 hf => ?_) (fun h49 hf => ?_)
      · refine u_iconst (v := (0 : Int32)) hC dX11_isFirst_56 (by decide) ?_
        refine u_goto (tgt := 71) hC dX11_isFirst_57 (by decide) ?_
        refine u_sub (lv' := []) [] rfl ?_
        exact wjX11_isFirst_71 hC n S (0 : Int32)   hf hR
      · refine u_iconst (v := (1 : Int32)) hC dX11_isFirst_52 (by decide) ?_
        refine u_goto (tgt := 71) hC dX11_isFirst_53 (by decide) ?_
        refine u_sub (lv' := []) [] rfl ?_
        exact wjX11_isFirst_71 hC n S (1 : Int32)   hf hR
  · refine u_lload_n hC dX11_isFirst_7 1 rfl rfl ?_
    refine u_lload hC dX11_isFirst_8 3 rfl ?_
    refine u_lcmp hC dX11_isFirst_10 ?_
    refine u_if_ge (tgt := 18) hC dX11_isFirst_11 (by decide) hf (fun h11 hf => ?_) (fun h11 hf => ?_)
    · refine u_iconst (v := (0 : Int32)) hC dX11_isFirst_18 (by decide) ?_
      refine u_sub (lv' := []) [] rfl ?_
      exact wjX11_isFirst_19 hC n S (0 : Int32)   hf hR
    · refine u_iconst (v := (1 : Int32)) hC dX11_isFirst_14 (by decide) ?_
      refine u_goto (tgt := 19) hC dX11_isFirst_15 (by decide) ?_
      refine u_sub (lv' := []) [] rfl ?_
      exact wjX11_isFirst_19 hC n S (1 : Int32)   hf hR
theorem ctX11_isFirst (l : Launch) (hl : l.stackTraces = false) (G : GT) (ρ : Nat → Nat) (Y : XS) (n : Nat) (S : PS) (a0 : Nat) (x1_ : Int64) (x3_ : Int32) (x4_ : Int64) (x6_ : Int32) (hTa0 : Ty Y a0 11) {o : Int32} (hf : fX11_isFirst Y n S a0 x1_ x3_ x4_ x6_ = some o) : Mt l G yX11_isFirst cX11_isFirst 7 (some .boolean) 1 ρ Y [.ref (ρ a0), .long x1_, .int x3_, .long x4_, .int x6_] S (some (.int o)) S :=
  Mt_of hl (by decide) (Nat.le_of_ble_eq_true rfl) (fun C _ _ hC hR => wX11_isFirst (X := (ρ, Y, 0, 0)) hC n S a0 x1_ x3_ x4_ x6_ hTa0 hf hR)
-- X11_shares
theorem dX11_shares_0 : decode cX11_shares 0 = .ok (.aload_n 0, 1) := by decide +kernel
theorem dX11_shares_1 : decode cX11_shares 1 = .ok (.invokevirtual 173, 3) := by decide +kernel
theorem dX11_shares_4 : decode cX11_shares 4 = .ok (.aload_n 0, 1) := by decide +kernel
theorem dX11_shares_5 : decode cX11_shares 5 = .ok (.iload_n 1, 1) := by decide +kernel
theorem dX11_shares_6 : decode cX11_shares 6 = .ok (.invokevirtual 176, 3) := by decide +kernel
theorem dX11_shares_9 : decode cX11_shares 9 = .ok (.iconst 1, 1) := by decide +kernel
theorem dX11_shares_10 : decode cX11_shares 10 = .ok (.istore_n 3, 1) := by decide +kernel
theorem dX11_shares_11 : decode cX11_shares 11 = .ok (.iload_n 3, 1) := by decide +kernel
theorem dX11_shares_12 : decode cX11_shares 12 = .ok (.ifCond .eq 126, 3) := by decide +kernel
theorem dX11_shares_15 : decode cX11_shares 15 = .ok (.aload_n 0, 1) := by decide +kernel
theorem dX11_shares_16 : decode cX11_shares 16 = .ok (.getfield 157, 3) := by decide +kernel
theorem dX11_shares_19 : decode cX11_shares 19 = .ok (.iload_n 2, 1) := by decide +kernel
theorem dX11_shares_20 : decode cX11_shares 20 = .ok (.if_icmp .ge 118, 3) := by decide +kernel
theorem dX11_shares_23 : decode cX11_shares 23 = .ok (.iconst (-1), 1) := by decide +kernel
theorem dX11_shares_24 : decode cX11_shares 24 = .ok (.istore 4, 2) := by decide +kernel
theorem dX11_shares_26 : decode cX11_shares 26 = .ok (.iconst (-1), 1) := by decide +kernel
theorem dX11_shares_27 : decode cX11_shares 27 = .ok (.istore 5, 2) := by decide +kernel
theorem dX11_shares_29 : decode cX11_shares 29 = .ok (.iconst 0, 1) := by decide +kernel
theorem dX11_shares_30 : decode cX11_shares 30 = .ok (.istore 6, 2) := by decide +kernel
theorem dX11_shares_32 : decode cX11_shares 32 = .ok (.iload 6, 2) := by decide +kernel
theorem dX11_shares_34 : decode cX11_shares 34 = .ok (.aload_n 0, 1) := by decide +kernel
theorem dX11_shares_35 : decode cX11_shares 35 = .ok (.invokevirtual 77, 3) := by decide +kernel
theorem dX11_shares_38 : decode cX11_shares 38 = .ok (.if_icmp .ge 73, 3) := by decide +kernel
theorem dX11_shares_41 : decode cX11_shares 41 = .ok (.aload_n 0, 1) := by decide +kernel
theorem dX11_shares_42 : decode cX11_shares 42 = .ok (.getfield 154, 3) := by decide +kernel
theorem dX11_shares_45 : decode cX11_shares 45 = .ok (.iload 6, 2) := by decide +kernel
theorem dX11_shares_47 : decode cX11_shares 47 = .ok (.invokestatic 147, 3) := by decide +kernel
theorem dX11_shares_50 : decode cX11_shares 50 = .ok (.ifCond .eq 7, 3) := by decide +kernel
theorem dX11_shares_53 : decode cX11_shares 53 = .ok (.iconst (-1), 1) := by decide +kernel
theorem dX11_shares_54 : decode cX11_shares 54 = .ok (.goto 9, 3) := by decide +kernel
theorem dX11_shares_57 : decode cX11_shares 57 = .ok (.aload_n 0, 1) := by decide +kernel
theorem dX11_shares_58 : decode cX11_shares 58 = .ok (.iload 6, 2) := by decide +kernel
theorem dX11_shares_60 : decode cX11_shares 60 = .ok (.invokevirtual 179, 3) := by decide +kernel
theorem dX11_shares_63 : decode cX11_shares 63 = .ok (.istore 7, 2) := by decide +kernel
theorem dX11_shares_65 : decode cX11_shares 65 = .ok (.iload 7, 2) := by decide +kernel
theorem dX11_shares_67 : decode cX11_shares 67 = .ok (.iconst (-1), 1) := by decide +kernel
theorem dX11_shares_68 : decode cX11_shares 68 = .ok (.if_icmp .eq 37, 3) := by decide +kernel
theorem dX11_shares_71 : decode cX11_shares 71 = .ok (.iload 4, 2) := by decide +kernel
theorem dX11_shares_73 : decode cX11_shares 73 = .ok (.iconst (-1), 1) := by decide +kernel
theorem dX11_shares_74 : decode cX11_shares 74 = .ok (.if_icmp .eq 23, 3) := by decide +kernel
theorem dX11_shares_77 : decode cX11_shares 77 = .ok (.aload_n 0, 1) := by decide +kernel
theorem dX11_shares_78 : decode cX11_shares 78 = .ok (.iload 7, 2) := by decide +kernel
theorem dX11_shares_80 : decode cX11_shares 80 = .ok (.i2l, 1) := by decide +kernel
theorem dX11_shares_81 : decode cX11_shares 81 = .ok (.iload 6, 2) := by decide +kernel
theorem dX11_shares_83 : decode cX11_shares 83 = .ok (.iload 5, 2) := by decide +kernel
theorem dX11_shares_85 : decode cX11_shares 85 = .ok (.i2l, 1) := by decide +kernel
theorem dX11_shares_86 : decode cX11_shares 86 = .ok (.iload 4, 2) := by decide +kernel
theorem dX11_shares_88 : decode cX11_shares 88 = .ok (.invokevirtual 182, 3) := by decide +kernel
theorem dX11_shares_91 : decode cX11_shares 91 = .ok (.ifCond .ne 6, 3) := by decide +kernel
theorem dX11_shares_94 : decode cX11_shares 94 = .ok (.goto 11, 3) := by decide +kernel
theorem dX11_shares_97 : decode cX11_shares 97 = .ok (.iload 6, 2) := by decide +kernel
theorem dX11_shares_99 : decode cX11_shares 99 = .ok (.istore 4, 2) := by decide +kernel
theorem dX11_shares_101 : decode cX11_shares 101 = .ok (.iload 7, 2) := by decide +kernel
theorem dX11_shares_103 : decode cX11_shares 103 = .ok (.istore 5, 2) := by decide +kernel
theorem dX11_shares_105 : decode cX11_shares 105 = .ok (.iinc 6 1, 3) := by decide +kernel
theorem dX11_shares_108 : decode cX11_shares 108 = .ok (.goto (-76), 3) := by decide +kernel
theorem dX11_shares_111 : decode cX11_shares 111 = .ok (.iload 4, 2) := by decide +kernel
theorem dX11_shares_113 : decode cX11_shares 113 = .ok (.iconst (-1), 1) := by decide +kernel
theorem dX11_shares_114 : decode cX11_shares 114 = .ok (.if_icmp .eq 7, 3) := by decide +kernel
theorem dX11_shares_117 : decode cX11_shares 117 = .ok (.iconst 1, 1) := by decide +kernel
theorem dX11_shares_118 : decode cX11_shares 118 = .ok (.goto 4, 3) := by decide +kernel
theorem dX11_shares_121 : decode cX11_shares 121 = .ok (.iconst 0, 1) := by decide +kernel
theorem dX11_shares_122 : decode cX11_shares 122 = .ok (.istore_n 3, 1) := by decide +kernel
theorem dX11_shares_123 : decode cX11_shares 123 = .ok (.iload_n 3, 1) := by decide +kernel
theorem dX11_shares_124 : decode cX11_shares 124 = .ok (.ifCond .eq 11, 3) := by decide +kernel
theorem dX11_shares_127 : decode cX11_shares 127 = .ok (.aload_n 0, 1) := by decide +kernel
theorem dX11_shares_128 : decode cX11_shares 128 = .ok (.iload 4, 2) := by decide +kernel
theorem dX11_shares_130 : decode cX11_shares 130 = .ok (.iload 5, 2) := by decide +kernel
theorem dX11_shares_132 : decode cX11_shares 132 = .ok (.invokevirtual 186, 3) := by decide +kernel
theorem dX11_shares_135 : decode cX11_shares 135 = .ok (.goto (-124), 3) := by decide +kernel
theorem dX11_shares_138 : decode cX11_shares 138 = .ok (.return_, 1) := by decide +kernel
def jX11_shares_105_32 (Y : XS) (n : Nat) (S : PS) (v0 : Nat) (v2 : Int32) (v4 : Int32) (v5 : Int32) (v6 : Int32) : Option ((Int32 × Int32 × Int32 × PS) ⊕ (Int32 × Int32 × PS)) :=
  some (.inl (v4, v5, v6 + (1 : Int32), S))
def jX11_shares_97_32 (Y : XS) (n : Nat) (S : PS) (v0 : Nat) (v2 : Int32) (v6 : Int32) (v7 : Int32) : Option ((Int32 × Int32 × Int32 × PS) ⊕ (Int32 × Int32 × PS)) :=
  jX11_shares_105_32 Y n S v0 v2 v6 v7 v6
def jX11_shares_63_32 (Y : XS) (n : Nat) (S : PS) (v0 : Nat) (v2 : Int32) (v4 : Int32) (v5 : Int32) (v6 : Int32) (t0 : Int32) : Option ((Int32 × Int32 × Int32 × PS) ⊕ (Int32 × Int32 × PS)) :=
  (if t0 = (-1 : Int32) then jX11_shares_105_32 Y n S v0 v2 v4 v5 v6 else (if v4 = (-1 : Int32) then jX11_shares_97_32 Y n S v0 v2 v6 t0 else kc (fX11_isFirst Y n S v0 (Int32.toInt64 t0) v6 (Int32.toInt64 v5) v4) (fun q88 => (if q88 = 0 then jX11_shares_105_32 Y n S v0 v2 v4 v5 v6 else jX11_shares_97_32 Y n S v0 v2 v6 t0))))
def bX11_shares_32 (Y : XS) (n : Nat) (v0 : Nat) (v2 : Int32) (s32 : (Int32 × Int32 × Int32 × PS)) : Option ((Int32 × Int32 × Int32 × PS) ⊕ (Int32 × Int32 × PS)) :=
  kc (fX11_many Y n s32.2.2.2 v0) (fun q35 => (if q35 ≤ s32.2.2.1 then some (.inr (s32.1, s32.2.1, s32.2.2.2)) else kgi s32.2.2.2 v0 21 (fun x42 => kc (fX11_isOf Y n s32.2.2.2 x42 s32.2.2.1) (fun q47 => (if q47 = 0 then kc (fX11_priceOf Y n s32.2.2.2 v0 s32.2.2.1) (fun q60 => jX11_shares_63_32 Y n q60.2 v0 v2 s32.1 s32.2.1 s32.2.2.1 q60.1) else jX11_shares_63_32 Y n s32.2.2.2 v0 v2 s32.1 s32.2.1 s32.2.2.1 (-1 : Int32))))))
def jX11_shares_135_11 (Y : XS) (n : Nat) (S : PS) (v0 : Nat) (v2 : Int32) (v3 : Int32) : Option ((Int32 × PS) ⊕ PS) :=
  some (.inl (v3, S))
def jX11_shares_122_11 (Y : XS) (n : Nat) (S : PS) (v0 : Nat) (v2 : Int32) (v4 : Int32) (v5 : Int32) (t0 : Int32) : Option ((Int32 × PS) ⊕ PS) :=
  (if t0 = 0 then jX11_shares_135_11 Y n S v0 v2 t0 else kc (fX11_pay Y n S v0 v4 v5) (fun q132 => jX11_shares_135_11 Y n q132 v0 v2 t0))
def bX11_shares_11 (Y : XS) (n : Nat) (v0 : Nat) (v2 : Int32) (s11 : (Int32 × PS)) : Option ((Int32 × PS) ⊕ PS) :=
  (if s11.1 = 0 then some (.inr s11.2) else kgi s11.2 v0 22 (fun x16 => (if v2 ≤ x16 then some (.inr s11.2) else kc (iter (bX11_shares_32 Y n v0 v2) n ((-1 : Int32), (-1 : Int32), (0 : Int32), s11.2)) (fun r32 => (if r32.1 = (-1 : Int32) then jX11_shares_122_11 Y n r32.2.2 v0 v2 r32.1 r32.2.1 (0 : Int32) else jX11_shares_122_11 Y n r32.2.2 v0 v2 r32.1 r32.2.1 (1 : Int32))))))
def jX11_shares_138 (Y : XS) (n : Nat) (S : PS)  : Option (PS) :=
  some S
def fX11_shares (Y : XS) (n : Nat) (S : PS) (a0 : Nat) (x1_ : Int32) (x2_ : Int32) : Option (PS) :=
  kc (fX11_clear Y n S a0) (fun q1 => kc (fX11_layPurses Y n q1 a0 x1_) (fun q6 => kc (iter (bX11_shares_11 Y n a0 x2_) n ((1 : Int32), q6)) (fun r11 => jX11_shares_138 Y n r11 )))
theorem wjX11_shares_105_32 {C : CT} {X : XT} (hC : CK C RX11 cX11_shares 8 none 4) (n : Nat) (S : PS) (v0 : Nat) (v2 : Int32) (v4 : Int32) (v5 : Int32) (v6 : Int32)  (hTv0 : Ty X.2.1 v0 11) {o : (Int32 × Int32 × Int32 × PS) ⊕ (Int32 × Int32 × PS)} (hf : jX11_shares_105_32 X.2.1 n S v0 v2 v4 v5 v6 = some o) (hN : ∀ s', o = .inl s' → UW C X s'.2.2.2 32 [(0, .ref (X.1 v0)), (2, .int v2), (4, .int s'.1), (5, .int s'.2.1), (6, .int s'.2.2.1)] []) (hO0 : ∀ p', o = .inr p' → UW C X p'.2.2 111 [(0, .ref (X.1 v0)), (2, .int v2), (4, .int p'.1), (5, .int p'.2.1)] []) : UW C X S 105 [(0, .ref (X.1 v0)), (2, .int v2), (4, .int v4), (5, .int v5), (6, .int v6)] [] := by
  unfold jX11_shares_105_32 at hf
  refine u_iinc (v := v6 + (1 : Int32)) (lv' := [(6, .int (v6 + (1 : Int32))), (0, .ref (X.1 v0)), (2, .int v2), (4, .int v4), (5, .int v5)]) hC dX11_shares_105 4 rfl rfl (by decide) rfl ?_
  refine u_goto (tgt := 32) hC dX11_shares_108 (by decide) ?_
  refine u_sub (lv' := [(0, .ref (X.1 v0)), (2, .int v2), (4, .int v4), (5, .int v5), (6, .int (v6 + (1 : Int32)))]) [1, 2, 3, 4, 0] rfl ?_
  exact hN _ (Option.some.inj hf).symm
theorem wjX11_shares_97_32 {C : CT} {X : XT} (hC : CK C RX11 cX11_shares 8 none 4) (n : Nat) (S : PS) (v0 : Nat) (v2 : Int32) (v6 : Int32) (v7 : Int32)  (hTv0 : Ty X.2.1 v0 11) {o : (Int32 × Int32 × Int32 × PS) ⊕ (Int32 × Int32 × PS)} (hf : jX11_shares_97_32 X.2.1 n S v0 v2 v6 v7 = some o) (hN : ∀ s', o = .inl s' → UW C X s'.2.2.2 32 [(0, .ref (X.1 v0)), (2, .int v2), (4, .int s'.1), (5, .int s'.2.1), (6, .int s'.2.2.1)] []) (hO0 : ∀ p', o = .inr p' → UW C X p'.2.2 111 [(0, .ref (X.1 v0)), (2, .int v2), (4, .int p'.1), (5, .int p'.2.1)] []) : UW C X S 97 [(0, .ref (X.1 v0)), (2, .int v2), (6, .int v6), (7, .int v7)] [] := by
  unfold jX11_shares_97_32 at hf
  refine u_iload hC dX11_shares_97 2 rfl ?_
  refine u_istore (lv' := [(4, .int v6), (0, .ref (X.1 v0)), (2, .int v2), (6, .int v6), (7, .int v7)]) hC dX11_shares_99 (by decide) rfl ?_
  refine u_iload hC dX11_shares_101 4 rfl ?_
  refine u_istore (lv' := [(5, .int v7), (4, .int v6), (0, .ref (X.1 v0)), (2, .int v2), (6, .int v6), (7, .int v7)]) hC dX11_shares_103 (by decide) rfl ?_
  refine u_sub (lv' := [(0, .ref (X.1 v0)), (2, .int v2), (4, .int v6), (5, .int v7), (6, .int v6)]) [2, 3, 1, 0, 4] rfl ?_
  exact wjX11_shares_105_32 hC n S v0 v2 v6 v7 v6  hTv0 hf hN hO0
theorem wjX11_shares_63_32 {C : CT} {X : XT} (hC : CK C RX11 cX11_shares 8 none 4) (n : Nat) (S : PS) (v0 : Nat) (v2 : Int32) (v4 : Int32) (v5 : Int32) (v6 : Int32) (t0 : Int32)  (hTv0 : Ty X.2.1 v0 11) {o : (Int32 × Int32 × Int32 × PS) ⊕ (Int32 × Int32 × PS)} (hf : jX11_shares_63_32 X.2.1 n S v0 v2 v4 v5 v6 t0 = some o) (hN : ∀ s', o = .inl s' → UW C X s'.2.2.2 32 [(0, .ref (X.1 v0)), (2, .int v2), (4, .int s'.1), (5, .int s'.2.1), (6, .int s'.2.2.1)] []) (hO0 : ∀ p', o = .inr p' → UW C X p'.2.2 111 [(0, .ref (X.1 v0)), (2, .int v2), (4, .int p'.1), (5, .int p'.2.1)] []) : UW C X S 63 [(0, .ref (X.1 v0)), (2, .int v2), (4, .int v4), (5, .int v5), (6, .int v6)] [.int t0] := by
  unfold jX11_shares_63_32 at hf
  refine u_istore (lv' := [(7, .int t0), (0, .ref (X.1 v0)), (2, .int v2), (4, .int v4), (5, .int v5), (6, .int v6)]) hC dX11_shares_63 (by decide) rfl ?_
  refine u_iload hC dX11_shares_65 0 rfl ?_
  refine u_iconst (v := (-1 : Int32)) hC dX11_shares_67 (by decide) ?_
  refine u_icmp_eq (tgt := 105) hC dX11_shares_68 (by decide) hf (fun h68 hf => ?_) (fun h68 hf => ?_)
  · refine u_sub (lv' := [(0, .ref (X.1 v0)), (2, .int v2), (4, .int v4), (5, .int v5), (6, .int v6)]) [1, 2, 3, 4, 5] rfl ?_
    exact wjX11_shares_105_32 hC n S v0 v2 v4 v5 v6  hTv0 hf hN hO0
  · refine u_iload hC dX11_shares_71 3 rfl ?_
    refine u_iconst (v := (-1 : Int32)) hC dX11_shares_73 (by decide) ?_
    refine u_icmp_eq (tgt := 97) hC dX11_shares_74 (by decide) hf (fun h74 hf => ?_) (fun h74 hf => ?_)
    · refine u_sub (lv' := [(0, .ref (X.1 v0)), (2, .int v2), (6, .int v6), (7, .int t0)]) [1, 2, 5, 0] rfl ?_
      exact wjX11_shares_97_32 hC n S v0 v2 v6 t0  hTv0 hf hN hO0
    · refine u_aload_n hC dX11_shares_77 1 rfl rfl ?_
      refine u_iload hC dX11_shares_78 0 rfl ?_
      refine u_i2l hC dX11_shares_80 ?_
      refine u_iload hC dX11_shares_81 5 rfl ?_
      refine u_iload hC dX11_shares_83 4 rfl ?_
      refine u_i2l hC dX11_shares_85 ?_
      refine u_iload hC dX11_shares_86 3 rfl ?_
      obtain ⟨q88, hq88, hf⟩ := kc_some hf
      refine u_callV hC (ctX11_isFirst (cL C) hC.tr (cG C) X.1 X.2.1 n S v0 (Int32.toInt64 t0) v6 (Int32.toInt64 v5) v4 hTv0 hq88) lk_X11_182 rfl hTv0 (by decide) rfl (by decide) (by decide) rfl rfl (Nat.le_of_ble_eq_true rfl) dX11_shares_88 ?_
      refine u_if_ne (tgt := 97) hC dX11_shares_91 (by decide) hf (fun h91 hf => ?_) (fun h91 hf => ?_)
      · refine u_sub (lv' := [(0, .ref (X.1 v0)), (2, .int v2), (6, .int v6), (7, .int t0)]) [1, 2, 5, 0] rfl ?_
        exact wjX11_shares_97_32 hC n S v0 v2 v6 t0  hTv0 hf hN hO0
      · refine u_goto (tgt := 105) hC dX11_shares_94 (by decide) ?_
        refine u_sub (lv' := [(0, .ref (X.1 v0)), (2, .int v2), (4, .int v4), (5, .int v5), (6, .int v6)]) [1, 2, 3, 4, 5] rfl ?_
        exact wjX11_shares_105_32 hC n S v0 v2 v4 v5 v6  hTv0 hf hN hO0
theorem wbX11_shares_32 {C : CT} {X : XT} (hC : CK C RX11 cX11_shares 8 none 4) (n : Nat) (v0 : Nat) (v2 : Int32) (hTv0 : Ty X.2.1 v0 11) (s32 : (Int32 × Int32 × Int32 × PS)) {o : (Int32 × Int32 × Int32 × PS) ⊕ (Int32 × Int32 × PS)} (hf : bX11_shares_32 X.2.1 n v0 v2 s32 = some o) (hN : ∀ s', o = .inl s' → UW C X s'.2.2.2 32 [(0, .ref (X.1 v0)), (2, .int v2), (4, .int s'.1), (5, .int s'.2.1), (6, .int s'.2.2.1)] []) (hO0 : ∀ p', o = .inr p' → UW C X p'.2.2 111 [(0, .ref (X.1 v0)), (2, .int v2), (4, .int p'.1), (5, .int p'.2.1)] []) : UW C X s32.2.2.2 32 [(0, .ref (X.1 v0)), (2, .int v2), (4, .int s32.1), (5, .int s32.2.1), (6, .int s32.2.2.1)] [] := by
  unfold bX11_shares_32 at hf
  refine u_iload hC dX11_shares_32 4 rfl ?_
  refine u_aload_n hC dX11_shares_34 0 rfl rfl ?_
  obtain ⟨q35, hq35, hf⟩ := kc_some hf
  refine u_callV hC (ctX11_many (cL C) hC.tr (cG C) X.1 X.2.1 n s32.2.2.2 v0 hTv0 hq35) lk_X11_77 rfl hTv0 (by decide) rfl (by decide) (by decide) rfl rfl (Nat.le_of_ble_eq_true rfl) dX11_shares_35 ?_
  refine u_icmp_ge (tgt := 111) hC dX11_shares_38 (by decide) hf (fun h38 hf => ?_) (fun h38 hf => ?_)
  · refine u_sub (lv' := [(0, .ref (X.1 v0)), (2, .int v2), (4, .int s32.1), (5, .int s32.2.1)]) [0, 1, 2, 3] rfl ?_
    exact hO0 _ (Option.some.inj hf).symm
  · refine u_aload_n hC dX11_shares_41 0 rfl rfl ?_
    refine u_gi hC lf_X11_154 rfl hTv0 dX11_shares_42 hf (fun x42 hf => ?_)
    refine u_iload hC dX11_shares_45 4 rfl ?_
    obtain ⟨q47, hq47, hf⟩ := kc_some hf
    refine u_callS hC (ctX11_isOf (cL C) hC.tr (cG C) X.1 X.2.1 n s32.2.2.2 x42 s32.2.2.1  hq47) lk_X11_147 (by decide) (by decide) rfl rfl (Nat.le_of_ble_eq_true rfl) dX11_shares_47 ?_
    refine u_if_eq (tgt := 57) hC dX11_shares_50 (by decide) hf (fun h50 hf => ?_) (fun h50 hf => ?_)
    · refine u_aload_n hC dX11_shares_57 0 rfl rfl ?_
      refine u_iload hC dX11_shares_58 4 rfl ?_
      obtain ⟨q60, hq60, hf⟩ := kc_some hf
      refine u_callV hC (ctX11_priceOf (cL C) hC.tr (cG C) X.1 X.2.1 n s32.2.2.2 v0 s32.2.2.1 hTv0 hq60) lk_X11_179 rfl hTv0 (by decide) rfl (by decide) (by decide) rfl rfl (Nat.le_of_ble_eq_true rfl) dX11_shares_60 ?_
      exact wjX11_shares_63_32 hC n q60.2 v0 v2 s32.1 s32.2.1 s32.2.2.1 q60.1  hTv0 hf hN hO0
    · refine u_iconst (v := (-1 : Int32)) hC dX11_shares_53 (by decide) ?_
      refine u_goto (tgt := 63) hC dX11_shares_54 (by decide) ?_
      exact wjX11_shares_63_32 hC n s32.2.2.2 v0 v2 s32.1 s32.2.1 s32.2.2.1 (-1 : Int32)  hTv0 hf hN hO0
theorem wjX11_shares_135_11 {C : CT} {X : XT} (hC : CK C RX11 cX11_shares 8 none 4) (n : Nat) (S : PS) (v0 : Nat) (v2 : Int32) (v3 : Int32)  (hTv0 : Ty X.2.1 v0 11) {o : (Int32 × PS) ⊕ PS} (hf : jX11_shares_135_11 X.2.1 n S v0 v2 v3 = some o) (hN : ∀ s', o = .inl s' → UW C X s'.2 11 [(0, .ref (X.1 v0)), (2, .int v2), (3, .int s'.1)] []) (hO0 : ∀ p', o = .inr p' → UW C X p' 138 [] []) : UW C X S 135 [(0, .ref (X.1 v0)), (2, .int v2), (3, .int v3)] [] := by
  unfold jX11_shares_135_11 at hf
  refine u_goto (tgt := 11) hC dX11_shares_135 (by decide) ?_
  exact hN _ (Option.some.inj hf).symm
theorem wjX11_shares_122_11 {C : CT} {X : XT} (hC : CK C RX11 cX11_shares 8 none 4) (n : Nat) (S : PS) (v0 : Nat) (v2 : Int32) (v4 : Int32) (v5 : Int32) (t0 : Int32)  (hTv0 : Ty X.2.1 v0 11) {o : (Int32 × PS) ⊕ PS} (hf : jX11_shares_122_11 X.2.1 n S v0 v2 v4 v5 t0 = some o) (hN : ∀ s', o = .inl s' → UW C X s'.2 11 [(0, .ref (X.1 v0)), (2, .int v2), (3, .int s'.1)] []) (hO0 : ∀ p', o = .inr p' → UW C X p' 138 [] []) : UW C X S 122 [(0, .ref (X.1 v0)), (2, .int v2), (4, .int v4), (5, .int v5)] [.int t0] := by
  unfold jX11_shares_122_11 at hf
  refine u_istore_n (lv' := [(3, .int t0), (0, .ref (X.1 v0)), (2, .int v2), (4, .int v4), (5, .int v5)]) hC dX11_shares_122 rfl (by decide) rfl ?_
  refine u_iload_n hC dX11_shares_123 0 rfl rfl ?_
  refine u_if_eq (tgt := 135) hC dX11_shares_124 (by decide) hf (fun h124 hf => ?_) (fun h124 hf => ?_)
  · refine u_sub (lv' := [(0, .ref (X.1 v0)), (2, .int v2), (3, .int t0)]) [1, 2, 0] rfl ?_
    exact wjX11_shares_135_11 hC n S v0 v2 t0  hTv0 hf hN hO0
  · refine u_aload_n hC dX11_shares_127 1 rfl rfl ?_
    refine u_iload hC dX11_shares_128 3 rfl ?_
    refine u_iload hC dX11_shares_130 4 rfl ?_
    obtain ⟨q132, hq132, hf⟩ := kc_some hf
    refine u_callV hC (ctX11_pay (cL C) hC.tr (cG C) X.1 X.2.1 n S v0 v4 v5 hTv0 hq132) lk_X11_186 rfl hTv0 (by decide) rfl (by decide) (by decide) rfl rfl (Nat.le_of_ble_eq_true rfl) dX11_shares_132 ?_
    refine u_sub (lv' := [(0, .ref (X.1 v0)), (2, .int v2), (3, .int t0)]) [1, 2, 0] rfl ?_
    exact wjX11_shares_135_11 hC n q132 v0 v2 t0  hTv0 hf hN hO0
theorem wbX11_shares_11 {C : CT} {X : XT} (hC : CK C RX11 cX11_shares 8 none 4) (n : Nat) (v0 : Nat) (v2 : Int32) (hTv0 : Ty X.2.1 v0 11) (s11 : (Int32 × PS)) {o : (Int32 × PS) ⊕ PS} (hf : bX11_shares_11 X.2.1 n v0 v2 s11 = some o) (hN : ∀ s', o = .inl s' → UW C X s'.2 11 [(0, .ref (X.1 v0)), (2, .int v2), (3, .int s'.1)] []) (hO0 : ∀ p', o = .inr p' → UW C X p' 138 [] []) : UW C X s11.2 11 [(0, .ref (X.1 v0)), (2, .int v2), (3, .int s11.1)] [] := by
  unfold bX11_shares_11 at hf
  refine u_iload_n hC dX11_shares_11 2 rfl rfl ?_
  refine u_if_eq (tgt := 138) hC dX11_shares_12 (by decide) hf (fun h12 hf => ?_) (fun h12 hf => ?_)
  · refine u_sub (lv' := []) [] rfl ?_
    exact hO0 _ (Option.some.inj hf).symm
  · refine u_aload_n hC dX11_shares_15 0 rfl rfl ?_
    refine u_gi hC lf_X11_157 rfl hTv0 dX11_shares_16 hf (fun x16 hf => ?_)
    refine u_iload_n hC dX11_shares_19 1 rfl rfl ?_
    refine u_icmp_ge (tgt := 138) hC dX11_shares_20 (by decide) hf (fun h20 hf => ?_) (fun h20 hf => ?_)
    · refine u_sub (lv' := []) [] rfl ?_
      exact hO0 _ (Option.some.inj hf).symm
    · refine u_iconst (v := (-1 : Int32)) hC dX11_shares_23 (by decide) ?_
      refine u_istore (lv' := [(4, .int (-1 : Int32)), (0, .ref (X.1 v0)), (2, .int v2), (3, .int s11.1)]) hC dX11_shares_24 (by decide) rfl ?_
      refine u_iconst (v := (-1 : Int32)) hC dX11_shares_26 (by decide) ?_
      refine u_istore (lv' := [(5, .int (-1 : Int32)), (4, .int (-1 : Int32)), (0, .ref (X.1 v0)), (2, .int v2), (3, .int s11.1)]) hC dX11_shares_27 (by decide) rfl ?_
      refine u_iconst (v := (0 : Int32)) hC dX11_shares_29 (by decide) ?_
      refine u_istore (lv' := [(6, .int (0 : Int32)), (5, .int (-1 : Int32)), (4, .int (-1 : Int32)), (0, .ref (X.1 v0)), (2, .int v2), (3, .int s11.1)]) hC dX11_shares_30 (by decide) rfl ?_
      obtain ⟨r32, hr32, hf⟩ := kc_some hf
      have hk32 : UW C X r32.2.2 111 [(0, .ref (X.1 v0)), (2, .int v2), (4, .int r32.1), (5, .int r32.2.1)] [] := by
        refine u_iload hC dX11_shares_111 2 rfl ?_
        refine u_iconst (v := (-1 : Int32)) hC dX11_shares_113 (by decide) ?_
        refine u_icmp_eq (tgt := 121) hC dX11_shares_114 (by decide) hf (fun h114 hf => ?_) (fun h114 hf => ?_)
        · refine u_iconst (v := (0 : Int32)) hC dX11_shares_121 (by decide) ?_
          exact wjX11_shares_122_11 hC n r32.2.2 v0 v2 r32.1 r32.2.1 (0 : Int32)  hTv0 hf hN hO0
        · refine u_iconst (v := (1 : Int32)) hC dX11_shares_117 (by decide) ?_
          refine u_goto (tgt := 122) hC dX11_shares_118 (by decide) ?_
          exact wjX11_shares_122_11 hC n r32.2.2 v0 v2 r32.1 r32.2.1 (1 : Int32)  hTv0 hf hN hO0
      refine u_sub (lv' := [(0, .ref (X.1 v0)), (2, .int v2), (4, .int (-1 : Int32)), (5, .int (-1 : Int32)), (6, .int (0 : Int32))]) [3, 4, 2, 1, 0] rfl ?_
      refine iter_ind (P := fun s32 => UW C X s32.2.2.2 32 [(0, .ref (X.1 v0)), (2, .int v2), (4, .int s32.1), (5, .int s32.2.1), (6, .int s32.2.2.1)] []) (fun s32 o' hb hin hout => ?_) n ((-1 : Int32), (-1 : Int32), (0 : Int32), s11.2) hr32
      exact wbX11_shares_32 hC n v0 v2 hTv0 s32 hb hin (fun p e => by rw [hout p e]; exact hk32)
theorem wjX11_shares_138 {C : CT} {X : XT} (hC : CK C RX11 cX11_shares 8 none 4) (n : Nat) (S : PS)    {o : PS} (hf : jX11_shares_138 X.2.1 n S  = some o) (hR : Rt C X cX11_shares none none o) : UW C X S 138 [] [] := by
  unfold jX11_shares_138 at hf
  cases hf
  exact hR _ _ dX11_shares_138 trivial
theorem wX11_shares {C : CT} {X : XT} (hC : CK C RX11 cX11_shares 8 none 4) (n : Nat) (S : PS) (a0 : Nat) (x1_ : Int32) (x2_ : Int32) (hTa0 : Ty X.2.1 a0 11) {o : PS} (hf : fX11_shares X.2.1 n S a0 x1_ x2_ = some o) (hR : Rt C X cX11_shares none none o) : UW C X S 0 [(0, .ref (X.1 a0)), (1, .int x1_), (2, .int x2_)] [] := by
  unfold fX11_shares at hf
  refine u_aload_n hC dX11_shares_0 0 rfl rfl ?_
  obtain ⟨q1, hq1, hf⟩ := kc_some hf
  refine u_callV hC (ctX11_clear (cL C) hC.tr (cG C) X.1 X.2.1 n S a0 hTa0 hq1) lk_X11_173 rfl hTa0 (by decide) rfl (by decide) (by decide) rfl rfl (Nat.le_of_ble_eq_true rfl) dX11_shares_1 ?_
  refine u_aload_n hC dX11_shares_4 0 rfl rfl ?_
  refine u_iload_n hC dX11_shares_5 1 rfl rfl ?_
  obtain ⟨q6, hq6, hf⟩ := kc_some hf
  refine u_callV hC (ctX11_layPurses (cL C) hC.tr (cG C) X.1 X.2.1 n q1 a0 x1_ hTa0 hq6) lk_X11_176 rfl hTa0 (by decide) rfl (by decide) (by decide) rfl rfl (Nat.le_of_ble_eq_true rfl) dX11_shares_6 ?_
  refine u_iconst (v := (1 : Int32)) hC dX11_shares_9 (by decide) ?_
  refine u_istore_n (lv' := [(3, .int (1 : Int32)), (0, .ref (X.1 a0)), (1, .int x1_), (2, .int x2_)]) hC dX11_shares_10 rfl (by decide) rfl ?_
  obtain ⟨r11, hr11, hf⟩ := kc_some hf
  have hk11 : UW C X r11 138 [] [] := by
    exact wjX11_shares_138 hC n r11    hf hR
  refine u_sub (lv' := [(0, .ref (X.1 a0)), (2, .int x2_), (3, .int (1 : Int32))]) [1, 3, 0] rfl ?_
  refine iter_ind (P := fun s11 => UW C X s11.2 11 [(0, .ref (X.1 a0)), (2, .int x2_), (3, .int s11.1)] []) (fun s11 o' hb hin hout => ?_) n ((1 : Int32), q6) hr11
  exact wbX11_shares_11 hC n a0 x2_ hTa0 s11 hb hin (fun p e => by rw [hout p e]; exact hk11)
theorem ctX11_shares (l : Launch) (hl : l.stackTraces = false) (G : GT) (ρ : Nat → Nat) (Y : XS) (n : Nat) (S : PS) (a0 : Nat) (x1_ : Int32) (x2_ : Int32) (hTa0 : Ty Y a0 11) {o : PS} (hf : fX11_shares Y n S a0 x1_ x2_ = some o) : Mt l G yX11_shares cX11_shares 8 none 4 ρ Y [.ref (ρ a0), .int x1_, .int x2_] S none o :=
  Mt_of hl (by decide) (Nat.le_of_ble_eq_true rfl) (fun C _ _ hC hR => wX11_shares (X := (ρ, Y, 0, 0)) hC n S a0 x1_ x2_ hTa0 hf hR)
-- X11_raises
theorem dX11_raises_0 : decode cX11_raises 0 = .ok (.aload_n 0, 1) := by decide +kernel
theorem dX11_raises_1 : decode cX11_raises 1 = .ok (.iconst 0, 1) := by decide +kernel
theorem dX11_raises_2 : decode cX11_raises 2 = .ok (.putfield 190, 3) := by decide +kernel
theorem dX11_raises_5 : decode cX11_raises 5 = .ok (.aload_n 0, 1) := by decide +kernel
theorem dX11_raises_6 : decode cX11_raises 6 = .ok (.iconst 0, 1) := by decide +kernel
theorem dX11_raises_7 : decode cX11_raises 7 = .ok (.bipush 12, 2) := by decide +kernel
theorem dX11_raises_9 : decode cX11_raises 9 = .ok (.invokevirtual 193, 3) := by decide +kernel
theorem dX11_raises_12 : decode cX11_raises 12 = .ok (.aload_n 0, 1) := by decide +kernel
theorem dX11_raises_13 : decode cX11_raises 13 = .ok (.getfield 190, 3) := by decide +kernel
theorem dX11_raises_16 : decode cX11_raises 16 = .ok (.sipush 300, 3) := by decide +kernel
theorem dX11_raises_19 : decode cX11_raises 19 = .ok (.if_icmp .ge 75, 3) := by decide +kernel
theorem dX11_raises_22 : decode cX11_raises 22 = .ok (.aload_n 0, 1) := by decide +kernel
theorem dX11_raises_23 : decode cX11_raises 23 = .ok (.getfield 157, 3) := by decide +kernel
theorem dX11_raises_26 : decode cX11_raises 26 = .ok (.aload_n 0, 1) := by decide +kernel
theorem dX11_raises_27 : decode cX11_raises 27 = .ok (.invokevirtual 77, 3) := by decide +kernel
theorem dX11_raises_30 : decode cX11_raises 30 = .ok (.if_icmp .ge 64, 3) := by decide +kernel
theorem dX11_raises_33 : decode cX11_raises 33 = .ok (.aload_n 0, 1) := by decide +kernel
theorem dX11_raises_34 : decode cX11_raises 34 = .ok (.sipush 1000, 3) := by decide +kernel
theorem dX11_raises_37 : decode cX11_raises 37 = .ok (.aload_n 0, 1) := by decide +kernel
theorem dX11_raises_38 : decode cX11_raises 38 = .ok (.getfield 190, 3) := by decide +kernel
theorem dX11_raises_41 : decode cX11_raises 41 = .ok (.iconst 1, 1) := by decide +kernel
theorem dX11_raises_42 : decode cX11_raises 42 = .ok (.iadd, 1) := by decide +kernel
theorem dX11_raises_43 : decode cX11_raises 43 = .ok (.imul, 1) := by decide +kernel
theorem dX11_raises_44 : decode cX11_raises 44 = .ok (.bipush 12, 2) := by decide +kernel
theorem dX11_raises_46 : decode cX11_raises 46 = .ok (.invokevirtual 193, 3) := by decide +kernel
theorem dX11_raises_49 : decode cX11_raises 49 = .ok (.aload_n 0, 1) := by decide +kernel
theorem dX11_raises_50 : decode cX11_raises 50 = .ok (.aload_n 0, 1) := by decide +kernel
theorem dX11_raises_51 : decode cX11_raises 51 = .ok (.getfield 154, 3) := by decide +kernel
theorem dX11_raises_54 : decode cX11_raises 54 = .ok (.invokevirtual 196, 3) := by decide +kernel
theorem dX11_raises_57 : decode cX11_raises 57 = .ok (.aload_n 0, 1) := by decide +kernel
theorem dX11_raises_58 : decode cX11_raises 58 = .ok (.getfield 9, 3) := by decide +kernel
theorem dX11_raises_61 : decode cX11_raises 61 = .ok (.iconst 0, 1) := by decide +kernel
theorem dX11_raises_62 : decode cX11_raises 62 = .ok (.iaload, 1) := by decide +kernel
theorem dX11_raises_63 : decode cX11_raises 63 = .ok (.if_icmp .le 18, 3) := by decide +kernel
theorem dX11_raises_66 : decode cX11_raises 66 = .ok (.aload_n 0, 1) := by decide +kernel
theorem dX11_raises_67 : decode cX11_raises 67 = .ok (.sipush 1000, 3) := by decide +kernel
theorem dX11_raises_70 : decode cX11_raises 70 = .ok (.aload_n 0, 1) := by decide +kernel
theorem dX11_raises_71 : decode cX11_raises 71 = .ok (.getfield 190, 3) := by decide +kernel
theorem dX11_raises_74 : decode cX11_raises 74 = .ok (.imul, 1) := by decide +kernel
theorem dX11_raises_75 : decode cX11_raises 75 = .ok (.bipush 12, 2) := by decide +kernel
theorem dX11_raises_77 : decode cX11_raises 77 = .ok (.invokevirtual 193, 3) := by decide +kernel
theorem dX11_raises_80 : decode cX11_raises 80 = .ok (.return_, 1) := by decide +kernel
theorem dX11_raises_81 : decode cX11_raises 81 = .ok (.aload_n 0, 1) := by decide +kernel
theorem dX11_raises_82 : decode cX11_raises 82 = .ok (.dup, 1) := by decide +kernel
theorem dX11_raises_83 : decode cX11_raises 83 = .ok (.getfield 190, 3) := by decide +kernel
theorem dX11_raises_86 : decode cX11_raises 86 = .ok (.iconst 1, 1) := by decide +kernel
theorem dX11_raises_87 : decode cX11_raises 87 = .ok (.iadd, 1) := by decide +kernel
theorem dX11_raises_88 : decode cX11_raises 88 = .ok (.putfield 190, 3) := by decide +kernel
theorem dX11_raises_91 : decode cX11_raises 91 = .ok (.goto (-79), 3) := by decide +kernel
theorem dX11_raises_94 : decode cX11_raises 94 = .ok (.return_, 1) := by decide +kernel
def bX11_raises_12 (Y : XS) (n : Nat) (v0 : Nat) (s12 : PS) : Option (PS ⊕ (PS ⊕ (PS))) :=
  kgi s12 v0 23 (fun x13 => (if (300 : Int32) ≤ x13 then some (.inr (.inl s12)) else kgi s12 v0 22 (fun x23 => kc (fX11_many Y n s12 v0) (fun q27 => (if q27 ≤ x23 then some (.inr (.inl s12)) else kgi s12 v0 23 (fun x38 => kc (fX11_shares Y n s12 v0 ((1000 : Int32) * (x38 + (1 : Int32))) (12 : Int32)) (fun q46 => kgi q46 v0 21 (fun x51 => kc (fX11_costsOf Y n q46 v0 x51) (fun q54 => kgr q46 v0 0 (fun b58 => kai Y q46 b58 (0 : Int32) (fun x62 => (if q54 ≤ x62 then kgi q46 v0 23 (fun x83 => kpi q46 v0 23 (x83 + (1 : Int32)) (fun S88 => some (.inl S88))) else kgi q46 v0 23 (fun x71 => kc (fX11_shares Y n q46 v0 ((1000 : Int32) * x71) (12 : Int32)) (fun q77 => some (.inr (.inr q77))))))))))))))))
def jX11_raises_94 (Y : XS) (n : Nat) (S : PS)  : Option (PS) :=
  some S
def fX11_raises (Y : XS) (n : Nat) (S : PS) (a0 : Nat) : Option (PS) :=
  kpi S a0 23 (0 : Int32) (fun S2 => kc (fX11_shares Y n S2 a0 (0 : Int32) (12 : Int32)) (fun q9 => kc (iter (bX11_raises_12 Y n a0) n q9) (fun r12 => ks r12 (fun p12_0 => jX11_raises_94 Y n p12_0 ) (fun p12_1 => some p12_1))))
theorem wbX11_raises_12 {C : CT} {X : XT} (hC : CK C RX11 cX11_raises 1 none 5) (n : Nat) (v0 : Nat) (hTv0 : Ty X.2.1 v0 11) (s12 : PS) {o : PS ⊕ (PS ⊕ (PS))} (hf : bX11_raises_12 X.2.1 n v0 s12 = some o) (hN : ∀ s', o = .inl s' → UW C X s' 12 [(0, .ref (X.1 v0))] []) (hO0 : ∀ p', o = .inr (.inl p') → UW C X p' 94 [] []) (hR : ∀ q', o = .inr (.inr q') → Rt C X cX11_raises none none q') : UW C X s12 12 [(0, .ref (X.1 v0))] [] := by
  unfold bX11_raises_12 at hf
  refine u_aload_n hC dX11_raises_12 0 rfl rfl ?_
  refine u_gi hC lf_X11_190 rfl hTv0 dX11_raises_13 hf (fun x13 hf => ?_)
  refine u_sipush (v := (300 : Int32)) hC dX11_raises_16 (by decide) ?_
  refine u_icmp_ge (tgt := 94) hC dX11_raises_19 (by decide) hf (fun h19 hf => ?_) (fun h19 hf => ?_)
  · refine u_sub (lv' := []) [] rfl ?_
    exact hO0 _ (Option.some.inj hf).symm
  · refine u_aload_n hC dX11_raises_22 0 rfl rfl ?_
    refine u_gi hC lf_X11_157 rfl hTv0 dX11_raises_23 hf (fun x23 hf => ?_)
    refine u_aload_n hC dX11_raises_26 0 rfl rfl ?_
    obtain ⟨q27, hq27, hf⟩ := kc_some hf
    refine u_callV hC (ctX11_many (cL C) hC.tr (cG C) X.1 X.2.1 n s12 v0 hTv0 hq27) lk_X11_77 rfl hTv0 (by decide) rfl (by decide) (by decide) rfl rfl (Nat.le_of_ble_eq_true rfl) dX11_raises_27 ?_
    refine u_icmp_ge (tgt := 94) hC dX11_raises_30 (by decide) hf (fun h30 hf => ?_) (fun h30 hf => ?_)
    · refine u_sub (lv' := []) [] rfl ?_
      exact hO0 _ (Option.some.inj hf).symm
    · refine u_aload_n hC dX11_raises_33 0 rfl rfl ?_
      refine u_sipush (v := (1000 : Int32)) hC dX11_raises_34 (by decide) ?_
      refine u_aload_n hC dX11_raises_37 0 rfl rfl ?_
      refine u_gi hC lf_X11_190 rfl hTv0 dX11_raises_38 hf (fun x38 hf => ?_)
      refine u_iconst (v := (1 : Int32)) hC dX11_raises_41 (by decide) ?_
      refine u_iadd hC dX11_raises_42 ?_
      refine u_imul hC dX11_raises_43 ?_
      refine u_bipush (v := (12 : Int32)) hC dX11_raises_44 (by decide) ?_
      obtain ⟨q46, hq46, hf⟩ := kc_some hf
      refine u_callV hC (ctX11_shares (cL C) hC.tr (cG C) X.1 X.2.1 n s12 v0 ((1000 : Int32) * (x38 + (1 : Int32))) (12 : Int32) hTv0 hq46) lk_X11_193 rfl hTv0 (by decide) rfl (by decide) (by decide) rfl rfl (Nat.le_of_ble_eq_true rfl) dX11_raises_46 ?_
      refine u_aload_n hC dX11_raises_49 0 rfl rfl ?_
      refine u_aload_n hC dX11_raises_50 0 rfl rfl ?_
      refine u_gi hC lf_X11_154 rfl hTv0 dX11_raises_51 hf (fun x51 hf => ?_)
      obtain ⟨q54, hq54, hf⟩ := kc_some hf
      refine u_callV hC (ctX11_costsOf (cL C) hC.tr (cG C) X.1 X.2.1 n q46 v0 x51 hTv0 hq54) lk_X11_196 rfl hTv0 (by decide) rfl (by decide) (by decide) rfl rfl (Nat.le_of_ble_eq_true rfl) dX11_raises_54 ?_
      refine u_aload_n hC dX11_raises_57 0 rfl rfl ?_
      refine u_gr hC lf_X11_9 rfl hTv0 dX11_raises_58 hf (fun b58 hTb58 hf => ?_)
      refine u_iconst (v := (0 : Int32)) hC dX11_raises_61 (by decide) ?_
      refine u_ai hC hTb58 dX11_raises_62 hf (fun x62 hf => ?_)
      refine u_icmp_le (tgt := 81) hC dX11_raises_63 (by decide) hf (fun h63 hf => ?_) (fun h63 hf => ?_)
      · refine u_aload_n hC dX11_raises_81 0 rfl rfl ?_
        refine u_dup hC dX11_raises_82 rfl ?_
        refine u_gi hC lf_X11_190 rfl hTv0 dX11_raises_83 hf (fun x83 hf => ?_)
        refine u_iconst (v := (1 : Int32)) hC dX11_raises_86 (by decide) ?_
        refine u_iadd hC dX11_raises_87 ?_
        refine u_pi hC lf_X11_190 rfl rfl rfl hTv0 dX11_raises_88 hf (fun S88 hf => ?_)
        refine u_goto (tgt := 12) hC dX11_raises_91 (by decide) ?_
        exact hN _ (Option.some.inj hf).symm
      · refine u_aload_n hC dX11_raises_66 0 rfl rfl ?_
        refine u_sipush (v := (1000 : Int32)) hC dX11_raises_67 (by decide) ?_
        refine u_aload_n hC dX11_raises_70 0 rfl rfl ?_
        refine u_gi hC lf_X11_190 rfl hTv0 dX11_raises_71 hf (fun x71 hf => ?_)
        refine u_imul hC dX11_raises_74 ?_
        refine u_bipush (v := (12 : Int32)) hC dX11_raises_75 (by decide) ?_
        obtain ⟨q77, hq77, hf⟩ := kc_some hf
        refine u_callV hC (ctX11_shares (cL C) hC.tr (cG C) X.1 X.2.1 n q46 v0 ((1000 : Int32) * x71) (12 : Int32) hTv0 hq77) lk_X11_193 rfl hTv0 (by decide) rfl (by decide) (by decide) rfl rfl (Nat.le_of_ble_eq_true rfl) dX11_raises_77 ?_
        exact hR _ (Option.some.inj hf).symm _ _ dX11_raises_80 trivial
theorem wjX11_raises_94 {C : CT} {X : XT} (hC : CK C RX11 cX11_raises 1 none 5) (n : Nat) (S : PS)    {o : PS} (hf : jX11_raises_94 X.2.1 n S  = some o) (hR : Rt C X cX11_raises none none o) : UW C X S 94 [] [] := by
  unfold jX11_raises_94 at hf
  cases hf
  exact hR _ _ dX11_raises_94 trivial
theorem wX11_raises {C : CT} {X : XT} (hC : CK C RX11 cX11_raises 1 none 5) (n : Nat) (S : PS) (a0 : Nat) (hTa0 : Ty X.2.1 a0 11) {o : PS} (hf : fX11_raises X.2.1 n S a0 = some o) (hR : Rt C X cX11_raises none none o) : UW C X S 0 [(0, .ref (X.1 a0))] [] := by
  unfold fX11_raises at hf
  refine u_aload_n hC dX11_raises_0 0 rfl rfl ?_
  refine u_iconst (v := (0 : Int32)) hC dX11_raises_1 (by decide) ?_
  refine u_pi hC lf_X11_190 rfl rfl rfl hTa0 dX11_raises_2 hf (fun S2 hf => ?_)
  refine u_aload_n hC dX11_raises_5 0 rfl rfl ?_
  refine u_iconst (v := (0 : Int32)) hC dX11_raises_6 (by decide) ?_
  refine u_bipush (v := (12 : Int32)) hC dX11_raises_7 (by decide) ?_
  obtain ⟨q9, hq9, hf⟩ := kc_some hf
  refine u_callV hC (ctX11_shares (cL C) hC.tr (cG C) X.1 X.2.1 n S2 a0 (0 : Int32) (12 : Int32) hTa0 hq9) lk_X11_193 rfl hTa0 (by decide) rfl (by decide) (by decide) rfl rfl (Nat.le_of_ble_eq_true rfl) dX11_raises_9 ?_
  obtain ⟨r12, hr12, hf⟩ := kc_some hf
  have hk12_0 : ∀ p12_0, r12 = (.inl p12_0) → UW C X p12_0 94 [] [] := by
    intro p12_0 he
    subst he
    have hf := ks_l hf
    exact wjX11_raises_94 hC n p12_0    hf hR
  have hk12_1 : ∀ p12_1, r12 = (.inr p12_1) → Rt C X cX11_raises none none p12_1 := by
    intro p12_1 he
    subst he
    have hf := ks_r hf
    cases hf
    exact hR
  refine iter_ind (P := fun s12 => UW C X s12 12 [(0, .ref (X.1 a0))] []) (fun s12 o' hb hin hout => ?_) n q9 hr12
  exact wbX11_raises_12 hC n a0 hTa0 s12 hb hin (fun p e => hk12_0 p (hout _ e).symm) (fun p e => hk12_1 p (hout _ e).symm)
theorem ctX11_raises (l : Launch) (hl : l.stackTraces = false) (G : GT) (ρ : Nat → Nat) (Y : XS) (n : Nat) (S : PS) (a0 : Nat) (hTa0 : Ty Y a0 11) {o : PS} (hf : fX11_raises Y n S a0 = some o) : Mt l G yX11_raises cX11_raises 1 none 5 ρ Y [.ref (ρ a0)] S none o :=
  Mt_of hl (by decide) (Nat.le_of_ble_eq_true rfl) (fun C _ _ hC hR => wX11_raises (X := (ρ, Y, 0, 0)) hC n S a0 hTa0 hf hR)
-- X11_numberOf
theorem dX11_numberOf_0 : decode cX11_numberOf 0 = .ok (.iload_n 2, 1) := by decide +kernel
theorem dX11_numberOf_1 : decode cX11_numberOf 1 = .ok (.ifCond .eq 22, 3) := by decide +kernel
theorem dX11_numberOf_4 : decode cX11_numberOf 4 = .ok (.aload_n 0, 1) := by decide +kernel
theorem dX11_numberOf_5 : decode cX11_numberOf 5 = .ok (.getfield 31, 3) := by decide +kernel
theorem dX11_numberOf_8 : decode cX11_numberOf 8 = .ok (.iload_n 1, 1) := by decide +kernel
theorem dX11_numberOf_9 : decode cX11_numberOf 9 = .ok (.iaload, 1) := by decide +kernel
theorem dX11_numberOf_10 : decode cX11_numberOf 10 = .ok (.sipush 1000, 3) := by decide +kernel
theorem dX11_numberOf_13 : decode cX11_numberOf 13 = .ok (.imul, 1) := by decide +kernel
theorem dX11_numberOf_14 : decode cX11_numberOf 14 = .ok (.aload_n 0, 1) := by decide +kernel
theorem dX11_numberOf_15 : decode cX11_numberOf 15 = .ok (.iload_n 1, 1) := by decide +kernel
theorem dX11_numberOf_16 : decode cX11_numberOf 16 = .ok (.invokevirtual 134, 3) := by decide +kernel
theorem dX11_numberOf_19 : decode cX11_numberOf 19 = .ok (.idiv, 1) := by decide +kernel
theorem dX11_numberOf_20 : decode cX11_numberOf 20 = .ok (.goto 9, 3) := by decide +kernel
theorem dX11_numberOf_23 : decode cX11_numberOf 23 = .ok (.aload_n 0, 1) := by decide +kernel
theorem dX11_numberOf_24 : decode cX11_numberOf 24 = .ok (.getfield 31, 3) := by decide +kernel
theorem dX11_numberOf_27 : decode cX11_numberOf 27 = .ok (.iload_n 1, 1) := by decide +kernel
theorem dX11_numberOf_28 : decode cX11_numberOf 28 = .ok (.iaload, 1) := by decide +kernel
theorem dX11_numberOf_29 : decode cX11_numberOf 29 = .ok (.ireturn, 1) := by decide +kernel
def jX11_numberOf_29 (Y : XS) (n : Nat) (S : PS) (t0 : Int32) : Option (Int32) :=
  some t0
def fX11_numberOf (Y : XS) (n : Nat) (S : PS) (a0 : Nat) (x1_ : Int32) (x2_ : Int32) : Option (Int32) :=
  (if x2_ = 0 then kgr S a0 14 (fun b24 => kai Y S b24 x1_ (fun x28 => jX11_numberOf_29 Y n S x28)) else kgr S a0 14 (fun b5 => kai Y S b5 x1_ (fun x9 => kc (fX11_costOf Y n S a0 x1_) (fun q16 => kidiv (x9 * (1000 : Int32)) q16 (fun z19 => jX11_numberOf_29 Y n S z19)))))
theorem wjX11_numberOf_29 {C : CT} {X : XT} (hC : CK C RX11 cX11_numberOf 3 (some .int) 2) (n : Nat) (S : PS) (t0 : Int32)   {o : Int32} (hf : jX11_numberOf_29 X.2.1 n S t0 = some o) (hR : Rt C X cX11_numberOf (some .int) (some (.int o)) S) : UW C X S 29 [] [.int t0] := by
  unfold jX11_numberOf_29 at hf
  cases hf
  exact hR _ _ dX11_numberOf_29 trivial
theorem wX11_numberOf {C : CT} {X : XT} (hC : CK C RX11 cX11_numberOf 3 (some .int) 2) (n : Nat) (S : PS) (a0 : Nat) (x1_ : Int32) (x2_ : Int32) (hTa0 : Ty X.2.1 a0 11) {o : Int32} (hf : fX11_numberOf X.2.1 n S a0 x1_ x2_ = some o) (hR : Rt C X cX11_numberOf (some .int) (some (.int o)) S) : UW C X S 0 [(0, .ref (X.1 a0)), (1, .int x1_), (2, .int x2_)] [] := by
  unfold fX11_numberOf at hf
  refine u_iload_n hC dX11_numberOf_0 2 rfl rfl ?_
  refine u_if_eq (tgt := 23) hC dX11_numberOf_1 (by decide) hf (fun h1 hf => ?_) (fun h1 hf => ?_)
  · refine u_aload_n hC dX11_numberOf_23 0 rfl rfl ?_
    refine u_gr hC lf_X11_31 rfl hTa0 dX11_numberOf_24 hf (fun b24 hTb24 hf => ?_)
    refine u_iload_n hC dX11_numberOf_27 1 rfl rfl ?_
    refine u_ai hC hTb24 dX11_numberOf_28 hf (fun x28 hf => ?_)
    refine u_sub (lv' := []) [] rfl ?_
    exact wjX11_numberOf_29 hC n S x28   hf hR
  · refine u_aload_n hC dX11_numberOf_4 0 rfl rfl ?_
    refine u_gr hC lf_X11_31 rfl hTa0 dX11_numberOf_5 hf (fun b5 hTb5 hf => ?_)
    refine u_iload_n hC dX11_numberOf_8 1 rfl rfl ?_
    refine u_ai hC hTb5 dX11_numberOf_9 hf (fun x9 hf => ?_)
    refine u_sipush (v := (1000 : Int32)) hC dX11_numberOf_10 (by decide) ?_
    refine u_imul hC dX11_numberOf_13 ?_
    refine u_aload_n hC dX11_numberOf_14 0 rfl rfl ?_
    refine u_iload_n hC dX11_numberOf_15 1 rfl rfl ?_
    obtain ⟨q16, hq16, hf⟩ := kc_some hf
    refine u_callV hC (ctX11_costOf (cL C) hC.tr (cG C) X.1 X.2.1 n S a0 x1_ hTa0 hq16) lk_X11_134 rfl hTa0 (by decide) rfl (by decide) (by decide) rfl rfl (Nat.le_of_ble_eq_true rfl) dX11_numberOf_16 ?_
    refine u_idiv hC dX11_numberOf_19 hf (fun z19 hf => ?_)
    refine u_goto (tgt := 29) hC dX11_numberOf_20 (by decide) ?_
    refine u_sub (lv' := []) [] rfl ?_
    exact wjX11_numberOf_29 hC n S z19   hf hR
theorem ctX11_numberOf (l : Launch) (hl : l.stackTraces = false) (G : GT) (ρ : Nat → Nat) (Y : XS) (n : Nat) (S : PS) (a0 : Nat) (x1_ : Int32) (x2_ : Int32) (hTa0 : Ty Y a0 11) {o : Int32} (hf : fX11_numberOf Y n S a0 x1_ x2_ = some o) : Mt l G yX11_numberOf cX11_numberOf 3 (some .int) 2 ρ Y [.ref (ρ a0), .int x1_, .int x2_] S (some (.int o)) S :=
  Mt_of hl (by decide) (Nat.le_of_ble_eq_true rfl) (fun C _ _ hC hR => wX11_numberOf (X := (ρ, Y, 0, 0)) hC n S a0 x1_ x2_ hTa0 hf hR)
-- X11_isGreater
theorem dX11_isGreater_0 : decode cX11_isGreater 0 = .ok (.aload_n 0, 1) := by decide +kernel
theorem dX11_isGreater_1 : decode cX11_isGreater 1 = .ok (.iload_n 1, 1) := by decide +kernel
theorem dX11_isGreater_2 : decode cX11_isGreater 2 = .ok (.iload_n 3, 1) := by decide +kernel
theorem dX11_isGreater_3 : decode cX11_isGreater 3 = .ok (.invokevirtual 199, 3) := by decide +kernel
theorem dX11_isGreater_6 : decode cX11_isGreater 6 = .ok (.istore 4, 2) := by decide +kernel
theorem dX11_isGreater_8 : decode cX11_isGreater 8 = .ok (.aload_n 0, 1) := by decide +kernel
theorem dX11_isGreater_9 : decode cX11_isGreater 9 = .ok (.iload_n 2, 1) := by decide +kernel
theorem dX11_isGreater_10 : decode cX11_isGreater 10 = .ok (.iload_n 3, 1) := by decide +kernel
theorem dX11_isGreater_11 : decode cX11_isGreater 11 = .ok (.invokevirtual 199, 3) := by decide +kernel
theorem dX11_isGreater_14 : decode cX11_isGreater 14 = .ok (.istore 5, 2) := by decide +kernel
theorem dX11_isGreater_16 : decode cX11_isGreater 16 = .ok (.iload 4, 2) := by decide +kernel
theorem dX11_isGreater_18 : decode cX11_isGreater 18 = .ok (.iload 5, 2) := by decide +kernel
theorem dX11_isGreater_20 : decode cX11_isGreater 20 = .ok (.if_icmp .eq 16, 3) := by decide +kernel
theorem dX11_isGreater_23 : decode cX11_isGreater 23 = .ok (.iload 4, 2) := by decide +kernel
theorem dX11_isGreater_25 : decode cX11_isGreater 25 = .ok (.iload 5, 2) := by decide +kernel
theorem dX11_isGreater_27 : decode cX11_isGreater 27 = .ok (.if_icmp .le 7, 3) := by decide +kernel
theorem dX11_isGreater_30 : decode cX11_isGreater 30 = .ok (.iconst 1, 1) := by decide +kernel
theorem dX11_isGreater_31 : decode cX11_isGreater 31 = .ok (.goto 4, 3) := by decide +kernel
theorem dX11_isGreater_34 : decode cX11_isGreater 34 = .ok (.iconst 0, 1) := by decide +kernel
theorem dX11_isGreater_35 : decode cX11_isGreater 35 = .ok (.ireturn, 1) := by decide +kernel
theorem dX11_isGreater_36 : decode cX11_isGreater 36 = .ok (.aload_n 0, 1) := by decide +kernel
theorem dX11_isGreater_37 : decode cX11_isGreater 37 = .ok (.iload_n 1, 1) := by decide +kernel
theorem dX11_isGreater_38 : decode cX11_isGreater 38 = .ok (.invokevirtual 134, 3) := by decide +kernel
theorem dX11_isGreater_41 : decode cX11_isGreater 41 = .ok (.aload_n 0, 1) := by decide +kernel
theorem dX11_isGreater_42 : decode cX11_isGreater 42 = .ok (.iload_n 2, 1) := by decide +kernel
theorem dX11_isGreater_43 : decode cX11_isGreater 43 = .ok (.invokevirtual 134, 3) := by decide +kernel
theorem dX11_isGreater_46 : decode cX11_isGreater 46 = .ok (.if_icmp .eq 24, 3) := by decide +kernel
theorem dX11_isGreater_49 : decode cX11_isGreater 49 = .ok (.aload_n 0, 1) := by decide +kernel
theorem dX11_isGreater_50 : decode cX11_isGreater 50 = .ok (.iload_n 1, 1) := by decide +kernel
theorem dX11_isGreater_51 : decode cX11_isGreater 51 = .ok (.invokevirtual 134, 3) := by decide +kernel
theorem dX11_isGreater_54 : decode cX11_isGreater 54 = .ok (.aload_n 0, 1) := by decide +kernel
theorem dX11_isGreater_55 : decode cX11_isGreater 55 = .ok (.iload_n 2, 1) := by decide +kernel
theorem dX11_isGreater_56 : decode cX11_isGreater 56 = .ok (.invokevirtual 134, 3) := by decide +kernel
theorem dX11_isGreater_59 : decode cX11_isGreater 59 = .ok (.if_icmp .ge 7, 3) := by decide +kernel
theorem dX11_isGreater_62 : decode cX11_isGreater 62 = .ok (.iconst 1, 1) := by decide +kernel
theorem dX11_isGreater_63 : decode cX11_isGreater 63 = .ok (.goto 17, 3) := by decide +kernel
theorem dX11_isGreater_66 : decode cX11_isGreater 66 = .ok (.iconst 0, 1) := by decide +kernel
theorem dX11_isGreater_67 : decode cX11_isGreater 67 = .ok (.goto 13, 3) := by decide +kernel
theorem dX11_isGreater_70 : decode cX11_isGreater 70 = .ok (.iload_n 1, 1) := by decide +kernel
theorem dX11_isGreater_71 : decode cX11_isGreater 71 = .ok (.iload_n 2, 1) := by decide +kernel
theorem dX11_isGreater_72 : decode cX11_isGreater 72 = .ok (.if_icmp .ge 7, 3) := by decide +kernel
theorem dX11_isGreater_75 : decode cX11_isGreater 75 = .ok (.iconst 1, 1) := by decide +kernel
theorem dX11_isGreater_76 : decode cX11_isGreater 76 = .ok (.goto 4, 3) := by decide +kernel
theorem dX11_isGreater_79 : decode cX11_isGreater 79 = .ok (.iconst 0, 1) := by decide +kernel
theorem dX11_isGreater_80 : decode cX11_isGreater 80 = .ok (.ireturn, 1) := by decide +kernel
def jX11_isGreater_80 (Y : XS) (n : Nat) (S : PS) (t0 : Int32) : Option (Int32) :=
  kzr t0 (some t0)
def jX11_isGreater_35 (Y : XS) (n : Nat) (S : PS) (t0 : Int32) : Option (Int32) :=
  kzr t0 (some t0)
def fX11_isGreater (Y : XS) (n : Nat) (S : PS) (a0 : Nat) (x1_ : Int32) (x2_ : Int32) (x3_ : Int32) : Option (Int32) :=
  kc (fX11_numberOf Y n S a0 x1_ x3_) (fun q3 => kc (fX11_numberOf Y n S a0 x2_ x3_) (fun q11 => (if q3 = q11 then kc (fX11_costOf Y n S a0 x1_) (fun q38 => kc (fX11_costOf Y n S a0 x2_) (fun q43 => (if q38 = q43 then (if x2_ ≤ x1_ then jX11_isGreater_80 Y n S (0 : Int32) else jX11_isGreater_80 Y n S (1 : Int32)) else kc (fX11_costOf Y n S a0 x1_) (fun q51 => kc (fX11_costOf Y n S a0 x2_) (fun q56 => (if q56 ≤ q51 then jX11_isGreater_80 Y n S (0 : Int32) else jX11_isGreater_80 Y n S (1 : Int32))))))) else (if q3 ≤ q11 then jX11_isGreater_35 Y n S (0 : Int32) else jX11_isGreater_35 Y n S (1 : Int32)))))
theorem wjX11_isGreater_80 {C : CT} {X : XT} (hC : CK C RX11 cX11_isGreater 6 (some .boolean) 3) (n : Nat) (S : PS) (t0 : Int32)   {o : Int32} (hf : jX11_isGreater_80 X.2.1 n S t0 = some o) (hR : Rt C X cX11_isGreater (some .boolean) (some (.int o)) S) : UW C X S 80 [] [.int t0] := by
  unfold jX11_isGreater_80 at hf
  obtain ⟨hz, hf⟩ := kzr_some hf
  cases hf
  exact hR _ _ dX11_isGreater_80 hz
theorem wjX11_isGreater_35 {C : CT} {X : XT} (hC : CK C RX11 cX11_isGreater 6 (some .boolean) 3) (n : Nat) (S : PS) (t0 : Int32)   {o : Int32} (hf : jX11_isGreater_35 X.2.1 n S t0 = some o) (hR : Rt C X cX11_isGreater (some .boolean) (some (.int o)) S) : UW C X S 35 [] [.int t0] := by
  unfold jX11_isGreater_35 at hf
  obtain ⟨hz, hf⟩ := kzr_some hf
  cases hf
  exact hR _ _ dX11_isGreater_35 hz
theorem wX11_isGreater {C : CT} {X : XT} (hC : CK C RX11 cX11_isGreater 6 (some .boolean) 3) (n : Nat) (S : PS) (a0 : Nat) (x1_ : Int32) (x2_ : Int32) (x3_ : Int32) (hTa0 : Ty X.2.1 a0 11) {o : Int32} (hf : fX11_isGreater X.2.1 n S a0 x1_ x2_ x3_ = some o) (hR : Rt C X cX11_isGreater (some .boolean) (some (.int o)) S) : UW C X S 0 [(0, .ref (X.1 a0)), (1, .int x1_), (2, .int x2_), (3, .int x3_)] [] := by
  unfold fX11_isGreater at hf
  refine u_aload_n hC dX11_isGreater_0 0 rfl rfl ?_
  refine u_iload_n hC dX11_isGreater_1 1 rfl rfl ?_
  refine u_iload_n hC dX11_isGreater_2 3 rfl rfl ?_
  obtain ⟨q3, hq3, hf⟩ := kc_some hf
  refine u_callV hC (ctX11_numberOf (cL C) hC.tr (cG C) X.1 X.2.1 n S a0 x1_ x3_ hTa0 hq3) lk_X11_199 rfl hTa0 (by decide) rfl (by decide) (by decide) rfl rfl (Nat.le_of_ble_eq_true rfl) dX11_isGreater_3 ?_
  refine u_istore (lv' := [(4, .int q3), (0, .ref (X.1 a0)), (1, .int x1_), (2, .int x2_), (3, .int x3_)]) hC dX11_isGreater_6 (by decide) rfl ?_
  refine u_aload_n hC dX11_isGreater_8 1 rfl rfl ?_
  refine u_iload_n hC dX11_isGreater_9 3 rfl rfl ?_
  refine u_iload_n hC dX11_isGreater_10 4 rfl rfl ?_
  obtain ⟨q11, hq11, hf⟩ := kc_some hf
  refine u_callV hC (ctX11_numberOf (cL C) hC.tr (cG C) X.1 X.2.1 n S a0 x2_ x3_ hTa0 hq11) lk_X11_199 rfl hTa0 (by decide) rfl (by decide) (by decide) rfl rfl (Nat.le_of_ble_eq_true rfl) dX11_isGreater_11 ?_
  refine u_istore (lv' := [(5, .int q11), (4, .int q3), (0, .ref (X.1 a0)), (1, .int x1_), (2, .int x2_), (3, .int x3_)]) hC dX11_isGreater_14 (by decide) rfl ?_
  refine u_iload hC dX11_isGreater_16 1 rfl ?_
  refine u_iload hC dX11_isGreater_18 0 rfl ?_
  refine u_icmp_eq (tgt := 36) hC dX11_isGreater_20 (by decide) hf (fun h20 hf => ?_) (fun h20 hf => ?_)
  · refine u_aload_n hC dX11_isGreater_36 2 rfl rfl ?_
    refine u_iload_n hC dX11_isGreater_37 3 rfl rfl ?_
    obtain ⟨q38, hq38, hf⟩ := kc_some hf
    refine u_callV hC (ctX11_costOf (cL C) hC.tr (cG C) X.1 X.2.1 n S a0 x1_ hTa0 hq38) lk_X11_134 rfl hTa0 (by decide) rfl (by decide) (by decide) rfl rfl (Nat.le_of_ble_eq_true rfl) dX11_isGreater_38 ?_
    refine u_aload_n hC dX11_isGreater_41 2 rfl rfl ?_
    refine u_iload_n hC dX11_isGreater_42 4 rfl rfl ?_
    obtain ⟨q43, hq43, hf⟩ := kc_some hf
    refine u_callV hC (ctX11_costOf (cL C) hC.tr (cG C) X.1 X.2.1 n S a0 x2_ hTa0 hq43) lk_X11_134 rfl hTa0 (by decide) rfl (by decide) (by decide) rfl rfl (Nat.le_of_ble_eq_true rfl) dX11_isGreater_43 ?_
    refine u_icmp_eq (tgt := 70) hC dX11_isGreater_46 (by decide) hf (fun h46 hf => ?_) (fun h46 hf => ?_)
    · refine u_iload_n hC dX11_isGreater_70 3 rfl rfl ?_
      refine u_iload_n hC dX11_isGreater_71 4 rfl rfl ?_
      refine u_icmp_ge (tgt := 79) hC dX11_isGreater_72 (by decide) hf (fun h72 hf => ?_) (fun h72 hf => ?_)
      · refine u_iconst (v := (0 : Int32)) hC dX11_isGreater_79 (by decide) ?_
        refine u_sub (lv' := []) [] rfl ?_
        exact wjX11_isGreater_80 hC n S (0 : Int32)   hf hR
      · refine u_iconst (v := (1 : Int32)) hC dX11_isGreater_75 (by decide) ?_
        refine u_goto (tgt := 80) hC dX11_isGreater_76 (by decide) ?_
        refine u_sub (lv' := []) [] rfl ?_
        exact wjX11_isGreater_80 hC n S (1 : Int32)   hf hR
    · refine u_aload_n hC dX11_isGreater_49 2 rfl rfl ?_
      refine u_iload_n hC dX11_isGreater_50 3 rfl rfl ?_
      obtain ⟨q51, hq51, hf⟩ := kc_some hf
      refine u_callV hC (ctX11_costOf (cL C) hC.tr (cG C) X.1 X.2.1 n S a0 x1_ hTa0 hq51) lk_X11_134 rfl hTa0 (by decide) rfl (by decide) (by decide) rfl rfl (Nat.le_of_ble_eq_true rfl) dX11_isGreater_51 ?_
      refine u_aload_n hC dX11_isGreater_54 2 rfl rfl ?_
      refine u_iload_n hC dX11_isGreater_55 4 rfl rfl ?_
      obtain ⟨q56, hq56, hf⟩ := kc_some hf
      refine u_callV hC (ctX11_costOf (cL C) hC.tr (cG C) X.1 X.2.1 n S a0 x2_ hTa0 hq56) lk_X11_134 rfl hTa0 (by decide) rfl (by decide) (by decide) rfl rfl (Nat.le_of_ble_eq_true rfl) dX11_isGreater_56 ?_
      refine u_icmp_ge (tgt := 66) hC dX11_isGreater_59 (by decide) hf (fun h59 hf => ?_) (fun h59 hf => ?_)
      · refine u_iconst (v := (0 : Int32)) hC dX11_isGreater_66 (by decide) ?_
        refine u_goto (tgt := 80) hC dX11_isGreater_67 (by decide) ?_
        refine u_sub (lv' := []) [] rfl ?_
        exact wjX11_isGreater_80 hC n S (0 : Int32)   hf hR
      · refine u_iconst (v := (1 : Int32)) hC dX11_isGreater_62 (by decide) ?_
        refine u_goto (tgt := 80) hC dX11_isGreater_63 (by decide) ?_
        refine u_sub (lv' := []) [] rfl ?_
        exact wjX11_isGreater_80 hC n S (1 : Int32)   hf hR
  · refine u_iload hC dX11_isGreater_23 1 rfl ?_
    refine u_iload hC dX11_isGreater_25 0 rfl ?_
    refine u_icmp_le (tgt := 34) hC dX11_isGreater_27 (by decide) hf (fun h27 hf => ?_) (fun h27 hf => ?_)
    · refine u_iconst (v := (0 : Int32)) hC dX11_isGreater_34 (by decide) ?_
      refine u_sub (lv' := []) [] rfl ?_
      exact wjX11_isGreater_35 hC n S (0 : Int32)   hf hR
    · refine u_iconst (v := (1 : Int32)) hC dX11_isGreater_30 (by decide) ?_
      refine u_goto (tgt := 35) hC dX11_isGreater_31 (by decide) ?_
      refine u_sub (lv' := []) [] rfl ?_
      exact wjX11_isGreater_35 hC n S (1 : Int32)   hf hR
theorem ctX11_isGreater (l : Launch) (hl : l.stackTraces = false) (G : GT) (ρ : Nat → Nat) (Y : XS) (n : Nat) (S : PS) (a0 : Nat) (x1_ : Int32) (x2_ : Int32) (x3_ : Int32) (hTa0 : Ty Y a0 11) {o : Int32} (hf : fX11_isGreater Y n S a0 x1_ x2_ x3_ = some o) : Mt l G yX11_isGreater cX11_isGreater 6 (some .boolean) 3 ρ Y [.ref (ρ a0), .int x1_, .int x2_, .int x3_] S (some (.int o)) S :=
  Mt_of hl (by decide) (Nat.le_of_ble_eq_true rfl) (fun C _ _ hC hR => wX11_isGreater (X := (ρ, Y, 0, 0)) hC n S a0 x1_ x2_ x3_ hTa0 hf hR)
-- X11_greatest
theorem dX11_greatest_0 : decode cX11_greatest 0 = .ok (.iconst (-1), 1) := by decide +kernel
theorem dX11_greatest_1 : decode cX11_greatest 1 = .ok (.istore_n 3, 1) := by decide +kernel
theorem dX11_greatest_2 : decode cX11_greatest 2 = .ok (.iconst 0, 1) := by decide +kernel
theorem dX11_greatest_3 : decode cX11_greatest 3 = .ok (.istore 4, 2) := by decide +kernel
theorem dX11_greatest_5 : decode cX11_greatest 5 = .ok (.iload 4, 2) := by decide +kernel
theorem dX11_greatest_7 : decode cX11_greatest 7 = .ok (.aload_n 0, 1) := by decide +kernel
theorem dX11_greatest_8 : decode cX11_greatest 8 = .ok (.invokevirtual 77, 3) := by decide +kernel
theorem dX11_greatest_11 : decode cX11_greatest 11 = .ok (.if_icmp .ge 40, 3) := by decide +kernel
theorem dX11_greatest_14 : decode cX11_greatest 14 = .ok (.iload_n 1, 1) := by decide +kernel
theorem dX11_greatest_15 : decode cX11_greatest 15 = .ok (.iload 4, 2) := by decide +kernel
theorem dX11_greatest_17 : decode cX11_greatest 17 = .ok (.invokestatic 147, 3) := by decide +kernel
theorem dX11_greatest_20 : decode cX11_greatest 20 = .ok (.ifCond .eq 6, 3) := by decide +kernel
theorem dX11_greatest_23 : decode cX11_greatest 23 = .ok (.goto 22, 3) := by decide +kernel
theorem dX11_greatest_26 : decode cX11_greatest 26 = .ok (.iload_n 3, 1) := by decide +kernel
theorem dX11_greatest_27 : decode cX11_greatest 27 = .ok (.iconst (-1), 1) := by decide +kernel
theorem dX11_greatest_28 : decode cX11_greatest 28 = .ok (.if_icmp .eq 14, 3) := by decide +kernel
theorem dX11_greatest_31 : decode cX11_greatest 31 = .ok (.aload_n 0, 1) := by decide +kernel
theorem dX11_greatest_32 : decode cX11_greatest 32 = .ok (.iload 4, 2) := by decide +kernel
theorem dX11_greatest_34 : decode cX11_greatest 34 = .ok (.iload_n 3, 1) := by decide +kernel
theorem dX11_greatest_35 : decode cX11_greatest 35 = .ok (.iload_n 2, 1) := by decide +kernel
theorem dX11_greatest_36 : decode cX11_greatest 36 = .ok (.invokevirtual 206, 3) := by decide +kernel
theorem dX11_greatest_39 : decode cX11_greatest 39 = .ok (.ifCond .eq 6, 3) := by decide +kernel
theorem dX11_greatest_42 : decode cX11_greatest 42 = .ok (.iload 4, 2) := by decide +kernel
theorem dX11_greatest_44 : decode cX11_greatest 44 = .ok (.istore_n 3, 1) := by decide +kernel
theorem dX11_greatest_45 : decode cX11_greatest 45 = .ok (.iinc 4 1, 3) := by decide +kernel
theorem dX11_greatest_48 : decode cX11_greatest 48 = .ok (.goto (-43), 3) := by decide +kernel
theorem dX11_greatest_51 : decode cX11_greatest 51 = .ok (.iload_n 3, 1) := by decide +kernel
theorem dX11_greatest_52 : decode cX11_greatest 52 = .ok (.ireturn, 1) := by decide +kernel
def jX11_greatest_45_5 (Y : XS) (n : Nat) (S : PS) (v0 : Nat) (v1 : Int32) (v2 : Int32) (v3 : Int32) (v4 : Int32) : Option ((Int32 × Int32) ⊕ Int32) :=
  some (.inl (v3, v4 + (1 : Int32)))
def jX11_greatest_42_5 (Y : XS) (n : Nat) (S : PS) (v0 : Nat) (v1 : Int32) (v2 : Int32) (v4 : Int32) : Option ((Int32 × Int32) ⊕ Int32) :=
  jX11_greatest_45_5 Y n S v0 v1 v2 v4 v4
def bX11_greatest_5 (Y : XS) (n : Nat) (S : PS) (v0 : Nat) (v1 : Int32) (v2 : Int32) (s5 : (Int32 × Int32)) : Option ((Int32 × Int32) ⊕ Int32) :=
  kc (fX11_many Y n S v0) (fun q8 => (if q8 ≤ s5.2 then some (.inr s5.1) else kc (fX11_isOf Y n S v1 s5.2) (fun q17 => (if q17 = 0 then (if s5.1 = (-1 : Int32) then jX11_greatest_42_5 Y n S v0 v1 v2 s5.2 else kc (fX11_isGreater Y n S v0 s5.2 s5.1 v2) (fun q36 => (if q36 = 0 then jX11_greatest_45_5 Y n S v0 v1 v2 s5.1 s5.2 else jX11_greatest_42_5 Y n S v0 v1 v2 s5.2))) else jX11_greatest_45_5 Y n S v0 v1 v2 s5.1 s5.2))))
def fX11_greatest (Y : XS) (n : Nat) (S : PS) (a0 : Nat) (x1_ : Int32) (x2_ : Int32) : Option (Int32) :=
  kc (iter (bX11_greatest_5 Y n S a0 x1_ x2_) n ((-1 : Int32), (0 : Int32))) (fun r5 => some r5)
theorem wjX11_greatest_45_5 {C : CT} {X : XT} (hC : CK C RX11 cX11_greatest 5 (some .int) 4) (n : Nat) (S : PS) (v0 : Nat) (v1 : Int32) (v2 : Int32) (v3 : Int32) (v4 : Int32)  (hTv0 : Ty X.2.1 v0 11) {o : (Int32 × Int32) ⊕ Int32} (hf : jX11_greatest_45_5 X.2.1 n S v0 v1 v2 v3 v4 = some o) (hN : ∀ s', o = .inl s' → UW C X S 5 [(0, .ref (X.1 v0)), (1, .int v1), (2, .int v2), (3, .int s'.1), (4, .int s'.2)] []) (hO0 : ∀ p', o = .inr p' → UW C X S 51 [(3, .int p')] []) : UW C X S 45 [(0, .ref (X.1 v0)), (1, .int v1), (2, .int v2), (3, .int v3), (4, .int v4)] [] := by
  unfold jX11_greatest_45_5 at hf
  refine u_iinc (v := v4 + (1 : Int32)) (lv' := [(4, .int (v4 + (1 : Int32))), (0, .ref (X.1 v0)), (1, .int v1), (2, .int v2), (3, .int v3)]) hC dX11_greatest_45 4 rfl rfl (by decide) rfl ?_
  refine u_goto (tgt := 5) hC dX11_greatest_48 (by decide) ?_
  refine u_sub (lv' := [(0, .ref (X.1 v0)), (1, .int v1), (2, .int v2), (3, .int v3), (4, .int (v4 + (1 : Int32)))]) [1, 2, 3, 4, 0] rfl ?_
  exact hN _ (Option.some.inj hf).symm
theorem wjX11_greatest_42_5 {C : CT} {X : XT} (hC : CK C RX11 cX11_greatest 5 (some .int) 4) (n : Nat) (S : PS) (v0 : Nat) (v1 : Int32) (v2 : Int32) (v4 : Int32)  (hTv0 : Ty X.2.1 v0 11) {o : (Int32 × Int32) ⊕ Int32} (hf : jX11_greatest_42_5 X.2.1 n S v0 v1 v2 v4 = some o) (hN : ∀ s', o = .inl s' → UW C X S 5 [(0, .ref (X.1 v0)), (1, .int v1), (2, .int v2), (3, .int s'.1), (4, .int s'.2)] []) (hO0 : ∀ p', o = .inr p' → UW C X S 51 [(3, .int p')] []) : UW C X S 42 [(0, .ref (X.1 v0)), (1, .int v1), (2, .int v2), (4, .int v4)] [] := by
  unfold jX11_greatest_42_5 at hf
  refine u_iload hC dX11_greatest_42 3 rfl ?_
  refine u_istore_n (lv' := [(3, .int v4), (0, .ref (X.1 v0)), (1, .int v1), (2, .int v2), (4, .int v4)]) hC dX11_greatest_44 rfl (by decide) rfl ?_
  refine u_sub (lv' := [(0, .ref (X.1 v0)), (1, .int v1), (2, .int v2), (3, .int v4), (4, .int v4)]) [1, 2, 3, 0, 4] rfl ?_
  exact wjX11_greatest_45_5 hC n S v0 v1 v2 v4 v4  hTv0 hf hN hO0
theorem wbX11_greatest_5 {C : CT} {X : XT} (hC : CK C RX11 cX11_greatest 5 (some .int) 4) (n : Nat) (S : PS) (v0 : Nat) (v1 : Int32) (v2 : Int32) (hTv0 : Ty X.2.1 v0 11) (s5 : (Int32 × Int32)) {o : (Int32 × Int32) ⊕ Int32} (hf : bX11_greatest_5 X.2.1 n S v0 v1 v2 s5 = some o) (hN : ∀ s', o = .inl s' → UW C X S 5 [(0, .ref (X.1 v0)), (1, .int v1), (2, .int v2), (3, .int s'.1), (4, .int s'.2)] []) (hO0 : ∀ p', o = .inr p' → UW C X S 51 [(3, .int p')] []) : UW C X S 5 [(0, .ref (X.1 v0)), (1, .int v1), (2, .int v2), (3, .int s5.1), (4, .int s5.2)] [] := by
  unfold bX11_greatest_5 at hf
  refine u_iload hC dX11_greatest_5 4 rfl ?_
  refine u_aload_n hC dX11_greatest_7 0 rfl rfl ?_
  obtain ⟨q8, hq8, hf⟩ := kc_some hf
  refine u_callV hC (ctX11_many (cL C) hC.tr (cG C) X.1 X.2.1 n S v0 hTv0 hq8) lk_X11_77 rfl hTv0 (by decide) rfl (by decide) (by decide) rfl rfl (Nat.le_of_ble_eq_true rfl) dX11_greatest_8 ?_
  refine u_icmp_ge (tgt := 51) hC dX11_greatest_11 (by decide) hf (fun h11 hf => ?_) (fun h11 hf => ?_)
  · refine u_sub (lv' := [(3, .int s5.1)]) [3] rfl ?_
    exact hO0 _ (Option.some.inj hf).symm
  · refine u_iload_n hC dX11_greatest_14 1 rfl rfl ?_
    refine u_iload hC dX11_greatest_15 4 rfl ?_
    obtain ⟨q17, hq17, hf⟩ := kc_some hf
    refine u_callS hC (ctX11_isOf (cL C) hC.tr (cG C) X.1 X.2.1 n S v1 s5.2  hq17) lk_X11_147 (by decide) (by decide) rfl rfl (Nat.le_of_ble_eq_true rfl) dX11_greatest_17 ?_
    refine u_if_eq (tgt := 26) hC dX11_greatest_20 (by decide) hf (fun h20 hf => ?_) (fun h20 hf => ?_)
    · refine u_iload_n hC dX11_greatest_26 3 rfl rfl ?_
      refine u_iconst (v := (-1 : Int32)) hC dX11_greatest_27 (by decide) ?_
      refine u_icmp_eq (tgt := 42) hC dX11_greatest_28 (by decide) hf (fun h28 hf => ?_) (fun h28 hf => ?_)
      · refine u_sub (lv' := [(0, .ref (X.1 v0)), (1, .int v1), (2, .int v2), (4, .int s5.2)]) [0, 1, 2, 4] rfl ?_
        exact wjX11_greatest_42_5 hC n S v0 v1 v2 s5.2  hTv0 hf hN hO0
      · refine u_aload_n hC dX11_greatest_31 0 rfl rfl ?_
        refine u_iload hC dX11_greatest_32 4 rfl ?_
        refine u_iload_n hC dX11_greatest_34 3 rfl rfl ?_
        refine u_iload_n hC dX11_greatest_35 2 rfl rfl ?_
        obtain ⟨q36, hq36, hf⟩ := kc_some hf
        refine u_callV hC (ctX11_isGreater (cL C) hC.tr (cG C) X.1 X.2.1 n S v0 s5.2 s5.1 v2 hTv0 hq36) lk_X11_206 rfl hTv0 (by decide) rfl (by decide) (by decide) rfl rfl (Nat.le_of_ble_eq_true rfl) dX11_greatest_36 ?_
        refine u_if_eq (tgt := 45) hC dX11_greatest_39 (by decide) hf (fun h39 hf => ?_) (fun h39 hf => ?_)
        · exact wjX11_greatest_45_5 hC n S v0 v1 v2 s5.1 s5.2  hTv0 hf hN hO0
        · refine u_sub (lv' := [(0, .ref (X.1 v0)), (1, .int v1), (2, .int v2), (4, .int s5.2)]) [0, 1, 2, 4] rfl ?_
          exact wjX11_greatest_42_5 hC n S v0 v1 v2 s5.2  hTv0 hf hN hO0
    · refine u_goto (tgt := 45) hC dX11_greatest_23 (by decide) ?_
      exact wjX11_greatest_45_5 hC n S v0 v1 v2 s5.1 s5.2  hTv0 hf hN hO0
theorem wX11_greatest {C : CT} {X : XT} (hC : CK C RX11 cX11_greatest 5 (some .int) 4) (n : Nat) (S : PS) (a0 : Nat) (x1_ : Int32) (x2_ : Int32) (hTa0 : Ty X.2.1 a0 11) {o : Int32} (hf : fX11_greatest X.2.1 n S a0 x1_ x2_ = some o) (hR : Rt C X cX11_greatest (some .int) (some (.int o)) S) : UW C X S 0 [(0, .ref (X.1 a0)), (1, .int x1_), (2, .int x2_)] [] := by
  unfold fX11_greatest at hf
  refine u_iconst (v := (-1 : Int32)) hC dX11_greatest_0 (by decide) ?_
  refine u_istore_n (lv' := [(3, .int (-1 : Int32)), (0, .ref (X.1 a0)), (1, .int x1_), (2, .int x2_)]) hC dX11_greatest_1 rfl (by decide) rfl ?_
  refine u_iconst (v := (0 : Int32)) hC dX11_greatest_2 (by decide) ?_
  refine u_istore (lv' := [(4, .int (0 : Int32)), (3, .int (-1 : Int32)), (0, .ref (X.1 a0)), (1, .int x1_), (2, .int x2_)]) hC dX11_greatest_3 (by decide) rfl ?_
  obtain ⟨r5, hr5, hf⟩ := kc_some hf
  have hk5 : UW C X S 51 [(3, .int r5)] [] := by
    refine u_iload_n hC dX11_greatest_51 0 rfl rfl ?_
    cases hf
    exact hR _ _ dX11_greatest_52 trivial
  refine u_sub (lv' := [(0, .ref (X.1 a0)), (1, .int x1_), (2, .int x2_), (3, .int (-1 : Int32)), (4, .int (0 : Int32))]) [2, 3, 4, 1, 0] rfl ?_
  refine iter_ind (P := fun s5 => UW C X S 5 [(0, .ref (X.1 a0)), (1, .int x1_), (2, .int x2_), (3, .int s5.1), (4, .int s5.2)] []) (fun s5 o' hb hin hout => ?_) n ((-1 : Int32), (0 : Int32)) hr5
  exact wbX11_greatest_5 hC n S a0 x1_ x2_ hTa0 s5 hb hin (fun p e => by rw [hout p e]; exact hk5)
theorem ctX11_greatest (l : Launch) (hl : l.stackTraces = false) (G : GT) (ρ : Nat → Nat) (Y : XS) (n : Nat) (S : PS) (a0 : Nat) (x1_ : Int32) (x2_ : Int32) (hTa0 : Ty Y a0 11) {o : Int32} (hf : fX11_greatest Y n S a0 x1_ x2_ = some o) : Mt l G yX11_greatest cX11_greatest 5 (some .int) 4 ρ Y [.ref (ρ a0), .int x1_, .int x2_] S (some (.int o)) S :=
  Mt_of hl (by decide) (Nat.le_of_ble_eq_true rfl) (fun C _ _ hC hR => wX11_greatest (X := (ρ, Y, 0, 0)) hC n S a0 x1_ x2_ hTa0 hf hR)
-- X11_fills
theorem dX11_fills_0 : decode cX11_fills 0 = .ok (.aload_n 0, 1) := by decide +kernel
theorem dX11_fills_1 : decode cX11_fills 1 = .ok (.getfield 154, 3) := by decide +kernel
theorem dX11_fills_4 : decode cX11_fills 4 = .ok (.istore_n 2, 1) := by decide +kernel
theorem dX11_fills_5 : decode cX11_fills 5 = .ok (.iload_n 2, 1) := by decide +kernel
theorem dX11_fills_6 : decode cX11_fills 6 = .ok (.iconst 1, 1) := by decide +kernel
theorem dX11_fills_7 : decode cX11_fills 7 = .ok (.aload_n 0, 1) := by decide +kernel
theorem dX11_fills_8 : decode cX11_fills 8 = .ok (.invokevirtual 77, 3) := by decide +kernel
theorem dX11_fills_11 : decode cX11_fills 11 = .ok (.ishl, 1) := by decide +kernel
theorem dX11_fills_12 : decode cX11_fills 12 = .ok (.iconst 1, 1) := by decide +kernel
theorem dX11_fills_13 : decode cX11_fills 13 = .ok (.isub, 1) := by decide +kernel
theorem dX11_fills_14 : decode cX11_fills 14 = .ok (.if_icmp .eq 47, 3) := by decide +kernel
theorem dX11_fills_17 : decode cX11_fills 17 = .ok (.aload_n 0, 1) := by decide +kernel
theorem dX11_fills_18 : decode cX11_fills 18 = .ok (.iload_n 2, 1) := by decide +kernel
theorem dX11_fills_19 : decode cX11_fills 19 = .ok (.iload_n 1, 1) := by decide +kernel
theorem dX11_fills_20 : decode cX11_fills 20 = .ok (.invokevirtual 203, 3) := by decide +kernel
theorem dX11_fills_23 : decode cX11_fills 23 = .ok (.istore_n 3, 1) := by decide +kernel
theorem dX11_fills_24 : decode cX11_fills 24 = .ok (.iload_n 2, 1) := by decide +kernel
theorem dX11_fills_25 : decode cX11_fills 25 = .ok (.iconst 1, 1) := by decide +kernel
theorem dX11_fills_26 : decode cX11_fills 26 = .ok (.iload_n 3, 1) := by decide +kernel
theorem dX11_fills_27 : decode cX11_fills 27 = .ok (.ishl, 1) := by decide +kernel
theorem dX11_fills_28 : decode cX11_fills 28 = .ok (.ior, 1) := by decide +kernel
theorem dX11_fills_29 : decode cX11_fills 29 = .ok (.istore_n 2, 1) := by decide +kernel
theorem dX11_fills_30 : decode cX11_fills 30 = .ok (.aload_n 0, 1) := by decide +kernel
theorem dX11_fills_31 : decode cX11_fills 31 = .ok (.aload_n 0, 1) := by decide +kernel
theorem dX11_fills_32 : decode cX11_fills 32 = .ok (.getfield 154, 3) := by decide +kernel
theorem dX11_fills_35 : decode cX11_fills 35 = .ok (.invokevirtual 196, 3) := by decide +kernel
theorem dX11_fills_38 : decode cX11_fills 38 = .ok (.aload_n 0, 1) := by decide +kernel
theorem dX11_fills_39 : decode cX11_fills 39 = .ok (.iload_n 3, 1) := by decide +kernel
theorem dX11_fills_40 : decode cX11_fills 40 = .ok (.invokevirtual 134, 3) := by decide +kernel
theorem dX11_fills_43 : decode cX11_fills 43 = .ok (.iadd, 1) := by decide +kernel
theorem dX11_fills_44 : decode cX11_fills 44 = .ok (.aload_n 0, 1) := by decide +kernel
theorem dX11_fills_45 : decode cX11_fills 45 = .ok (.getfield 9, 3) := by decide +kernel
theorem dX11_fills_48 : decode cX11_fills 48 = .ok (.iconst 0, 1) := by decide +kernel
theorem dX11_fills_49 : decode cX11_fills 49 = .ok (.iaload, 1) := by decide +kernel
theorem dX11_fills_50 : decode cX11_fills 50 = .ok (.if_icmp .gt 8, 3) := by decide +kernel
theorem dX11_fills_53 : decode cX11_fills 53 = .ok (.aload_n 0, 1) := by decide +kernel
theorem dX11_fills_54 : decode cX11_fills 54 = .ok (.iload_n 3, 1) := by decide +kernel
theorem dX11_fills_55 : decode cX11_fills 55 = .ok (.invokevirtual 169, 3) := by decide +kernel
theorem dX11_fills_58 : decode cX11_fills 58 = .ok (.goto (-53), 3) := by decide +kernel
theorem dX11_fills_61 : decode cX11_fills 61 = .ok (.return_, 1) := by decide +kernel
def jX11_fills_58_5 (Y : XS) (n : Nat) (S : PS) (v0 : Nat) (v1 : Int32) (v2 : Int32) : Option ((Int32 × PS) ⊕ PS) :=
  some (.inl (v2, S))
def bX11_fills_5 (Y : XS) (n : Nat) (v0 : Nat) (v1 : Int32) (s5 : (Int32 × PS)) : Option ((Int32 × PS) ⊕ PS) :=
  kc (fX11_many Y n s5.2 v0) (fun q8 => (if s5.1 = (((1 : Int32) <<< (q8 &&& 31)) - (1 : Int32)) then some (.inr s5.2) else kc (fX11_greatest Y n s5.2 v0 s5.1 v1) (fun q20 => kgi s5.2 v0 21 (fun x32 => kc (fX11_costsOf Y n s5.2 v0 x32) (fun q35 => kc (fX11_costOf Y n s5.2 v0 q20) (fun q40 => kgr s5.2 v0 0 (fun b45 => kai Y s5.2 b45 (0 : Int32) (fun x49 => (if x49 < (q35 + q40) then jX11_fills_58_5 Y n s5.2 v0 v1 (s5.1 ||| ((1 : Int32) <<< (q20 &&& 31))) else kc (fX11_choose Y n s5.2 v0 q20) (fun q55 => jX11_fills_58_5 Y n q55 v0 v1 (s5.1 ||| ((1 : Int32) <<< (q20 &&& 31)))))))))))))
def fX11_fills (Y : XS) (n : Nat) (S : PS) (a0 : Nat) (x1_ : Int32) : Option (PS) :=
  kgi S a0 21 (fun x1 => kc (iter (bX11_fills_5 Y n a0 x1_) n (x1, S)) (fun r5 => some r5))
theorem wjX11_fills_58_5 {C : CT} {X : XT} (hC : CK C RX11 cX11_fills 4 none 5) (n : Nat) (S : PS) (v0 : Nat) (v1 : Int32) (v2 : Int32)  (hTv0 : Ty X.2.1 v0 11) {o : (Int32 × PS) ⊕ PS} (hf : jX11_fills_58_5 X.2.1 n S v0 v1 v2 = some o) (hN : ∀ s', o = .inl s' → UW C X s'.2 5 [(0, .ref (X.1 v0)), (1, .int v1), (2, .int s'.1)] []) (hO0 : ∀ p', o = .inr p' → UW C X p' 61 [] []) : UW C X S 58 [(0, .ref (X.1 v0)), (1, .int v1), (2, .int v2)] [] := by
  unfold jX11_fills_58_5 at hf
  refine u_goto (tgt := 5) hC dX11_fills_58 (by decide) ?_
  exact hN _ (Option.some.inj hf).symm
theorem wbX11_fills_5 {C : CT} {X : XT} (hC : CK C RX11 cX11_fills 4 none 5) (n : Nat) (v0 : Nat) (v1 : Int32) (hTv0 : Ty X.2.1 v0 11) (s5 : (Int32 × PS)) {o : (Int32 × PS) ⊕ PS} (hf : bX11_fills_5 X.2.1 n v0 v1 s5 = some o) (hN : ∀ s', o = .inl s' → UW C X s'.2 5 [(0, .ref (X.1 v0)), (1, .int v1), (2, .int s'.1)] []) (hO0 : ∀ p', o = .inr p' → UW C X p' 61 [] []) : UW C X s5.2 5 [(0, .ref (X.1 v0)), (1, .int v1), (2, .int s5.1)] [] := by
  unfold bX11_fills_5 at hf
  refine u_iload_n hC dX11_fills_5 2 rfl rfl ?_
  refine u_iconst (v := (1 : Int32)) hC dX11_fills_6 (by decide) ?_
  refine u_aload_n hC dX11_fills_7 0 rfl rfl ?_
  obtain ⟨q8, hq8, hf⟩ := kc_some hf
  refine u_callV hC (ctX11_many (cL C) hC.tr (cG C) X.1 X.2.1 n s5.2 v0 hTv0 hq8) lk_X11_77 rfl hTv0 (by decide) rfl (by decide) (by decide) rfl rfl (Nat.le_of_ble_eq_true rfl) dX11_fills_8 ?_
  refine u_ishl hC dX11_fills_11 ?_
  refine u_iconst (v := (1 : Int32)) hC dX11_fills_12 (by decide) ?_
  refine u_isub hC dX11_fills_13 ?_
  refine u_icmp_eq (tgt := 61) hC dX11_fills_14 (by decide) hf (fun h14 hf => ?_) (fun h14 hf => ?_)
  · refine u_sub (lv' := []) [] rfl ?_
    exact hO0 _ (Option.some.inj hf).symm
  · refine u_aload_n hC dX11_fills_17 0 rfl rfl ?_
    refine u_iload_n hC dX11_fills_18 2 rfl rfl ?_
    refine u_iload_n hC dX11_fills_19 1 rfl rfl ?_
    obtain ⟨q20, hq20, hf⟩ := kc_some hf
    refine u_callV hC (ctX11_greatest (cL C) hC.tr (cG C) X.1 X.2.1 n s5.2 v0 s5.1 v1 hTv0 hq20) lk_X11_203 rfl hTv0 (by decide) rfl (by decide) (by decide) rfl rfl (Nat.le_of_ble_eq_true rfl) dX11_fills_20 ?_
    refine u_istore_n (lv' := [(3, .int q20), (0, .ref (X.1 v0)), (1, .int v1), (2, .int s5.1)]) hC dX11_fills_23 rfl (by decide) rfl ?_
    refine u_iload_n hC dX11_fills_24 3 rfl rfl ?_
    refine u_iconst (v := (1 : Int32)) hC dX11_fills_25 (by decide) ?_
    refine u_iload_n hC dX11_fills_26 0 rfl rfl ?_
    refine u_ishl hC dX11_fills_27 ?_
    refine u_ior hC dX11_fills_28 ?_
    refine u_istore_n (lv' := [(2, .int (s5.1 ||| ((1 : Int32) <<< (q20 &&& 31)))), (3, .int q20), (0, .ref (X.1 v0)), (1, .int v1)]) hC dX11_fills_29 rfl (by decide) rfl ?_
    refine u_aload_n hC dX11_fills_30 2 rfl rfl ?_
    refine u_aload_n hC dX11_fills_31 2 rfl rfl ?_
    refine u_gi hC lf_X11_154 rfl hTv0 dX11_fills_32 hf (fun x32 hf => ?_)
    obtain ⟨q35, hq35, hf⟩ := kc_some hf
    refine u_callV hC (ctX11_costsOf (cL C) hC.tr (cG C) X.1 X.2.1 n s5.2 v0 x32 hTv0 hq35) lk_X11_196 rfl hTv0 (by decide) rfl (by decide) (by decide) rfl rfl (Nat.le_of_ble_eq_true rfl) dX11_fills_35 ?_
    refine u_aload_n hC dX11_fills_38 2 rfl rfl ?_
    refine u_iload_n hC dX11_fills_39 1 rfl rfl ?_
    obtain ⟨q40, hq40, hf⟩ := kc_some hf
    refine u_callV hC (ctX11_costOf (cL C) hC.tr (cG C) X.1 X.2.1 n s5.2 v0 q20 hTv0 hq40) lk_X11_134 rfl hTv0 (by decide) rfl (by decide) (by decide) rfl rfl (Nat.le_of_ble_eq_true rfl) dX11_fills_40 ?_
    refine u_iadd hC dX11_fills_43 ?_
    refine u_aload_n hC dX11_fills_44 2 rfl rfl ?_
    refine u_gr hC lf_X11_9 rfl hTv0 dX11_fills_45 hf (fun b45 hTb45 hf => ?_)
    refine u_iconst (v := (0 : Int32)) hC dX11_fills_48 (by decide) ?_
    refine u_ai hC hTb45 dX11_fills_49 hf (fun x49 hf => ?_)
    refine u_icmp_gt (tgt := 58) hC dX11_fills_50 (by decide) hf (fun h50 hf => ?_) (fun h50 hf => ?_)
    · refine u_sub (lv' := [(0, .ref (X.1 v0)), (1, .int v1), (2, .int (s5.1 ||| ((1 : Int32) <<< (q20 &&& 31))))]) [2, 3, 0] rfl ?_
      exact wjX11_fills_58_5 hC n s5.2 v0 v1 (s5.1 ||| ((1 : Int32) <<< (q20 &&& 31)))  hTv0 hf hN hO0
    · refine u_aload_n hC dX11_fills_53 2 rfl rfl ?_
      refine u_iload_n hC dX11_fills_54 1 rfl rfl ?_
      obtain ⟨q55, hq55, hf⟩ := kc_some hf
      refine u_callV hC (ctX11_choose (cL C) hC.tr (cG C) X.1 X.2.1 n s5.2 v0 q20 hTv0 hq55) lk_X11_169 rfl hTv0 (by decide) rfl (by decide) (by decide) rfl rfl (Nat.le_of_ble_eq_true rfl) dX11_fills_55 ?_
      refine u_sub (lv' := [(0, .ref (X.1 v0)), (1, .int v1), (2, .int (s5.1 ||| ((1 : Int32) <<< (q20 &&& 31))))]) [2, 3, 0] rfl ?_
      exact wjX11_fills_58_5 hC n q55 v0 v1 (s5.1 ||| ((1 : Int32) <<< (q20 &&& 31)))  hTv0 hf hN hO0
theorem wX11_fills {C : CT} {X : XT} (hC : CK C RX11 cX11_fills 4 none 5) (n : Nat) (S : PS) (a0 : Nat) (x1_ : Int32) (hTa0 : Ty X.2.1 a0 11) {o : PS} (hf : fX11_fills X.2.1 n S a0 x1_ = some o) (hR : Rt C X cX11_fills none none o) : UW C X S 0 [(0, .ref (X.1 a0)), (1, .int x1_)] [] := by
  unfold fX11_fills at hf
  refine u_aload_n hC dX11_fills_0 0 rfl rfl ?_
  refine u_gi hC lf_X11_154 rfl hTa0 dX11_fills_1 hf (fun x1 hf => ?_)
  refine u_istore_n (lv' := [(2, .int x1), (0, .ref (X.1 a0)), (1, .int x1_)]) hC dX11_fills_4 rfl (by decide) rfl ?_
  obtain ⟨r5, hr5, hf⟩ := kc_some hf
  have hk5 : UW C X r5 61 [] [] := by
    cases hf
    exact hR _ _ dX11_fills_61 trivial
  refine u_sub (lv' := [(0, .ref (X.1 a0)), (1, .int x1_), (2, .int x1)]) [1, 2, 0] rfl ?_
  refine iter_ind (P := fun s5 => UW C X s5.2 5 [(0, .ref (X.1 a0)), (1, .int x1_), (2, .int s5.1)] []) (fun s5 o' hb hin hout => ?_) n (x1, S) hr5
  exact wbX11_fills_5 hC n a0 x1_ hTa0 s5 hb hin (fun p e => by rw [hout p e]; exact hk5)
theorem ctX11_fills (l : Launch) (hl : l.stackTraces = false) (G : GT) (ρ : Nat → Nat) (Y : XS) (n : Nat) (S : PS) (a0 : Nat) (x1_ : Int32) (hTa0 : Ty Y a0 11) {o : PS} (hf : fX11_fills Y n S a0 x1_ = some o) : Mt l G yX11_fills cX11_fills 4 none 5 ρ Y [.ref (ρ a0), .int x1_] S none o :=
  Mt_of hl (by decide) (Nat.le_of_ble_eq_true rfl) (fun C _ _ hC hR => wX11_fills (X := (ρ, Y, 0, 0)) hC n S a0 x1_ hTa0 hf hR)
-- X11_isMore
theorem dX11_isMore_0 : decode cX11_isMore 0 = .ok (.aload_n 0, 1) := by decide +kernel
theorem dX11_isMore_1 : decode cX11_isMore 1 = .ok (.iload_n 1, 1) := by decide +kernel
theorem dX11_isMore_2 : decode cX11_isMore 2 = .ok (.invokevirtual 210, 3) := by decide +kernel
theorem dX11_isMore_5 : decode cX11_isMore 5 = .ok (.istore_n 3, 1) := by decide +kernel
theorem dX11_isMore_6 : decode cX11_isMore 6 = .ok (.aload_n 0, 1) := by decide +kernel
theorem dX11_isMore_7 : decode cX11_isMore 7 = .ok (.iload_n 2, 1) := by decide +kernel
theorem dX11_isMore_8 : decode cX11_isMore 8 = .ok (.invokevirtual 210, 3) := by decide +kernel
theorem dX11_isMore_11 : decode cX11_isMore 11 = .ok (.istore 4, 2) := by decide +kernel
theorem dX11_isMore_13 : decode cX11_isMore 13 = .ok (.iload_n 3, 1) := by decide +kernel
theorem dX11_isMore_14 : decode cX11_isMore 14 = .ok (.iload 4, 2) := by decide +kernel
theorem dX11_isMore_16 : decode cX11_isMore 16 = .ok (.if_icmp .eq 15, 3) := by decide +kernel
theorem dX11_isMore_19 : decode cX11_isMore 19 = .ok (.iload_n 3, 1) := by decide +kernel
theorem dX11_isMore_20 : decode cX11_isMore 20 = .ok (.iload 4, 2) := by decide +kernel
theorem dX11_isMore_22 : decode cX11_isMore 22 = .ok (.if_icmp .le 7, 3) := by decide +kernel
theorem dX11_isMore_25 : decode cX11_isMore 25 = .ok (.iconst 1, 1) := by decide +kernel
theorem dX11_isMore_26 : decode cX11_isMore 26 = .ok (.goto 4, 3) := by decide +kernel
theorem dX11_isMore_29 : decode cX11_isMore 29 = .ok (.iconst 0, 1) := by decide +kernel
theorem dX11_isMore_30 : decode cX11_isMore 30 = .ok (.ireturn, 1) := by decide +kernel
theorem dX11_isMore_31 : decode cX11_isMore 31 = .ok (.aload_n 0, 1) := by decide +kernel
theorem dX11_isMore_32 : decode cX11_isMore 32 = .ok (.iload_n 1, 1) := by decide +kernel
theorem dX11_isMore_33 : decode cX11_isMore 33 = .ok (.invokevirtual 196, 3) := by decide +kernel
theorem dX11_isMore_36 : decode cX11_isMore 36 = .ok (.aload_n 0, 1) := by decide +kernel
theorem dX11_isMore_37 : decode cX11_isMore 37 = .ok (.iload_n 2, 1) := by decide +kernel
theorem dX11_isMore_38 : decode cX11_isMore 38 = .ok (.invokevirtual 196, 3) := by decide +kernel
theorem dX11_isMore_41 : decode cX11_isMore 41 = .ok (.if_icmp .ge 7, 3) := by decide +kernel
theorem dX11_isMore_44 : decode cX11_isMore 44 = .ok (.iconst 1, 1) := by decide +kernel
theorem dX11_isMore_45 : decode cX11_isMore 45 = .ok (.goto 4, 3) := by decide +kernel
theorem dX11_isMore_48 : decode cX11_isMore 48 = .ok (.iconst 0, 1) := by decide +kernel
theorem dX11_isMore_49 : decode cX11_isMore 49 = .ok (.ireturn, 1) := by decide +kernel
def jX11_isMore_49 (Y : XS) (n : Nat) (S : PS) (t0 : Int32) : Option (Int32) :=
  kzr t0 (some t0)
def jX11_isMore_30 (Y : XS) (n : Nat) (S : PS) (t0 : Int32) : Option (Int32) :=
  kzr t0 (some t0)
def fX11_isMore (Y : XS) (n : Nat) (S : PS) (a0 : Nat) (x1_ : Int32) (x2_ : Int32) : Option (Int32) :=
  kc (fX11_worthToAll Y n S a0 x1_) (fun q2 => kc (fX11_worthToAll Y n S a0 x2_) (fun q8 => (if q2 = q8 then kc (fX11_costsOf Y n S a0 x1_) (fun q33 => kc (fX11_costsOf Y n S a0 x2_) (fun q38 => (if q38 ≤ q33 then jX11_isMore_49 Y n S (0 : Int32) else jX11_isMore_49 Y n S (1 : Int32)))) else (if q2 ≤ q8 then jX11_isMore_30 Y n S (0 : Int32) else jX11_isMore_30 Y n S (1 : Int32)))))
theorem wjX11_isMore_49 {C : CT} {X : XT} (hC : CK C RX11 cX11_isMore 5 (some .boolean) 3) (n : Nat) (S : PS) (t0 : Int32)   {o : Int32} (hf : jX11_isMore_49 X.2.1 n S t0 = some o) (hR : Rt C X cX11_isMore (some .boolean) (some (.int o)) S) : UW C X S 49 [] [.int t0] := by
  unfold jX11_isMore_49 at hf
  obtain ⟨hz, hf⟩ := kzr_some hf
  cases hf
  exact hR _ _ dX11_isMore_49 hz
theorem wjX11_isMore_30 {C : CT} {X : XT} (hC : CK C RX11 cX11_isMore 5 (some .boolean) 3) (n : Nat) (S : PS) (t0 : Int32)   {o : Int32} (hf : jX11_isMore_30 X.2.1 n S t0 = some o) (hR : Rt C X cX11_isMore (some .boolean) (some (.int o)) S) : UW C X S 30 [] [.int t0] := by
  unfold jX11_isMore_30 at hf
  obtain ⟨hz, hf⟩ := kzr_some hf
  cases hf
  exact hR _ _ dX11_isMore_30 hz
theorem wX11_isMore {C : CT} {X : XT} (hC : CK C RX11 cX11_isMore 5 (some .boolean) 3) (n : Nat) (S : PS) (a0 : Nat) (x1_ : Int32) (x2_ : Int32) (hTa0 : Ty X.2.1 a0 11) {o : Int32} (hf : fX11_isMore X.2.1 n S a0 x1_ x2_ = some o) (hR : Rt C X cX11_isMore (some .boolean) (some (.int o)) S) : UW C X S 0 [(0, .ref (X.1 a0)), (1, .int x1_), (2, .int x2_)] [] := by
  unfold fX11_isMore at hf
  refine u_aload_n hC dX11_isMore_0 0 rfl rfl ?_
  refine u_iload_n hC dX11_isMore_1 1 rfl rfl ?_
  obtain ⟨q2, hq2, hf⟩ := kc_some hf
  refine u_callV hC (ctX11_worthToAll (cL C) hC.tr (cG C) X.1 X.2.1 n S a0 x1_ hTa0 hq2) lk_X11_210 rfl hTa0 (by decide) rfl (by decide) (by decide) rfl rfl (Nat.le_of_ble_eq_true rfl) dX11_isMore_2 ?_
  refine u_istore_n (lv' := [(3, .int q2), (0, .ref (X.1 a0)), (1, .int x1_), (2, .int x2_)]) hC dX11_isMore_5 rfl (by decide) rfl ?_
  refine u_aload_n hC dX11_isMore_6 1 rfl rfl ?_
  refine u_iload_n hC dX11_isMore_7 3 rfl rfl ?_
  obtain ⟨q8, hq8, hf⟩ := kc_some hf
  refine u_callV hC (ctX11_worthToAll (cL C) hC.tr (cG C) X.1 X.2.1 n S a0 x2_ hTa0 hq8) lk_X11_210 rfl hTa0 (by decide) rfl (by decide) (by decide) rfl rfl (Nat.le_of_ble_eq_true rfl) dX11_isMore_8 ?_
  refine u_istore (lv' := [(4, .int q8), (3, .int q2), (0, .ref (X.1 a0)), (1, .int x1_), (2, .int x2_)]) hC dX11_isMore_11 (by decide) rfl ?_
  refine u_iload_n hC dX11_isMore_13 1 rfl rfl ?_
  refine u_iload hC dX11_isMore_14 0 rfl ?_
  refine u_icmp_eq (tgt := 31) hC dX11_isMore_16 (by decide) hf (fun h16 hf => ?_) (fun h16 hf => ?_)
  · refine u_aload_n hC dX11_isMore_31 2 rfl rfl ?_
    refine u_iload_n hC dX11_isMore_32 3 rfl rfl ?_
    obtain ⟨q33, hq33, hf⟩ := kc_some hf
    refine u_callV hC (ctX11_costsOf (cL C) hC.tr (cG C) X.1 X.2.1 n S a0 x1_ hTa0 hq33) lk_X11_196 rfl hTa0 (by decide) rfl (by decide) (by decide) rfl rfl (Nat.le_of_ble_eq_true rfl) dX11_isMore_33 ?_
    refine u_aload_n hC dX11_isMore_36 2 rfl rfl ?_
    refine u_iload_n hC dX11_isMore_37 4 rfl rfl ?_
    obtain ⟨q38, hq38, hf⟩ := kc_some hf
    refine u_callV hC (ctX11_costsOf (cL C) hC.tr (cG C) X.1 X.2.1 n S a0 x2_ hTa0 hq38) lk_X11_196 rfl hTa0 (by decide) rfl (by decide) (by decide) rfl rfl (Nat.le_of_ble_eq_true rfl) dX11_isMore_38 ?_
    refine u_icmp_ge (tgt := 48) hC dX11_isMore_41 (by decide) hf (fun h41 hf => ?_) (fun h41 hf => ?_)
    · refine u_iconst (v := (0 : Int32)) hC dX11_isMore_48 (by decide) ?_
      refine u_sub (lv' := []) [] rfl ?_
      exact wjX11_isMore_49 hC n S (0 : Int32)   hf hR
    · refine u_iconst (v := (1 : Int32)) hC dX11_isMore_44 (by decide) ?_
      refine u_goto (tgt := 49) hC dX11_isMore_45 (by decide) ?_
      refine u_sub (lv' := []) [] rfl ?_
      exact wjX11_isMore_49 hC n S (1 : Int32)   hf hR
  · refine u_iload_n hC dX11_isMore_19 1 rfl rfl ?_
    refine u_iload hC dX11_isMore_20 0 rfl ?_
    refine u_icmp_le (tgt := 29) hC dX11_isMore_22 (by decide) hf (fun h22 hf => ?_) (fun h22 hf => ?_)
    · refine u_iconst (v := (0 : Int32)) hC dX11_isMore_29 (by decide) ?_
      refine u_sub (lv' := []) [] rfl ?_
      exact wjX11_isMore_30 hC n S (0 : Int32)   hf hR
    · refine u_iconst (v := (1 : Int32)) hC dX11_isMore_25 (by decide) ?_
      refine u_goto (tgt := 30) hC dX11_isMore_26 (by decide) ?_
      refine u_sub (lv' := []) [] rfl ?_
      exact wjX11_isMore_30 hC n S (1 : Int32)   hf hR
theorem ctX11_isMore (l : Launch) (hl : l.stackTraces = false) (G : GT) (ρ : Nat → Nat) (Y : XS) (n : Nat) (S : PS) (a0 : Nat) (x1_ : Int32) (x2_ : Int32) (hTa0 : Ty Y a0 11) {o : Int32} (hf : fX11_isMore Y n S a0 x1_ x2_ = some o) : Mt l G yX11_isMore cX11_isMore 5 (some .boolean) 3 ρ Y [.ref (ρ a0), .int x1_, .int x2_] S (some (.int o)) S :=
  Mt_of hl (by decide) (Nat.le_of_ble_eq_true rfl) (fun C _ _ hC hR => wX11_isMore (X := (ρ, Y, 0, 0)) hC n S a0 x1_ x2_ hTa0 hf hR)
-- X11_mostWorth
theorem dX11_mostWorth_0 : decode cX11_mostWorth 0 = .ok (.iconst 0, 1) := by decide +kernel
theorem dX11_mostWorth_1 : decode cX11_mostWorth 1 = .ok (.istore_n 1, 1) := by decide +kernel
theorem dX11_mostWorth_2 : decode cX11_mostWorth 2 = .ok (.iconst 1, 1) := by decide +kernel
theorem dX11_mostWorth_3 : decode cX11_mostWorth 3 = .ok (.istore_n 2, 1) := by decide +kernel
theorem dX11_mostWorth_4 : decode cX11_mostWorth 4 = .ok (.iload_n 2, 1) := by decide +kernel
theorem dX11_mostWorth_5 : decode cX11_mostWorth 5 = .ok (.iconst 1, 1) := by decide +kernel
theorem dX11_mostWorth_6 : decode cX11_mostWorth 6 = .ok (.aload_n 0, 1) := by decide +kernel
theorem dX11_mostWorth_7 : decode cX11_mostWorth 7 = .ok (.invokevirtual 77, 3) := by decide +kernel
theorem dX11_mostWorth_10 : decode cX11_mostWorth 10 = .ok (.ishl, 1) := by decide +kernel
theorem dX11_mostWorth_11 : decode cX11_mostWorth 11 = .ok (.if_icmp .ge 37, 3) := by decide +kernel
theorem dX11_mostWorth_14 : decode cX11_mostWorth 14 = .ok (.aload_n 0, 1) := by decide +kernel
theorem dX11_mostWorth_15 : decode cX11_mostWorth 15 = .ok (.iload_n 2, 1) := by decide +kernel
theorem dX11_mostWorth_16 : decode cX11_mostWorth 16 = .ok (.invokevirtual 196, 3) := by decide +kernel
theorem dX11_mostWorth_19 : decode cX11_mostWorth 19 = .ok (.aload_n 0, 1) := by decide +kernel
theorem dX11_mostWorth_20 : decode cX11_mostWorth 20 = .ok (.getfield 9, 3) := by decide +kernel
theorem dX11_mostWorth_23 : decode cX11_mostWorth 23 = .ok (.iconst 0, 1) := by decide +kernel
theorem dX11_mostWorth_24 : decode cX11_mostWorth 24 = .ok (.iaload, 1) := by decide +kernel
theorem dX11_mostWorth_25 : decode cX11_mostWorth 25 = .ok (.if_icmp .le 6, 3) := by decide +kernel
theorem dX11_mostWorth_28 : decode cX11_mostWorth 28 = .ok (.goto 14, 3) := by decide +kernel
theorem dX11_mostWorth_31 : decode cX11_mostWorth 31 = .ok (.aload_n 0, 1) := by decide +kernel
theorem dX11_mostWorth_32 : decode cX11_mostWorth 32 = .ok (.iload_n 2, 1) := by decide +kernel
theorem dX11_mostWorth_33 : decode cX11_mostWorth 33 = .ok (.iload_n 1, 1) := by decide +kernel
theorem dX11_mostWorth_34 : decode cX11_mostWorth 34 = .ok (.invokevirtual 213, 3) := by decide +kernel
theorem dX11_mostWorth_37 : decode cX11_mostWorth 37 = .ok (.ifCond .eq 5, 3) := by decide +kernel
theorem dX11_mostWorth_40 : decode cX11_mostWorth 40 = .ok (.iload_n 2, 1) := by decide +kernel
theorem dX11_mostWorth_41 : decode cX11_mostWorth 41 = .ok (.istore_n 1, 1) := by decide +kernel
theorem dX11_mostWorth_42 : decode cX11_mostWorth 42 = .ok (.iinc 2 1, 3) := by decide +kernel
theorem dX11_mostWorth_45 : decode cX11_mostWorth 45 = .ok (.goto (-41), 3) := by decide +kernel
theorem dX11_mostWorth_48 : decode cX11_mostWorth 48 = .ok (.iload_n 1, 1) := by decide +kernel
theorem dX11_mostWorth_49 : decode cX11_mostWorth 49 = .ok (.ireturn, 1) := by decide +kernel
def jX11_mostWorth_42_4 (Y : XS) (n : Nat) (S : PS) (v0 : Nat) (v1 : Int32) (v2 : Int32) : Option ((Int32 × Int32) ⊕ Int32) :=
  some (.inl (v1, v2 + (1 : Int32)))
def bX11_mostWorth_4 (Y : XS) (n : Nat) (S : PS) (v0 : Nat) (s4 : (Int32 × Int32)) : Option ((Int32 × Int32) ⊕ Int32) :=
  kc (fX11_many Y n S v0) (fun q7 => (if ((1 : Int32) <<< (q7 &&& 31)) ≤ s4.2 then some (.inr s4.1) else kc (fX11_costsOf Y n S v0 s4.2) (fun q16 => kgr S v0 0 (fun b20 => kai Y S b20 (0 : Int32) (fun x24 => (if q16 ≤ x24 then kc (fX11_isMore Y n S v0 s4.2 s4.1) (fun q34 => (if q34 = 0 then jX11_mostWorth_42_4 Y n S v0 s4.1 s4.2 else jX11_mostWorth_42_4 Y n S v0 s4.2 s4.2)) else jX11_mostWorth_42_4 Y n S v0 s4.1 s4.2))))))
def fX11_mostWorth (Y : XS) (n : Nat) (S : PS) (a0 : Nat) : Option (Int32) :=
  kc (iter (bX11_mostWorth_4 Y n S a0) n ((0 : Int32), (1 : Int32))) (fun r4 => some r4)
theorem wjX11_mostWorth_42_4 {C : CT} {X : XT} (hC : CK C RX11 cX11_mostWorth 3 (some .int) 4) (n : Nat) (S : PS) (v0 : Nat) (v1 : Int32) (v2 : Int32)  (hTv0 : Ty X.2.1 v0 11) {o : (Int32 × Int32) ⊕ Int32} (hf : jX11_mostWorth_42_4 X.2.1 n S v0 v1 v2 = some o) (hN : ∀ s', o = .inl s' → UW C X S 4 [(0, .ref (X.1 v0)), (1, .int s'.1), (2, .int s'.2)] []) (hO0 : ∀ p', o = .inr p' → UW C X S 48 [(1, .int p')] []) : UW C X S 42 [(0, .ref (X.1 v0)), (1, .int v1), (2, .int v2)] [] := by
  unfold jX11_mostWorth_42_4 at hf
  refine u_iinc (v := v2 + (1 : Int32)) (lv' := [(2, .int (v2 + (1 : Int32))), (0, .ref (X.1 v0)), (1, .int v1)]) hC dX11_mostWorth_42 2 rfl rfl (by decide) rfl ?_
  refine u_goto (tgt := 4) hC dX11_mostWorth_45 (by decide) ?_
  refine u_sub (lv' := [(0, .ref (X.1 v0)), (1, .int v1), (2, .int (v2 + (1 : Int32)))]) [1, 2, 0] rfl ?_
  exact hN _ (Option.some.inj hf).symm
theorem wbX11_mostWorth_4 {C : CT} {X : XT} (hC : CK C RX11 cX11_mostWorth 3 (some .int) 4) (n : Nat) (S : PS) (v0 : Nat) (hTv0 : Ty X.2.1 v0 11) (s4 : (Int32 × Int32)) {o : (Int32 × Int32) ⊕ Int32} (hf : bX11_mostWorth_4 X.2.1 n S v0 s4 = some o) (hN : ∀ s', o = .inl s' → UW C X S 4 [(0, .ref (X.1 v0)), (1, .int s'.1), (2, .int s'.2)] []) (hO0 : ∀ p', o = .inr p' → UW C X S 48 [(1, .int p')] []) : UW C X S 4 [(0, .ref (X.1 v0)), (1, .int s4.1), (2, .int s4.2)] [] := by
  unfold bX11_mostWorth_4 at hf
  refine u_iload_n hC dX11_mostWorth_4 2 rfl rfl ?_
  refine u_iconst (v := (1 : Int32)) hC dX11_mostWorth_5 (by decide) ?_
  refine u_aload_n hC dX11_mostWorth_6 0 rfl rfl ?_
  obtain ⟨q7, hq7, hf⟩ := kc_some hf
  refine u_callV hC (ctX11_many (cL C) hC.tr (cG C) X.1 X.2.1 n S v0 hTv0 hq7) lk_X11_77 rfl hTv0 (by decide) rfl (by decide) (by decide) rfl rfl (Nat.le_of_ble_eq_true rfl) dX11_mostWorth_7 ?_
  refine u_ishl hC dX11_mostWorth_10 ?_
  refine u_icmp_ge (tgt := 48) hC dX11_mostWorth_11 (by decide) hf (fun h11 hf => ?_) (fun h11 hf => ?_)
  · refine u_sub (lv' := [(1, .int s4.1)]) [1] rfl ?_
    exact hO0 _ (Option.some.inj hf).symm
  · refine u_aload_n hC dX11_mostWorth_14 0 rfl rfl ?_
    refine u_iload_n hC dX11_mostWorth_15 2 rfl rfl ?_
    obtain ⟨q16, hq16, hf⟩ := kc_some hf
    refine u_callV hC (ctX11_costsOf (cL C) hC.tr (cG C) X.1 X.2.1 n S v0 s4.2 hTv0 hq16) lk_X11_196 rfl hTv0 (by decide) rfl (by decide) (by decide) rfl rfl (Nat.le_of_ble_eq_true rfl) dX11_mostWorth_16 ?_
    refine u_aload_n hC dX11_mostWorth_19 0 rfl rfl ?_
    refine u_gr hC lf_X11_9 rfl hTv0 dX11_mostWorth_20 hf (fun b20 hTb20 hf => ?_)
    refine u_iconst (v := (0 : Int32)) hC dX11_mostWorth_23 (by decide) ?_
    refine u_ai hC hTb20 dX11_mostWorth_24 hf (fun x24 hf => ?_)
    refine u_icmp_le (tgt := 31) hC dX11_mostWorth_25 (by decide) hf (fun h25 hf => ?_) (fun h25 hf => ?_)
    · refine u_aload_n hC dX11_mostWorth_31 0 rfl rfl ?_
      refine u_iload_n hC dX11_mostWorth_32 2 rfl rfl ?_
      refine u_iload_n hC dX11_mostWorth_33 1 rfl rfl ?_
      obtain ⟨q34, hq34, hf⟩ := kc_some hf
      refine u_callV hC (ctX11_isMore (cL C) hC.tr (cG C) X.1 X.2.1 n S v0 s4.2 s4.1 hTv0 hq34) lk_X11_213 rfl hTv0 (by decide) rfl (by decide) (by decide) rfl rfl (Nat.le_of_ble_eq_true rfl) dX11_mostWorth_34 ?_
      refine u_if_eq (tgt := 42) hC dX11_mostWorth_37 (by decide) hf (fun h37 hf => ?_) (fun h37 hf => ?_)
      · exact wjX11_mostWorth_42_4 hC n S v0 s4.1 s4.2  hTv0 hf hN hO0
      · refine u_iload_n hC dX11_mostWorth_40 2 rfl rfl ?_
        refine u_istore_n (lv' := [(1, .int s4.2), (0, .ref (X.1 v0)), (2, .int s4.2)]) hC dX11_mostWorth_41 rfl (by decide) rfl ?_
        refine u_sub (lv' := [(0, .ref (X.1 v0)), (1, .int s4.2), (2, .int s4.2)]) [1, 0, 2] rfl ?_
        exact wjX11_mostWorth_42_4 hC n S v0 s4.2 s4.2  hTv0 hf hN hO0
    · refine u_goto (tgt := 42) hC dX11_mostWorth_28 (by decide) ?_
      exact wjX11_mostWorth_42_4 hC n S v0 s4.1 s4.2  hTv0 hf hN hO0
theorem wX11_mostWorth {C : CT} {X : XT} (hC : CK C RX11 cX11_mostWorth 3 (some .int) 4) (n : Nat) (S : PS) (a0 : Nat) (hTa0 : Ty X.2.1 a0 11) {o : Int32} (hf : fX11_mostWorth X.2.1 n S a0 = some o) (hR : Rt C X cX11_mostWorth (some .int) (some (.int o)) S) : UW C X S 0 [(0, .ref (X.1 a0))] [] := by
  unfold fX11_mostWorth at hf
  refine u_iconst (v := (0 : Int32)) hC dX11_mostWorth_0 (by decide) ?_
  refine u_istore_n (lv' := [(1, .int (0 : Int32)), (0, .ref (X.1 a0))]) hC dX11_mostWorth_1 rfl (by decide) rfl ?_
  refine u_iconst (v := (1 : Int32)) hC dX11_mostWorth_2 (by decide) ?_
  refine u_istore_n (lv' := [(2, .int (1 : Int32)), (1, .int (0 : Int32)), (0, .ref (X.1 a0))]) hC dX11_mostWorth_3 rfl (by decide) rfl ?_
  obtain ⟨r4, hr4, hf⟩ := kc_some hf
  have hk4 : UW C X S 48 [(1, .int r4)] [] := by
    refine u_iload_n hC dX11_mostWorth_48 0 rfl rfl ?_
    cases hf
    exact hR _ _ dX11_mostWorth_49 trivial
  refine u_sub (lv' := [(0, .ref (X.1 a0)), (1, .int (0 : Int32)), (2, .int (1 : Int32))]) [2, 1, 0] rfl ?_
  refine iter_ind (P := fun s4 => UW C X S 4 [(0, .ref (X.1 a0)), (1, .int s4.1), (2, .int s4.2)] []) (fun s4 o' hb hin hout => ?_) n ((0 : Int32), (1 : Int32)) hr4
  exact wbX11_mostWorth_4 hC n S a0 hTa0 s4 hb hin (fun p e => by rw [hout p e]; exact hk4)
theorem ctX11_mostWorth (l : Launch) (hl : l.stackTraces = false) (G : GT) (ρ : Nat → Nat) (Y : XS) (n : Nat) (S : PS) (a0 : Nat) (hTa0 : Ty Y a0 11) {o : Int32} (hf : fX11_mostWorth Y n S a0 = some o) : Mt l G yX11_mostWorth cX11_mostWorth 3 (some .int) 4 ρ Y [.ref (ρ a0)] S (some (.int o)) S :=
  Mt_of hl (by decide) (Nat.le_of_ble_eq_true rfl) (fun C _ _ hC hR => wX11_mostWorth (X := (ρ, Y, 0, 0)) hC n S a0 hTa0 hf hR)
-- X11_worstFirst
theorem dX11_worstFirst_0 : decode cX11_worstFirst 0 = .ok (.iconst 0, 1) := by decide +kernel
theorem dX11_worstFirst_1 : decode cX11_worstFirst 1 = .ok (.istore_n 1, 1) := by decide +kernel
theorem dX11_worstFirst_2 : decode cX11_worstFirst 2 = .ok (.aload_n 0, 1) := by decide +kernel
theorem dX11_worstFirst_3 : decode cX11_worstFirst 3 = .ok (.iconst 0, 1) := by decide +kernel
theorem dX11_worstFirst_4 : decode cX11_worstFirst 4 = .ok (.invokevirtual 216, 3) := by decide +kernel
theorem dX11_worstFirst_7 : decode cX11_worstFirst 7 = .ok (.istore_n 2, 1) := by decide +kernel
theorem dX11_worstFirst_8 : decode cX11_worstFirst 8 = .ok (.iconst 1, 1) := by decide +kernel
theorem dX11_worstFirst_9 : decode cX11_worstFirst 9 = .ok (.istore_n 3, 1) := by decide +kernel
theorem dX11_worstFirst_10 : decode cX11_worstFirst 10 = .ok (.iload_n 3, 1) := by decide +kernel
theorem dX11_worstFirst_11 : decode cX11_worstFirst 11 = .ok (.iconst 1, 1) := by decide +kernel
theorem dX11_worstFirst_12 : decode cX11_worstFirst 12 = .ok (.aload_n 0, 1) := by decide +kernel
theorem dX11_worstFirst_13 : decode cX11_worstFirst 13 = .ok (.invokevirtual 77, 3) := by decide +kernel
theorem dX11_worstFirst_16 : decode cX11_worstFirst 16 = .ok (.ishl, 1) := by decide +kernel
theorem dX11_worstFirst_17 : decode cX11_worstFirst 17 = .ok (.if_icmp .ge 62, 3) := by decide +kernel
theorem dX11_worstFirst_20 : decode cX11_worstFirst 20 = .ok (.aload_n 0, 1) := by decide +kernel
theorem dX11_worstFirst_21 : decode cX11_worstFirst 21 = .ok (.iload_n 3, 1) := by decide +kernel
theorem dX11_worstFirst_22 : decode cX11_worstFirst 22 = .ok (.invokevirtual 196, 3) := by decide +kernel
theorem dX11_worstFirst_25 : decode cX11_worstFirst 25 = .ok (.aload_n 0, 1) := by decide +kernel
theorem dX11_worstFirst_26 : decode cX11_worstFirst 26 = .ok (.getfield 9, 3) := by decide +kernel
theorem dX11_worstFirst_29 : decode cX11_worstFirst 29 = .ok (.iconst 0, 1) := by decide +kernel
theorem dX11_worstFirst_30 : decode cX11_worstFirst 30 = .ok (.iaload, 1) := by decide +kernel
theorem dX11_worstFirst_31 : decode cX11_worstFirst 31 = .ok (.if_icmp .le 6, 3) := by decide +kernel
theorem dX11_worstFirst_34 : decode cX11_worstFirst 34 = .ok (.goto 39, 3) := by decide +kernel
theorem dX11_worstFirst_37 : decode cX11_worstFirst 37 = .ok (.aload_n 0, 1) := by decide +kernel
theorem dX11_worstFirst_38 : decode cX11_worstFirst 38 = .ok (.iload_n 3, 1) := by decide +kernel
theorem dX11_worstFirst_39 : decode cX11_worstFirst 39 = .ok (.invokevirtual 216, 3) := by decide +kernel
theorem dX11_worstFirst_42 : decode cX11_worstFirst 42 = .ok (.istore 4, 2) := by decide +kernel
theorem dX11_worstFirst_44 : decode cX11_worstFirst 44 = .ok (.iload 4, 2) := by decide +kernel
theorem dX11_worstFirst_46 : decode cX11_worstFirst 46 = .ok (.iload_n 2, 1) := by decide +kernel
theorem dX11_worstFirst_47 : decode cX11_worstFirst 47 = .ok (.if_icmp .lt 26, 3) := by decide +kernel
theorem dX11_worstFirst_50 : decode cX11_worstFirst 50 = .ok (.iload 4, 2) := by decide +kernel
theorem dX11_worstFirst_52 : decode cX11_worstFirst 52 = .ok (.iload_n 2, 1) := by decide +kernel
theorem dX11_worstFirst_53 : decode cX11_worstFirst 53 = .ok (.if_icmp .ne 15, 3) := by decide +kernel
theorem dX11_worstFirst_56 : decode cX11_worstFirst 56 = .ok (.aload_n 0, 1) := by decide +kernel
theorem dX11_worstFirst_57 : decode cX11_worstFirst 57 = .ok (.iload_n 3, 1) := by decide +kernel
theorem dX11_worstFirst_58 : decode cX11_worstFirst 58 = .ok (.iload_n 1, 1) := by decide +kernel
theorem dX11_worstFirst_59 : decode cX11_worstFirst 59 = .ok (.invokevirtual 213, 3) := by decide +kernel
theorem dX11_worstFirst_62 : decode cX11_worstFirst 62 = .ok (.ifCond .ne 6, 3) := by decide +kernel
theorem dX11_worstFirst_65 : decode cX11_worstFirst 65 = .ok (.goto 8, 3) := by decide +kernel
theorem dX11_worstFirst_68 : decode cX11_worstFirst 68 = .ok (.iload_n 3, 1) := by decide +kernel
theorem dX11_worstFirst_69 : decode cX11_worstFirst 69 = .ok (.istore_n 1, 1) := by decide +kernel
theorem dX11_worstFirst_70 : decode cX11_worstFirst 70 = .ok (.iload 4, 2) := by decide +kernel
theorem dX11_worstFirst_72 : decode cX11_worstFirst 72 = .ok (.istore_n 2, 1) := by decide +kernel
theorem dX11_worstFirst_73 : decode cX11_worstFirst 73 = .ok (.iinc 3 1, 3) := by decide +kernel
theorem dX11_worstFirst_76 : decode cX11_worstFirst 76 = .ok (.goto (-66), 3) := by decide +kernel
theorem dX11_worstFirst_79 : decode cX11_worstFirst 79 = .ok (.iload_n 1, 1) := by decide +kernel
theorem dX11_worstFirst_80 : decode cX11_worstFirst 80 = .ok (.ireturn, 1) := by decide +kernel
def jX11_worstFirst_73_10 (Y : XS) (n : Nat) (S : PS) (v0 : Nat) (v1 : Int32) (v2 : Int32) (v3 : Int32) : Option ((Int32 × Int32 × Int32) ⊕ Int32) :=
  some (.inl (v1, v2, v3 + (1 : Int32)))
def jX11_worstFirst_68_10 (Y : XS) (n : Nat) (S : PS) (v0 : Nat) (v3 : Int32) (v4 : Int32) : Option ((Int32 × Int32 × Int32) ⊕ Int32) :=
  jX11_worstFirst_73_10 Y n S v0 v3 v4 v3
def bX11_worstFirst_10 (Y : XS) (n : Nat) (S : PS) (v0 : Nat) (s10 : (Int32 × Int32 × Int32)) : Option ((Int32 × Int32 × Int32) ⊕ Int32) :=
  kc (fX11_many Y n S v0) (fun q13 => (if ((1 : Int32) <<< (q13 &&& 31)) ≤ s10.2.2 then some (.inr s10.1) else kc (fX11_costsOf Y n S v0 s10.2.2) (fun q22 => kgr S v0 0 (fun b26 => kai Y S b26 (0 : Int32) (fun x30 => (if q22 ≤ x30 then kc (fX11_leastWorth Y n S v0 s10.2.2) (fun q39 => (if q39 < s10.2.1 then jX11_worstFirst_73_10 Y n S v0 s10.1 s10.2.1 s10.2.2 else (if q39 = s10.2.1 then kc (fX11_isMore Y n S v0 s10.2.2 s10.1) (fun q59 => (if q59 = 0 then jX11_worstFirst_73_10 Y n S v0 s10.1 s10.2.1 s10.2.2 else jX11_worstFirst_68_10 Y n S v0 s10.2.2 q39)) else jX11_worstFirst_68_10 Y n S v0 s10.2.2 q39))) else jX11_worstFirst_73_10 Y n S v0 s10.1 s10.2.1 s10.2.2))))))
def fX11_worstFirst (Y : XS) (n : Nat) (S : PS) (a0 : Nat) : Option (Int32) :=
  kc (fX11_leastWorth Y n S a0 (0 : Int32)) (fun q4 => kc (iter (bX11_worstFirst_10 Y n S a0) n ((0 : Int32), q4, (1 : Int32))) (fun r10 => some r10))
theorem wjX11_worstFirst_73_10 {C : CT} {X : XT} (hC : CK C RX11 cX11_worstFirst 5 (some .int) 4) (n : Nat) (S : PS) (v0 : Nat) (v1 : Int32) (v2 : Int32) (v3 : Int32)  (hTv0 : Ty X.2.1 v0 11) {o : (Int32 × Int32 × Int32) ⊕ Int32} (hf : jX11_worstFirst_73_10 X.2.1 n S v0 v1 v2 v3 = some o) (hN : ∀ s', o = .inl s' → UW C X S 10 [(0, .ref (X.1 v0)), (1, .int s'.1), (2, .int s'.2.1), (3, .int s'.2.2)] []) (hO0 : ∀ p', o = .inr p' → UW C X S 79 [(1, .int p')] []) : UW C X S 73 [(0, .ref (X.1 v0)), (1, .int v1), (2, .int v2), (3, .int v3)] [] := by
  unfold jX11_worstFirst_73_10 at hf
  refine u_iinc (v := v3 + (1 : Int32)) (lv' := [(3, .int (v3 + (1 : Int32))), (0, .ref (X.1 v0)), (1, .int v1), (2, .int v2)]) hC dX11_worstFirst_73 3 rfl rfl (by decide) rfl ?_
  refine u_goto (tgt := 10) hC dX11_worstFirst_76 (by decide) ?_
  refine u_sub (lv' := [(0, .ref (X.1 v0)), (1, .int v1), (2, .int v2), (3, .int (v3 + (1 : Int32)))]) [1, 2, 3, 0] rfl ?_
  exact hN _ (Option.some.inj hf).symm
theorem wjX11_worstFirst_68_10 {C : CT} {X : XT} (hC : CK C RX11 cX11_worstFirst 5 (some .int) 4) (n : Nat) (S : PS) (v0 : Nat) (v3 : Int32) (v4 : Int32)  (hTv0 : Ty X.2.1 v0 11) {o : (Int32 × Int32 × Int32) ⊕ Int32} (hf : jX11_worstFirst_68_10 X.2.1 n S v0 v3 v4 = some o) (hN : ∀ s', o = .inl s' → UW C X S 10 [(0, .ref (X.1 v0)), (1, .int s'.1), (2, .int s'.2.1), (3, .int s'.2.2)] []) (hO0 : ∀ p', o = .inr p' → UW C X S 79 [(1, .int p')] []) : UW C X S 68 [(0, .ref (X.1 v0)), (3, .int v3), (4, .int v4)] [] := by
  unfold jX11_worstFirst_68_10 at hf
  refine u_iload_n hC dX11_worstFirst_68 1 rfl rfl ?_
  refine u_istore_n (lv' := [(1, .int v3), (0, .ref (X.1 v0)), (3, .int v3), (4, .int v4)]) hC dX11_worstFirst_69 rfl (by decide) rfl ?_
  refine u_iload hC dX11_worstFirst_70 3 rfl ?_
  refine u_istore_n (lv' := [(2, .int v4), (1, .int v3), (0, .ref (X.1 v0)), (3, .int v3), (4, .int v4)]) hC dX11_worstFirst_72 rfl (by decide) rfl ?_
  refine u_sub (lv' := [(0, .ref (X.1 v0)), (1, .int v3), (2, .int v4), (3, .int v3)]) [2, 1, 0, 3] rfl ?_
  exact wjX11_worstFirst_73_10 hC n S v0 v3 v4 v3  hTv0 hf hN hO0
theorem wbX11_worstFirst_10 {C : CT} {X : XT} (hC : CK C RX11 cX11_worstFirst 5 (some .int) 4) (n : Nat) (S : PS) (v0 : Nat) (hTv0 : Ty X.2.1 v0 11) (s10 : (Int32 × Int32 × Int32)) {o : (Int32 × Int32 × Int32) ⊕ Int32} (hf : bX11_worstFirst_10 X.2.1 n S v0 s10 = some o) (hN : ∀ s', o = .inl s' → UW C X S 10 [(0, .ref (X.1 v0)), (1, .int s'.1), (2, .int s'.2.1), (3, .int s'.2.2)] []) (hO0 : ∀ p', o = .inr p' → UW C X S 79 [(1, .int p')] []) : UW C X S 10 [(0, .ref (X.1 v0)), (1, .int s10.1), (2, .int s10.2.1), (3, .int s10.2.2)] [] := by
  unfold bX11_worstFirst_10 at hf
  refine u_iload_n hC dX11_worstFirst_10 3 rfl rfl ?_
  refine u_iconst (v := (1 : Int32)) hC dX11_worstFirst_11 (by decide) ?_
  refine u_aload_n hC dX11_worstFirst_12 0 rfl rfl ?_
  obtain ⟨q13, hq13, hf⟩ := kc_some hf
  refine u_callV hC (ctX11_many (cL C) hC.tr (cG C) X.1 X.2.1 n S v0 hTv0 hq13) lk_X11_77 rfl hTv0 (by decide) rfl (by decide) (by decide) rfl rfl (Nat.le_of_ble_eq_true rfl) dX11_worstFirst_13 ?_
  refine u_ishl hC dX11_worstFirst_16 ?_
  refine u_icmp_ge (tgt := 79) hC dX11_worstFirst_17 (by decide) hf (fun h17 hf => ?_) (fun h17 hf => ?_)
  · refine u_sub (lv' := [(1, .int s10.1)]) [1] rfl ?_
    exact hO0 _ (Option.some.inj hf).symm
  · refine u_aload_n hC dX11_worstFirst_20 0 rfl rfl ?_
    refine u_iload_n hC dX11_worstFirst_21 3 rfl rfl ?_
    obtain ⟨q22, hq22, hf⟩ := kc_some hf
    refine u_callV hC (ctX11_costsOf (cL C) hC.tr (cG C) X.1 X.2.1 n S v0 s10.2.2 hTv0 hq22) lk_X11_196 rfl hTv0 (by decide) rfl (by decide) (by decide) rfl rfl (Nat.le_of_ble_eq_true rfl) dX11_worstFirst_22 ?_
    refine u_aload_n hC dX11_worstFirst_25 0 rfl rfl ?_
    refine u_gr hC lf_X11_9 rfl hTv0 dX11_worstFirst_26 hf (fun b26 hTb26 hf => ?_)
    refine u_iconst (v := (0 : Int32)) hC dX11_worstFirst_29 (by decide) ?_
    refine u_ai hC hTb26 dX11_worstFirst_30 hf (fun x30 hf => ?_)
    refine u_icmp_le (tgt := 37) hC dX11_worstFirst_31 (by decide) hf (fun h31 hf => ?_) (fun h31 hf => ?_)
    · refine u_aload_n hC dX11_worstFirst_37 0 rfl rfl ?_
      refine u_iload_n hC dX11_worstFirst_38 3 rfl rfl ?_
      obtain ⟨q39, hq39, hf⟩ := kc_some hf
      refine u_callV hC (ctX11_leastWorth (cL C) hC.tr (cG C) X.1 X.2.1 n S v0 s10.2.2 hTv0 hq39) lk_X11_216 rfl hTv0 (by decide) rfl (by decide) (by decide) rfl rfl (Nat.le_of_ble_eq_true rfl) dX11_worstFirst_39 ?_
      refine u_istore (lv' := [(4, .int q39), (0, .ref (X.1 v0)), (1, .int s10.1), (2, .int s10.2.1), (3, .int s10.2.2)]) hC dX11_worstFirst_42 (by decide) rfl ?_
      refine u_iload hC dX11_worstFirst_44 0 rfl ?_
      refine u_iload_n hC dX11_worstFirst_46 3 rfl rfl ?_
      refine u_icmp_lt (tgt := 73) hC dX11_worstFirst_47 (by decide) hf (fun h47 hf => ?_) (fun h47 hf => ?_)
      · refine u_sub (lv' := [(0, .ref (X.1 v0)), (1, .int s10.1), (2, .int s10.2.1), (3, .int s10.2.2)]) [1, 2, 3, 4] rfl ?_
        exact wjX11_worstFirst_73_10 hC n S v0 s10.1 s10.2.1 s10.2.2  hTv0 hf hN hO0
      · refine u_iload hC dX11_worstFirst_50 0 rfl ?_
        refine u_iload_n hC dX11_worstFirst_52 3 rfl rfl ?_
        refine u_icmp_ne (tgt := 68) hC dX11_worstFirst_53 (by decide) hf (fun h53 hf => ?_) (fun h53 hf => ?_)
        · refine u_sub (lv' := [(0, .ref (X.1 v0)), (3, .int s10.2.2), (4, .int q39)]) [1, 4, 0] rfl ?_
          exact wjX11_worstFirst_68_10 hC n S v0 s10.2.2 q39  hTv0 hf hN hO0
        · refine u_aload_n hC dX11_worstFirst_56 1 rfl rfl ?_
          refine u_iload_n hC dX11_worstFirst_57 4 rfl rfl ?_
          refine u_iload_n hC dX11_worstFirst_58 2 rfl rfl ?_
          obtain ⟨q59, hq59, hf⟩ := kc_some hf
          refine u_callV hC (ctX11_isMore (cL C) hC.tr (cG C) X.1 X.2.1 n S v0 s10.2.2 s10.1 hTv0 hq59) lk_X11_213 rfl hTv0 (by decide) rfl (by decide) (by decide) rfl rfl (Nat.le_of_ble_eq_true rfl) dX11_worstFirst_59 ?_
          refine u_if_ne (tgt := 68) hC dX11_worstFirst_62 (by decide) hf (fun h62 hf => ?_) (fun h62 hf => ?_)
          · refine u_sub (lv' := [(0, .ref (X.1 v0)), (3, .int s10.2.2), (4, .int q39)]) [1, 4, 0] rfl ?_
            exact wjX11_worstFirst_68_10 hC n S v0 s10.2.2 q39  hTv0 hf hN hO0
          · refine u_goto (tgt := 73) hC dX11_worstFirst_65 (by decide) ?_
            refine u_sub (lv' := [(0, .ref (X.1 v0)), (1, .int s10.1), (2, .int s10.2.1), (3, .int s10.2.2)]) [1, 2, 3, 4] rfl ?_
            exact wjX11_worstFirst_73_10 hC n S v0 s10.1 s10.2.1 s10.2.2  hTv0 hf hN hO0
    · refine u_goto (tgt := 73) hC dX11_worstFirst_34 (by decide) ?_
      exact wjX11_worstFirst_73_10 hC n S v0 s10.1 s10.2.1 s10.2.2  hTv0 hf hN hO0
theorem wX11_worstFirst {C : CT} {X : XT} (hC : CK C RX11 cX11_worstFirst 5 (some .int) 4) (n : Nat) (S : PS) (a0 : Nat) (hTa0 : Ty X.2.1 a0 11) {o : Int32} (hf : fX11_worstFirst X.2.1 n S a0 = some o) (hR : Rt C X cX11_worstFirst (some .int) (some (.int o)) S) : UW C X S 0 [(0, .ref (X.1 a0))] [] := by
  unfold fX11_worstFirst at hf
  refine u_iconst (v := (0 : Int32)) hC dX11_worstFirst_0 (by decide) ?_
  refine u_istore_n (lv' := [(1, .int (0 : Int32)), (0, .ref (X.1 a0))]) hC dX11_worstFirst_1 rfl (by decide) rfl ?_
  refine u_aload_n hC dX11_worstFirst_2 1 rfl rfl ?_
  refine u_iconst (v := (0 : Int32)) hC dX11_worstFirst_3 (by decide) ?_
  obtain ⟨q4, hq4, hf⟩ := kc_some hf
  refine u_callV hC (ctX11_leastWorth (cL C) hC.tr (cG C) X.1 X.2.1 n S a0 (0 : Int32) hTa0 hq4) lk_X11_216 rfl hTa0 (by decide) rfl (by decide) (by decide) rfl rfl (Nat.le_of_ble_eq_true rfl) dX11_worstFirst_4 ?_
  refine u_istore_n (lv' := [(2, .int q4), (1, .int (0 : Int32)), (0, .ref (X.1 a0))]) hC dX11_worstFirst_7 rfl (by decide) rfl ?_
  refine u_iconst (v := (1 : Int32)) hC dX11_worstFirst_8 (by decide) ?_
  refine u_istore_n (lv' := [(3, .int (1 : Int32)), (2, .int q4), (1, .int (0 : Int32)), (0, .ref (X.1 a0))]) hC dX11_worstFirst_9 rfl (by decide) rfl ?_
  obtain ⟨r10, hr10, hf⟩ := kc_some hf
  have hk10 : UW C X S 79 [(1, .int r10)] [] := by
    refine u_iload_n hC dX11_worstFirst_79 0 rfl rfl ?_
    cases hf
    exact hR _ _ dX11_worstFirst_80 trivial
  refine u_sub (lv' := [(0, .ref (X.1 a0)), (1, .int (0 : Int32)), (2, .int q4), (3, .int (1 : Int32))]) [3, 2, 1, 0] rfl ?_
  refine iter_ind (P := fun s10 => UW C X S 10 [(0, .ref (X.1 a0)), (1, .int s10.1), (2, .int s10.2.1), (3, .int s10.2.2)] []) (fun s10 o' hb hin hout => ?_) n ((0 : Int32), q4, (1 : Int32)) hr10
  exact wbX11_worstFirst_10 hC n S a0 hTa0 s10 hb hin (fun p e => by rw [hout p e]; exact hk10)
theorem ctX11_worstFirst (l : Launch) (hl : l.stackTraces = false) (G : GT) (ρ : Nat → Nat) (Y : XS) (n : Nat) (S : PS) (a0 : Nat) (hTa0 : Ty Y a0 11) {o : Int32} (hf : fX11_worstFirst Y n S a0 = some o) : Mt l G yX11_worstFirst cX11_worstFirst 5 (some .int) 4 ρ Y [.ref (ρ a0)] S (some (.int o)) S :=
  Mt_of hl (by decide) (Nat.le_of_ble_eq_true rfl) (fun C _ _ hC hR => wX11_worstFirst (X := (ρ, Y, 0, 0)) hC n S a0 hTa0 hf hR)
-- X11_takes
theorem dX11_takes_0 : decode cX11_takes 0 = .ok (.iconst 0, 1) := by decide +kernel
theorem dX11_takes_1 : decode cX11_takes 1 = .ok (.istore_n 2, 1) := by decide +kernel
theorem dX11_takes_2 : decode cX11_takes 2 = .ok (.iload_n 2, 1) := by decide +kernel
theorem dX11_takes_3 : decode cX11_takes 3 = .ok (.aload_n 0, 1) := by decide +kernel
theorem dX11_takes_4 : decode cX11_takes 4 = .ok (.invokevirtual 77, 3) := by decide +kernel
theorem dX11_takes_7 : decode cX11_takes 7 = .ok (.if_icmp .ge 22, 3) := by decide +kernel
theorem dX11_takes_10 : decode cX11_takes 10 = .ok (.iload_n 1, 1) := by decide +kernel
theorem dX11_takes_11 : decode cX11_takes 11 = .ok (.iload_n 2, 1) := by decide +kernel
theorem dX11_takes_12 : decode cX11_takes 12 = .ok (.invokestatic 147, 3) := by decide +kernel
theorem dX11_takes_15 : decode cX11_takes 15 = .ok (.ifCond .eq 8, 3) := by decide +kernel
theorem dX11_takes_18 : decode cX11_takes 18 = .ok (.aload_n 0, 1) := by decide +kernel
theorem dX11_takes_19 : decode cX11_takes 19 = .ok (.iload_n 2, 1) := by decide +kernel
theorem dX11_takes_20 : decode cX11_takes 20 = .ok (.invokevirtual 169, 3) := by decide +kernel
theorem dX11_takes_23 : decode cX11_takes 23 = .ok (.iinc 2 1, 3) := by decide +kernel
theorem dX11_takes_26 : decode cX11_takes 26 = .ok (.goto (-24), 3) := by decide +kernel
theorem dX11_takes_29 : decode cX11_takes 29 = .ok (.return_, 1) := by decide +kernel
def jX11_takes_23_2 (Y : XS) (n : Nat) (S : PS) (v0 : Nat) (v1 : Int32) (v2 : Int32) : Option ((Int32 × PS) ⊕ PS) :=
  some (.inl (v2 + (1 : Int32), S))
def bX11_takes_2 (Y : XS) (n : Nat) (v0 : Nat) (v1 : Int32) (s2 : (Int32 × PS)) : Option ((Int32 × PS) ⊕ PS) :=
  kc (fX11_many Y n s2.2 v0) (fun q4 => (if q4 ≤ s2.1 then some (.inr s2.2) else kc (fX11_isOf Y n s2.2 v1 s2.1) (fun q12 => (if q12 = 0 then jX11_takes_23_2 Y n s2.2 v0 v1 s2.1 else kc (fX11_choose Y n s2.2 v0 s2.1) (fun q20 => jX11_takes_23_2 Y n q20 v0 v1 s2.1)))))
def fX11_takes (Y : XS) (n : Nat) (S : PS) (a0 : Nat) (x1_ : Int32) : Option (PS) :=
  kc (iter (bX11_takes_2 Y n a0 x1_) n ((0 : Int32), S)) (fun r2 => some r2)
theorem wjX11_takes_23_2 {C : CT} {X : XT} (hC : CK C RX11 cX11_takes 3 none 2) (n : Nat) (S : PS) (v0 : Nat) (v1 : Int32) (v2 : Int32)  (hTv0 : Ty X.2.1 v0 11) {o : (Int32 × PS) ⊕ PS} (hf : jX11_takes_23_2 X.2.1 n S v0 v1 v2 = some o) (hN : ∀ s', o = .inl s' → UW C X s'.2 2 [(0, .ref (X.1 v0)), (1, .int v1), (2, .int s'.1)] []) (hO0 : ∀ p', o = .inr p' → UW C X p' 29 [] []) : UW C X S 23 [(0, .ref (X.1 v0)), (1, .int v1), (2, .int v2)] [] := by
  unfold jX11_takes_23_2 at hf
  refine u_iinc (v := v2 + (1 : Int32)) (lv' := [(2, .int (v2 + (1 : Int32))), (0, .ref (X.1 v0)), (1, .int v1)]) hC dX11_takes_23 2 rfl rfl (by decide) rfl ?_
  refine u_goto (tgt := 2) hC dX11_takes_26 (by decide) ?_
  refine u_sub (lv' := [(0, .ref (X.1 v0)), (1, .int v1), (2, .int (v2 + (1 : Int32)))]) [1, 2, 0] rfl ?_
  exact hN _ (Option.some.inj hf).symm
theorem wbX11_takes_2 {C : CT} {X : XT} (hC : CK C RX11 cX11_takes 3 none 2) (n : Nat) (v0 : Nat) (v1 : Int32) (hTv0 : Ty X.2.1 v0 11) (s2 : (Int32 × PS)) {o : (Int32 × PS) ⊕ PS} (hf : bX11_takes_2 X.2.1 n v0 v1 s2 = some o) (hN : ∀ s', o = .inl s' → UW C X s'.2 2 [(0, .ref (X.1 v0)), (1, .int v1), (2, .int s'.1)] []) (hO0 : ∀ p', o = .inr p' → UW C X p' 29 [] []) : UW C X s2.2 2 [(0, .ref (X.1 v0)), (1, .int v1), (2, .int s2.1)] [] := by
  unfold bX11_takes_2 at hf
  refine u_iload_n hC dX11_takes_2 2 rfl rfl ?_
  refine u_aload_n hC dX11_takes_3 0 rfl rfl ?_
  obtain ⟨q4, hq4, hf⟩ := kc_some hf
  refine u_callV hC (ctX11_many (cL C) hC.tr (cG C) X.1 X.2.1 n s2.2 v0 hTv0 hq4) lk_X11_77 rfl hTv0 (by decide) rfl (by decide) (by decide) rfl rfl (Nat.le_of_ble_eq_true rfl) dX11_takes_4 ?_
  refine u_icmp_ge (tgt := 29) hC dX11_takes_7 (by decide) hf (fun h7 hf => ?_) (fun h7 hf => ?_)
  · refine u_sub (lv' := []) [] rfl ?_
    exact hO0 _ (Option.some.inj hf).symm
  · refine u_iload_n hC dX11_takes_10 1 rfl rfl ?_
    refine u_iload_n hC dX11_takes_11 2 rfl rfl ?_
    obtain ⟨q12, hq12, hf⟩ := kc_some hf
    refine u_callS hC (ctX11_isOf (cL C) hC.tr (cG C) X.1 X.2.1 n s2.2 v1 s2.1  hq12) lk_X11_147 (by decide) (by decide) rfl rfl (Nat.le_of_ble_eq_true rfl) dX11_takes_12 ?_
    refine u_if_eq (tgt := 23) hC dX11_takes_15 (by decide) hf (fun h15 hf => ?_) (fun h15 hf => ?_)
    · exact wjX11_takes_23_2 hC n s2.2 v0 v1 s2.1  hTv0 hf hN hO0
    · refine u_aload_n hC dX11_takes_18 0 rfl rfl ?_
      refine u_iload_n hC dX11_takes_19 2 rfl rfl ?_
      obtain ⟨q20, hq20, hf⟩ := kc_some hf
      refine u_callV hC (ctX11_choose (cL C) hC.tr (cG C) X.1 X.2.1 n s2.2 v0 s2.1 hTv0 hq20) lk_X11_169 rfl hTv0 (by decide) rfl (by decide) (by decide) rfl rfl (Nat.le_of_ble_eq_true rfl) dX11_takes_20 ?_
      exact wjX11_takes_23_2 hC n q20 v0 v1 s2.1  hTv0 hf hN hO0
theorem wX11_takes {C : CT} {X : XT} (hC : CK C RX11 cX11_takes 3 none 2) (n : Nat) (S : PS) (a0 : Nat) (x1_ : Int32) (hTa0 : Ty X.2.1 a0 11) {o : PS} (hf : fX11_takes X.2.1 n S a0 x1_ = some o) (hR : Rt C X cX11_takes none none o) : UW C X S 0 [(0, .ref (X.1 a0)), (1, .int x1_)] [] := by
  unfold fX11_takes at hf
  refine u_iconst (v := (0 : Int32)) hC dX11_takes_0 (by decide) ?_
  refine u_istore_n (lv' := [(2, .int (0 : Int32)), (0, .ref (X.1 a0)), (1, .int x1_)]) hC dX11_takes_1 rfl (by decide) rfl ?_
  obtain ⟨r2, hr2, hf⟩ := kc_some hf
  have hk2 : UW C X r2 29 [] [] := by
    cases hf
    exact hR _ _ dX11_takes_29 trivial
  refine u_sub (lv' := [(0, .ref (X.1 a0)), (1, .int x1_), (2, .int (0 : Int32))]) [1, 2, 0] rfl ?_
  refine iter_ind (P := fun s2 => UW C X s2.2 2 [(0, .ref (X.1 a0)), (1, .int x1_), (2, .int s2.1)] []) (fun s2 o' hb hin hout => ?_) n ((0 : Int32), S) hr2
  exact wbX11_takes_2 hC n a0 x1_ hTa0 s2 hb hin (fun p e => by rw [hout p e]; exact hk2)
theorem ctX11_takes (l : Launch) (hl : l.stackTraces = false) (G : GT) (ρ : Nat → Nat) (Y : XS) (n : Nat) (S : PS) (a0 : Nat) (x1_ : Int32) (hTa0 : Ty Y a0 11) {o : PS} (hf : fX11_takes Y n S a0 x1_ = some o) : Mt l G yX11_takes cX11_takes 3 none 2 ρ Y [.ref (ρ a0), .int x1_] S none o :=
  Mt_of hl (by decide) (Nat.le_of_ble_eq_true rfl) (fun C _ _ hC hR => wX11_takes (X := (ρ, Y, 0, 0)) hC n S a0 x1_ hTa0 hf hR)
-- X11_dueOf
theorem dX11_dueOf_0 : decode cX11_dueOf 0 = .ok (.ldc2_w 160, 3) := by decide +kernel
theorem dX11_dueOf_3 : decode cX11_dueOf 3 = .ok (.aload_n 0, 1) := by decide +kernel
theorem dX11_dueOf_4 : decode cX11_dueOf 4 = .ok (.iload_n 1, 1) := by decide +kernel
theorem dX11_dueOf_5 : decode cX11_dueOf 5 = .ok (.invokevirtual 134, 3) := by decide +kernel
theorem dX11_dueOf_8 : decode cX11_dueOf 8 = .ok (.i2l, 1) := by decide +kernel
theorem dX11_dueOf_9 : decode cX11_dueOf 9 = .ok (.lmul, 1) := by decide +kernel
theorem dX11_dueOf_10 : decode cX11_dueOf 10 = .ok (.lstore 4, 2) := by decide +kernel
theorem dX11_dueOf_12 : decode cX11_dueOf 12 = .ok (.iconst 0, 1) := by decide +kernel
theorem dX11_dueOf_13 : decode cX11_dueOf 13 = .ok (.istore 6, 2) := by decide +kernel
theorem dX11_dueOf_15 : decode cX11_dueOf 15 = .ok (.iload 6, 2) := by decide +kernel
theorem dX11_dueOf_17 : decode cX11_dueOf 17 = .ok (.aload_n 0, 1) := by decide +kernel
theorem dX11_dueOf_18 : decode cX11_dueOf 18 = .ok (.invokevirtual 85, 3) := by decide +kernel
theorem dX11_dueOf_21 : decode cX11_dueOf 21 = .ok (.if_icmp .ge 35, 3) := by decide +kernel
theorem dX11_dueOf_24 : decode cX11_dueOf 24 = .ok (.lload 4, 2) := by decide +kernel
theorem dX11_dueOf_26 : decode cX11_dueOf 26 = .ok (.aload_n 0, 1) := by decide +kernel
theorem dX11_dueOf_27 : decode cX11_dueOf 27 = .ok (.iload 6, 2) := by decide +kernel
theorem dX11_dueOf_29 : decode cX11_dueOf 29 = .ok (.iload_n 1, 1) := by decide +kernel
theorem dX11_dueOf_30 : decode cX11_dueOf 30 = .ok (.invokevirtual 88, 3) := by decide +kernel
theorem dX11_dueOf_33 : decode cX11_dueOf 33 = .ok (.ifCond .le 13, 3) := by decide +kernel
theorem dX11_dueOf_36 : decode cX11_dueOf 36 = .ok (.aload_n 0, 1) := by decide +kernel
theorem dX11_dueOf_37 : decode cX11_dueOf 37 = .ok (.getfield 56, 3) := by decide +kernel
theorem dX11_dueOf_40 : decode cX11_dueOf 40 = .ok (.iload 6, 2) := by decide +kernel
theorem dX11_dueOf_42 : decode cX11_dueOf 42 = .ok (.laload, 1) := by decide +kernel
theorem dX11_dueOf_43 : decode cX11_dueOf 43 = .ok (.goto 4, 3) := by decide +kernel
theorem dX11_dueOf_46 : decode cX11_dueOf 46 = .ok (.lconst 0, 1) := by decide +kernel
theorem dX11_dueOf_47 : decode cX11_dueOf 47 = .ok (.ladd, 1) := by decide +kernel
theorem dX11_dueOf_48 : decode cX11_dueOf 48 = .ok (.lstore 4, 2) := by decide +kernel
theorem dX11_dueOf_50 : decode cX11_dueOf 50 = .ok (.iinc 6 1, 3) := by decide +kernel
theorem dX11_dueOf_53 : decode cX11_dueOf 53 = .ok (.goto (-38), 3) := by decide +kernel
theorem dX11_dueOf_56 : decode cX11_dueOf 56 = .ok (.lload_n 2, 1) := by decide +kernel
theorem dX11_dueOf_57 : decode cX11_dueOf 57 = .ok (.lload 4, 2) := by decide +kernel
theorem dX11_dueOf_59 : decode cX11_dueOf 59 = .ok (.aload_n 0, 1) := by decide +kernel
theorem dX11_dueOf_60 : decode cX11_dueOf 60 = .ok (.getfield 28, 3) := by decide +kernel
theorem dX11_dueOf_63 : decode cX11_dueOf 63 = .ok (.iload_n 1, 1) := by decide +kernel
theorem dX11_dueOf_64 : decode cX11_dueOf 64 = .ok (.iaload, 1) := by decide +kernel
theorem dX11_dueOf_65 : decode cX11_dueOf 65 = .ok (.i2l, 1) := by decide +kernel
theorem dX11_dueOf_66 : decode cX11_dueOf 66 = .ok (.ladd, 1) := by decide +kernel
theorem dX11_dueOf_67 : decode cX11_dueOf 67 = .ok (.lconst 1, 1) := by decide +kernel
theorem dX11_dueOf_68 : decode cX11_dueOf 68 = .ok (.lsub, 1) := by decide +kernel
theorem dX11_dueOf_69 : decode cX11_dueOf 69 = .ok (.aload_n 0, 1) := by decide +kernel
theorem dX11_dueOf_70 : decode cX11_dueOf 70 = .ok (.getfield 28, 3) := by decide +kernel
theorem dX11_dueOf_73 : decode cX11_dueOf 73 = .ok (.iload_n 1, 1) := by decide +kernel
theorem dX11_dueOf_74 : decode cX11_dueOf 74 = .ok (.iaload, 1) := by decide +kernel
theorem dX11_dueOf_75 : decode cX11_dueOf 75 = .ok (.i2l, 1) := by decide +kernel
theorem dX11_dueOf_76 : decode cX11_dueOf 76 = .ok (.ldiv, 1) := by decide +kernel
theorem dX11_dueOf_77 : decode cX11_dueOf 77 = .ok (.invokestatic 219, 3) := by decide +kernel
theorem dX11_dueOf_80 : decode cX11_dueOf 80 = .ok (.lreturn, 1) := by decide +kernel
def jX11_dueOf_47_15 (Y : XS) (n : Nat) (S : PS) (v0 : Nat) (v1 : Int32) (v2 : Int64) (v6 : Int32) (t0 : Int64) (t1 : Int64) : Option ((Int64 × Int32) ⊕ Int64) :=
  some (.inl (t1 + t0, v6 + (1 : Int32)))
def bX11_dueOf_15 (Y : XS) (n : Nat) (S : PS) (v0 : Nat) (v1 : Int32) (v2 : Int64) (s15 : (Int64 × Int32)) : Option ((Int64 × Int32) ⊕ Int64) :=
  kc (fX11_people Y n S v0) (fun q18 => (if q18 ≤ s15.2 then some (.inr s15.1) else kc (fX11_scoreOf Y n S v0 s15.2 v1) (fun q30 => (if q30 ≤ 0 then jX11_dueOf_47_15 Y n S v0 v1 v2 s15.2 (0 : Int64) s15.1 else kgr S v0 25 (fun b37 => kal Y S b37 s15.2 (fun x42 => jX11_dueOf_47_15 Y n S v0 v1 v2 s15.2 x42 s15.1))))))
def fX11_dueOf (Y : XS) (n : Nat) (S : PS) (a0 : Nat) (x1_ : Int32) (x2_ : Int64) : Option (Int64) :=
  kc (fX11_costOf Y n S a0 x1_) (fun q5 => kc (iter (bX11_dueOf_15 Y n S a0 x1_ x2_) n ((1000 : Int64) * (Int32.toInt64 q5), (0 : Int32))) (fun r15 => kgr S a0 13 (fun b60 => kai Y S b60 x1_ (fun x64 => kgr S a0 13 (fun b70 => kai Y S b70 x1_ (fun x74 => kldiv ((r15 + (Int32.toInt64 x64)) - (1 : Int64)) (Int32.toInt64 x74) (fun z76 => some (lmax x2_ z76))))))))
theorem wjX11_dueOf_47_15 {C : CT} {X : XT} (hC : CK C RX11 cX11_dueOf 7 (some .long) 3) (n : Nat) (S : PS) (v0 : Nat) (v1 : Int32) (v2 : Int64) (v6 : Int32) (t0 : Int64) (t1 : Int64)  (hTv0 : Ty X.2.1 v0 11) {o : (Int64 × Int32) ⊕ Int64} (hf : jX11_dueOf_47_15 X.2.1 n S v0 v1 v2 v6 t0 t1 = some o) (hN : ∀ s', o = .inl s' → UW C X S 15 [(0, .ref (X.1 v0)), (1, .int v1), (2, .long v2), (4, .long s'.1), (6, .int s'.2)] []) (hO0 : ∀ p', o = .inr p' → UW C X S 56 [(0, .ref (X.1 v0)), (1, .int v1), (2, .long v2), (4, .long p')] []) : UW C X S 47 [(0, .ref (X.1 v0)), (1, .int v1), (2, .long v2), (6, .int v6)] [.long t0, .long t1] := by
  unfold jX11_dueOf_47_15 at hf
  refine u_ladd hC dX11_dueOf_47 ?_
  refine u_lstore (lv' := [(4, .long (t1 + t0)), (0, .ref (X.1 v0)), (1, .int v1), (2, .long v2), (6, .int v6)]) hC dX11_dueOf_48 (by decide) rfl ?_
  refine u_iinc (v := v6 + (1 : Int32)) (lv' := [(6, .int (v6 + (1 : Int32))), (4, .long (t1 + t0)), (0, .ref (X.1 v0)), (1, .int v1), (2, .long v2)]) hC dX11_dueOf_50 4 rfl rfl (by decide) rfl ?_
  refine u_goto (tgt := 15) hC dX11_dueOf_53 (by decide) ?_
  refine u_sub (lv' := [(0, .ref (X.1 v0)), (1, .int v1), (2, .long v2), (4, .long (t1 + t0)), (6, .int (v6 + (1 : Int32)))]) [2, 3, 4, 1, 0] rfl ?_
  exact hN _ (Option.some.inj hf).symm
theorem wbX11_dueOf_15 {C : CT} {X : XT} (hC : CK C RX11 cX11_dueOf 7 (some .long) 3) (n : Nat) (S : PS) (v0 : Nat) (v1 : Int32) (v2 : Int64) (hTv0 : Ty X.2.1 v0 11) (s15 : (Int64 × Int32)) {o : (Int64 × Int32) ⊕ Int64} (hf : bX11_dueOf_15 X.2.1 n S v0 v1 v2 s15 = some o) (hN : ∀ s', o = .inl s' → UW C X S 15 [(0, .ref (X.1 v0)), (1, .int v1), (2, .long v2), (4, .long s'.1), (6, .int s'.2)] []) (hO0 : ∀ p', o = .inr p' → UW C X S 56 [(0, .ref (X.1 v0)), (1, .int v1), (2, .long v2), (4, .long p')] []) : UW C X S 15 [(0, .ref (X.1 v0)), (1, .int v1), (2, .long v2), (4, .long s15.1), (6, .int s15.2)] [] := by
  unfold bX11_dueOf_15 at hf
  refine u_iload hC dX11_dueOf_15 4 rfl ?_
  refine u_aload_n hC dX11_dueOf_17 0 rfl rfl ?_
  obtain ⟨q18, hq18, hf⟩ := kc_some hf
  refine u_callV hC (ctX11_people (cL C) hC.tr (cG C) X.1 X.2.1 n S v0 hTv0 hq18) lk_X11_85 rfl hTv0 (by decide) rfl (by decide) (by decide) rfl rfl (Nat.le_of_ble_eq_true rfl) dX11_dueOf_18 ?_
  refine u_icmp_ge (tgt := 56) hC dX11_dueOf_21 (by decide) hf (fun h21 hf => ?_) (fun h21 hf => ?_)
  · refine u_sub (lv' := [(0, .ref (X.1 v0)), (1, .int v1), (2, .long v2), (4, .long s15.1)]) [0, 1, 2, 3] rfl ?_
    exact hO0 _ (Option.some.inj hf).symm
  · refine u_lload hC dX11_dueOf_24 3 rfl ?_
    refine u_aload_n hC dX11_dueOf_26 0 rfl rfl ?_
    refine u_iload hC dX11_dueOf_27 4 rfl ?_
    refine u_iload_n hC dX11_dueOf_29 1 rfl rfl ?_
    obtain ⟨q30, hq30, hf⟩ := kc_some hf
    refine u_callV hC (ctX11_scoreOf (cL C) hC.tr (cG C) X.1 X.2.1 n S v0 s15.2 v1 hTv0 hq30) lk_X11_88 rfl hTv0 (by decide) rfl (by decide) (by decide) rfl rfl (Nat.le_of_ble_eq_true rfl) dX11_dueOf_30 ?_
    refine u_if_le (tgt := 46) hC dX11_dueOf_33 (by decide) hf (fun h33 hf => ?_) (fun h33 hf => ?_)
    · refine u_lconst (v := (0 : Int64)) hC dX11_dueOf_46 (by decide) ?_
      refine u_sub (lv' := [(0, .ref (X.1 v0)), (1, .int v1), (2, .long v2), (6, .int s15.2)]) [0, 1, 2, 4] rfl ?_
      exact wjX11_dueOf_47_15 hC n S v0 v1 v2 s15.2 (0 : Int64) s15.1  hTv0 hf hN hO0
    · refine u_aload_n hC dX11_dueOf_36 0 rfl rfl ?_
      refine u_gr hC lf_X11_56 rfl hTv0 dX11_dueOf_37 hf (fun b37 hTb37 hf => ?_)
      refine u_iload hC dX11_dueOf_40 4 rfl ?_
      refine u_al hC hTb37 dX11_dueOf_42 hf (fun x42 hf => ?_)
      refine u_goto (tgt := 47) hC dX11_dueOf_43 (by decide) ?_
      refine u_sub (lv' := [(0, .ref (X.1 v0)), (1, .int v1), (2, .long v2), (6, .int s15.2)]) [0, 1, 2, 4] rfl ?_
      exact wjX11_dueOf_47_15 hC n S v0 v1 v2 s15.2 x42 s15.1  hTv0 hf hN hO0
theorem wX11_dueOf {C : CT} {X : XT} (hC : CK C RX11 cX11_dueOf 7 (some .long) 3) (n : Nat) (S : PS) (a0 : Nat) (x1_ : Int32) (x2_ : Int64) (hTa0 : Ty X.2.1 a0 11) {o : Int64} (hf : fX11_dueOf X.2.1 n S a0 x1_ x2_ = some o) (hR : Rt C X cX11_dueOf (some .long) (some (.long o)) S) : UW C X S 0 [(0, .ref (X.1 a0)), (1, .int x1_), (2, .long x2_)] [] := by
  unfold fX11_dueOf at hf
  refine u_ldc2 (v := (1000 : Int64)) hC dX11_dueOf_0 (tb_7 30 rfl rfl) ?_
  refine u_aload_n hC dX11_dueOf_3 0 rfl rfl ?_
  refine u_iload_n hC dX11_dueOf_4 1 rfl rfl ?_
  obtain ⟨q5, hq5, hf⟩ := kc_some hf
  refine u_callV hC (ctX11_costOf (cL C) hC.tr (cG C) X.1 X.2.1 n S a0 x1_ hTa0 hq5) lk_X11_134 rfl hTa0 (by decide) rfl (by decide) (by decide) rfl rfl (Nat.le_of_ble_eq_true rfl) dX11_dueOf_5 ?_
  refine u_i2l hC dX11_dueOf_8 ?_
  refine u_lmul hC dX11_dueOf_9 ?_
  refine u_lstore (lv' := [(4, .long ((1000 : Int64) * (Int32.toInt64 q5))), (0, .ref (X.1 a0)), (1, .int x1_), (2, .long x2_)]) hC dX11_dueOf_10 (by decide) rfl ?_
  refine u_iconst (v := (0 : Int32)) hC dX11_dueOf_12 (by decide) ?_
  refine u_istore (lv' := [(6, .int (0 : Int32)), (4, .long ((1000 : Int64) * (Int32.toInt64 q5))), (0, .ref (X.1 a0)), (1, .int x1_), (2, .long x2_)]) hC dX11_dueOf_13 (by decide) rfl ?_
  obtain ⟨r15, hr15, hf⟩ := kc_some hf
  have hk15 : UW C X S 56 [(0, .ref (X.1 a0)), (1, .int x1_), (2, .long x2_), (4, .long r15)] [] := by
    refine u_lload_n hC dX11_dueOf_56 2 rfl rfl ?_
    refine u_lload hC dX11_dueOf_57 3 rfl ?_
    refine u_aload_n hC dX11_dueOf_59 0 rfl rfl ?_
    refine u_gr hC lf_X11_28 rfl hTa0 dX11_dueOf_60 hf (fun b60 hTb60 hf => ?_)
    refine u_iload_n hC dX11_dueOf_63 1 rfl rfl ?_
    refine u_ai hC hTb60 dX11_dueOf_64 hf (fun x64 hf => ?_)
    refine u_i2l hC dX11_dueOf_65 ?_
    refine u_ladd hC dX11_dueOf_66 ?_
    refine u_lconst (v := (1 : Int64)) hC dX11_dueOf_67 (by decide) ?_
    refine u_lsub hC dX11_dueOf_68 ?_
    refine u_aload_n hC dX11_dueOf_69 0 rfl rfl ?_
    refine u_gr hC lf_X11_28 rfl hTa0 dX11_dueOf_70 hf (fun b70 hTb70 hf => ?_)
    refine u_iload_n hC dX11_dueOf_73 1 rfl rfl ?_
    refine u_ai hC hTb70 dX11_dueOf_74 hf (fun x74 hf => ?_)
    refine u_i2l hC dX11_dueOf_75 ?_
    refine u_ldiv hC dX11_dueOf_76 hf (fun z76 hf => ?_)
    refine u_mmaxl hC (tb_7 104 rfl rfl) (by decide) (Nat.le_of_ble_eq_true rfl) dX11_dueOf_77 ?_
    cases hf
    exact hR _ _ dX11_dueOf_80 trivial
  refine u_sub (lv' := [(0, .ref (X.1 a0)), (1, .int x1_), (2, .long x2_), (4, .long ((1000 : Int64) * (Int32.toInt64 q5))), (6, .int (0 : Int32))]) [2, 3, 4, 1, 0] rfl ?_
  refine iter_ind (P := fun s15 => UW C X S 15 [(0, .ref (X.1 a0)), (1, .int x1_), (2, .long x2_), (4, .long s15.1), (6, .int s15.2)] []) (fun s15 o' hb hin hout => ?_) n ((1000 : Int64) * (Int32.toInt64 q5), (0 : Int32)) hr15
  exact wbX11_dueOf_15 hC n S a0 x1_ x2_ hTa0 s15 hb hin (fun p e => by rw [hout p e]; exact hk15)
theorem ctX11_dueOf (l : Launch) (hl : l.stackTraces = false) (G : GT) (ρ : Nat → Nat) (Y : XS) (n : Nat) (S : PS) (a0 : Nat) (x1_ : Int32) (x2_ : Int64) (hTa0 : Ty Y a0 11) {o : Int64} (hf : fX11_dueOf Y n S a0 x1_ x2_ = some o) : Mt l G yX11_dueOf cX11_dueOf 7 (some .long) 3 ρ Y [.ref (ρ a0), .int x1_, .long x2_] S (some (.long o)) S :=
  Mt_of hl (by decide) (Nat.le_of_ble_eq_true rfl) (fun C _ _ hC hR => wX11_dueOf (X := (ρ, Y, 0, 0)) hC n S a0 x1_ x2_ hTa0 hf hR)
-- X11_earns
theorem dX11_earns_0 : decode cX11_earns 0 = .ok (.iconst 0, 1) := by decide +kernel
theorem dX11_earns_1 : decode cX11_earns 1 = .ok (.istore_n 1, 1) := by decide +kernel
theorem dX11_earns_2 : decode cX11_earns 2 = .ok (.iload_n 1, 1) := by decide +kernel
theorem dX11_earns_3 : decode cX11_earns 3 = .ok (.bipush 24, 2) := by decide +kernel
theorem dX11_earns_5 : decode cX11_earns 5 = .ok (.if_icmp .ge 16, 3) := by decide +kernel
theorem dX11_earns_8 : decode cX11_earns 8 = .ok (.aload_n 0, 1) := by decide +kernel
theorem dX11_earns_9 : decode cX11_earns 9 = .ok (.getfield 56, 3) := by decide +kernel
theorem dX11_earns_12 : decode cX11_earns 12 = .ok (.iload_n 1, 1) := by decide +kernel
theorem dX11_earns_13 : decode cX11_earns 13 = .ok (.lconst 0, 1) := by decide +kernel
theorem dX11_earns_14 : decode cX11_earns 14 = .ok (.lastore, 1) := by decide +kernel
theorem dX11_earns_15 : decode cX11_earns 15 = .ok (.iinc 1 1, 3) := by decide +kernel
theorem dX11_earns_18 : decode cX11_earns 18 = .ok (.goto (-16), 3) := by decide +kernel
theorem dX11_earns_21 : decode cX11_earns 21 = .ok (.lconst 0, 1) := by decide +kernel
theorem dX11_earns_22 : decode cX11_earns 22 = .ok (.lstore_n 1, 1) := by decide +kernel
theorem dX11_earns_23 : decode cX11_earns 23 = .ok (.iconst 1, 1) := by decide +kernel
theorem dX11_earns_24 : decode cX11_earns 24 = .ok (.istore_n 3, 1) := by decide +kernel
theorem dX11_earns_25 : decode cX11_earns 25 = .ok (.iload_n 3, 1) := by decide +kernel
theorem dX11_earns_26 : decode cX11_earns 26 = .ok (.ifCond .eq 185, 3) := by decide +kernel
theorem dX11_earns_29 : decode cX11_earns 29 = .ok (.iconst (-1), 1) := by decide +kernel
theorem dX11_earns_30 : decode cX11_earns 30 = .ok (.istore 4, 2) := by decide +kernel
theorem dX11_earns_32 : decode cX11_earns 32 = .ok (.lconst 0, 1) := by decide +kernel
theorem dX11_earns_33 : decode cX11_earns 33 = .ok (.lstore 5, 2) := by decide +kernel
theorem dX11_earns_35 : decode cX11_earns 35 = .ok (.iconst 0, 1) := by decide +kernel
theorem dX11_earns_36 : decode cX11_earns 36 = .ok (.istore 7, 2) := by decide +kernel
theorem dX11_earns_38 : decode cX11_earns 38 = .ok (.iload 7, 2) := by decide +kernel
theorem dX11_earns_40 : decode cX11_earns 40 = .ok (.aload_n 0, 1) := by decide +kernel
theorem dX11_earns_41 : decode cX11_earns 41 = .ok (.invokevirtual 77, 3) := by decide +kernel
theorem dX11_earns_44 : decode cX11_earns 44 = .ok (.if_icmp .ge 75, 3) := by decide +kernel
theorem dX11_earns_47 : decode cX11_earns 47 = .ok (.aload_n 0, 1) := by decide +kernel
theorem dX11_earns_48 : decode cX11_earns 48 = .ok (.getfield 154, 3) := by decide +kernel
theorem dX11_earns_51 : decode cX11_earns 51 = .ok (.iload 7, 2) := by decide +kernel
theorem dX11_earns_53 : decode cX11_earns 53 = .ok (.invokestatic 147, 3) := by decide +kernel
theorem dX11_earns_56 : decode cX11_earns 56 = .ok (.ifCond .ne 57, 3) := by decide +kernel
theorem dX11_earns_59 : decode cX11_earns 59 = .ok (.aload_n 0, 1) := by decide +kernel
theorem dX11_earns_60 : decode cX11_earns 60 = .ok (.getfield 28, 3) := by decide +kernel
theorem dX11_earns_63 : decode cX11_earns 63 = .ok (.iload 7, 2) := by decide +kernel
theorem dX11_earns_65 : decode cX11_earns 65 = .ok (.iaload, 1) := by decide +kernel
theorem dX11_earns_66 : decode cX11_earns 66 = .ok (.ifCond .ne 6, 3) := by decide +kernel
theorem dX11_earns_69 : decode cX11_earns 69 = .ok (.goto 44, 3) := by decide +kernel
theorem dX11_earns_72 : decode cX11_earns 72 = .ok (.aload_n 0, 1) := by decide +kernel
theorem dX11_earns_73 : decode cX11_earns 73 = .ok (.iload 7, 2) := by decide +kernel
theorem dX11_earns_75 : decode cX11_earns 75 = .ok (.lload_n 1, 1) := by decide +kernel
theorem dX11_earns_76 : decode cX11_earns 76 = .ok (.invokevirtual 221, 3) := by decide +kernel
theorem dX11_earns_79 : decode cX11_earns 79 = .ok (.lstore 8, 2) := by decide +kernel
theorem dX11_earns_81 : decode cX11_earns 81 = .ok (.iload 4, 2) := by decide +kernel
theorem dX11_earns_83 : decode cX11_earns 83 = .ok (.iconst (-1), 1) := by decide +kernel
theorem dX11_earns_84 : decode cX11_earns 84 = .ok (.if_icmp .eq 21, 3) := by decide +kernel
theorem dX11_earns_87 : decode cX11_earns 87 = .ok (.aload_n 0, 1) := by decide +kernel
theorem dX11_earns_88 : decode cX11_earns 88 = .ok (.lload 8, 2) := by decide +kernel
theorem dX11_earns_90 : decode cX11_earns 90 = .ok (.iload 7, 2) := by decide +kernel
theorem dX11_earns_92 : decode cX11_earns 92 = .ok (.lload 5, 2) := by decide +kernel
theorem dX11_earns_94 : decode cX11_earns 94 = .ok (.iload 4, 2) := by decide +kernel
theorem dX11_earns_96 : decode cX11_earns 96 = .ok (.invokevirtual 182, 3) := by decide +kernel
theorem dX11_earns_99 : decode cX11_earns 99 = .ok (.ifCond .ne 6, 3) := by decide +kernel
theorem dX11_earns_102 : decode cX11_earns 102 = .ok (.goto 11, 3) := by decide +kernel
theorem dX11_earns_105 : decode cX11_earns 105 = .ok (.iload 7, 2) := by decide +kernel
theorem dX11_earns_107 : decode cX11_earns 107 = .ok (.istore 4, 2) := by decide +kernel
theorem dX11_earns_109 : decode cX11_earns 109 = .ok (.lload 8, 2) := by decide +kernel
theorem dX11_earns_111 : decode cX11_earns 111 = .ok (.lstore 5, 2) := by decide +kernel
theorem dX11_earns_113 : decode cX11_earns 113 = .ok (.iinc 7 1, 3) := by decide +kernel
theorem dX11_earns_116 : decode cX11_earns 116 = .ok (.goto (-78), 3) := by decide +kernel
theorem dX11_earns_119 : decode cX11_earns 119 = .ok (.iload 4, 2) := by decide +kernel
theorem dX11_earns_121 : decode cX11_earns 121 = .ok (.iconst (-1), 1) := by decide +kernel
theorem dX11_earns_122 : decode cX11_earns 122 = .ok (.if_icmp .eq 31, 3) := by decide +kernel
theorem dX11_earns_125 : decode cX11_earns 125 = .ok (.aload_n 0, 1) := by decide +kernel
theorem dX11_earns_126 : decode cX11_earns 126 = .ok (.aload_n 0, 1) := by decide +kernel
theorem dX11_earns_127 : decode cX11_earns 127 = .ok (.getfield 154, 3) := by decide +kernel
theorem dX11_earns_130 : decode cX11_earns 130 = .ok (.invokevirtual 196, 3) := by decide +kernel
theorem dX11_earns_133 : decode cX11_earns 133 = .ok (.aload_n 0, 1) := by decide +kernel
theorem dX11_earns_134 : decode cX11_earns 134 = .ok (.iload 4, 2) := by decide +kernel
theorem dX11_earns_136 : decode cX11_earns 136 = .ok (.invokevirtual 134, 3) := by decide +kernel
theorem dX11_earns_139 : decode cX11_earns 139 = .ok (.iadd, 1) := by decide +kernel
theorem dX11_earns_140 : decode cX11_earns 140 = .ok (.aload_n 0, 1) := by decide +kernel
theorem dX11_earns_141 : decode cX11_earns 141 = .ok (.getfield 9, 3) := by decide +kernel
theorem dX11_earns_144 : decode cX11_earns 144 = .ok (.iconst 0, 1) := by decide +kernel
theorem dX11_earns_145 : decode cX11_earns 145 = .ok (.iaload, 1) := by decide +kernel
theorem dX11_earns_146 : decode cX11_earns 146 = .ok (.if_icmp .gt 7, 3) := by decide +kernel
theorem dX11_earns_149 : decode cX11_earns 149 = .ok (.iconst 1, 1) := by decide +kernel
theorem dX11_earns_150 : decode cX11_earns 150 = .ok (.goto 4, 3) := by decide +kernel
theorem dX11_earns_153 : decode cX11_earns 153 = .ok (.iconst 0, 1) := by decide +kernel
theorem dX11_earns_154 : decode cX11_earns 154 = .ok (.istore_n 3, 1) := by decide +kernel
theorem dX11_earns_155 : decode cX11_earns 155 = .ok (.iload_n 3, 1) := by decide +kernel
theorem dX11_earns_156 : decode cX11_earns 156 = .ok (.ifCond .ne 6, 3) := by decide +kernel
theorem dX11_earns_159 : decode cX11_earns 159 = .ok (.goto (-134), 3) := by decide +kernel
theorem dX11_earns_162 : decode cX11_earns 162 = .ok (.lload 5, 2) := by decide +kernel
theorem dX11_earns_164 : decode cX11_earns 164 = .ok (.lstore_n 1, 1) := by decide +kernel
theorem dX11_earns_165 : decode cX11_earns 165 = .ok (.aload_n 0, 1) := by decide +kernel
theorem dX11_earns_166 : decode cX11_earns 166 = .ok (.iload 4, 2) := by decide +kernel
theorem dX11_earns_168 : decode cX11_earns 168 = .ok (.invokevirtual 169, 3) := by decide +kernel
theorem dX11_earns_171 : decode cX11_earns 171 = .ok (.iconst 0, 1) := by decide +kernel
theorem dX11_earns_172 : decode cX11_earns 172 = .ok (.istore 7, 2) := by decide +kernel
theorem dX11_earns_174 : decode cX11_earns 174 = .ok (.iload 7, 2) := by decide +kernel
theorem dX11_earns_176 : decode cX11_earns 176 = .ok (.aload_n 0, 1) := by decide +kernel
theorem dX11_earns_177 : decode cX11_earns 177 = .ok (.invokevirtual 85, 3) := by decide +kernel
theorem dX11_earns_180 : decode cX11_earns 180 = .ok (.if_icmp .ge 28, 3) := by decide +kernel
theorem dX11_earns_183 : decode cX11_earns 183 = .ok (.aload_n 0, 1) := by decide +kernel
theorem dX11_earns_184 : decode cX11_earns 184 = .ok (.iload 7, 2) := by decide +kernel
theorem dX11_earns_186 : decode cX11_earns 186 = .ok (.iload 4, 2) := by decide +kernel
theorem dX11_earns_188 : decode cX11_earns 188 = .ok (.invokevirtual 88, 3) := by decide +kernel
theorem dX11_earns_191 : decode cX11_earns 191 = .ok (.ifCond .le 11, 3) := by decide +kernel
theorem dX11_earns_194 : decode cX11_earns 194 = .ok (.aload_n 0, 1) := by decide +kernel
theorem dX11_earns_195 : decode cX11_earns 195 = .ok (.getfield 56, 3) := by decide +kernel
theorem dX11_earns_198 : decode cX11_earns 198 = .ok (.iload 7, 2) := by decide +kernel
theorem dX11_earns_200 : decode cX11_earns 200 = .ok (.lload_n 1, 1) := by decide +kernel
theorem dX11_earns_201 : decode cX11_earns 201 = .ok (.lastore, 1) := by decide +kernel
theorem dX11_earns_202 : decode cX11_earns 202 = .ok (.iinc 7 1, 3) := by decide +kernel
theorem dX11_earns_205 : decode cX11_earns 205 = .ok (.goto (-31), 3) := by decide +kernel
theorem dX11_earns_208 : decode cX11_earns 208 = .ok (.goto (-183), 3) := by decide +kernel
theorem dX11_earns_211 : decode cX11_earns 211 = .ok (.return_, 1) := by decide +kernel
def bX11_earns_2 (Y : XS) (n : Nat) (v0 : Nat) (s2 : (Int32 × PS)) : Option ((Int32 × PS) ⊕ PS) :=
  (if (24 : Int32) ≤ s2.1 then some (.inr s2.2) else kgr s2.2 v0 25 (fun b9 => kwl Y s2.2 b9 s2.1 (0 : Int64) (fun S14 => some (.inl (s2.1 + (1 : Int32), S14)))))
def jX11_earns_113_38 (Y : XS) (n : Nat) (S : PS) (v0 : Nat) (v1 : Int64) (v4 : Int32) (v5 : Int64) (v7 : Int32) : Option ((Int32 × Int64 × Int32) ⊕ (Int32 × Int64)) :=
  some (.inl (v4, v5, v7 + (1 : Int32)))
def jX11_earns_105_38 (Y : XS) (n : Nat) (S : PS) (v0 : Nat) (v1 : Int64) (v7 : Int32) (v8 : Int64) : Option ((Int32 × Int64 × Int32) ⊕ (Int32 × Int64)) :=
  jX11_earns_113_38 Y n S v0 v1 v7 v8 v7
def bX11_earns_38 (Y : XS) (n : Nat) (S : PS) (v0 : Nat) (v1 : Int64) (s38 : (Int32 × Int64 × Int32)) : Option ((Int32 × Int64 × Int32) ⊕ (Int32 × Int64)) :=
  kc (fX11_many Y n S v0) (fun q41 => (if q41 ≤ s38.2.2 then some (.inr (s38.1, s38.2.1)) else kgi S v0 21 (fun x48 => kc (fX11_isOf Y n S x48 s38.2.2) (fun q53 => (if q53 = 0 then kgr S v0 13 (fun b60 => kai Y S b60 s38.2.2 (fun x65 => (if x65 = 0 then jX11_earns_113_38 Y n S v0 v1 s38.1 s38.2.1 s38.2.2 else kc (fX11_dueOf Y n S v0 s38.2.2 v1) (fun q76 => (if s38.1 = (-1 : Int32) then jX11_earns_105_38 Y n S v0 v1 s38.2.2 q76 else kc (fX11_isFirst Y n S v0 q76 s38.2.2 s38.2.1 s38.1) (fun q96 => (if q96 = 0 then jX11_earns_113_38 Y n S v0 v1 s38.1 s38.2.1 s38.2.2 else jX11_earns_105_38 Y n S v0 v1 s38.2.2 q76))))))) else jX11_earns_113_38 Y n S v0 v1 s38.1 s38.2.1 s38.2.2)))))
def jX11_earns_202_174 (Y : XS) (n : Nat) (S : PS) (v0 : Nat) (v1 : Int64) (v3 : Int32) (v4 : Int32) (v7 : Int32) : Option ((Int32 × PS) ⊕ PS) :=
  some (.inl (v7 + (1 : Int32), S))
def bX11_earns_174 (Y : XS) (n : Nat) (v0 : Nat) (v1 : Int64) (v3 : Int32) (v4 : Int32) (s174 : (Int32 × PS)) : Option ((Int32 × PS) ⊕ PS) :=
  kc (fX11_people Y n s174.2 v0) (fun q177 => (if q177 ≤ s174.1 then some (.inr s174.2) else kc (fX11_scoreOf Y n s174.2 v0 s174.1 v4) (fun q188 => (if q188 ≤ 0 then jX11_earns_202_174 Y n s174.2 v0 v1 v3 v4 s174.1 else kgr s174.2 v0 25 (fun b195 => kwl Y s174.2 b195 s174.1 v1 (fun S201 => jX11_earns_202_174 Y n S201 v0 v1 v3 v4 s174.1))))))
def jX11_earns_154_25 (Y : XS) (n : Nat) (S : PS) (v0 : Nat) (v1 : Int64) (v4 : Int32) (v5 : Int64) (t0 : Int32) : Option ((Int64 × Int32 × PS) ⊕ PS) :=
  (if t0 = 0 then some (.inl (v1, t0, S)) else kc (fX11_choose Y n S v0 v4) (fun q168 => kc (iter (bX11_earns_174 Y n v0 v5 t0 v4) n ((0 : Int32), q168)) (fun r174 => some (.inl (v5, t0, r174)))))
def jX11_earns_153_25 (Y : XS) (n : Nat) (S : PS) (v0 : Nat) (v1 : Int64) (v4 : Int32) (v5 : Int64) : Option ((Int64 × Int32 × PS) ⊕ PS) :=
  jX11_earns_154_25 Y n S v0 v1 v4 v5 (0 : Int32)
def bX11_earns_25 (Y : XS) (n : Nat) (v0 : Nat) (s25 : (Int64 × Int32 × PS)) : Option ((Int64 × Int32 × PS) ⊕ PS) :=
  (if s25.2.1 = 0 then some (.inr s25.2.2) else kc (iter (bX11_earns_38 Y n s25.2.2 v0 s25.1) n ((-1 : Int32), (0 : Int64), (0 : Int32))) (fun r38 => (if r38.1 = (-1 : Int32) then jX11_earns_153_25 Y n s25.2.2 v0 s25.1 r38.1 r38.2 else kgi s25.2.2 v0 21 (fun x127 => kc (fX11_costsOf Y n s25.2.2 v0 x127) (fun q130 => kc (fX11_costOf Y n s25.2.2 v0 r38.1) (fun q136 => kgr s25.2.2 v0 0 (fun b141 => kai Y s25.2.2 b141 (0 : Int32) (fun x145 => (if x145 < (q130 + q136) then jX11_earns_153_25 Y n s25.2.2 v0 s25.1 r38.1 r38.2 else jX11_earns_154_25 Y n s25.2.2 v0 s25.1 r38.1 r38.2 (1 : Int32))))))))))
def fX11_earns (Y : XS) (n : Nat) (S : PS) (a0 : Nat) : Option (PS) :=
  kc (iter (bX11_earns_2 Y n a0) n ((0 : Int32), S)) (fun r2 => kc (iter (bX11_earns_25 Y n a0) n ((0 : Int64), (1 : Int32), r2)) (fun r25 => some r25))
theorem wbX11_earns_2 {C : CT} {X : XT} (hC : CK C RX11 cX11_earns 10 none 4) (n : Nat) (v0 : Nat) (hTv0 : Ty X.2.1 v0 11) (s2 : (Int32 × PS)) {o : (Int32 × PS) ⊕ PS} (hf : bX11_earns_2 X.2.1 n v0 s2 = some o) (hN : ∀ s', o = .inl s' → UW C X s'.2 2 [(0, .ref (X.1 v0)), (1, .int s'.1)] []) (hO0 : ∀ p', o = .inr p' → UW C X p' 21 [(0, .ref (X.1 v0))] []) : UW C X s2.2 2 [(0, .ref (X.1 v0)), (1, .int s2.1)] [] := by
  unfold bX11_earns_2 at hf
  refine u_iload_n hC dX11_earns_2 1 rfl rfl ?_
  refine u_bipush (v := (24 : Int32)) hC dX11_earns_3 (by decide) ?_
  refine u_icmp_ge (tgt := 21) hC dX11_earns_5 (by decide) hf (fun h5 hf => ?_) (fun h5 hf => ?_)
  · refine u_sub (lv' := [(0, .ref (X.1 v0))]) [0] rfl ?_
    exact hO0 _ (Option.some.inj hf).symm
  · refine u_aload_n hC dX11_earns_8 0 rfl rfl ?_
    refine u_gr hC lf_X11_56 rfl hTv0 dX11_earns_9 hf (fun b9 hTb9 hf => ?_)
    refine u_iload_n hC dX11_earns_12 1 rfl rfl ?_
    refine u_lconst (v := (0 : Int64)) hC dX11_earns_13 (by decide) ?_
    refine u_wl hC hTb9 dX11_earns_14 hf (fun S14 hf => ?_)
    refine u_iinc (v := s2.1 + (1 : Int32)) (lv' := [(1, .int (s2.1 + (1 : Int32))), (0, .ref (X.1 v0))]) hC dX11_earns_15 1 rfl rfl (by decide) rfl ?_
    refine u_goto (tgt := 2) hC dX11_earns_18 (by decide) ?_
    refine u_sub (lv' := [(0, .ref (X.1 v0)), (1, .int (s2.1 + (1 : Int32)))]) [1, 0] rfl ?_
    exact hN _ (Option.some.inj hf).symm
theorem wjX11_earns_113_38 {C : CT} {X : XT} (hC : CK C RX11 cX11_earns 10 none 4) (n : Nat) (S : PS) (v0 : Nat) (v1 : Int64) (v4 : Int32) (v5 : Int64) (v7 : Int32)  (hTv0 : Ty X.2.1 v0 11) {o : (Int32 × Int64 × Int32) ⊕ (Int32 × Int64)} (hf : jX11_earns_113_38 X.2.1 n S v0 v1 v4 v5 v7 = some o) (hN : ∀ s', o = .inl s' → UW C X S 38 [(0, .ref (X.1 v0)), (1, .long v1), (4, .int s'.1), (5, .long s'.2.1), (7, .int s'.2.2)] []) (hO0 : ∀ p', o = .inr p' → UW C X S 119 [(0, .ref (X.1 v0)), (1, .long v1), (4, .int p'.1), (5, .long p'.2)] []) : UW C X S 113 [(0, .ref (X.1 v0)), (1, .long v1), (4, .int v4), (5, .long v5), (7, .int v7)] [] := by
  unfold jX11_earns_113_38 at hf
  refine u_iinc (v := v7 + (1 : Int32)) (lv' := [(7, .int (v7 + (1 : Int32))), (0, .ref (X.1 v0)), (1, .long v1), (4, .int v4), (5, .long v5)]) hC dX11_earns_113 4 rfl rfl (by decide) rfl ?_
  refine u_goto (tgt := 38) hC dX11_earns_116 (by decide) ?_
  refine u_sub (lv' := [(0, .ref (X.1 v0)), (1, .long v1), (4, .int v4), (5, .long v5), (7, .int (v7 + (1 : Int32)))]) [1, 2, 3, 4, 0] rfl ?_
  exact hN _ (Option.some.inj hf).symm
theorem wjX11_earns_105_38 {C : CT} {X : XT} (hC : CK C RX11 cX11_earns 10 none 4) (n : Nat) (S : PS) (v0 : Nat) (v1 : Int64) (v7 : Int32) (v8 : Int64)  (hTv0 : Ty X.2.1 v0 11) {o : (Int32 × Int64 × Int32) ⊕ (Int32 × Int64)} (hf : jX11_earns_105_38 X.2.1 n S v0 v1 v7 v8 = some o) (hN : ∀ s', o = .inl s' → UW C X S 38 [(0, .ref (X.1 v0)), (1, .long v1), (4, .int s'.1), (5, .long s'.2.1), (7, .int s'.2.2)] []) (hO0 : ∀ p', o = .inr p' → UW C X S 119 [(0, .ref (X.1 v0)), (1, .long v1), (4, .int p'.1), (5, .long p'.2)] []) : UW C X S 105 [(0, .ref (X.1 v0)), (1, .long v1), (7, .int v7), (8, .long v8)] [] := by
  unfold jX11_earns_105_38 at hf
  refine u_iload hC dX11_earns_105 2 rfl ?_
  refine u_istore (lv' := [(4, .int v7), (0, .ref (X.1 v0)), (1, .long v1), (7, .int v7), (8, .long v8)]) hC dX11_earns_107 (by decide) rfl ?_
  refine u_lload hC dX11_earns_109 4 rfl ?_
  refine u_lstore (lv' := [(5, .long v8), (4, .int v7), (0, .ref (X.1 v0)), (1, .long v1), (7, .int v7), (8, .long v8)]) hC dX11_earns_111 (by decide) rfl ?_
  refine u_sub (lv' := [(0, .ref (X.1 v0)), (1, .long v1), (4, .int v7), (5, .long v8), (7, .int v7)]) [2, 3, 1, 0, 4] rfl ?_
  exact wjX11_earns_113_38 hC n S v0 v1 v7 v8 v7  hTv0 hf hN hO0
theorem wbX11_earns_38 {C : CT} {X : XT} (hC : CK C RX11 cX11_earns 10 none 4) (n : Nat) (S : PS) (v0 : Nat) (v1 : Int64) (hTv0 : Ty X.2.1 v0 11) (s38 : (Int32 × Int64 × Int32)) {o : (Int32 × Int64 × Int32) ⊕ (Int32 × Int64)} (hf : bX11_earns_38 X.2.1 n S v0 v1 s38 = some o) (hN : ∀ s', o = .inl s' → UW C X S 38 [(0, .ref (X.1 v0)), (1, .long v1), (4, .int s'.1), (5, .long s'.2.1), (7, .int s'.2.2)] []) (hO0 : ∀ p', o = .inr p' → UW C X S 119 [(0, .ref (X.1 v0)), (1, .long v1), (4, .int p'.1), (5, .long p'.2)] []) : UW C X S 38 [(0, .ref (X.1 v0)), (1, .long v1), (4, .int s38.1), (5, .long s38.2.1), (7, .int s38.2.2)] [] := by
  unfold bX11_earns_38 at hf
  refine u_iload hC dX11_earns_38 4 rfl ?_
  refine u_aload_n hC dX11_earns_40 0 rfl rfl ?_
  obtain ⟨q41, hq41, hf⟩ := kc_some hf
  refine u_callV hC (ctX11_many (cL C) hC.tr (cG C) X.1 X.2.1 n S v0 hTv0 hq41) lk_X11_77 rfl hTv0 (by decide) rfl (by decide) (by decide) rfl rfl (Nat.le_of_ble_eq_true rfl) dX11_earns_41 ?_
  refine u_icmp_ge (tgt := 119) hC dX11_earns_44 (by decide) hf (fun h44 hf => ?_) (fun h44 hf => ?_)
  · refine u_sub (lv' := [(0, .ref (X.1 v0)), (1, .long v1), (4, .int s38.1), (5, .long s38.2.1)]) [0, 1, 2, 3] rfl ?_
    exact hO0 _ (Option.some.inj hf).symm
  · refine u_aload_n hC dX11_earns_47 0 rfl rfl ?_
    refine u_gi hC lf_X11_154 rfl hTv0 dX11_earns_48 hf (fun x48 hf => ?_)
    refine u_iload hC dX11_earns_51 4 rfl ?_
    obtain ⟨q53, hq53, hf⟩ := kc_some hf
    refine u_callS hC (ctX11_isOf (cL C) hC.tr (cG C) X.1 X.2.1 n S x48 s38.2.2  hq53) lk_X11_147 (by decide) (by decide) rfl rfl (Nat.le_of_ble_eq_true rfl) dX11_earns_53 ?_
    refine u_if_ne (tgt := 113) hC dX11_earns_56 (by decide) hf (fun h56 hf => ?_) (fun h56 hf => ?_)
    · exact wjX11_earns_113_38 hC n S v0 v1 s38.1 s38.2.1 s38.2.2  hTv0 hf hN hO0
    · refine u_aload_n hC dX11_earns_59 0 rfl rfl ?_
      refine u_gr hC lf_X11_28 rfl hTv0 dX11_earns_60 hf (fun b60 hTb60 hf => ?_)
      refine u_iload hC dX11_earns_63 4 rfl ?_
      refine u_ai hC hTb60 dX11_earns_65 hf (fun x65 hf => ?_)
      refine u_if_ne (tgt := 72) hC dX11_earns_66 (by decide) hf (fun h66 hf => ?_) (fun h66 hf => ?_)
      · refine u_aload_n hC dX11_earns_72 0 rfl rfl ?_
        refine u_iload hC dX11_earns_73 4 rfl ?_
        refine u_lload_n hC dX11_earns_75 1 rfl rfl ?_
        obtain ⟨q76, hq76, hf⟩ := kc_some hf
        refine u_callV hC (ctX11_dueOf (cL C) hC.tr (cG C) X.1 X.2.1 n S v0 s38.2.2 v1 hTv0 hq76) lk_X11_221 rfl hTv0 (by decide) rfl (by decide) (by decide) rfl rfl (Nat.le_of_ble_eq_true rfl) dX11_earns_76 ?_
        refine u_lstore (lv' := [(8, .long q76), (0, .ref (X.1 v0)), (1, .long v1), (4, .int s38.1), (5, .long s38.2.1), (7, .int s38.2.2)]) hC dX11_earns_79 (by decide) rfl ?_
        refine u_iload hC dX11_earns_81 3 rfl ?_
        refine u_iconst (v := (-1 : Int32)) hC dX11_earns_83 (by decide) ?_
        refine u_icmp_eq (tgt := 105) hC dX11_earns_84 (by decide) hf (fun h84 hf => ?_) (fun h84 hf => ?_)
        · refine u_sub (lv' := [(0, .ref (X.1 v0)), (1, .long v1), (7, .int s38.2.2), (8, .long q76)]) [1, 2, 5, 0] rfl ?_
          exact wjX11_earns_105_38 hC n S v0 v1 s38.2.2 q76  hTv0 hf hN hO0
        · refine u_aload_n hC dX11_earns_87 1 rfl rfl ?_
          refine u_lload hC dX11_earns_88 0 rfl ?_
          refine u_iload hC dX11_earns_90 5 rfl ?_
          refine u_lload hC dX11_earns_92 4 rfl ?_
          refine u_iload hC dX11_earns_94 3 rfl ?_
          obtain ⟨q96, hq96, hf⟩ := kc_some hf
          refine u_callV hC (ctX11_isFirst (cL C) hC.tr (cG C) X.1 X.2.1 n S v0 q76 s38.2.2 s38.2.1 s38.1 hTv0 hq96) lk_X11_182 rfl hTv0 (by decide) rfl (by decide) (by decide) rfl rfl (Nat.le_of_ble_eq_true rfl) dX11_earns_96 ?_
          refine u_if_ne (tgt := 105) hC dX11_earns_99 (by decide) hf (fun h99 hf => ?_) (fun h99 hf => ?_)
          · refine u_sub (lv' := [(0, .ref (X.1 v0)), (1, .long v1), (7, .int s38.2.2), (8, .long q76)]) [1, 2, 5, 0] rfl ?_
            exact wjX11_earns_105_38 hC n S v0 v1 s38.2.2 q76  hTv0 hf hN hO0
          · refine u_goto (tgt := 113) hC dX11_earns_102 (by decide) ?_
            refine u_sub (lv' := [(0, .ref (X.1 v0)), (1, .long v1), (4, .int s38.1), (5, .long s38.2.1), (7, .int s38.2.2)]) [1, 2, 3, 4, 5] rfl ?_
            exact wjX11_earns_113_38 hC n S v0 v1 s38.1 s38.2.1 s38.2.2  hTv0 hf hN hO0
      · refine u_goto (tgt := 113) hC dX11_earns_69 (by decide) ?_
        exact wjX11_earns_113_38 hC n S v0 v1 s38.1 s38.2.1 s38.2.2  hTv0 hf hN hO0
theorem wjX11_earns_202_174 {C : CT} {X : XT} (hC : CK C RX11 cX11_earns 10 none 4) (n : Nat) (S : PS) (v0 : Nat) (v1 : Int64) (v3 : Int32) (v4 : Int32) (v7 : Int32)  (hTv0 : Ty X.2.1 v0 11) {o : (Int32 × PS) ⊕ PS} (hf : jX11_earns_202_174 X.2.1 n S v0 v1 v3 v4 v7 = some o) (hN : ∀ s', o = .inl s' → UW C X s'.2 174 [(0, .ref (X.1 v0)), (1, .long v1), (3, .int v3), (4, .int v4), (7, .int s'.1)] []) (hO0 : ∀ p', o = .inr p' → UW C X p' 208 [(0, .ref (X.1 v0)), (1, .long v1), (3, .int v3)] []) : UW C X S 202 [(0, .ref (X.1 v0)), (1, .long v1), (3, .int v3), (4, .int v4), (7, .int v7)] [] := by
  unfold jX11_earns_202_174 at hf
  refine u_iinc (v := v7 + (1 : Int32)) (lv' := [(7, .int (v7 + (1 : Int32))), (0, .ref (X.1 v0)), (1, .long v1), (3, .int v3), (4, .int v4)]) hC dX11_earns_202 4 rfl rfl (by decide) rfl ?_
  refine u_goto (tgt := 174) hC dX11_earns_205 (by decide) ?_
  refine u_sub (lv' := [(0, .ref (X.1 v0)), (1, .long v1), (3, .int v3), (4, .int v4), (7, .int (v7 + (1 : Int32)))]) [1, 2, 3, 4, 0] rfl ?_
  exact hN _ (Option.some.inj hf).symm
theorem wbX11_earns_174 {C : CT} {X : XT} (hC : CK C RX11 cX11_earns 10 none 4) (n : Nat) (v0 : Nat) (v1 : Int64) (v3 : Int32) (v4 : Int32) (hTv0 : Ty X.2.1 v0 11) (s174 : (Int32 × PS)) {o : (Int32 × PS) ⊕ PS} (hf : bX11_earns_174 X.2.1 n v0 v1 v3 v4 s174 = some o) (hN : ∀ s', o = .inl s' → UW C X s'.2 174 [(0, .ref (X.1 v0)), (1, .long v1), (3, .int v3), (4, .int v4), (7, .int s'.1)] []) (hO0 : ∀ p', o = .inr p' → UW C X p' 208 [(0, .ref (X.1 v0)), (1, .long v1), (3, .int v3)] []) : UW C X s174.2 174 [(0, .ref (X.1 v0)), (1, .long v1), (3, .int v3), (4, .int v4), (7, .int s174.1)] [] := by
  unfold bX11_earns_174 at hf
  refine u_iload hC dX11_earns_174 4 rfl ?_
  refine u_aload_n hC dX11_earns_176 0 rfl rfl ?_
  obtain ⟨q177, hq177, hf⟩ := kc_some hf
  refine u_callV hC (ctX11_people (cL C) hC.tr (cG C) X.1 X.2.1 n s174.2 v0 hTv0 hq177) lk_X11_85 rfl hTv0 (by decide) rfl (by decide) (by decide) rfl rfl (Nat.le_of_ble_eq_true rfl) dX11_earns_177 ?_
  refine u_icmp_ge (tgt := 208) hC dX11_earns_180 (by decide) hf (fun h180 hf => ?_) (fun h180 hf => ?_)
  · refine u_sub (lv' := [(0, .ref (X.1 v0)), (1, .long v1), (3, .int v3)]) [0, 1, 2] rfl ?_
    exact hO0 _ (Option.some.inj hf).symm
  · refine u_aload_n hC dX11_earns_183 0 rfl rfl ?_
    refine u_iload hC dX11_earns_184 4 rfl ?_
    refine u_iload hC dX11_earns_186 3 rfl ?_
    obtain ⟨q188, hq188, hf⟩ := kc_some hf
    refine u_callV hC (ctX11_scoreOf (cL C) hC.tr (cG C) X.1 X.2.1 n s174.2 v0 s174.1 v4 hTv0 hq188) lk_X11_88 rfl hTv0 (by decide) rfl (by decide) (by decide) rfl rfl (Nat.le_of_ble_eq_true rfl) dX11_earns_188 ?_
    refine u_if_le (tgt := 202) hC dX11_earns_191 (by decide) hf (fun h191 hf => ?_) (fun h191 hf => ?_)
    · exact wjX11_earns_202_174 hC n s174.2 v0 v1 v3 v4 s174.1  hTv0 hf hN hO0
    · refine u_aload_n hC dX11_earns_194 0 rfl rfl ?_
      refine u_gr hC lf_X11_56 rfl hTv0 dX11_earns_195 hf (fun b195 hTb195 hf => ?_)
      refine u_iload hC dX11_earns_198 4 rfl ?_
      refine u_lload_n hC dX11_earns_200 1 rfl rfl ?_
      refine u_wl hC hTb195 dX11_earns_201 hf (fun S201 hf => ?_)
      exact wjX11_earns_202_174 hC n S201 v0 v1 v3 v4 s174.1  hTv0 hf hN hO0
theorem wjX11_earns_154_25 {C : CT} {X : XT} (hC : CK C RX11 cX11_earns 10 none 4) (n : Nat) (S : PS) (v0 : Nat) (v1 : Int64) (v4 : Int32) (v5 : Int64) (t0 : Int32)  (hTv0 : Ty X.2.1 v0 11) {o : (Int64 × Int32 × PS) ⊕ PS} (hf : jX11_earns_154_25 X.2.1 n S v0 v1 v4 v5 t0 = some o) (hN : ∀ s', o = .inl s' → UW C X s'.2.2 25 [(0, .ref (X.1 v0)), (1, .long s'.1), (3, .int s'.2.1)] []) (hO0 : ∀ p', o = .inr p' → UW C X p' 211 [] []) : UW C X S 154 [(0, .ref (X.1 v0)), (1, .long v1), (4, .int v4), (5, .long v5)] [.int t0] := by
  unfold jX11_earns_154_25 at hf
  refine u_istore_n (lv' := [(3, .int t0), (0, .ref (X.1 v0)), (1, .long v1), (4, .int v4), (5, .long v5)]) hC dX11_earns_154 rfl (by decide) rfl ?_
  refine u_iload_n hC dX11_earns_155 0 rfl rfl ?_
  refine u_if_ne (tgt := 162) hC dX11_earns_156 (by decide) hf (fun h156 hf => ?_) (fun h156 hf => ?_)
  · refine u_lload hC dX11_earns_162 4 rfl ?_
    refine u_lstore_n (lv' := [(1, .long v5), (3, .int t0), (0, .ref (X.1 v0)), (4, .int v4), (5, .long v5)]) hC dX11_earns_164 rfl (by decide) rfl ?_
    refine u_aload_n hC dX11_earns_165 2 rfl rfl ?_
    refine u_iload hC dX11_earns_166 3 rfl ?_
    obtain ⟨q168, hq168, hf⟩ := kc_some hf
    refine u_callV hC (ctX11_choose (cL C) hC.tr (cG C) X.1 X.2.1 n S v0 v4 hTv0 hq168) lk_X11_169 rfl hTv0 (by decide) rfl (by decide) (by decide) rfl rfl (Nat.le_of_ble_eq_true rfl) dX11_earns_168 ?_
    refine u_iconst (v := (0 : Int32)) hC dX11_earns_171 (by decide) ?_
    refine u_istore (lv' := [(7, .int (0 : Int32)), (1, .long v5), (3, .int t0), (0, .ref (X.1 v0)), (4, .int v4), (5, .long v5)]) hC dX11_earns_172 (by decide) rfl ?_
    obtain ⟨r174, hr174, hf⟩ := kc_some hf
    have hk174 : UW C X r174 208 [(0, .ref (X.1 v0)), (1, .long v5), (3, .int t0)] [] := by
      refine u_goto (tgt := 25) hC dX11_earns_208 (by decide) ?_
      exact hN _ (Option.some.inj hf).symm
    refine u_sub (lv' := [(0, .ref (X.1 v0)), (1, .long v5), (3, .int t0), (4, .int v4), (7, .int (0 : Int32))]) [3, 1, 2, 4, 0] rfl ?_
    refine iter_ind (P := fun s174 => UW C X s174.2 174 [(0, .ref (X.1 v0)), (1, .long v5), (3, .int t0), (4, .int v4), (7, .int s174.1)] []) (fun s174 o' hb hin hout => ?_) n ((0 : Int32), q168) hr174
    exact wbX11_earns_174 hC n v0 v5 t0 v4 hTv0 s174 hb hin (fun p e => by rw [hout p e]; exact hk174)
  · refine u_goto (tgt := 25) hC dX11_earns_159 (by decide) ?_
    refine u_sub (lv' := [(0, .ref (X.1 v0)), (1, .long v1), (3, .int t0)]) [1, 2, 0] rfl ?_
    exact hN _ (Option.some.inj hf).symm
theorem wjX11_earns_153_25 {C : CT} {X : XT} (hC : CK C RX11 cX11_earns 10 none 4) (n : Nat) (S : PS) (v0 : Nat) (v1 : Int64) (v4 : Int32) (v5 : Int64)  (hTv0 : Ty X.2.1 v0 11) {o : (Int64 × Int32 × PS) ⊕ PS} (hf : jX11_earns_153_25 X.2.1 n S v0 v1 v4 v5 = some o) (hN : ∀ s', o = .inl s' → UW C X s'.2.2 25 [(0, .ref (X.1 v0)), (1, .long s'.1), (3, .int s'.2.1)] []) (hO0 : ∀ p', o = .inr p' → UW C X p' 211 [] []) : UW C X S 153 [(0, .ref (X.1 v0)), (1, .long v1), (4, .int v4), (5, .long v5)] [] := by
  unfold jX11_earns_153_25 at hf
  refine u_iconst (v := (0 : Int32)) hC dX11_earns_153 (by decide) ?_
  exact wjX11_earns_154_25 hC n S v0 v1 v4 v5 (0 : Int32)  hTv0 hf hN hO0
theorem wbX11_earns_25 {C : CT} {X : XT} (hC : CK C RX11 cX11_earns 10 none 4) (n : Nat) (v0 : Nat) (hTv0 : Ty X.2.1 v0 11) (s25 : (Int64 × Int32 × PS)) {o : (Int64 × Int32 × PS) ⊕ PS} (hf : bX11_earns_25 X.2.1 n v0 s25 = some o) (hN : ∀ s', o = .inl s' → UW C X s'.2.2 25 [(0, .ref (X.1 v0)), (1, .long s'.1), (3, .int s'.2.1)] []) (hO0 : ∀ p', o = .inr p' → UW C X p' 211 [] []) : UW C X s25.2.2 25 [(0, .ref (X.1 v0)), (1, .long s25.1), (3, .int s25.2.1)] [] := by
  unfold bX11_earns_25 at hf
  refine u_iload_n hC dX11_earns_25 2 rfl rfl ?_
  refine u_if_eq (tgt := 211) hC dX11_earns_26 (by decide) hf (fun h26 hf => ?_) (fun h26 hf => ?_)
  · refine u_sub (lv' := []) [] rfl ?_
    exact hO0 _ (Option.some.inj hf).symm
  · refine u_iconst (v := (-1 : Int32)) hC dX11_earns_29 (by decide) ?_
    refine u_istore (lv' := [(4, .int (-1 : Int32)), (0, .ref (X.1 v0)), (1, .long s25.1), (3, .int s25.2.1)]) hC dX11_earns_30 (by decide) rfl ?_
    refine u_lconst (v := (0 : Int64)) hC dX11_earns_32 (by decide) ?_
    refine u_lstore (lv' := [(5, .long (0 : Int64)), (4, .int (-1 : Int32)), (0, .ref (X.1 v0)), (1, .long s25.1), (3, .int s25.2.1)]) hC dX11_earns_33 (by decide) rfl ?_
    refine u_iconst (v := (0 : Int32)) hC dX11_earns_35 (by decide) ?_
    refine u_istore (lv' := [(7, .int (0 : Int32)), (5, .long (0 : Int64)), (4, .int (-1 : Int32)), (0, .ref (X.1 v0)), (1, .long s25.1), (3, .int s25.2.1)]) hC dX11_earns_36 (by decide) rfl ?_
    obtain ⟨r38, hr38, hf⟩ := kc_some hf
    have hk38 : UW C X s25.2.2 119 [(0, .ref (X.1 v0)), (1, .long s25.1), (4, .int r38.1), (5, .long r38.2)] [] := by
      refine u_iload hC dX11_earns_119 2 rfl ?_
      refine u_iconst (v := (-1 : Int32)) hC dX11_earns_121 (by decide) ?_
      refine u_icmp_eq (tgt := 153) hC dX11_earns_122 (by decide) hf (fun h122 hf => ?_) (fun h122 hf => ?_)
      · exact wjX11_earns_153_25 hC n s25.2.2 v0 s25.1 r38.1 r38.2  hTv0 hf hN hO0
      · refine u_aload_n hC dX11_earns_125 0 rfl rfl ?_
        refine u_aload_n hC dX11_earns_126 0 rfl rfl ?_
        refine u_gi hC lf_X11_154 rfl hTv0 dX11_earns_127 hf (fun x127 hf => ?_)
        obtain ⟨q130, hq130, hf⟩ := kc_some hf
        refine u_callV hC (ctX11_costsOf (cL C) hC.tr (cG C) X.1 X.2.1 n s25.2.2 v0 x127 hTv0 hq130) lk_X11_196 rfl hTv0 (by decide) rfl (by decide) (by decide) rfl rfl (Nat.le_of_ble_eq_true rfl) dX11_earns_130 ?_
        refine u_aload_n hC dX11_earns_133 0 rfl rfl ?_
        refine u_iload hC dX11_earns_134 2 rfl ?_
        obtain ⟨q136, hq136, hf⟩ := kc_some hf
        refine u_callV hC (ctX11_costOf (cL C) hC.tr (cG C) X.1 X.2.1 n s25.2.2 v0 r38.1 hTv0 hq136) lk_X11_134 rfl hTv0 (by decide) rfl (by decide) (by decide) rfl rfl (Nat.le_of_ble_eq_true rfl) dX11_earns_136 ?_
        refine u_iadd hC dX11_earns_139 ?_
        refine u_aload_n hC dX11_earns_140 0 rfl rfl ?_
        refine u_gr hC lf_X11_9 rfl hTv0 dX11_earns_141 hf (fun b141 hTb141 hf => ?_)
        refine u_iconst (v := (0 : Int32)) hC dX11_earns_144 (by decide) ?_
        refine u_ai hC hTb141 dX11_earns_145 hf (fun x145 hf => ?_)
        refine u_icmp_gt (tgt := 153) hC dX11_earns_146 (by decide) hf (fun h146 hf => ?_) (fun h146 hf => ?_)
        · exact wjX11_earns_153_25 hC n s25.2.2 v0 s25.1 r38.1 r38.2  hTv0 hf hN hO0
        · refine u_iconst (v := (1 : Int32)) hC dX11_earns_149 (by decide) ?_
          refine u_goto (tgt := 154) hC dX11_earns_150 (by decide) ?_
          exact wjX11_earns_154_25 hC n s25.2.2 v0 s25.1 r38.1 r38.2 (1 : Int32)  hTv0 hf hN hO0
    refine u_sub (lv' := [(0, .ref (X.1 v0)), (1, .long s25.1), (4, .int (-1 : Int32)), (5, .long (0 : Int64)), (7, .int (0 : Int32))]) [3, 4, 2, 1, 0] rfl ?_
    refine iter_ind (P := fun s38 => UW C X s25.2.2 38 [(0, .ref (X.1 v0)), (1, .long s25.1), (4, .int s38.1), (5, .long s38.2.1), (7, .int s38.2.2)] []) (fun s38 o' hb hin hout => ?_) n ((-1 : Int32), (0 : Int64), (0 : Int32)) hr38
    exact wbX11_earns_38 hC n s25.2.2 v0 s25.1 hTv0 s38 hb hin (fun p e => by rw [hout p e]; exact hk38)
theorem wX11_earns {C : CT} {X : XT} (hC : CK C RX11 cX11_earns 10 none 4) (n : Nat) (S : PS) (a0 : Nat) (hTa0 : Ty X.2.1 a0 11) {o : PS} (hf : fX11_earns X.2.1 n S a0 = some o) (hR : Rt C X cX11_earns none none o) : UW C X S 0 [(0, .ref (X.1 a0))] [] := by
  unfold fX11_earns at hf
  refine u_iconst (v := (0 : Int32)) hC dX11_earns_0 (by decide) ?_
  refine u_istore_n (lv' := [(1, .int (0 : Int32)), (0, .ref (X.1 a0))]) hC dX11_earns_1 rfl (by decide) rfl ?_
  obtain ⟨r2, hr2, hf⟩ := kc_some hf
  have hk2 : UW C X r2 21 [(0, .ref (X.1 a0))] [] := by
    refine u_lconst (v := (0 : Int64)) hC dX11_earns_21 (by decide) ?_
    refine u_lstore_n (lv' := [(1, .long (0 : Int64)), (0, .ref (X.1 a0))]) hC dX11_earns_22 rfl (by decide) rfl ?_
    refine u_iconst (v := (1 : Int32)) hC dX11_earns_23 (by decide) ?_
    refine u_istore_n (lv' := [(3, .int (1 : Int32)), (1, .long (0 : Int64)), (0, .ref (X.1 a0))]) hC dX11_earns_24 rfl (by decide) rfl ?_
    obtain ⟨r25, hr25, hf⟩ := kc_some hf
    have hk25 : UW C X r25 211 [] [] := by
      cases hf
      exact hR _ _ dX11_earns_211 trivial
    refine u_sub (lv' := [(0, .ref (X.1 a0)), (1, .long (0 : Int64)), (3, .int (1 : Int32))]) [2, 1, 0] rfl ?_
    refine iter_ind (P := fun s25 => UW C X s25.2.2 25 [(0, .ref (X.1 a0)), (1, .long s25.1), (3, .int s25.2.1)] []) (fun s25 o' hb hin hout => ?_) n ((0 : Int64), (1 : Int32), r2) hr25
    exact wbX11_earns_25 hC n a0 hTa0 s25 hb hin (fun p e => by rw [hout p e]; exact hk25)
  refine u_sub (lv' := [(0, .ref (X.1 a0)), (1, .int (0 : Int32))]) [1, 0] rfl ?_
  refine iter_ind (P := fun s2 => UW C X s2.2 2 [(0, .ref (X.1 a0)), (1, .int s2.1)] []) (fun s2 o' hb hin hout => ?_) n ((0 : Int32), S) hr2
  exact wbX11_earns_2 hC n a0 hTa0 s2 hb hin (fun p e => by rw [hout p e]; exact hk2)
theorem ctX11_earns (l : Launch) (hl : l.stackTraces = false) (G : GT) (ρ : Nat → Nat) (Y : XS) (n : Nat) (S : PS) (a0 : Nat) (hTa0 : Ty Y a0 11) {o : PS} (hf : fX11_earns Y n S a0 = some o) : Mt l G yX11_earns cX11_earns 10 none 4 ρ Y [.ref (ρ a0)] S none o :=
  Mt_of hl (by decide) (Nat.le_of_ble_eq_true rfl) (fun C _ _ hC hR => wX11_earns (X := (ρ, Y, 0, 0)) hC n S a0 hTa0 hf hR)
-- X11_count
theorem dX11_count_0 : decode cX11_count 0 = .ok (.aload_n 0, 1) := by decide +kernel
theorem dX11_count_1 : decode cX11_count 1 = .ok (.iconst 0, 1) := by decide +kernel
theorem dX11_count_2 : decode cX11_count 2 = .ok (.putfield 70, 3) := by decide +kernel
theorem dX11_count_5 : decode cX11_count 5 = .ok (.iload_n 1, 1) := by decide +kernel
theorem dX11_count_6 : decode cX11_count 6 = .ok (.tableswitch 86 0 6 #[42, 47, 52, 59, 67, 72, 77], 42) := by decide +kernel
theorem dX11_count_48 : decode cX11_count 48 = .ok (.aload_n 0, 1) := by decide +kernel
theorem dX11_count_49 : decode cX11_count 49 = .ok (.invokevirtual 77, 3) := by decide +kernel
theorem dX11_count_52 : decode cX11_count 52 = .ok (.ireturn, 1) := by decide +kernel
theorem dX11_count_53 : decode cX11_count 53 = .ok (.aload_n 0, 1) := by decide +kernel
theorem dX11_count_54 : decode cX11_count 54 = .ok (.invokevirtual 85, 3) := by decide +kernel
theorem dX11_count_57 : decode cX11_count 57 = .ok (.ireturn, 1) := by decide +kernel
theorem dX11_count_58 : decode cX11_count 58 = .ok (.aload_n 0, 1) := by decide +kernel
theorem dX11_count_59 : decode cX11_count 59 = .ok (.getfield 9, 3) := by decide +kernel
theorem dX11_count_62 : decode cX11_count 62 = .ok (.iconst 0, 1) := by decide +kernel
theorem dX11_count_63 : decode cX11_count 63 = .ok (.iaload, 1) := by decide +kernel
theorem dX11_count_64 : decode cX11_count 64 = .ok (.ireturn, 1) := by decide +kernel
theorem dX11_count_65 : decode cX11_count 65 = .ok (.aload_n 0, 1) := by decide +kernel
theorem dX11_count_66 : decode cX11_count 66 = .ok (.sipush 4095, 3) := by decide +kernel
theorem dX11_count_69 : decode cX11_count 69 = .ok (.invokevirtual 196, 3) := by decide +kernel
theorem dX11_count_72 : decode cX11_count 72 = .ok (.ireturn, 1) := by decide +kernel
theorem dX11_count_73 : decode cX11_count 73 = .ok (.aload_n 0, 1) := by decide +kernel
theorem dX11_count_74 : decode cX11_count 74 = .ok (.getfield 246, 3) := by decide +kernel
theorem dX11_count_77 : decode cX11_count 77 = .ok (.ireturn, 1) := by decide +kernel
theorem dX11_count_78 : decode cX11_count 78 = .ok (.aload_n 0, 1) := by decide +kernel
theorem dX11_count_79 : decode cX11_count 79 = .ok (.getfield 249, 3) := by decide +kernel
theorem dX11_count_82 : decode cX11_count 82 = .ok (.ireturn, 1) := by decide +kernel
theorem dX11_count_83 : decode cX11_count 83 = .ok (.aload_n 0, 1) := by decide +kernel
theorem dX11_count_84 : decode cX11_count 84 = .ok (.getfield 9, 3) := by decide +kernel
theorem dX11_count_87 : decode cX11_count 87 = .ok (.sipush 375, 3) := by decide +kernel
theorem dX11_count_90 : decode cX11_count 90 = .ok (.iaload, 1) := by decide +kernel
theorem dX11_count_91 : decode cX11_count 91 = .ok (.ireturn, 1) := by decide +kernel
theorem dX11_count_92 : decode cX11_count 92 = .ok (.aload_n 0, 1) := by decide +kernel
theorem dX11_count_93 : decode cX11_count 93 = .ok (.iconst 1, 1) := by decide +kernel
theorem dX11_count_94 : decode cX11_count 94 = .ok (.invokevirtual 252, 3) := by decide +kernel
theorem dX11_count_97 : decode cX11_count 97 = .ok (.ireturn, 1) := by decide +kernel
def fX11_count (Y : XS) (n : Nat) (S : PS) (a0 : Nat) (x1_ : Int32) : Option (Int32 × PS) :=
  kpi S a0 7 (0 : Int32) (fun S2 => (if x1_ = (0 : Int32) then kc (fX11_many Y n S2 a0) (fun q49 => some (q49, S2)) else (if x1_ = (1 : Int32) then kc (fX11_people Y n S2 a0) (fun q54 => some (q54, S2)) else (if x1_ = (2 : Int32) then kgr S2 a0 0 (fun b59 => kai Y S2 b59 (0 : Int32) (fun x63 => some (x63, S2))) else (if x1_ = (3 : Int32) then kc (fX11_costsOf Y n S2 a0 (4095 : Int32)) (fun q69 => some (q69, S2)) else (if x1_ = (4 : Int32) then kgi S2 a0 6 (fun x74 => some (x74, S2)) else (if x1_ = (5 : Int32) then kgi S2 a0 28 (fun x79 => some (x79, S2)) else (if x1_ = (6 : Int32) then kgr S2 a0 0 (fun b84 => kai Y S2 b84 (375 : Int32) (fun x90 => some (x90, S2))) else kc (fX11_fail Y n S2 a0 (1 : Int32)) (fun q94 => some (q94.1, q94.2))))))))))
theorem wX11_count {C : CT} {X : XT} (hC : CK C RX11 cX11_count 2 (some .int) 3) (n : Nat) (S : PS) (a0 : Nat) (x1_ : Int32) (hTa0 : Ty X.2.1 a0 11) {o : Int32 × PS} (hf : fX11_count X.2.1 n S a0 x1_ = some o) (hR : Rt C X cX11_count (some .int) (some (.int o.1)) o.2) : UW C X S 0 [(0, .ref (X.1 a0)), (1, .int x1_)] [] := by
  unfold fX11_count at hf
  refine u_aload_n hC dX11_count_0 0 rfl rfl ?_
  refine u_iconst (v := (0 : Int32)) hC dX11_count_1 (by decide) ?_
  refine u_pi hC lf_X11_70 rfl rfl rfl hTa0 dX11_count_2 hf (fun S2 hf => ?_)
  refine u_iload_n hC dX11_count_5 1 rfl rfl ?_
  by_cases hs6_0 : x1_ = (0 : Int32)
  · rw [if_pos hs6_0] at hf
    refine u_tin (tgt := 48) hC dX11_count_6 (by rw [hs6_0]; decide) (by rw [hs6_0]; decide) (by rw [hs6_0]; rfl) (by decide) ?_
    refine u_aload_n hC dX11_count_48 0 rfl rfl ?_
    obtain ⟨q49, hq49, hf⟩ := kc_some hf
    refine u_callV hC (ctX11_many (cL C) hC.tr (cG C) X.1 X.2.1 n S2 a0 hTa0 hq49) lk_X11_77 rfl hTa0 (by decide) rfl (by decide) (by decide) rfl rfl (Nat.le_of_ble_eq_true rfl) dX11_count_49 ?_
    cases hf
    exact hR _ _ dX11_count_52 trivial
  rw [if_neg hs6_0] at hf
  by_cases hs6_1 : x1_ = (1 : Int32)
  · rw [if_pos hs6_1] at hf
    refine u_tin (tgt := 53) hC dX11_count_6 (by rw [hs6_1]; decide) (by rw [hs6_1]; decide) (by rw [hs6_1]; rfl) (by decide) ?_
    refine u_aload_n hC dX11_count_53 0 rfl rfl ?_
    obtain ⟨q54, hq54, hf⟩ := kc_some hf
    refine u_callV hC (ctX11_people (cL C) hC.tr (cG C) X.1 X.2.1 n S2 a0 hTa0 hq54) lk_X11_85 rfl hTa0 (by decide) rfl (by decide) (by decide) rfl rfl (Nat.le_of_ble_eq_true rfl) dX11_count_54 ?_
    cases hf
    exact hR _ _ dX11_count_57 trivial
  rw [if_neg hs6_1] at hf
  by_cases hs6_2 : x1_ = (2 : Int32)
  · rw [if_pos hs6_2] at hf
    refine u_tin (tgt := 58) hC dX11_count_6 (by rw [hs6_2]; decide) (by rw [hs6_2]; decide) (by rw [hs6_2]; rfl) (by decide) ?_
    refine u_aload_n hC dX11_count_58 0 rfl rfl ?_
    refine u_gr hC lf_X11_9 rfl hTa0 dX11_count_59 hf (fun b59 hTb59 hf => ?_)
    refine u_iconst (v := (0 : Int32)) hC dX11_count_62 (by decide) ?_
    refine u_ai hC hTb59 dX11_count_63 hf (fun x63 hf => ?_)
    cases hf
    exact hR _ _ dX11_count_64 trivial
  rw [if_neg hs6_2] at hf
  by_cases hs6_3 : x1_ = (3 : Int32)
  · rw [if_pos hs6_3] at hf
    refine u_tin (tgt := 65) hC dX11_count_6 (by rw [hs6_3]; decide) (by rw [hs6_3]; decide) (by rw [hs6_3]; rfl) (by decide) ?_
    refine u_aload_n hC dX11_count_65 0 rfl rfl ?_
    refine u_sipush (v := (4095 : Int32)) hC dX11_count_66 (by decide) ?_
    obtain ⟨q69, hq69, hf⟩ := kc_some hf
    refine u_callV hC (ctX11_costsOf (cL C) hC.tr (cG C) X.1 X.2.1 n S2 a0 (4095 : Int32) hTa0 hq69) lk_X11_196 rfl hTa0 (by decide) rfl (by decide) (by decide) rfl rfl (Nat.le_of_ble_eq_true rfl) dX11_count_69 ?_
    cases hf
    exact hR _ _ dX11_count_72 trivial
  rw [if_neg hs6_3] at hf
  by_cases hs6_4 : x1_ = (4 : Int32)
  · rw [if_pos hs6_4] at hf
    refine u_tin (tgt := 73) hC dX11_count_6 (by rw [hs6_4]; decide) (by rw [hs6_4]; decide) (by rw [hs6_4]; rfl) (by decide) ?_
    refine u_aload_n hC dX11_count_73 0 rfl rfl ?_
    refine u_gi hC lf_X11_246 rfl hTa0 dX11_count_74 hf (fun x74 hf => ?_)
    cases hf
    exact hR _ _ dX11_count_77 trivial
  rw [if_neg hs6_4] at hf
  by_cases hs6_5 : x1_ = (5 : Int32)
  · rw [if_pos hs6_5] at hf
    refine u_tin (tgt := 78) hC dX11_count_6 (by rw [hs6_5]; decide) (by rw [hs6_5]; decide) (by rw [hs6_5]; rfl) (by decide) ?_
    refine u_aload_n hC dX11_count_78 0 rfl rfl ?_
    refine u_gi hC lf_X11_249 rfl hTa0 dX11_count_79 hf (fun x79 hf => ?_)
    cases hf
    exact hR _ _ dX11_count_82 trivial
  rw [if_neg hs6_5] at hf
  by_cases hs6_6 : x1_ = (6 : Int32)
  · rw [if_pos hs6_6] at hf
    refine u_tin (tgt := 83) hC dX11_count_6 (by rw [hs6_6]; decide) (by rw [hs6_6]; decide) (by rw [hs6_6]; rfl) (by decide) ?_
    refine u_aload_n hC dX11_count_83 0 rfl rfl ?_
    refine u_gr hC lf_X11_9 rfl hTa0 dX11_count_84 hf (fun b84 hTb84 hf => ?_)
    refine u_sipush (v := (375 : Int32)) hC dX11_count_87 (by decide) ?_
    refine u_ai hC hTb84 dX11_count_90 hf (fun x90 hf => ?_)
    cases hf
    exact hR _ _ dX11_count_91 trivial
  rw [if_neg hs6_6] at hf
  have hz6_0 := lv_neT (a := 0) hs6_0 (by decide)
  have hz6_1 := lv_neT (a := 1) hs6_1 (by decide)
  have hz6_2 := lv_neT (a := 2) hs6_2 (by decide)
  have hz6_3 := lv_neT (a := 3) hs6_3 (by decide)
  have hz6_4 := lv_neT (a := 4) hs6_4 (by decide)
  have hz6_5 := lv_neT (a := 5) hs6_5 (by decide)
  have hz6_6 := lv_neT (a := 6) hs6_6 (by decide)
  refine u_tout (tgt := 92) hC dX11_count_6 (by omega) (by decide) ?_
  refine u_aload_n hC dX11_count_92 0 rfl rfl ?_
  refine u_iconst (v := (1 : Int32)) hC dX11_count_93 (by decide) ?_
  obtain ⟨q94, hq94, hf⟩ := kc_some hf
  refine u_callV hC (ctX11_fail (cL C) hC.tr (cG C) X.1 X.2.1 n S2 a0 (1 : Int32) hTa0 hq94) lk_X11_252 rfl hTa0 (by decide) rfl (by decide) (by decide) rfl rfl (Nat.le_of_ble_eq_true rfl) dX11_count_94 ?_
  cases hf
  exact hR _ _ dX11_count_97 trivial
theorem ctX11_count (l : Launch) (hl : l.stackTraces = false) (G : GT) (ρ : Nat → Nat) (Y : XS) (n : Nat) (S : PS) (a0 : Nat) (x1_ : Int32) (hTa0 : Ty Y a0 11) {o : Int32 × PS} (hf : fX11_count Y n S a0 x1_ = some o) : Mt l G yX11_count cX11_count 2 (some .int) 3 ρ Y [.ref (ρ a0), .int x1_] S (some (.int o.1)) o.2 :=
  Mt_of hl (by decide) (Nat.le_of_ble_eq_true rfl) (fun C _ _ hC hR => wX11_count (X := (ρ, Y, 0, 0)) hC n S a0 x1_ hTa0 hf hR)
-- X11_unserved
theorem dX11_unserved_0 : decode cX11_unserved 0 = .ok (.iconst 0, 1) := by decide +kernel
theorem dX11_unserved_1 : decode cX11_unserved 1 = .ok (.istore_n 1, 1) := by decide +kernel
theorem dX11_unserved_2 : decode cX11_unserved 2 = .ok (.iconst 0, 1) := by decide +kernel
theorem dX11_unserved_3 : decode cX11_unserved 3 = .ok (.istore_n 2, 1) := by decide +kernel
theorem dX11_unserved_4 : decode cX11_unserved 4 = .ok (.iload_n 2, 1) := by decide +kernel
theorem dX11_unserved_5 : decode cX11_unserved 5 = .ok (.aload_n 0, 1) := by decide +kernel
theorem dX11_unserved_6 : decode cX11_unserved 6 = .ok (.invokevirtual 85, 3) := by decide +kernel
theorem dX11_unserved_9 : decode cX11_unserved 9 = .ok (.if_icmp .ge 29, 3) := by decide +kernel
theorem dX11_unserved_12 : decode cX11_unserved 12 = .ok (.iload_n 1, 1) := by decide +kernel
theorem dX11_unserved_13 : decode cX11_unserved 13 = .ok (.aload_n 0, 1) := by decide +kernel
theorem dX11_unserved_14 : decode cX11_unserved 14 = .ok (.iload_n 2, 1) := by decide +kernel
theorem dX11_unserved_15 : decode cX11_unserved 15 = .ok (.aload_n 0, 1) := by decide +kernel
theorem dX11_unserved_16 : decode cX11_unserved 16 = .ok (.getfield 154, 3) := by decide +kernel
theorem dX11_unserved_19 : decode cX11_unserved 19 = .ok (.invokevirtual 151, 3) := by decide +kernel
theorem dX11_unserved_22 : decode cX11_unserved 22 = .ok (.ifCond .ne 7, 3) := by decide +kernel
theorem dX11_unserved_25 : decode cX11_unserved 25 = .ok (.iconst 1, 1) := by decide +kernel
theorem dX11_unserved_26 : decode cX11_unserved 26 = .ok (.goto 4, 3) := by decide +kernel
theorem dX11_unserved_29 : decode cX11_unserved 29 = .ok (.iconst 0, 1) := by decide +kernel
theorem dX11_unserved_30 : decode cX11_unserved 30 = .ok (.iadd, 1) := by decide +kernel
theorem dX11_unserved_31 : decode cX11_unserved 31 = .ok (.istore_n 1, 1) := by decide +kernel
theorem dX11_unserved_32 : decode cX11_unserved 32 = .ok (.iinc 2 1, 3) := by decide +kernel
theorem dX11_unserved_35 : decode cX11_unserved 35 = .ok (.goto (-31), 3) := by decide +kernel
theorem dX11_unserved_38 : decode cX11_unserved 38 = .ok (.iload_n 1, 1) := by decide +kernel
theorem dX11_unserved_39 : decode cX11_unserved 39 = .ok (.ireturn, 1) := by decide +kernel
def jX11_unserved_30_4 (Y : XS) (n : Nat) (S : PS) (v0 : Nat) (v2 : Int32) (t0 : Int32) (t1 : Int32) : Option ((Int32 × Int32) ⊕ Int32) :=
  some (.inl (t1 + t0, v2 + (1 : Int32)))
def bX11_unserved_4 (Y : XS) (n : Nat) (S : PS) (v0 : Nat) (s4 : (Int32 × Int32)) : Option ((Int32 × Int32) ⊕ Int32) :=
  kc (fX11_people Y n S v0) (fun q6 => (if q6 ≤ s4.2 then some (.inr s4.1) else kgi S v0 21 (fun x16 => kc (fX11_worthTo Y n S v0 s4.2 x16) (fun q19 => (if q19 = 0 then jX11_unserved_30_4 Y n S v0 s4.2 (1 : Int32) s4.1 else jX11_unserved_30_4 Y n S v0 s4.2 (0 : Int32) s4.1)))))
def fX11_unserved (Y : XS) (n : Nat) (S : PS) (a0 : Nat) : Option (Int32) :=
  kc (iter (bX11_unserved_4 Y n S a0) n ((0 : Int32), (0 : Int32))) (fun r4 => some r4)
theorem wjX11_unserved_30_4 {C : CT} {X : XT} (hC : CK C RX11 cX11_unserved 3 (some .int) 3) (n : Nat) (S : PS) (v0 : Nat) (v2 : Int32) (t0 : Int32) (t1 : Int32)  (hTv0 : Ty X.2.1 v0 11) {o : (Int32 × Int32) ⊕ Int32} (hf : jX11_unserved_30_4 X.2.1 n S v0 v2 t0 t1 = some o) (hN : ∀ s', o = .inl s' → UW C X S 4 [(0, .ref (X.1 v0)), (1, .int s'.1), (2, .int s'.2)] []) (hO0 : ∀ p', o = .inr p' → UW C X S 38 [(1, .int p')] []) : UW C X S 30 [(0, .ref (X.1 v0)), (2, .int v2)] [.int t0, .int t1] := by
  unfold jX11_unserved_30_4 at hf
  refine u_iadd hC dX11_unserved_30 ?_
  refine u_istore_n (lv' := [(1, .int (t1 + t0)), (0, .ref (X.1 v0)), (2, .int v2)]) hC dX11_unserved_31 rfl (by decide) rfl ?_
  refine u_iinc (v := v2 + (1 : Int32)) (lv' := [(2, .int (v2 + (1 : Int32))), (1, .int (t1 + t0)), (0, .ref (X.1 v0))]) hC dX11_unserved_32 2 rfl rfl (by decide) rfl ?_
  refine u_goto (tgt := 4) hC dX11_unserved_35 (by decide) ?_
  refine u_sub (lv' := [(0, .ref (X.1 v0)), (1, .int (t1 + t0)), (2, .int (v2 + (1 : Int32)))]) [2, 1, 0] rfl ?_
  exact hN _ (Option.some.inj hf).symm
theorem wbX11_unserved_4 {C : CT} {X : XT} (hC : CK C RX11 cX11_unserved 3 (some .int) 3) (n : Nat) (S : PS) (v0 : Nat) (hTv0 : Ty X.2.1 v0 11) (s4 : (Int32 × Int32)) {o : (Int32 × Int32) ⊕ Int32} (hf : bX11_unserved_4 X.2.1 n S v0 s4 = some o) (hN : ∀ s', o = .inl s' → UW C X S 4 [(0, .ref (X.1 v0)), (1, .int s'.1), (2, .int s'.2)] []) (hO0 : ∀ p', o = .inr p' → UW C X S 38 [(1, .int p')] []) : UW C X S 4 [(0, .ref (X.1 v0)), (1, .int s4.1), (2, .int s4.2)] [] := by
  unfold bX11_unserved_4 at hf
  refine u_iload_n hC dX11_unserved_4 2 rfl rfl ?_
  refine u_aload_n hC dX11_unserved_5 0 rfl rfl ?_
  obtain ⟨q6, hq6, hf⟩ := kc_some hf
  refine u_callV hC (ctX11_people (cL C) hC.tr (cG C) X.1 X.2.1 n S v0 hTv0 hq6) lk_X11_85 rfl hTv0 (by decide) rfl (by decide) (by decide) rfl rfl (Nat.le_of_ble_eq_true rfl) dX11_unserved_6 ?_
  refine u_icmp_ge (tgt := 38) hC dX11_unserved_9 (by decide) hf (fun h9 hf => ?_) (fun h9 hf => ?_)
  · refine u_sub (lv' := [(1, .int s4.1)]) [1] rfl ?_
    exact hO0 _ (Option.some.inj hf).symm
  · refine u_iload_n hC dX11_unserved_12 1 rfl rfl ?_
    refine u_aload_n hC dX11_unserved_13 0 rfl rfl ?_
    refine u_iload_n hC dX11_unserved_14 2 rfl rfl ?_
    refine u_aload_n hC dX11_unserved_15 0 rfl rfl ?_
    refine u_gi hC lf_X11_154 rfl hTv0 dX11_unserved_16 hf (fun x16 hf => ?_)
    obtain ⟨q19, hq19, hf⟩ := kc_some hf
    refine u_callV hC (ctX11_worthTo (cL C) hC.tr (cG C) X.1 X.2.1 n S v0 s4.2 x16 hTv0 hq19) lk_X11_151 rfl hTv0 (by decide) rfl (by decide) (by decide) rfl rfl (Nat.le_of_ble_eq_true rfl) dX11_unserved_19 ?_
    refine u_if_ne (tgt := 29) hC dX11_unserved_22 (by decide) hf (fun h22 hf => ?_) (fun h22 hf => ?_)
    · refine u_iconst (v := (0 : Int32)) hC dX11_unserved_29 (by decide) ?_
      refine u_sub (lv' := [(0, .ref (X.1 v0)), (2, .int s4.2)]) [0, 2] rfl ?_
      exact wjX11_unserved_30_4 hC n S v0 s4.2 (0 : Int32) s4.1  hTv0 hf hN hO0
    · refine u_iconst (v := (1 : Int32)) hC dX11_unserved_25 (by decide) ?_
      refine u_goto (tgt := 30) hC dX11_unserved_26 (by decide) ?_
      refine u_sub (lv' := [(0, .ref (X.1 v0)), (2, .int s4.2)]) [0, 2] rfl ?_
      exact wjX11_unserved_30_4 hC n S v0 s4.2 (1 : Int32) s4.1  hTv0 hf hN hO0
theorem wX11_unserved {C : CT} {X : XT} (hC : CK C RX11 cX11_unserved 3 (some .int) 3) (n : Nat) (S : PS) (a0 : Nat) (hTa0 : Ty X.2.1 a0 11) {o : Int32} (hf : fX11_unserved X.2.1 n S a0 = some o) (hR : Rt C X cX11_unserved (some .int) (some (.int o)) S) : UW C X S 0 [(0, .ref (X.1 a0))] [] := by
  unfold fX11_unserved at hf
  refine u_iconst (v := (0 : Int32)) hC dX11_unserved_0 (by decide) ?_
  refine u_istore_n (lv' := [(1, .int (0 : Int32)), (0, .ref (X.1 a0))]) hC dX11_unserved_1 rfl (by decide) rfl ?_
  refine u_iconst (v := (0 : Int32)) hC dX11_unserved_2 (by decide) ?_
  refine u_istore_n (lv' := [(2, .int (0 : Int32)), (1, .int (0 : Int32)), (0, .ref (X.1 a0))]) hC dX11_unserved_3 rfl (by decide) rfl ?_
  obtain ⟨r4, hr4, hf⟩ := kc_some hf
  have hk4 : UW C X S 38 [(1, .int r4)] [] := by
    refine u_iload_n hC dX11_unserved_38 0 rfl rfl ?_
    cases hf
    exact hR _ _ dX11_unserved_39 trivial
  refine u_sub (lv' := [(0, .ref (X.1 a0)), (1, .int (0 : Int32)), (2, .int (0 : Int32))]) [2, 1, 0] rfl ?_
  refine iter_ind (P := fun s4 => UW C X S 4 [(0, .ref (X.1 a0)), (1, .int s4.1), (2, .int s4.2)] []) (fun s4 o' hb hin hout => ?_) n ((0 : Int32), (0 : Int32)) hr4
  exact wbX11_unserved_4 hC n S a0 hTa0 s4 hb hin (fun p e => by rw [hout p e]; exact hk4)
theorem ctX11_unserved (l : Launch) (hl : l.stackTraces = false) (G : GT) (ρ : Nat → Nat) (Y : XS) (n : Nat) (S : PS) (a0 : Nat) (hTa0 : Ty Y a0 11) {o : Int32} (hf : fX11_unserved Y n S a0 = some o) : Mt l G yX11_unserved cX11_unserved 3 (some .int) 3 ρ Y [.ref (ρ a0)] S (some (.int o)) S :=
  Mt_of hl (by decide) (Nat.le_of_ble_eq_true rfl) (fun C _ _ hC hR => wX11_unserved (X := (ρ, Y, 0, 0)) hC n S a0 hTa0 hf hR)
-- X11_paidInAll
theorem dX11_paidInAll_0 : decode cX11_paidInAll 0 = .ok (.iconst 0, 1) := by decide +kernel
theorem dX11_paidInAll_1 : decode cX11_paidInAll 1 = .ok (.istore_n 2, 1) := by decide +kernel
theorem dX11_paidInAll_2 : decode cX11_paidInAll 2 = .ok (.iconst 0, 1) := by decide +kernel
theorem dX11_paidInAll_3 : decode cX11_paidInAll 3 = .ok (.istore_n 3, 1) := by decide +kernel
theorem dX11_paidInAll_4 : decode cX11_paidInAll 4 = .ok (.iload_n 3, 1) := by decide +kernel
theorem dX11_paidInAll_5 : decode cX11_paidInAll 5 = .ok (.aload_n 0, 1) := by decide +kernel
theorem dX11_paidInAll_6 : decode cX11_paidInAll 6 = .ok (.invokevirtual 77, 3) := by decide +kernel
theorem dX11_paidInAll_9 : decode cX11_paidInAll 9 = .ok (.if_icmp .ge 23, 3) := by decide +kernel
theorem dX11_paidInAll_12 : decode cX11_paidInAll 12 = .ok (.iload_n 2, 1) := by decide +kernel
theorem dX11_paidInAll_13 : decode cX11_paidInAll 13 = .ok (.aload_n 0, 1) := by decide +kernel
theorem dX11_paidInAll_14 : decode cX11_paidInAll 14 = .ok (.getfield 40, 3) := by decide +kernel
theorem dX11_paidInAll_17 : decode cX11_paidInAll 17 = .ok (.bipush 12, 2) := by decide +kernel
theorem dX11_paidInAll_19 : decode cX11_paidInAll 19 = .ok (.iload_n 1, 1) := by decide +kernel
theorem dX11_paidInAll_20 : decode cX11_paidInAll 20 = .ok (.imul, 1) := by decide +kernel
theorem dX11_paidInAll_21 : decode cX11_paidInAll 21 = .ok (.iload_n 3, 1) := by decide +kernel
theorem dX11_paidInAll_22 : decode cX11_paidInAll 22 = .ok (.iadd, 1) := by decide +kernel
theorem dX11_paidInAll_23 : decode cX11_paidInAll 23 = .ok (.iaload, 1) := by decide +kernel
theorem dX11_paidInAll_24 : decode cX11_paidInAll 24 = .ok (.iadd, 1) := by decide +kernel
theorem dX11_paidInAll_25 : decode cX11_paidInAll 25 = .ok (.istore_n 2, 1) := by decide +kernel
theorem dX11_paidInAll_26 : decode cX11_paidInAll 26 = .ok (.iinc 3 1, 3) := by decide +kernel
theorem dX11_paidInAll_29 : decode cX11_paidInAll 29 = .ok (.goto (-25), 3) := by decide +kernel
theorem dX11_paidInAll_32 : decode cX11_paidInAll 32 = .ok (.iload_n 2, 1) := by decide +kernel
theorem dX11_paidInAll_33 : decode cX11_paidInAll 33 = .ok (.ireturn, 1) := by decide +kernel
def bX11_paidInAll_4 (Y : XS) (n : Nat) (S : PS) (v0 : Nat) (v1 : Int32) (s4 : (Int32 × Int32)) : Option ((Int32 × Int32) ⊕ Int32) :=
  kc (fX11_many Y n S v0) (fun q6 => (if q6 ≤ s4.2 then some (.inr s4.1) else kgr S v0 17 (fun b14 => kai Y S b14 (((12 : Int32) * v1) + s4.2) (fun x23 => some (.inl (s4.1 + x23, s4.2 + (1 : Int32)))))))
def fX11_paidInAll (Y : XS) (n : Nat) (S : PS) (a0 : Nat) (x1_ : Int32) : Option (Int32) :=
  kc (iter (bX11_paidInAll_4 Y n S a0 x1_) n ((0 : Int32), (0 : Int32))) (fun r4 => some r4)
theorem wbX11_paidInAll_4 {C : CT} {X : XT} (hC : CK C RX11 cX11_paidInAll 4 (some .int) 2) (n : Nat) (S : PS) (v0 : Nat) (v1 : Int32) (hTv0 : Ty X.2.1 v0 11) (s4 : (Int32 × Int32)) {o : (Int32 × Int32) ⊕ Int32} (hf : bX11_paidInAll_4 X.2.1 n S v0 v1 s4 = some o) (hN : ∀ s', o = .inl s' → UW C X S 4 [(0, .ref (X.1 v0)), (1, .int v1), (2, .int s'.1), (3, .int s'.2)] []) (hO0 : ∀ p', o = .inr p' → UW C X S 32 [(2, .int p')] []) : UW C X S 4 [(0, .ref (X.1 v0)), (1, .int v1), (2, .int s4.1), (3, .int s4.2)] [] := by
  unfold bX11_paidInAll_4 at hf
  refine u_iload_n hC dX11_paidInAll_4 3 rfl rfl ?_
  refine u_aload_n hC dX11_paidInAll_5 0 rfl rfl ?_
  obtain ⟨q6, hq6, hf⟩ := kc_some hf
  refine u_callV hC (ctX11_many (cL C) hC.tr (cG C) X.1 X.2.1 n S v0 hTv0 hq6) lk_X11_77 rfl hTv0 (by decide) rfl (by decide) (by decide) rfl rfl (Nat.le_of_ble_eq_true rfl) dX11_paidInAll_6 ?_
  refine u_icmp_ge (tgt := 32) hC dX11_paidInAll_9 (by decide) hf (fun h9 hf => ?_) (fun h9 hf => ?_)
  · refine u_sub (lv' := [(2, .int s4.1)]) [2] rfl ?_
    exact hO0 _ (Option.some.inj hf).symm
  · refine u_iload_n hC dX11_paidInAll_12 2 rfl rfl ?_
    refine u_aload_n hC dX11_paidInAll_13 0 rfl rfl ?_
    refine u_gr hC lf_X11_40 rfl hTv0 dX11_paidInAll_14 hf (fun b14 hTb14 hf => ?_)
    refine u_bipush (v := (12 : Int32)) hC dX11_paidInAll_17 (by decide) ?_
    refine u_iload_n hC dX11_paidInAll_19 1 rfl rfl ?_
    refine u_imul hC dX11_paidInAll_20 ?_
    refine u_iload_n hC dX11_paidInAll_21 3 rfl rfl ?_
    refine u_iadd hC dX11_paidInAll_22 ?_
    refine u_ai hC hTb14 dX11_paidInAll_23 hf (fun x23 hf => ?_)
    refine u_iadd hC dX11_paidInAll_24 ?_
    refine u_istore_n (lv' := [(2, .int (s4.1 + x23)), (0, .ref (X.1 v0)), (1, .int v1), (3, .int s4.2)]) hC dX11_paidInAll_25 rfl (by decide) rfl ?_
    refine u_iinc (v := s4.2 + (1 : Int32)) (lv' := [(3, .int (s4.2 + (1 : Int32))), (2, .int (s4.1 + x23)), (0, .ref (X.1 v0)), (1, .int v1)]) hC dX11_paidInAll_26 3 rfl rfl (by decide) rfl ?_
    refine u_goto (tgt := 4) hC dX11_paidInAll_29 (by decide) ?_
    refine u_sub (lv' := [(0, .ref (X.1 v0)), (1, .int v1), (2, .int (s4.1 + x23)), (3, .int (s4.2 + (1 : Int32)))]) [2, 3, 1, 0] rfl ?_
    exact hN _ (Option.some.inj hf).symm
theorem wX11_paidInAll {C : CT} {X : XT} (hC : CK C RX11 cX11_paidInAll 4 (some .int) 2) (n : Nat) (S : PS) (a0 : Nat) (x1_ : Int32) (hTa0 : Ty X.2.1 a0 11) {o : Int32} (hf : fX11_paidInAll X.2.1 n S a0 x1_ = some o) (hR : Rt C X cX11_paidInAll (some .int) (some (.int o)) S) : UW C X S 0 [(0, .ref (X.1 a0)), (1, .int x1_)] [] := by
  unfold fX11_paidInAll at hf
  refine u_iconst (v := (0 : Int32)) hC dX11_paidInAll_0 (by decide) ?_
  refine u_istore_n (lv' := [(2, .int (0 : Int32)), (0, .ref (X.1 a0)), (1, .int x1_)]) hC dX11_paidInAll_1 rfl (by decide) rfl ?_
  refine u_iconst (v := (0 : Int32)) hC dX11_paidInAll_2 (by decide) ?_
  refine u_istore_n (lv' := [(3, .int (0 : Int32)), (2, .int (0 : Int32)), (0, .ref (X.1 a0)), (1, .int x1_)]) hC dX11_paidInAll_3 rfl (by decide) rfl ?_
  obtain ⟨r4, hr4, hf⟩ := kc_some hf
  have hk4 : UW C X S 32 [(2, .int r4)] [] := by
    refine u_iload_n hC dX11_paidInAll_32 0 rfl rfl ?_
    cases hf
    exact hR _ _ dX11_paidInAll_33 trivial
  refine u_sub (lv' := [(0, .ref (X.1 a0)), (1, .int x1_), (2, .int (0 : Int32)), (3, .int (0 : Int32))]) [2, 3, 1, 0] rfl ?_
  refine iter_ind (P := fun s4 => UW C X S 4 [(0, .ref (X.1 a0)), (1, .int x1_), (2, .int s4.1), (3, .int s4.2)] []) (fun s4 o' hb hin hout => ?_) n ((0 : Int32), (0 : Int32)) hr4
  exact wbX11_paidInAll_4 hC n S a0 x1_ hTa0 s4 hb hin (fun p e => by rw [hout p e]; exact hk4)
theorem ctX11_paidInAll (l : Launch) (hl : l.stackTraces = false) (G : GT) (ρ : Nat → Nat) (Y : XS) (n : Nat) (S : PS) (a0 : Nat) (x1_ : Int32) (hTa0 : Ty Y a0 11) {o : Int32} (hf : fX11_paidInAll Y n S a0 x1_ = some o) : Mt l G yX11_paidInAll cX11_paidInAll 4 (some .int) 2 ρ Y [.ref (ρ a0), .int x1_] S (some (.int o)) S :=
  Mt_of hl (by decide) (Nat.le_of_ble_eq_true rfl) (fun C _ _ hC hR => wX11_paidInAll (X := (ρ, Y, 0, 0)) hC n S a0 x1_ hTa0 hf hR)
-- X11_leftInAll
theorem dX11_leftInAll_0 : decode cX11_leftInAll 0 = .ok (.iconst 0, 1) := by decide +kernel
theorem dX11_leftInAll_1 : decode cX11_leftInAll 1 = .ok (.istore_n 1, 1) := by decide +kernel
theorem dX11_leftInAll_2 : decode cX11_leftInAll 2 = .ok (.iconst 0, 1) := by decide +kernel
theorem dX11_leftInAll_3 : decode cX11_leftInAll 3 = .ok (.istore_n 2, 1) := by decide +kernel
theorem dX11_leftInAll_4 : decode cX11_leftInAll 4 = .ok (.iload_n 2, 1) := by decide +kernel
theorem dX11_leftInAll_5 : decode cX11_leftInAll 5 = .ok (.aload_n 0, 1) := by decide +kernel
theorem dX11_leftInAll_6 : decode cX11_leftInAll 6 = .ok (.invokevirtual 85, 3) := by decide +kernel
theorem dX11_leftInAll_9 : decode cX11_leftInAll 9 = .ok (.if_icmp .ge 18, 3) := by decide +kernel
theorem dX11_leftInAll_12 : decode cX11_leftInAll 12 = .ok (.iload_n 1, 1) := by decide +kernel
theorem dX11_leftInAll_13 : decode cX11_leftInAll 13 = .ok (.aload_n 0, 1) := by decide +kernel
theorem dX11_leftInAll_14 : decode cX11_leftInAll 14 = .ok (.getfield 37, 3) := by decide +kernel
theorem dX11_leftInAll_17 : decode cX11_leftInAll 17 = .ok (.iload_n 2, 1) := by decide +kernel
theorem dX11_leftInAll_18 : decode cX11_leftInAll 18 = .ok (.iaload, 1) := by decide +kernel
theorem dX11_leftInAll_19 : decode cX11_leftInAll 19 = .ok (.iadd, 1) := by decide +kernel
theorem dX11_leftInAll_20 : decode cX11_leftInAll 20 = .ok (.istore_n 1, 1) := by decide +kernel
theorem dX11_leftInAll_21 : decode cX11_leftInAll 21 = .ok (.iinc 2 1, 3) := by decide +kernel
theorem dX11_leftInAll_24 : decode cX11_leftInAll 24 = .ok (.goto (-20), 3) := by decide +kernel
theorem dX11_leftInAll_27 : decode cX11_leftInAll 27 = .ok (.iload_n 1, 1) := by decide +kernel
theorem dX11_leftInAll_28 : decode cX11_leftInAll 28 = .ok (.ireturn, 1) := by decide +kernel
def bX11_leftInAll_4 (Y : XS) (n : Nat) (S : PS) (v0 : Nat) (s4 : (Int32 × Int32)) : Option ((Int32 × Int32) ⊕ Int32) :=
  kc (fX11_people Y n S v0) (fun q6 => (if q6 ≤ s4.2 then some (.inr s4.1) else kgr S v0 16 (fun b14 => kai Y S b14 s4.2 (fun x18 => some (.inl (s4.1 + x18, s4.2 + (1 : Int32)))))))
def fX11_leftInAll (Y : XS) (n : Nat) (S : PS) (a0 : Nat) : Option (Int32) :=
  kc (iter (bX11_leftInAll_4 Y n S a0) n ((0 : Int32), (0 : Int32))) (fun r4 => some r4)
theorem wbX11_leftInAll_4 {C : CT} {X : XT} (hC : CK C RX11 cX11_leftInAll 3 (some .int) 2) (n : Nat) (S : PS) (v0 : Nat) (hTv0 : Ty X.2.1 v0 11) (s4 : (Int32 × Int32)) {o : (Int32 × Int32) ⊕ Int32} (hf : bX11_leftInAll_4 X.2.1 n S v0 s4 = some o) (hN : ∀ s', o = .inl s' → UW C X S 4 [(0, .ref (X.1 v0)), (1, .int s'.1), (2, .int s'.2)] []) (hO0 : ∀ p', o = .inr p' → UW C X S 27 [(1, .int p')] []) : UW C X S 4 [(0, .ref (X.1 v0)), (1, .int s4.1), (2, .int s4.2)] [] := by
  unfold bX11_leftInAll_4 at hf
  refine u_iload_n hC dX11_leftInAll_4 2 rfl rfl ?_
  refine u_aload_n hC dX11_leftInAll_5 0 rfl rfl ?_
  obtain ⟨q6, hq6, hf⟩ := kc_some hf
  refine u_callV hC (ctX11_people (cL C) hC.tr (cG C) X.1 X.2.1 n S v0 hTv0 hq6) lk_X11_85 rfl hTv0 (by decide) rfl (by decide) (by decide) rfl rfl (Nat.le_of_ble_eq_true rfl) dX11_leftInAll_6 ?_
  refine u_icmp_ge (tgt := 27) hC dX11_leftInAll_9 (by decide) hf (fun h9 hf => ?_) (fun h9 hf => ?_)
  · refine u_sub (lv' := [(1, .int s4.1)]) [1] rfl ?_
    exact hO0 _ (Option.some.inj hf).symm
  · refine u_iload_n hC dX11_leftInAll_12 1 rfl rfl ?_
    refine u_aload_n hC dX11_leftInAll_13 0 rfl rfl ?_
    refine u_gr hC lf_X11_37 rfl hTv0 dX11_leftInAll_14 hf (fun b14 hTb14 hf => ?_)
    refine u_iload_n hC dX11_leftInAll_17 2 rfl rfl ?_
    refine u_ai hC hTb14 dX11_leftInAll_18 hf (fun x18 hf => ?_)
    refine u_iadd hC dX11_leftInAll_19 ?_
    refine u_istore_n (lv' := [(1, .int (s4.1 + x18)), (0, .ref (X.1 v0)), (2, .int s4.2)]) hC dX11_leftInAll_20 rfl (by decide) rfl ?_
    refine u_iinc (v := s4.2 + (1 : Int32)) (lv' := [(2, .int (s4.2 + (1 : Int32))), (1, .int (s4.1 + x18)), (0, .ref (X.1 v0))]) hC dX11_leftInAll_21 2 rfl rfl (by decide) rfl ?_
    refine u_goto (tgt := 4) hC dX11_leftInAll_24 (by decide) ?_
    refine u_sub (lv' := [(0, .ref (X.1 v0)), (1, .int (s4.1 + x18)), (2, .int (s4.2 + (1 : Int32)))]) [2, 1, 0] rfl ?_
    exact hN _ (Option.some.inj hf).symm
theorem wX11_leftInAll {C : CT} {X : XT} (hC : CK C RX11 cX11_leftInAll 3 (some .int) 2) (n : Nat) (S : PS) (a0 : Nat) (hTa0 : Ty X.2.1 a0 11) {o : Int32} (hf : fX11_leftInAll X.2.1 n S a0 = some o) (hR : Rt C X cX11_leftInAll (some .int) (some (.int o)) S) : UW C X S 0 [(0, .ref (X.1 a0))] [] := by
  unfold fX11_leftInAll at hf
  refine u_iconst (v := (0 : Int32)) hC dX11_leftInAll_0 (by decide) ?_
  refine u_istore_n (lv' := [(1, .int (0 : Int32)), (0, .ref (X.1 a0))]) hC dX11_leftInAll_1 rfl (by decide) rfl ?_
  refine u_iconst (v := (0 : Int32)) hC dX11_leftInAll_2 (by decide) ?_
  refine u_istore_n (lv' := [(2, .int (0 : Int32)), (1, .int (0 : Int32)), (0, .ref (X.1 a0))]) hC dX11_leftInAll_3 rfl (by decide) rfl ?_
  obtain ⟨r4, hr4, hf⟩ := kc_some hf
  have hk4 : UW C X S 27 [(1, .int r4)] [] := by
    refine u_iload_n hC dX11_leftInAll_27 0 rfl rfl ?_
    cases hf
    exact hR _ _ dX11_leftInAll_28 trivial
  refine u_sub (lv' := [(0, .ref (X.1 a0)), (1, .int (0 : Int32)), (2, .int (0 : Int32))]) [2, 1, 0] rfl ?_
  refine iter_ind (P := fun s4 => UW C X S 4 [(0, .ref (X.1 a0)), (1, .int s4.1), (2, .int s4.2)] []) (fun s4 o' hb hin hout => ?_) n ((0 : Int32), (0 : Int32)) hr4
  exact wbX11_leftInAll_4 hC n S a0 hTa0 s4 hb hin (fun p e => by rw [hout p e]; exact hk4)
theorem ctX11_leftInAll (l : Launch) (hl : l.stackTraces = false) (G : GT) (ρ : Nat → Nat) (Y : XS) (n : Nat) (S : PS) (a0 : Nat) (hTa0 : Ty Y a0 11) {o : Int32} (hf : fX11_leftInAll Y n S a0 = some o) : Mt l G yX11_leftInAll cX11_leftInAll 3 (some .int) 2 ρ Y [.ref (ρ a0)] S (some (.int o)) S :=
  Mt_of hl (by decide) (Nat.le_of_ble_eq_true rfl) (fun C _ _ hC hR => wX11_leftInAll (X := (ρ, Y, 0, 0)) hC n S a0 hTa0 hf hR)
-- X11_isGroup
theorem dX11_isGroup_0 : decode cX11_isGroup 0 = .ok (.iload_n 1, 1) := by decide +kernel
theorem dX11_isGroup_1 : decode cX11_isGroup 1 = .ok (.iconst 1, 1) := by decide +kernel
theorem dX11_isGroup_2 : decode cX11_isGroup 2 = .ok (.iconst 1, 1) := by decide +kernel
theorem dX11_isGroup_3 : decode cX11_isGroup 3 = .ok (.aload_n 0, 1) := by decide +kernel
theorem dX11_isGroup_4 : decode cX11_isGroup 4 = .ok (.invokevirtual 77, 3) := by decide +kernel
theorem dX11_isGroup_7 : decode cX11_isGroup 7 = .ok (.ishl, 1) := by decide +kernel
theorem dX11_isGroup_8 : decode cX11_isGroup 8 = .ok (.iconst 1, 1) := by decide +kernel
theorem dX11_isGroup_9 : decode cX11_isGroup 9 = .ok (.isub, 1) := by decide +kernel
theorem dX11_isGroup_10 : decode cX11_isGroup 10 = .ok (.invokestatic 81, 3) := by decide +kernel
theorem dX11_isGroup_13 : decode cX11_isGroup 13 = .ok (.ireturn, 1) := by decide +kernel
def fX11_isGroup (Y : XS) (n : Nat) (S : PS) (a0 : Nat) (x1_ : Int32) : Option (Int32) :=
  kc (fX11_many Y n S a0) (fun q4 => kc (fX11_isIn Y n S x1_ (1 : Int32) (((1 : Int32) <<< (q4 &&& 31)) - (1 : Int32))) (fun q10 => kzr q10 (some q10)))
theorem wX11_isGroup {C : CT} {X : XT} (hC : CK C RX11 cX11_isGroup 2 (some .boolean) 2) (n : Nat) (S : PS) (a0 : Nat) (x1_ : Int32) (hTa0 : Ty X.2.1 a0 11) {o : Int32} (hf : fX11_isGroup X.2.1 n S a0 x1_ = some o) (hR : Rt C X cX11_isGroup (some .boolean) (some (.int o)) S) : UW C X S 0 [(0, .ref (X.1 a0)), (1, .int x1_)] [] := by
  unfold fX11_isGroup at hf
  refine u_iload_n hC dX11_isGroup_0 1 rfl rfl ?_
  refine u_iconst (v := (1 : Int32)) hC dX11_isGroup_1 (by decide) ?_
  refine u_iconst (v := (1 : Int32)) hC dX11_isGroup_2 (by decide) ?_
  refine u_aload_n hC dX11_isGroup_3 0 rfl rfl ?_
  obtain ⟨q4, hq4, hf⟩ := kc_some hf
  refine u_callV hC (ctX11_many (cL C) hC.tr (cG C) X.1 X.2.1 n S a0 hTa0 hq4) lk_X11_77 rfl hTa0 (by decide) rfl (by decide) (by decide) rfl rfl (Nat.le_of_ble_eq_true rfl) dX11_isGroup_4 ?_
  refine u_ishl hC dX11_isGroup_7 ?_
  refine u_iconst (v := (1 : Int32)) hC dX11_isGroup_8 (by decide) ?_
  refine u_isub hC dX11_isGroup_9 ?_
  obtain ⟨q10, hq10, hf⟩ := kc_some hf
  refine u_callS hC (ctX11_isIn (cL C) hC.tr (cG C) X.1 X.2.1 n S x1_ (1 : Int32) (((1 : Int32) <<< (q4 &&& 31)) - (1 : Int32))  hq10) lk_X11_81 (by decide) (by decide) rfl rfl (Nat.le_of_ble_eq_true rfl) dX11_isGroup_10 ?_
  obtain ⟨hz, hf⟩ := kzr_some hf
  cases hf
  exact hR _ _ dX11_isGroup_13 hz
theorem ctX11_isGroup (l : Launch) (hl : l.stackTraces = false) (G : GT) (ρ : Nat → Nat) (Y : XS) (n : Nat) (S : PS) (a0 : Nat) (x1_ : Int32) (hTa0 : Ty Y a0 11) {o : Int32} (hf : fX11_isGroup Y n S a0 x1_ = some o) : Mt l G yX11_isGroup cX11_isGroup 2 (some .boolean) 2 ρ Y [.ref (ρ a0), .int x1_] S (some (.int o)) S :=
  Mt_of hl (by decide) (Nat.le_of_ble_eq_true rfl) (fun C _ _ hC hR => wX11_isGroup (X := (ρ, Y, 0, 0)) hC n S a0 x1_ hTa0 hf hR)
-- X11_membersOf
theorem dX11_membersOf_0 : decode cX11_membersOf 0 = .ok (.iconst 0, 1) := by decide +kernel
theorem dX11_membersOf_1 : decode cX11_membersOf 1 = .ok (.istore_n 2, 1) := by decide +kernel
theorem dX11_membersOf_2 : decode cX11_membersOf 2 = .ok (.iconst 0, 1) := by decide +kernel
theorem dX11_membersOf_3 : decode cX11_membersOf 3 = .ok (.istore_n 3, 1) := by decide +kernel
theorem dX11_membersOf_4 : decode cX11_membersOf 4 = .ok (.iload_n 3, 1) := by decide +kernel
theorem dX11_membersOf_5 : decode cX11_membersOf 5 = .ok (.aload_n 0, 1) := by decide +kernel
theorem dX11_membersOf_6 : decode cX11_membersOf 6 = .ok (.invokevirtual 85, 3) := by decide +kernel
theorem dX11_membersOf_9 : decode cX11_membersOf 9 = .ok (.if_icmp .ge 81, 3) := by decide +kernel
theorem dX11_membersOf_12 : decode cX11_membersOf 12 = .ok (.iconst 1, 1) := by decide +kernel
theorem dX11_membersOf_13 : decode cX11_membersOf 13 = .ok (.istore 4, 2) := by decide +kernel
theorem dX11_membersOf_15 : decode cX11_membersOf 15 = .ok (.iconst 0, 1) := by decide +kernel
theorem dX11_membersOf_16 : decode cX11_membersOf 16 = .ok (.istore 5, 2) := by decide +kernel
theorem dX11_membersOf_18 : decode cX11_membersOf 18 = .ok (.iload 5, 2) := by decide +kernel
theorem dX11_membersOf_20 : decode cX11_membersOf 20 = .ok (.aload_n 0, 1) := by decide +kernel
theorem dX11_membersOf_21 : decode cX11_membersOf 21 = .ok (.invokevirtual 77, 3) := by decide +kernel
theorem dX11_membersOf_24 : decode cX11_membersOf 24 = .ok (.if_icmp .ge 45, 3) := by decide +kernel
theorem dX11_membersOf_27 : decode cX11_membersOf 27 = .ok (.iload 4, 2) := by decide +kernel
theorem dX11_membersOf_29 : decode cX11_membersOf 29 = .ok (.ifCond .eq 31, 3) := by decide +kernel
theorem dX11_membersOf_32 : decode cX11_membersOf 32 = .ok (.iload_n 1, 1) := by decide +kernel
theorem dX11_membersOf_33 : decode cX11_membersOf 33 = .ok (.iload 5, 2) := by decide +kernel
theorem dX11_membersOf_35 : decode cX11_membersOf 35 = .ok (.invokestatic 147, 3) := by decide +kernel
theorem dX11_membersOf_38 : decode cX11_membersOf 38 = .ok (.ifCond .eq 18, 3) := by decide +kernel
theorem dX11_membersOf_41 : decode cX11_membersOf 41 = .ok (.aload_n 0, 1) := by decide +kernel
theorem dX11_membersOf_42 : decode cX11_membersOf 42 = .ok (.getfield 25, 3) := by decide +kernel
theorem dX11_membersOf_45 : decode cX11_membersOf 45 = .ok (.bipush 12, 2) := by decide +kernel
theorem dX11_membersOf_47 : decode cX11_membersOf 47 = .ok (.iload_n 3, 1) := by decide +kernel
theorem dX11_membersOf_48 : decode cX11_membersOf 48 = .ok (.imul, 1) := by decide +kernel
theorem dX11_membersOf_49 : decode cX11_membersOf 49 = .ok (.iload 5, 2) := by decide +kernel
theorem dX11_membersOf_51 : decode cX11_membersOf 51 = .ok (.iadd, 1) := by decide +kernel
theorem dX11_membersOf_52 : decode cX11_membersOf 52 = .ok (.iaload, 1) := by decide +kernel
theorem dX11_membersOf_53 : decode cX11_membersOf 53 = .ok (.ifCond .le 7, 3) := by decide +kernel
theorem dX11_membersOf_56 : decode cX11_membersOf 56 = .ok (.iconst 1, 1) := by decide +kernel
theorem dX11_membersOf_57 : decode cX11_membersOf 57 = .ok (.goto 4, 3) := by decide +kernel
theorem dX11_membersOf_60 : decode cX11_membersOf 60 = .ok (.iconst 0, 1) := by decide +kernel
theorem dX11_membersOf_61 : decode cX11_membersOf 61 = .ok (.istore 4, 2) := by decide +kernel
theorem dX11_membersOf_63 : decode cX11_membersOf 63 = .ok (.iinc 5 1, 3) := by decide +kernel
theorem dX11_membersOf_66 : decode cX11_membersOf 66 = .ok (.goto (-48), 3) := by decide +kernel
theorem dX11_membersOf_69 : decode cX11_membersOf 69 = .ok (.iload_n 2, 1) := by decide +kernel
theorem dX11_membersOf_70 : decode cX11_membersOf 70 = .ok (.iload 4, 2) := by decide +kernel
theorem dX11_membersOf_72 : decode cX11_membersOf 72 = .ok (.ifCond .eq 9, 3) := by decide +kernel
theorem dX11_membersOf_75 : decode cX11_membersOf 75 = .ok (.iconst 1, 1) := by decide +kernel
theorem dX11_membersOf_76 : decode cX11_membersOf 76 = .ok (.iload_n 3, 1) := by decide +kernel
theorem dX11_membersOf_77 : decode cX11_membersOf 77 = .ok (.ishl, 1) := by decide +kernel
theorem dX11_membersOf_78 : decode cX11_membersOf 78 = .ok (.goto 4, 3) := by decide +kernel
theorem dX11_membersOf_81 : decode cX11_membersOf 81 = .ok (.iconst 0, 1) := by decide +kernel
theorem dX11_membersOf_82 : decode cX11_membersOf 82 = .ok (.ior, 1) := by decide +kernel
theorem dX11_membersOf_83 : decode cX11_membersOf 83 = .ok (.istore_n 2, 1) := by decide +kernel
theorem dX11_membersOf_84 : decode cX11_membersOf 84 = .ok (.iinc 3 1, 3) := by decide +kernel
theorem dX11_membersOf_87 : decode cX11_membersOf 87 = .ok (.goto (-83), 3) := by decide +kernel
theorem dX11_membersOf_90 : decode cX11_membersOf 90 = .ok (.iload_n 2, 1) := by decide +kernel
theorem dX11_membersOf_91 : decode cX11_membersOf 91 = .ok (.ireturn, 1) := by decide +kernel
def jX11_membersOf_61_18 (Y : XS) (n : Nat) (S : PS) (v0 : Nat) (v1 : Int32) (v2 : Int32) (v3 : Int32) (v5 : Int32) (t0 : Int32) : Option ((Int32 × Int32) ⊕ Int32) :=
  some (.inl (t0, v5 + (1 : Int32)))
def jX11_membersOf_60_18 (Y : XS) (n : Nat) (S : PS) (v0 : Nat) (v1 : Int32) (v2 : Int32) (v3 : Int32) (v5 : Int32) : Option ((Int32 × Int32) ⊕ Int32) :=
  jX11_membersOf_61_18 Y n S v0 v1 v2 v3 v5 (0 : Int32)
def jX11_membersOf_56_18 (Y : XS) (n : Nat) (S : PS) (v0 : Nat) (v1 : Int32) (v2 : Int32) (v3 : Int32) (v5 : Int32) : Option ((Int32 × Int32) ⊕ Int32) :=
  jX11_membersOf_61_18 Y n S v0 v1 v2 v3 v5 (1 : Int32)
def bX11_membersOf_18 (Y : XS) (n : Nat) (S : PS) (v0 : Nat) (v1 : Int32) (v2 : Int32) (v3 : Int32) (s18 : (Int32 × Int32)) : Option ((Int32 × Int32) ⊕ Int32) :=
  kc (fX11_many Y n S v0) (fun q21 => (if q21 ≤ s18.2 then some (.inr s18.1) else (if s18.1 = 0 then jX11_membersOf_60_18 Y n S v0 v1 v2 v3 s18.2 else kc (fX11_isOf Y n S v1 s18.2) (fun q35 => (if q35 = 0 then jX11_membersOf_56_18 Y n S v0 v1 v2 v3 s18.2 else kgr S v0 12 (fun b42 => kai Y S b42 (((12 : Int32) * v3) + s18.2) (fun x52 => (if x52 ≤ 0 then jX11_membersOf_60_18 Y n S v0 v1 v2 v3 s18.2 else jX11_membersOf_56_18 Y n S v0 v1 v2 v3 s18.2))))))))
def jX11_membersOf_82_4 (Y : XS) (n : Nat) (S : PS) (v0 : Nat) (v1 : Int32) (v3 : Int32) (t0 : Int32) (t1 : Int32) : Option ((Int32 × Int32) ⊕ Int32) :=
  some (.inl (t1 ||| t0, v3 + (1 : Int32)))
def bX11_membersOf_4 (Y : XS) (n : Nat) (S : PS) (v0 : Nat) (v1 : Int32) (s4 : (Int32 × Int32)) : Option ((Int32 × Int32) ⊕ Int32) :=
  kc (fX11_people Y n S v0) (fun q6 => (if q6 ≤ s4.2 then some (.inr s4.1) else kc (iter (bX11_membersOf_18 Y n S v0 v1 s4.1 s4.2) n ((1 : Int32), (0 : Int32))) (fun r18 => (if r18 = 0 then jX11_membersOf_82_4 Y n S v0 v1 s4.2 (0 : Int32) s4.1 else jX11_membersOf_82_4 Y n S v0 v1 s4.2 ((1 : Int32) <<< (s4.2 &&& 31)) s4.1))))
def fX11_membersOf (Y : XS) (n : Nat) (S : PS) (a0 : Nat) (x1_ : Int32) : Option (Int32) :=
  kc (iter (bX11_membersOf_4 Y n S a0 x1_) n ((0 : Int32), (0 : Int32))) (fun r4 => some r4)
theorem wjX11_membersOf_61_18 {C : CT} {X : XT} (hC : CK C RX11 cX11_membersOf 6 (some .int) 2) (n : Nat) (S : PS) (v0 : Nat) (v1 : Int32) (v2 : Int32) (v3 : Int32) (v5 : Int32) (t0 : Int32)  (hTv0 : Ty X.2.1 v0 11) {o : (Int32 × Int32) ⊕ Int32} (hf : jX11_membersOf_61_18 X.2.1 n S v0 v1 v2 v3 v5 t0 = some o) (hN : ∀ s', o = .inl s' → UW C X S 18 [(0, .ref (X.1 v0)), (1, .int v1), (2, .int v2), (3, .int v3), (4, .int s'.1), (5, .int s'.2)] []) (hO0 : ∀ p', o = .inr p' → UW C X S 69 [(0, .ref (X.1 v0)), (1, .int v1), (2, .int v2), (3, .int v3), (4, .int p')] []) : UW C X S 61 [(0, .ref (X.1 v0)), (1, .int v1), (2, .int v2), (3, .int v3), (5, .int v5)] [.int t0] := by
  unfold jX11_membersOf_61_18 at hf
  refine u_istore (lv' := [(4, .int t0), (0, .ref (X.1 v0)), (1, .int v1), (2, .int v2), (3, .int v3), (5, .int v5)]) hC dX11_membersOf_61 (by decide) rfl ?_
  refine u_iinc (v := v5 + (1 : Int32)) (lv' := [(5, .int (v5 + (1 : Int32))), (4, .int t0), (0, .ref (X.1 v0)), (1, .int v1), (2, .int v2), (3, .int v3)]) hC dX11_membersOf_63 5 rfl rfl (by decide) rfl ?_
  refine u_goto (tgt := 18) hC dX11_membersOf_66 (by decide) ?_
  refine u_sub (lv' := [(0, .ref (X.1 v0)), (1, .int v1), (2, .int v2), (3, .int v3), (4, .int t0), (5, .int (v5 + (1 : Int32)))]) [2, 3, 4, 5, 1, 0] rfl ?_
  exact hN _ (Option.some.inj hf).symm
theorem wjX11_membersOf_60_18 {C : CT} {X : XT} (hC : CK C RX11 cX11_membersOf 6 (some .int) 2) (n : Nat) (S : PS) (v0 : Nat) (v1 : Int32) (v2 : Int32) (v3 : Int32) (v5 : Int32)  (hTv0 : Ty X.2.1 v0 11) {o : (Int32 × Int32) ⊕ Int32} (hf : jX11_membersOf_60_18 X.2.1 n S v0 v1 v2 v3 v5 = some o) (hN : ∀ s', o = .inl s' → UW C X S 18 [(0, .ref (X.1 v0)), (1, .int v1), (2, .int v2), (3, .int v3), (4, .int s'.1), (5, .int s'.2)] []) (hO0 : ∀ p', o = .inr p' → UW C X S 69 [(0, .ref (X.1 v0)), (1, .int v1), (2, .int v2), (3, .int v3), (4, .int p')] []) : UW C X S 60 [(0, .ref (X.1 v0)), (1, .int v1), (2, .int v2), (3, .int v3), (5, .int v5)] [] := by
  unfold jX11_membersOf_60_18 at hf
  refine u_iconst (v := (0 : Int32)) hC dX11_membersOf_60 (by decide) ?_
  exact wjX11_membersOf_61_18 hC n S v0 v1 v2 v3 v5 (0 : Int32)  hTv0 hf hN hO0
theorem wjX11_membersOf_56_18 {C : CT} {X : XT} (hC : CK C RX11 cX11_membersOf 6 (some .int) 2) (n : Nat) (S : PS) (v0 : Nat) (v1 : Int32) (v2 : Int32) (v3 : Int32) (v5 : Int32)  (hTv0 : Ty X.2.1 v0 11) {o : (Int32 × Int32) ⊕ Int32} (hf : jX11_membersOf_56_18 X.2.1 n S v0 v1 v2 v3 v5 = some o) (hN : ∀ s', o = .inl s' → UW C X S 18 [(0, .ref (X.1 v0)), (1, .int v1), (2, .int v2), (3, .int v3), (4, .int s'.1), (5, .int s'.2)] []) (hO0 : ∀ p', o = .inr p' → UW C X S 69 [(0, .ref (X.1 v0)), (1, .int v1), (2, .int v2), (3, .int v3), (4, .int p')] []) : UW C X S 56 [(0, .ref (X.1 v0)), (1, .int v1), (2, .int v2), (3, .int v3), (5, .int v5)] [] := by
  unfold jX11_membersOf_56_18 at hf
  refine u_iconst (v := (1 : Int32)) hC dX11_membersOf_56 (by decide) ?_
  refine u_goto (tgt := 61) hC dX11_membersOf_57 (by decide) ?_
  exact wjX11_membersOf_61_18 hC n S v0 v1 v2 v3 v5 (1 : Int32)  hTv0 hf hN hO0
theorem wbX11_membersOf_18 {C : CT} {X : XT} (hC : CK C RX11 cX11_membersOf 6 (some .int) 2) (n : Nat) (S : PS) (v0 : Nat) (v1 : Int32) (v2 : Int32) (v3 : Int32) (hTv0 : Ty X.2.1 v0 11) (s18 : (Int32 × Int32)) {o : (Int32 × Int32) ⊕ Int32} (hf : bX11_membersOf_18 X.2.1 n S v0 v1 v2 v3 s18 = some o) (hN : ∀ s', o = .inl s' → UW C X S 18 [(0, .ref (X.1 v0)), (1, .int v1), (2, .int v2), (3, .int v3), (4, .int s'.1), (5, .int s'.2)] []) (hO0 : ∀ p', o = .inr p' → UW C X S 69 [(0, .ref (X.1 v0)), (1, .int v1), (2, .int v2), (3, .int v3), (4, .int p')] []) : UW C X S 18 [(0, .ref (X.1 v0)), (1, .int v1), (2, .int v2), (3, .int v3), (4, .int s18.1), (5, .int s18.2)] [] := by
  unfold bX11_membersOf_18 at hf
  refine u_iload hC dX11_membersOf_18 5 rfl ?_
  refine u_aload_n hC dX11_membersOf_20 0 rfl rfl ?_
  obtain ⟨q21, hq21, hf⟩ := kc_some hf
  refine u_callV hC (ctX11_many (cL C) hC.tr (cG C) X.1 X.2.1 n S v0 hTv0 hq21) lk_X11_77 rfl hTv0 (by decide) rfl (by decide) (by decide) rfl rfl (Nat.le_of_ble_eq_true rfl) dX11_membersOf_21 ?_
  refine u_icmp_ge (tgt := 69) hC dX11_membersOf_24 (by decide) hf (fun h24 hf => ?_) (fun h24 hf => ?_)
  · refine u_sub (lv' := [(0, .ref (X.1 v0)), (1, .int v1), (2, .int v2), (3, .int v3), (4, .int s18.1)]) [0, 1, 2, 3, 4] rfl ?_
    exact hO0 _ (Option.some.inj hf).symm
  · refine u_iload hC dX11_membersOf_27 4 rfl ?_
    refine u_if_eq (tgt := 60) hC dX11_membersOf_29 (by decide) hf (fun h29 hf => ?_) (fun h29 hf => ?_)
    · refine u_sub (lv' := [(0, .ref (X.1 v0)), (1, .int v1), (2, .int v2), (3, .int v3), (5, .int s18.2)]) [0, 1, 2, 3, 5] rfl ?_
      exact wjX11_membersOf_60_18 hC n S v0 v1 v2 v3 s18.2  hTv0 hf hN hO0
    · refine u_iload_n hC dX11_membersOf_32 1 rfl rfl ?_
      refine u_iload hC dX11_membersOf_33 5 rfl ?_
      obtain ⟨q35, hq35, hf⟩ := kc_some hf
      refine u_callS hC (ctX11_isOf (cL C) hC.tr (cG C) X.1 X.2.1 n S v1 s18.2  hq35) lk_X11_147 (by decide) (by decide) rfl rfl (Nat.le_of_ble_eq_true rfl) dX11_membersOf_35 ?_
      refine u_if_eq (tgt := 56) hC dX11_membersOf_38 (by decide) hf (fun h38 hf => ?_) (fun h38 hf => ?_)
      · refine u_sub (lv' := [(0, .ref (X.1 v0)), (1, .int v1), (2, .int v2), (3, .int v3), (5, .int s18.2)]) [0, 1, 2, 3, 5] rfl ?_
        exact wjX11_membersOf_56_18 hC n S v0 v1 v2 v3 s18.2  hTv0 hf hN hO0
      · refine u_aload_n hC dX11_membersOf_41 0 rfl rfl ?_
        refine u_gr hC lf_X11_25 rfl hTv0 dX11_membersOf_42 hf (fun b42 hTb42 hf => ?_)
        refine u_bipush (v := (12 : Int32)) hC dX11_membersOf_45 (by decide) ?_
        refine u_iload_n hC dX11_membersOf_47 3 rfl rfl ?_
        refine u_imul hC dX11_membersOf_48 ?_
        refine u_iload hC dX11_membersOf_49 5 rfl ?_
        refine u_iadd hC dX11_membersOf_51 ?_
        refine u_ai hC hTb42 dX11_membersOf_52 hf (fun x52 hf => ?_)
        refine u_if_le (tgt := 60) hC dX11_membersOf_53 (by decide) hf (fun h53 hf => ?_) (fun h53 hf => ?_)
        · refine u_sub (lv' := [(0, .ref (X.1 v0)), (1, .int v1), (2, .int v2), (3, .int v3), (5, .int s18.2)]) [0, 1, 2, 3, 5] rfl ?_
          exact wjX11_membersOf_60_18 hC n S v0 v1 v2 v3 s18.2  hTv0 hf hN hO0
        · refine u_sub (lv' := [(0, .ref (X.1 v0)), (1, .int v1), (2, .int v2), (3, .int v3), (5, .int s18.2)]) [0, 1, 2, 3, 5] rfl ?_
          exact wjX11_membersOf_56_18 hC n S v0 v1 v2 v3 s18.2  hTv0 hf hN hO0
theorem wjX11_membersOf_82_4 {C : CT} {X : XT} (hC : CK C RX11 cX11_membersOf 6 (some .int) 2) (n : Nat) (S : PS) (v0 : Nat) (v1 : Int32) (v3 : Int32) (t0 : Int32) (t1 : Int32)  (hTv0 : Ty X.2.1 v0 11) {o : (Int32 × Int32) ⊕ Int32} (hf : jX11_membersOf_82_4 X.2.1 n S v0 v1 v3 t0 t1 = some o) (hN : ∀ s', o = .inl s' → UW C X S 4 [(0, .ref (X.1 v0)), (1, .int v1), (2, .int s'.1), (3, .int s'.2)] []) (hO0 : ∀ p', o = .inr p' → UW C X S 90 [(2, .int p')] []) : UW C X S 82 [(0, .ref (X.1 v0)), (1, .int v1), (3, .int v3)] [.int t0, .int t1] := by
  unfold jX11_membersOf_82_4 at hf
  refine u_ior hC dX11_membersOf_82 ?_
  refine u_istore_n (lv' := [(2, .int (t1 ||| t0)), (0, .ref (X.1 v0)), (1, .int v1), (3, .int v3)]) hC dX11_membersOf_83 rfl (by decide) rfl ?_
  refine u_iinc (v := v3 + (1 : Int32)) (lv' := [(3, .int (v3 + (1 : Int32))), (2, .int (t1 ||| t0)), (0, .ref (X.1 v0)), (1, .int v1)]) hC dX11_membersOf_84 3 rfl rfl (by decide) rfl ?_
  refine u_goto (tgt := 4) hC dX11_membersOf_87 (by decide) ?_
  refine u_sub (lv' := [(0, .ref (X.1 v0)), (1, .int v1), (2, .int (t1 ||| t0)), (3, .int (v3 + (1 : Int32)))]) [2, 3, 1, 0] rfl ?_
  exact hN _ (Option.some.inj hf).symm
theorem wbX11_membersOf_4 {C : CT} {X : XT} (hC : CK C RX11 cX11_membersOf 6 (some .int) 2) (n : Nat) (S : PS) (v0 : Nat) (v1 : Int32) (hTv0 : Ty X.2.1 v0 11) (s4 : (Int32 × Int32)) {o : (Int32 × Int32) ⊕ Int32} (hf : bX11_membersOf_4 X.2.1 n S v0 v1 s4 = some o) (hN : ∀ s', o = .inl s' → UW C X S 4 [(0, .ref (X.1 v0)), (1, .int v1), (2, .int s'.1), (3, .int s'.2)] []) (hO0 : ∀ p', o = .inr p' → UW C X S 90 [(2, .int p')] []) : UW C X S 4 [(0, .ref (X.1 v0)), (1, .int v1), (2, .int s4.1), (3, .int s4.2)] [] := by
  unfold bX11_membersOf_4 at hf
  refine u_iload_n hC dX11_membersOf_4 3 rfl rfl ?_
  refine u_aload_n hC dX11_membersOf_5 0 rfl rfl ?_
  obtain ⟨q6, hq6, hf⟩ := kc_some hf
  refine u_callV hC (ctX11_people (cL C) hC.tr (cG C) X.1 X.2.1 n S v0 hTv0 hq6) lk_X11_85 rfl hTv0 (by decide) rfl (by decide) (by decide) rfl rfl (Nat.le_of_ble_eq_true rfl) dX11_membersOf_6 ?_
  refine u_icmp_ge (tgt := 90) hC dX11_membersOf_9 (by decide) hf (fun h9 hf => ?_) (fun h9 hf => ?_)
  · refine u_sub (lv' := [(2, .int s4.1)]) [2] rfl ?_
    exact hO0 _ (Option.some.inj hf).symm
  · refine u_iconst (v := (1 : Int32)) hC dX11_membersOf_12 (by decide) ?_
    refine u_istore (lv' := [(4, .int (1 : Int32)), (0, .ref (X.1 v0)), (1, .int v1), (2, .int s4.1), (3, .int s4.2)]) hC dX11_membersOf_13 (by decide) rfl ?_
    refine u_iconst (v := (0 : Int32)) hC dX11_membersOf_15 (by decide) ?_
    refine u_istore (lv' := [(5, .int (0 : Int32)), (4, .int (1 : Int32)), (0, .ref (X.1 v0)), (1, .int v1), (2, .int s4.1), (3, .int s4.2)]) hC dX11_membersOf_16 (by decide) rfl ?_
    obtain ⟨r18, hr18, hf⟩ := kc_some hf
    have hk18 : UW C X S 69 [(0, .ref (X.1 v0)), (1, .int v1), (2, .int s4.1), (3, .int s4.2), (4, .int r18)] [] := by
      refine u_iload_n hC dX11_membersOf_69 2 rfl rfl ?_
      refine u_iload hC dX11_membersOf_70 4 rfl ?_
      refine u_if_eq (tgt := 81) hC dX11_membersOf_72 (by decide) hf (fun h72 hf => ?_) (fun h72 hf => ?_)
      · refine u_iconst (v := (0 : Int32)) hC dX11_membersOf_81 (by decide) ?_
        refine u_sub (lv' := [(0, .ref (X.1 v0)), (1, .int v1), (3, .int s4.2)]) [0, 1, 3] rfl ?_
        exact wjX11_membersOf_82_4 hC n S v0 v1 s4.2 (0 : Int32) s4.1  hTv0 hf hN hO0
      · refine u_iconst (v := (1 : Int32)) hC dX11_membersOf_75 (by decide) ?_
        refine u_iload_n hC dX11_membersOf_76 3 rfl rfl ?_
        refine u_ishl hC dX11_membersOf_77 ?_
        refine u_goto (tgt := 82) hC dX11_membersOf_78 (by decide) ?_
        refine u_sub (lv' := [(0, .ref (X.1 v0)), (1, .int v1), (3, .int s4.2)]) [0, 1, 3] rfl ?_
        exact wjX11_membersOf_82_4 hC n S v0 v1 s4.2 ((1 : Int32) <<< (s4.2 &&& 31)) s4.1  hTv0 hf hN hO0
    refine u_sub (lv' := [(0, .ref (X.1 v0)), (1, .int v1), (2, .int s4.1), (3, .int s4.2), (4, .int (1 : Int32)), (5, .int (0 : Int32))]) [2, 3, 4, 5, 1, 0] rfl ?_
    refine iter_ind (P := fun s18 => UW C X S 18 [(0, .ref (X.1 v0)), (1, .int v1), (2, .int s4.1), (3, .int s4.2), (4, .int s18.1), (5, .int s18.2)] []) (fun s18 o' hb hin hout => ?_) n ((1 : Int32), (0 : Int32)) hr18
    exact wbX11_membersOf_18 hC n S v0 v1 s4.1 s4.2 hTv0 s18 hb hin (fun p e => by rw [hout p e]; exact hk18)
theorem wX11_membersOf {C : CT} {X : XT} (hC : CK C RX11 cX11_membersOf 6 (some .int) 2) (n : Nat) (S : PS) (a0 : Nat) (x1_ : Int32) (hTa0 : Ty X.2.1 a0 11) {o : Int32} (hf : fX11_membersOf X.2.1 n S a0 x1_ = some o) (hR : Rt C X cX11_membersOf (some .int) (some (.int o)) S) : UW C X S 0 [(0, .ref (X.1 a0)), (1, .int x1_)] [] := by
  unfold fX11_membersOf at hf
  refine u_iconst (v := (0 : Int32)) hC dX11_membersOf_0 (by decide) ?_
  refine u_istore_n (lv' := [(2, .int (0 : Int32)), (0, .ref (X.1 a0)), (1, .int x1_)]) hC dX11_membersOf_1 rfl (by decide) rfl ?_
  refine u_iconst (v := (0 : Int32)) hC dX11_membersOf_2 (by decide) ?_
  refine u_istore_n (lv' := [(3, .int (0 : Int32)), (2, .int (0 : Int32)), (0, .ref (X.1 a0)), (1, .int x1_)]) hC dX11_membersOf_3 rfl (by decide) rfl ?_
  obtain ⟨r4, hr4, hf⟩ := kc_some hf
  have hk4 : UW C X S 90 [(2, .int r4)] [] := by
    refine u_iload_n hC dX11_membersOf_90 0 rfl rfl ?_
    cases hf
    exact hR _ _ dX11_membersOf_91 trivial
  refine u_sub (lv' := [(0, .ref (X.1 a0)), (1, .int x1_), (2, .int (0 : Int32)), (3, .int (0 : Int32))]) [2, 3, 1, 0] rfl ?_
  refine iter_ind (P := fun s4 => UW C X S 4 [(0, .ref (X.1 a0)), (1, .int x1_), (2, .int s4.1), (3, .int s4.2)] []) (fun s4 o' hb hin hout => ?_) n ((0 : Int32), (0 : Int32)) hr4
  exact wbX11_membersOf_4 hC n S a0 x1_ hTa0 s4 hb hin (fun p e => by rw [hout p e]; exact hk4)
theorem ctX11_membersOf (l : Launch) (hl : l.stackTraces = false) (G : GT) (ρ : Nat → Nat) (Y : XS) (n : Nat) (S : PS) (a0 : Nat) (x1_ : Int32) (hTa0 : Ty Y a0 11) {o : Int32} (hf : fX11_membersOf Y n S a0 x1_ = some o) : Mt l G yX11_membersOf cX11_membersOf 6 (some .int) 2 ρ Y [.ref (ρ a0), .int x1_] S (some (.int o)) S :=
  Mt_of hl (by decide) (Nat.le_of_ble_eq_true rfl) (fun C _ _ hC hR => wX11_membersOf (X := (ρ, Y, 0, 0)) hC n S a0 x1_ hTa0 hf hR)
-- X11_isDue
theorem dX11_isDue_0 : decode cX11_isDue 0 = .ok (.aload_n 0, 1) := by decide +kernel
theorem dX11_isDue_1 : decode cX11_isDue 1 = .ok (.iload_n 1, 1) := by decide +kernel
theorem dX11_isDue_2 : decode cX11_isDue 2 = .ok (.invokevirtual 276, 3) := by decide +kernel
theorem dX11_isDue_5 : decode cX11_isDue 5 = .ok (.invokestatic 279, 3) := by decide +kernel
theorem dX11_isDue_8 : decode cX11_isDue 8 = .ok (.istore_n 2, 1) := by decide +kernel
theorem dX11_isDue_9 : decode cX11_isDue 9 = .ok (.iload_n 2, 1) := by decide +kernel
theorem dX11_isDue_10 : decode cX11_isDue 10 = .ok (.ifCond .le 28, 3) := by decide +kernel
theorem dX11_isDue_13 : decode cX11_isDue 13 = .ok (.iload_n 2, 1) := by decide +kernel
theorem dX11_isDue_14 : decode cX11_isDue 14 = .ok (.aload_n 0, 1) := by decide +kernel
theorem dX11_isDue_15 : decode cX11_isDue 15 = .ok (.getfield 9, 3) := by decide +kernel
theorem dX11_isDue_18 : decode cX11_isDue 18 = .ok (.iconst 0, 1) := by decide +kernel
theorem dX11_isDue_19 : decode cX11_isDue 19 = .ok (.iaload, 1) := by decide +kernel
theorem dX11_isDue_20 : decode cX11_isDue 20 = .ok (.imul, 1) := by decide +kernel
theorem dX11_isDue_21 : decode cX11_isDue 21 = .ok (.aload_n 0, 1) := by decide +kernel
theorem dX11_isDue_22 : decode cX11_isDue 22 = .ok (.iload_n 1, 1) := by decide +kernel
theorem dX11_isDue_23 : decode cX11_isDue 23 = .ok (.invokevirtual 196, 3) := by decide +kernel
theorem dX11_isDue_26 : decode cX11_isDue 26 = .ok (.aload_n 0, 1) := by decide +kernel
theorem dX11_isDue_27 : decode cX11_isDue 27 = .ok (.invokevirtual 85, 3) := by decide +kernel
theorem dX11_isDue_30 : decode cX11_isDue 30 = .ok (.imul, 1) := by decide +kernel
theorem dX11_isDue_31 : decode cX11_isDue 31 = .ok (.if_icmp .lt 7, 3) := by decide +kernel
theorem dX11_isDue_34 : decode cX11_isDue 34 = .ok (.iconst 1, 1) := by decide +kernel
theorem dX11_isDue_35 : decode cX11_isDue 35 = .ok (.goto 4, 3) := by decide +kernel
theorem dX11_isDue_38 : decode cX11_isDue 38 = .ok (.iconst 0, 1) := by decide +kernel
theorem dX11_isDue_39 : decode cX11_isDue 39 = .ok (.ireturn, 1) := by decide +kernel
def jX11_isDue_39 (Y : XS) (n : Nat) (S : PS) (t0 : Int32) : Option (Int32) :=
  kzr t0 (some t0)
def jX11_isDue_38 (Y : XS) (n : Nat) (S : PS)  : Option (Int32) :=
  jX11_isDue_39 Y n S (0 : Int32)
def fX11_isDue (Y : XS) (n : Nat) (S : PS) (a0 : Nat) (x1_ : Int32) : Option (Int32) :=
  kc (fX11_membersOf Y n S a0 x1_) (fun q2 => kc (fX11_bitsOf Y n S q2) (fun q5 => (if q5 ≤ 0 then jX11_isDue_38 Y n S  else kgr S a0 0 (fun b15 => kai Y S b15 (0 : Int32) (fun x19 => kc (fX11_costsOf Y n S a0 x1_) (fun q23 => kc (fX11_people Y n S a0) (fun q27 => (if (q5 * x19) < (q23 * q27) then jX11_isDue_38 Y n S  else jX11_isDue_39 Y n S (1 : Int32)))))))))
theorem wjX11_isDue_39 {C : CT} {X : XT} (hC : CK C RX11 cX11_isDue 3 (some .boolean) 3) (n : Nat) (S : PS) (t0 : Int32)   {o : Int32} (hf : jX11_isDue_39 X.2.1 n S t0 = some o) (hR : Rt C X cX11_isDue (some .boolean) (some (.int o)) S) : UW C X S 39 [] [.int t0] := by
  unfold jX11_isDue_39 at hf
  obtain ⟨hz, hf⟩ := kzr_some hf
  cases hf
  exact hR _ _ dX11_isDue_39 hz
theorem wjX11_isDue_38 {C : CT} {X : XT} (hC : CK C RX11 cX11_isDue 3 (some .boolean) 3) (n : Nat) (S : PS)    {o : Int32} (hf : jX11_isDue_38 X.2.1 n S  = some o) (hR : Rt C X cX11_isDue (some .boolean) (some (.int o)) S) : UW C X S 38 [] [] := by
  unfold jX11_isDue_38 at hf
  refine u_iconst (v := (0 : Int32)) hC dX11_isDue_38 (by decide) ?_
  exact wjX11_isDue_39 hC n S (0 : Int32)   hf hR
theorem wX11_isDue {C : CT} {X : XT} (hC : CK C RX11 cX11_isDue 3 (some .boolean) 3) (n : Nat) (S : PS) (a0 : Nat) (x1_ : Int32) (hTa0 : Ty X.2.1 a0 11) {o : Int32} (hf : fX11_isDue X.2.1 n S a0 x1_ = some o) (hR : Rt C X cX11_isDue (some .boolean) (some (.int o)) S) : UW C X S 0 [(0, .ref (X.1 a0)), (1, .int x1_)] [] := by
  unfold fX11_isDue at hf
  refine u_aload_n hC dX11_isDue_0 0 rfl rfl ?_
  refine u_iload_n hC dX11_isDue_1 1 rfl rfl ?_
  obtain ⟨q2, hq2, hf⟩ := kc_some hf
  refine u_callV hC (ctX11_membersOf (cL C) hC.tr (cG C) X.1 X.2.1 n S a0 x1_ hTa0 hq2) lk_X11_276 rfl hTa0 (by decide) rfl (by decide) (by decide) rfl rfl (Nat.le_of_ble_eq_true rfl) dX11_isDue_2 ?_
  obtain ⟨q5, hq5, hf⟩ := kc_some hf
  refine u_callS hC (ctX11_bitsOf (cL C) hC.tr (cG C) X.1 X.2.1 n S q2  hq5) lk_X11_279 (by decide) (by decide) rfl rfl (Nat.le_of_ble_eq_true rfl) dX11_isDue_5 ?_
  refine u_istore_n (lv' := [(2, .int q5), (0, .ref (X.1 a0)), (1, .int x1_)]) hC dX11_isDue_8 rfl (by decide) rfl ?_
  refine u_iload_n hC dX11_isDue_9 0 rfl rfl ?_
  refine u_if_le (tgt := 38) hC dX11_isDue_10 (by decide) hf (fun h10 hf => ?_) (fun h10 hf => ?_)
  · refine u_sub (lv' := []) [] rfl ?_
    exact wjX11_isDue_38 hC n S    hf hR
  · refine u_iload_n hC dX11_isDue_13 0 rfl rfl ?_
    refine u_aload_n hC dX11_isDue_14 1 rfl rfl ?_
    refine u_gr hC lf_X11_9 rfl hTa0 dX11_isDue_15 hf (fun b15 hTb15 hf => ?_)
    refine u_iconst (v := (0 : Int32)) hC dX11_isDue_18 (by decide) ?_
    refine u_ai hC hTb15 dX11_isDue_19 hf (fun x19 hf => ?_)
    refine u_imul hC dX11_isDue_20 ?_
    refine u_aload_n hC dX11_isDue_21 1 rfl rfl ?_
    refine u_iload_n hC dX11_isDue_22 2 rfl rfl ?_
    obtain ⟨q23, hq23, hf⟩ := kc_some hf
    refine u_callV hC (ctX11_costsOf (cL C) hC.tr (cG C) X.1 X.2.1 n S a0 x1_ hTa0 hq23) lk_X11_196 rfl hTa0 (by decide) rfl (by decide) (by decide) rfl rfl (Nat.le_of_ble_eq_true rfl) dX11_isDue_23 ?_
    refine u_aload_n hC dX11_isDue_26 1 rfl rfl ?_
    obtain ⟨q27, hq27, hf⟩ := kc_some hf
    refine u_callV hC (ctX11_people (cL C) hC.tr (cG C) X.1 X.2.1 n S a0 hTa0 hq27) lk_X11_85 rfl hTa0 (by decide) rfl (by decide) (by decide) rfl rfl (Nat.le_of_ble_eq_true rfl) dX11_isDue_27 ?_
    refine u_imul hC dX11_isDue_30 ?_
    refine u_icmp_lt (tgt := 38) hC dX11_isDue_31 (by decide) hf (fun h31 hf => ?_) (fun h31 hf => ?_)
    · refine u_sub (lv' := []) [] rfl ?_
      exact wjX11_isDue_38 hC n S    hf hR
    · refine u_iconst (v := (1 : Int32)) hC dX11_isDue_34 (by decide) ?_
      refine u_goto (tgt := 39) hC dX11_isDue_35 (by decide) ?_
      refine u_sub (lv' := []) [] rfl ?_
      exact wjX11_isDue_39 hC n S (1 : Int32)   hf hR
theorem ctX11_isDue (l : Launch) (hl : l.stackTraces = false) (G : GT) (ρ : Nat → Nat) (Y : XS) (n : Nat) (S : PS) (a0 : Nat) (x1_ : Int32) (hTa0 : Ty Y a0 11) {o : Int32} (hf : fX11_isDue Y n S a0 x1_ = some o) : Mt l G yX11_isDue cX11_isDue 3 (some .boolean) 3 ρ Y [.ref (ρ a0), .int x1_] S (some (.int o)) S :=
  Mt_of hl (by decide) (Nat.le_of_ble_eq_true rfl) (fun C _ _ hC hR => wX11_isDue (X := (ρ, Y, 0, 0)) hC n S a0 x1_ hTa0 hf hR)
-- X11_bestAside
theorem dX11_bestAside_0 : decode cX11_bestAside 0 = .ok (.iconst 0, 1) := by decide +kernel
theorem dX11_bestAside_1 : decode cX11_bestAside 1 = .ok (.istore_n 3, 1) := by decide +kernel
theorem dX11_bestAside_2 : decode cX11_bestAside 2 = .ok (.iconst 0, 1) := by decide +kernel
theorem dX11_bestAside_3 : decode cX11_bestAside 3 = .ok (.istore 4, 2) := by decide +kernel
theorem dX11_bestAside_5 : decode cX11_bestAside 5 = .ok (.iload 4, 2) := by decide +kernel
theorem dX11_bestAside_7 : decode cX11_bestAside 7 = .ok (.aload_n 0, 1) := by decide +kernel
theorem dX11_bestAside_8 : decode cX11_bestAside 8 = .ok (.invokevirtual 77, 3) := by decide +kernel
theorem dX11_bestAside_11 : decode cX11_bestAside 11 = .ok (.if_icmp .ge 47, 3) := by decide +kernel
theorem dX11_bestAside_14 : decode cX11_bestAside 14 = .ok (.iload_n 2, 1) := by decide +kernel
theorem dX11_bestAside_15 : decode cX11_bestAside 15 = .ok (.iload 4, 2) := by decide +kernel
theorem dX11_bestAside_17 : decode cX11_bestAside 17 = .ok (.invokestatic 147, 3) := by decide +kernel
theorem dX11_bestAside_20 : decode cX11_bestAside 20 = .ok (.ifCond .eq 32, 3) := by decide +kernel
theorem dX11_bestAside_23 : decode cX11_bestAside 23 = .ok (.aload_n 0, 1) := by decide +kernel
theorem dX11_bestAside_24 : decode cX11_bestAside 24 = .ok (.getfield 154, 3) := by decide +kernel
theorem dX11_bestAside_27 : decode cX11_bestAside 27 = .ok (.iload 4, 2) := by decide +kernel
theorem dX11_bestAside_29 : decode cX11_bestAside 29 = .ok (.invokestatic 147, 3) := by decide +kernel
theorem dX11_bestAside_32 : decode cX11_bestAside 32 = .ok (.ifCond .ne 20, 3) := by decide +kernel
theorem dX11_bestAside_35 : decode cX11_bestAside 35 = .ok (.iload_n 3, 1) := by decide +kernel
theorem dX11_bestAside_36 : decode cX11_bestAside 36 = .ok (.aload_n 0, 1) := by decide +kernel
theorem dX11_bestAside_37 : decode cX11_bestAside 37 = .ok (.getfield 25, 3) := by decide +kernel
theorem dX11_bestAside_40 : decode cX11_bestAside 40 = .ok (.bipush 12, 2) := by decide +kernel
theorem dX11_bestAside_42 : decode cX11_bestAside 42 = .ok (.iload_n 1, 1) := by decide +kernel
theorem dX11_bestAside_43 : decode cX11_bestAside 43 = .ok (.imul, 1) := by decide +kernel
theorem dX11_bestAside_44 : decode cX11_bestAside 44 = .ok (.iload 4, 2) := by decide +kernel
theorem dX11_bestAside_46 : decode cX11_bestAside 46 = .ok (.iadd, 1) := by decide +kernel
theorem dX11_bestAside_47 : decode cX11_bestAside 47 = .ok (.iaload, 1) := by decide +kernel
theorem dX11_bestAside_48 : decode cX11_bestAside 48 = .ok (.invokestatic 137, 3) := by decide +kernel
theorem dX11_bestAside_51 : decode cX11_bestAside 51 = .ok (.istore_n 3, 1) := by decide +kernel
theorem dX11_bestAside_52 : decode cX11_bestAside 52 = .ok (.iinc 4 1, 3) := by decide +kernel
theorem dX11_bestAside_55 : decode cX11_bestAside 55 = .ok (.goto (-50), 3) := by decide +kernel
theorem dX11_bestAside_58 : decode cX11_bestAside 58 = .ok (.iload_n 3, 1) := by decide +kernel
theorem dX11_bestAside_59 : decode cX11_bestAside 59 = .ok (.ireturn, 1) := by decide +kernel
def jX11_bestAside_52_5 (Y : XS) (n : Nat) (S : PS) (v0 : Nat) (v1 : Int32) (v2 : Int32) (v3 : Int32) (v4 : Int32) : Option ((Int32 × Int32) ⊕ Int32) :=
  some (.inl (v3, v4 + (1 : Int32)))
def bX11_bestAside_5 (Y : XS) (n : Nat) (S : PS) (v0 : Nat) (v1 : Int32) (v2 : Int32) (s5 : (Int32 × Int32)) : Option ((Int32 × Int32) ⊕ Int32) :=
  kc (fX11_many Y n S v0) (fun q8 => (if q8 ≤ s5.2 then some (.inr s5.1) else kc (fX11_isOf Y n S v2 s5.2) (fun q17 => (if q17 = 0 then jX11_bestAside_52_5 Y n S v0 v1 v2 s5.1 s5.2 else kgi S v0 21 (fun x24 => kc (fX11_isOf Y n S x24 s5.2) (fun q29 => (if q29 = 0 then kgr S v0 12 (fun b37 => kai Y S b37 (((12 : Int32) * v1) + s5.2) (fun x47 => jX11_bestAside_52_5 Y n S v0 v1 v2 (imax s5.1 x47) s5.2)) else jX11_bestAside_52_5 Y n S v0 v1 v2 s5.1 s5.2)))))))
def fX11_bestAside (Y : XS) (n : Nat) (S : PS) (a0 : Nat) (x1_ : Int32) (x2_ : Int32) : Option (Int32) :=
  kc (iter (bX11_bestAside_5 Y n S a0 x1_ x2_) n ((0 : Int32), (0 : Int32))) (fun r5 => some r5)
theorem wjX11_bestAside_52_5 {C : CT} {X : XT} (hC : CK C RX11 cX11_bestAside 5 (some .int) 2) (n : Nat) (S : PS) (v0 : Nat) (v1 : Int32) (v2 : Int32) (v3 : Int32) (v4 : Int32)  (hTv0 : Ty X.2.1 v0 11) {o : (Int32 × Int32) ⊕ Int32} (hf : jX11_bestAside_52_5 X.2.1 n S v0 v1 v2 v3 v4 = some o) (hN : ∀ s', o = .inl s' → UW C X S 5 [(0, .ref (X.1 v0)), (1, .int v1), (2, .int v2), (3, .int s'.1), (4, .int s'.2)] []) (hO0 : ∀ p', o = .inr p' → UW C X S 58 [(3, .int p')] []) : UW C X S 52 [(0, .ref (X.1 v0)), (1, .int v1), (2, .int v2), (3, .int v3), (4, .int v4)] [] := by
  unfold jX11_bestAside_52_5 at hf
  refine u_iinc (v := v4 + (1 : Int32)) (lv' := [(4, .int (v4 + (1 : Int32))), (0, .ref (X.1 v0)), (1, .int v1), (2, .int v2), (3, .int v3)]) hC dX11_bestAside_52 4 rfl rfl (by decide) rfl ?_
  refine u_goto (tgt := 5) hC dX11_bestAside_55 (by decide) ?_
  refine u_sub (lv' := [(0, .ref (X.1 v0)), (1, .int v1), (2, .int v2), (3, .int v3), (4, .int (v4 + (1 : Int32)))]) [1, 2, 3, 4, 0] rfl ?_
  exact hN _ (Option.some.inj hf).symm
theorem wbX11_bestAside_5 {C : CT} {X : XT} (hC : CK C RX11 cX11_bestAside 5 (some .int) 2) (n : Nat) (S : PS) (v0 : Nat) (v1 : Int32) (v2 : Int32) (hTv0 : Ty X.2.1 v0 11) (s5 : (Int32 × Int32)) {o : (Int32 × Int32) ⊕ Int32} (hf : bX11_bestAside_5 X.2.1 n S v0 v1 v2 s5 = some o) (hN : ∀ s', o = .inl s' → UW C X S 5 [(0, .ref (X.1 v0)), (1, .int v1), (2, .int v2), (3, .int s'.1), (4, .int s'.2)] []) (hO0 : ∀ p', o = .inr p' → UW C X S 58 [(3, .int p')] []) : UW C X S 5 [(0, .ref (X.1 v0)), (1, .int v1), (2, .int v2), (3, .int s5.1), (4, .int s5.2)] [] := by
  unfold bX11_bestAside_5 at hf
  refine u_iload hC dX11_bestAside_5 4 rfl ?_
  refine u_aload_n hC dX11_bestAside_7 0 rfl rfl ?_
  obtain ⟨q8, hq8, hf⟩ := kc_some hf
  refine u_callV hC (ctX11_many (cL C) hC.tr (cG C) X.1 X.2.1 n S v0 hTv0 hq8) lk_X11_77 rfl hTv0 (by decide) rfl (by decide) (by decide) rfl rfl (Nat.le_of_ble_eq_true rfl) dX11_bestAside_8 ?_
  refine u_icmp_ge (tgt := 58) hC dX11_bestAside_11 (by decide) hf (fun h11 hf => ?_) (fun h11 hf => ?_)
  · refine u_sub (lv' := [(3, .int s5.1)]) [3] rfl ?_
    exact hO0 _ (Option.some.inj hf).symm
  · refine u_iload_n hC dX11_bestAside_14 2 rfl rfl ?_
    refine u_iload hC dX11_bestAside_15 4 rfl ?_
    obtain ⟨q17, hq17, hf⟩ := kc_some hf
    refine u_callS hC (ctX11_isOf (cL C) hC.tr (cG C) X.1 X.2.1 n S v2 s5.2  hq17) lk_X11_147 (by decide) (by decide) rfl rfl (Nat.le_of_ble_eq_true rfl) dX11_bestAside_17 ?_
    refine u_if_eq (tgt := 52) hC dX11_bestAside_20 (by decide) hf (fun h20 hf => ?_) (fun h20 hf => ?_)
    · exact wjX11_bestAside_52_5 hC n S v0 v1 v2 s5.1 s5.2  hTv0 hf hN hO0
    · refine u_aload_n hC dX11_bestAside_23 0 rfl rfl ?_
      refine u_gi hC lf_X11_154 rfl hTv0 dX11_bestAside_24 hf (fun x24 hf => ?_)
      refine u_iload hC dX11_bestAside_27 4 rfl ?_
      obtain ⟨q29, hq29, hf⟩ := kc_some hf
      refine u_callS hC (ctX11_isOf (cL C) hC.tr (cG C) X.1 X.2.1 n S x24 s5.2  hq29) lk_X11_147 (by decide) (by decide) rfl rfl (Nat.le_of_ble_eq_true rfl) dX11_bestAside_29 ?_
      refine u_if_ne (tgt := 52) hC dX11_bestAside_32 (by decide) hf (fun h32 hf => ?_) (fun h32 hf => ?_)
      · exact wjX11_bestAside_52_5 hC n S v0 v1 v2 s5.1 s5.2  hTv0 hf hN hO0
      · refine u_iload_n hC dX11_bestAside_35 3 rfl rfl ?_
        refine u_aload_n hC dX11_bestAside_36 0 rfl rfl ?_
        refine u_gr hC lf_X11_25 rfl hTv0 dX11_bestAside_37 hf (fun b37 hTb37 hf => ?_)
        refine u_bipush (v := (12 : Int32)) hC dX11_bestAside_40 (by decide) ?_
        refine u_iload_n hC dX11_bestAside_42 1 rfl rfl ?_
        refine u_imul hC dX11_bestAside_43 ?_
        refine u_iload hC dX11_bestAside_44 4 rfl ?_
        refine u_iadd hC dX11_bestAside_46 ?_
        refine u_ai hC hTb37 dX11_bestAside_47 hf (fun x47 hf => ?_)
        refine u_mmax hC (tb_6 234 rfl rfl) (by decide) (Nat.le_of_ble_eq_true rfl) dX11_bestAside_48 ?_
        refine u_istore_n (lv' := [(3, .int (imax s5.1 x47)), (0, .ref (X.1 v0)), (1, .int v1), (2, .int v2), (4, .int s5.2)]) hC dX11_bestAside_51 rfl (by decide) rfl ?_
        refine u_sub (lv' := [(0, .ref (X.1 v0)), (1, .int v1), (2, .int v2), (3, .int (imax s5.1 x47)), (4, .int s5.2)]) [1, 2, 3, 0, 4] rfl ?_
        exact wjX11_bestAside_52_5 hC n S v0 v1 v2 (imax s5.1 x47) s5.2  hTv0 hf hN hO0
theorem wX11_bestAside {C : CT} {X : XT} (hC : CK C RX11 cX11_bestAside 5 (some .int) 2) (n : Nat) (S : PS) (a0 : Nat) (x1_ : Int32) (x2_ : Int32) (hTa0 : Ty X.2.1 a0 11) {o : Int32} (hf : fX11_bestAside X.2.1 n S a0 x1_ x2_ = some o) (hR : Rt C X cX11_bestAside (some .int) (some (.int o)) S) : UW C X S 0 [(0, .ref (X.1 a0)), (1, .int x1_), (2, .int x2_)] [] := by
  unfold fX11_bestAside at hf
  refine u_iconst (v := (0 : Int32)) hC dX11_bestAside_0 (by decide) ?_
  refine u_istore_n (lv' := [(3, .int (0 : Int32)), (0, .ref (X.1 a0)), (1, .int x1_), (2, .int x2_)]) hC dX11_bestAside_1 rfl (by decide) rfl ?_
  refine u_iconst (v := (0 : Int32)) hC dX11_bestAside_2 (by decide) ?_
  refine u_istore (lv' := [(4, .int (0 : Int32)), (3, .int (0 : Int32)), (0, .ref (X.1 a0)), (1, .int x1_), (2, .int x2_)]) hC dX11_bestAside_3 (by decide) rfl ?_
  obtain ⟨r5, hr5, hf⟩ := kc_some hf
  have hk5 : UW C X S 58 [(3, .int r5)] [] := by
    refine u_iload_n hC dX11_bestAside_58 0 rfl rfl ?_
    cases hf
    exact hR _ _ dX11_bestAside_59 trivial
  refine u_sub (lv' := [(0, .ref (X.1 a0)), (1, .int x1_), (2, .int x2_), (3, .int (0 : Int32)), (4, .int (0 : Int32))]) [2, 3, 4, 1, 0] rfl ?_
  refine iter_ind (P := fun s5 => UW C X S 5 [(0, .ref (X.1 a0)), (1, .int x1_), (2, .int x2_), (3, .int s5.1), (4, .int s5.2)] []) (fun s5 o' hb hin hout => ?_) n ((0 : Int32), (0 : Int32)) hr5
  exact wbX11_bestAside_5 hC n S a0 x1_ x2_ hTa0 s5 hb hin (fun p e => by rw [hout p e]; exact hk5)
theorem ctX11_bestAside (l : Launch) (hl : l.stackTraces = false) (G : GT) (ρ : Nat → Nat) (Y : XS) (n : Nat) (S : PS) (a0 : Nat) (x1_ : Int32) (x2_ : Int32) (hTa0 : Ty Y a0 11) {o : Int32} (hf : fX11_bestAside Y n S a0 x1_ x2_ = some o) : Mt l G yX11_bestAside cX11_bestAside 5 (some .int) 2 ρ Y [.ref (ρ a0), .int x1_, .int x2_] S (some (.int o)) S :=
  Mt_of hl (by decide) (Nat.le_of_ble_eq_true rfl) (fun C _ _ hC hR => wX11_bestAside (X := (ρ, Y, 0, 0)) hC n S a0 x1_ x2_ hTa0 hf hR)
-- X11_serves
theorem dX11_serves_0 : decode cX11_serves 0 = .ok (.aload_n 0, 1) := by decide +kernel
theorem dX11_serves_1 : decode cX11_serves 1 = .ok (.iload_n 1, 1) := by decide +kernel
theorem dX11_serves_2 : decode cX11_serves 2 = .ok (.invokevirtual 276, 3) := by decide +kernel
theorem dX11_serves_5 : decode cX11_serves 5 = .ok (.istore_n 3, 1) := by decide +kernel
theorem dX11_serves_6 : decode cX11_serves 6 = .ok (.iconst 0, 1) := by decide +kernel
theorem dX11_serves_7 : decode cX11_serves 7 = .ok (.istore 4, 2) := by decide +kernel
theorem dX11_serves_9 : decode cX11_serves 9 = .ok (.iload 4, 2) := by decide +kernel
theorem dX11_serves_11 : decode cX11_serves 11 = .ok (.aload_n 0, 1) := by decide +kernel
theorem dX11_serves_12 : decode cX11_serves 12 = .ok (.invokevirtual 85, 3) := by decide +kernel
theorem dX11_serves_15 : decode cX11_serves 15 = .ok (.if_icmp .ge 56, 3) := by decide +kernel
theorem dX11_serves_18 : decode cX11_serves 18 = .ok (.iload_n 3, 1) := by decide +kernel
theorem dX11_serves_19 : decode cX11_serves 19 = .ok (.iload 4, 2) := by decide +kernel
theorem dX11_serves_21 : decode cX11_serves 21 = .ok (.invokestatic 147, 3) := by decide +kernel
theorem dX11_serves_24 : decode cX11_serves 24 = .ok (.ifCond .eq 41, 3) := by decide +kernel
theorem dX11_serves_27 : decode cX11_serves 27 = .ok (.aload_n 0, 1) := by decide +kernel
theorem dX11_serves_28 : decode cX11_serves 28 = .ok (.iload 4, 2) := by decide +kernel
theorem dX11_serves_30 : decode cX11_serves 30 = .ok (.aload_n 0, 1) := by decide +kernel
theorem dX11_serves_31 : decode cX11_serves 31 = .ok (.getfield 154, 3) := by decide +kernel
theorem dX11_serves_34 : decode cX11_serves 34 = .ok (.invokevirtual 151, 3) := by decide +kernel
theorem dX11_serves_37 : decode cX11_serves 37 = .ok (.iload_n 2, 1) := by decide +kernel
theorem dX11_serves_38 : decode cX11_serves 38 = .ok (.ifCond .eq 13, 3) := by decide +kernel
theorem dX11_serves_41 : decode cX11_serves 41 = .ok (.aload_n 0, 1) := by decide +kernel
theorem dX11_serves_42 : decode cX11_serves 42 = .ok (.iload 4, 2) := by decide +kernel
theorem dX11_serves_44 : decode cX11_serves 44 = .ok (.iload_n 1, 1) := by decide +kernel
theorem dX11_serves_45 : decode cX11_serves 45 = .ok (.invokevirtual 288, 3) := by decide +kernel
theorem dX11_serves_48 : decode cX11_serves 48 = .ok (.goto 4, 3) := by decide +kernel
theorem dX11_serves_51 : decode cX11_serves 51 = .ok (.iconst 0, 1) := by decide +kernel
theorem dX11_serves_52 : decode cX11_serves 52 = .ok (.iadd, 1) := by decide +kernel
theorem dX11_serves_53 : decode cX11_serves 53 = .ok (.aload_n 0, 1) := by decide +kernel
theorem dX11_serves_54 : decode cX11_serves 54 = .ok (.iload 4, 2) := by decide +kernel
theorem dX11_serves_56 : decode cX11_serves 56 = .ok (.iload_n 1, 1) := by decide +kernel
theorem dX11_serves_57 : decode cX11_serves 57 = .ok (.invokevirtual 151, 3) := by decide +kernel
theorem dX11_serves_60 : decode cX11_serves 60 = .ok (.if_icmp .lt 5, 3) := by decide +kernel
theorem dX11_serves_63 : decode cX11_serves 63 = .ok (.iconst 1, 1) := by decide +kernel
theorem dX11_serves_64 : decode cX11_serves 64 = .ok (.ireturn, 1) := by decide +kernel
theorem dX11_serves_65 : decode cX11_serves 65 = .ok (.iinc 4 1, 3) := by decide +kernel
theorem dX11_serves_68 : decode cX11_serves 68 = .ok (.goto (-59), 3) := by decide +kernel
theorem dX11_serves_71 : decode cX11_serves 71 = .ok (.iconst 0, 1) := by decide +kernel
theorem dX11_serves_72 : decode cX11_serves 72 = .ok (.ireturn, 1) := by decide +kernel
def jX11_serves_65_9 (Y : XS) (n : Nat) (S : PS) (v0 : Nat) (v1 : Int32) (v2 : Int32) (v3 : Int32) (v4 : Int32) : Option (Int32 ⊕ (Unit ⊕ (Int32))) :=
  some (.inl (v4 + (1 : Int32)))
def jX11_serves_52_9 (Y : XS) (n : Nat) (S : PS) (v0 : Nat) (v1 : Int32) (v2 : Int32) (v3 : Int32) (v4 : Int32) (t0 : Int32) (t1 : Int32) : Option (Int32 ⊕ (Unit ⊕ (Int32))) :=
  kc (fX11_worthTo Y n S v0 v4 v1) (fun q57 => (if (t1 + t0) < q57 then jX11_serves_65_9 Y n S v0 v1 v2 v3 v4 else kzr (1 : Int32) (some (.inr (.inr (1 : Int32))))))
def bX11_serves_9 (Y : XS) (n : Nat) (S : PS) (v0 : Nat) (v1 : Int32) (v2 : Int32) (v3 : Int32) (s9 : Int32) : Option (Int32 ⊕ (Unit ⊕ (Int32))) :=
  kc (fX11_people Y n S v0) (fun q12 => (if q12 ≤ s9 then some (.inr (.inl ())) else kc (fX11_isOf Y n S v3 s9) (fun q21 => (if q21 = 0 then jX11_serves_65_9 Y n S v0 v1 v2 v3 s9 else kgi S v0 21 (fun x31 => kc (fX11_worthTo Y n S v0 s9 x31) (fun q34 => (if v2 = 0 then jX11_serves_52_9 Y n S v0 v1 v2 v3 s9 (0 : Int32) q34 else kc (fX11_bestAside Y n S v0 s9 v1) (fun q45 => jX11_serves_52_9 Y n S v0 v1 v2 v3 s9 q45 q34))))))))
def fX11_serves (Y : XS) (n : Nat) (S : PS) (a0 : Nat) (x1_ : Int32) (x2_ : Int32) : Option (Int32) :=
  kc (fX11_membersOf Y n S a0 x1_) (fun q2 => kc (iter (bX11_serves_9 Y n S a0 x1_ x2_ q2) n (0 : Int32)) (fun r9 => ks r9 (fun p9_0 => kzr (0 : Int32) (some (0 : Int32))) (fun p9_1 => some p9_1)))
theorem wjX11_serves_65_9 {C : CT} {X : XT} (hC : CK C RX11 cX11_serves 5 (some .boolean) 3) (n : Nat) (S : PS) (v0 : Nat) (v1 : Int32) (v2 : Int32) (v3 : Int32) (v4 : Int32)  (hTv0 : Ty X.2.1 v0 11) {o : Int32 ⊕ (Unit ⊕ (Int32))} (hf : jX11_serves_65_9 X.2.1 n S v0 v1 v2 v3 v4 = some o) (hN : ∀ s', o = .inl s' → UW C X S 9 [(0, .ref (X.1 v0)), (1, .int v1), (2, .int v2), (3, .int v3), (4, .int s')] []) (hO0 : ∀ p', o = .inr (.inl p') → UW C X S 71 [] []) (hR : ∀ q', o = .inr (.inr q') → Rt C X cX11_serves (some .boolean) (some (.int q')) S) : UW C X S 65 [(0, .ref (X.1 v0)), (1, .int v1), (2, .int v2), (3, .int v3), (4, .int v4)] [] := by
  unfold jX11_serves_65_9 at hf
  refine u_iinc (v := v4 + (1 : Int32)) (lv' := [(4, .int (v4 + (1 : Int32))), (0, .ref (X.1 v0)), (1, .int v1), (2, .int v2), (3, .int v3)]) hC dX11_serves_65 4 rfl rfl (by decide) rfl ?_
  refine u_goto (tgt := 9) hC dX11_serves_68 (by decide) ?_
  refine u_sub (lv' := [(0, .ref (X.1 v0)), (1, .int v1), (2, .int v2), (3, .int v3), (4, .int (v4 + (1 : Int32)))]) [1, 2, 3, 4, 0] rfl ?_
  exact hN _ (Option.some.inj hf).symm
theorem wjX11_serves_52_9 {C : CT} {X : XT} (hC : CK C RX11 cX11_serves 5 (some .boolean) 3) (n : Nat) (S : PS) (v0 : Nat) (v1 : Int32) (v2 : Int32) (v3 : Int32) (v4 : Int32) (t0 : Int32) (t1 : Int32)  (hTv0 : Ty X.2.1 v0 11) {o : Int32 ⊕ (Unit ⊕ (Int32))} (hf : jX11_serves_52_9 X.2.1 n S v0 v1 v2 v3 v4 t0 t1 = some o) (hN : ∀ s', o = .inl s' → UW C X S 9 [(0, .ref (X.1 v0)), (1, .int v1), (2, .int v2), (3, .int v3), (4, .int s')] []) (hO0 : ∀ p', o = .inr (.inl p') → UW C X S 71 [] []) (hR : ∀ q', o = .inr (.inr q') → Rt C X cX11_serves (some .boolean) (some (.int q')) S) : UW C X S 52 [(0, .ref (X.1 v0)), (1, .int v1), (2, .int v2), (3, .int v3), (4, .int v4)] [.int t0, .int t1] := by
  unfold jX11_serves_52_9 at hf
  refine u_iadd hC dX11_serves_52 ?_
  refine u_aload_n hC dX11_serves_53 0 rfl rfl ?_
  refine u_iload hC dX11_serves_54 4 rfl ?_
  refine u_iload_n hC dX11_serves_56 1 rfl rfl ?_
  obtain ⟨q57, hq57, hf⟩ := kc_some hf
  refine u_callV hC (ctX11_worthTo (cL C) hC.tr (cG C) X.1 X.2.1 n S v0 v4 v1 hTv0 hq57) lk_X11_151 rfl hTv0 (by decide) rfl (by decide) (by decide) rfl rfl (Nat.le_of_ble_eq_true rfl) dX11_serves_57 ?_
  refine u_icmp_lt (tgt := 65) hC dX11_serves_60 (by decide) hf (fun h60 hf => ?_) (fun h60 hf => ?_)
  · exact wjX11_serves_65_9 hC n S v0 v1 v2 v3 v4  hTv0 hf hN hO0 hR
  · refine u_iconst (v := (1 : Int32)) hC dX11_serves_63 (by decide) ?_
    obtain ⟨hz, hf⟩ := kzr_some hf
    exact hR _ (Option.some.inj hf).symm _ _ dX11_serves_64 hz
theorem wbX11_serves_9 {C : CT} {X : XT} (hC : CK C RX11 cX11_serves 5 (some .boolean) 3) (n : Nat) (S : PS) (v0 : Nat) (v1 : Int32) (v2 : Int32) (v3 : Int32) (hTv0 : Ty X.2.1 v0 11) (s9 : Int32) {o : Int32 ⊕ (Unit ⊕ (Int32))} (hf : bX11_serves_9 X.2.1 n S v0 v1 v2 v3 s9 = some o) (hN : ∀ s', o = .inl s' → UW C X S 9 [(0, .ref (X.1 v0)), (1, .int v1), (2, .int v2), (3, .int v3), (4, .int s')] []) (hO0 : ∀ p', o = .inr (.inl p') → UW C X S 71 [] []) (hR : ∀ q', o = .inr (.inr q') → Rt C X cX11_serves (some .boolean) (some (.int q')) S) : UW C X S 9 [(0, .ref (X.1 v0)), (1, .int v1), (2, .int v2), (3, .int v3), (4, .int s9)] [] := by
  unfold bX11_serves_9 at hf
  refine u_iload hC dX11_serves_9 4 rfl ?_
  refine u_aload_n hC dX11_serves_11 0 rfl rfl ?_
  obtain ⟨q12, hq12, hf⟩ := kc_some hf
  refine u_callV hC (ctX11_people (cL C) hC.tr (cG C) X.1 X.2.1 n S v0 hTv0 hq12) lk_X11_85 rfl hTv0 (by decide) rfl (by decide) (by decide) rfl rfl (Nat.le_of_ble_eq_true rfl) dX11_serves_12 ?_
  refine u_icmp_ge (tgt := 71) hC dX11_serves_15 (by decide) hf (fun h15 hf => ?_) (fun h15 hf => ?_)
  · refine u_sub (lv' := []) [] rfl ?_
    exact hO0 _ (Option.some.inj hf).symm
  · refine u_iload_n hC dX11_serves_18 3 rfl rfl ?_
    refine u_iload hC dX11_serves_19 4 rfl ?_
    obtain ⟨q21, hq21, hf⟩ := kc_some hf
    refine u_callS hC (ctX11_isOf (cL C) hC.tr (cG C) X.1 X.2.1 n S v3 s9  hq21) lk_X11_147 (by decide) (by decide) rfl rfl (Nat.le_of_ble_eq_true rfl) dX11_serves_21 ?_
    refine u_if_eq (tgt := 65) hC dX11_serves_24 (by decide) hf (fun h24 hf => ?_) (fun h24 hf => ?_)
    · exact wjX11_serves_65_9 hC n S v0 v1 v2 v3 s9  hTv0 hf hN hO0 hR
    · refine u_aload_n hC dX11_serves_27 0 rfl rfl ?_
      refine u_iload hC dX11_serves_28 4 rfl ?_
      refine u_aload_n hC dX11_serves_30 0 rfl rfl ?_
      refine u_gi hC lf_X11_154 rfl hTv0 dX11_serves_31 hf (fun x31 hf => ?_)
      obtain ⟨q34, hq34, hf⟩ := kc_some hf
      refine u_callV hC (ctX11_worthTo (cL C) hC.tr (cG C) X.1 X.2.1 n S v0 s9 x31 hTv0 hq34) lk_X11_151 rfl hTv0 (by decide) rfl (by decide) (by decide) rfl rfl (Nat.le_of_ble_eq_true rfl) dX11_serves_34 ?_
      refine u_iload_n hC dX11_serves_37 2 rfl rfl ?_
      refine u_if_eq (tgt := 51) hC dX11_serves_38 (by decide) hf (fun h38 hf => ?_) (fun h38 hf => ?_)
      · refine u_iconst (v := (0 : Int32)) hC dX11_serves_51 (by decide) ?_
        exact wjX11_serves_52_9 hC n S v0 v1 v2 v3 s9 (0 : Int32) q34  hTv0 hf hN hO0 hR
      · refine u_aload_n hC dX11_serves_41 0 rfl rfl ?_
        refine u_iload hC dX11_serves_42 4 rfl ?_
        refine u_iload_n hC dX11_serves_44 1 rfl rfl ?_
        obtain ⟨q45, hq45, hf⟩ := kc_some hf
        refine u_callV hC (ctX11_bestAside (cL C) hC.tr (cG C) X.1 X.2.1 n S v0 s9 v1 hTv0 hq45) lk_X11_288 rfl hTv0 (by decide) rfl (by decide) (by decide) rfl rfl (Nat.le_of_ble_eq_true rfl) dX11_serves_45 ?_
        refine u_goto (tgt := 52) hC dX11_serves_48 (by decide) ?_
        exact wjX11_serves_52_9 hC n S v0 v1 v2 v3 s9 q45 q34  hTv0 hf hN hO0 hR
theorem wX11_serves {C : CT} {X : XT} (hC : CK C RX11 cX11_serves 5 (some .boolean) 3) (n : Nat) (S : PS) (a0 : Nat) (x1_ : Int32) (x2_ : Int32) (hTa0 : Ty X.2.1 a0 11) {o : Int32} (hf : fX11_serves X.2.1 n S a0 x1_ x2_ = some o) (hR : Rt C X cX11_serves (some .boolean) (some (.int o)) S) : UW C X S 0 [(0, .ref (X.1 a0)), (1, .int x1_), (2, .int x2_)] [] := by
  unfold fX11_serves at hf
  refine u_aload_n hC dX11_serves_0 0 rfl rfl ?_
  refine u_iload_n hC dX11_serves_1 1 rfl rfl ?_
  obtain ⟨q2, hq2, hf⟩ := kc_some hf
  refine u_callV hC (ctX11_membersOf (cL C) hC.tr (cG C) X.1 X.2.1 n S a0 x1_ hTa0 hq2) lk_X11_276 rfl hTa0 (by decide) rfl (by decide) (by decide) rfl rfl (Nat.le_of_ble_eq_true rfl) dX11_serves_2 ?_
  refine u_istore_n (lv' := [(3, .int q2), (0, .ref (X.1 a0)), (1, .int x1_), (2, .int x2_)]) hC dX11_serves_5 rfl (by decide) rfl ?_
  refine u_iconst (v := (0 : Int32)) hC dX11_serves_6 (by decide) ?_
  refine u_istore (lv' := [(4, .int (0 : Int32)), (3, .int q2), (0, .ref (X.1 a0)), (1, .int x1_), (2, .int x2_)]) hC dX11_serves_7 (by decide) rfl ?_
  obtain ⟨r9, hr9, hf⟩ := kc_some hf
  have hk9_0 : ∀ p9_0, r9 = (.inl p9_0) → UW C X S 71 [] [] := by
    intro p9_0 he
    subst he
    have hf := ks_l hf
    refine u_iconst (v := (0 : Int32)) hC dX11_serves_71 (by decide) ?_
    obtain ⟨hz, hf⟩ := kzr_some hf
    cases hf
    exact hR _ _ dX11_serves_72 hz
  have hk9_1 : ∀ p9_1, r9 = (.inr p9_1) → Rt C X cX11_serves (some .boolean) (some (.int p9_1)) S := by
    intro p9_1 he
    subst he
    have hf := ks_r hf
    cases hf
    exact hR
  refine u_sub (lv' := [(0, .ref (X.1 a0)), (1, .int x1_), (2, .int x2_), (3, .int q2), (4, .int (0 : Int32))]) [2, 3, 4, 1, 0] rfl ?_
  refine iter_ind (P := fun s9 => UW C X S 9 [(0, .ref (X.1 a0)), (1, .int x1_), (2, .int x2_), (3, .int q2), (4, .int s9)] []) (fun s9 o' hb hin hout => ?_) n (0 : Int32) hr9
  exact wbX11_serves_9 hC n S a0 x1_ x2_ q2 hTa0 s9 hb hin (fun p e => hk9_0 p (hout _ e).symm) (fun p e => hk9_1 p (hout _ e).symm)
theorem ctX11_serves (l : Launch) (hl : l.stackTraces = false) (G : GT) (ρ : Nat → Nat) (Y : XS) (n : Nat) (S : PS) (a0 : Nat) (x1_ : Int32) (x2_ : Int32) (hTa0 : Ty Y a0 11) {o : Int32} (hf : fX11_serves Y n S a0 x1_ x2_ = some o) : Mt l G yX11_serves cX11_serves 5 (some .boolean) 3 ρ Y [.ref (ρ a0), .int x1_, .int x2_] S (some (.int o)) S :=
  Mt_of hl (by decide) (Nat.le_of_ble_eq_true rfl) (fun C _ _ hC hR => wX11_serves (X := (ρ, Y, 0, 0)) hC n S a0 x1_ x2_ hTa0 hf hR)
-- X11_removeVoter
theorem dX11_removeVoter_0 : decode cX11_removeVoter 0 = .ok (.iload_n 1, 1) := by decide +kernel
theorem dX11_removeVoter_1 : decode cX11_removeVoter 1 = .ok (.istore_n 2, 1) := by decide +kernel
theorem dX11_removeVoter_2 : decode cX11_removeVoter 2 = .ok (.iload_n 2, 1) := by decide +kernel
theorem dX11_removeVoter_3 : decode cX11_removeVoter 3 = .ok (.aload_n 0, 1) := by decide +kernel
theorem dX11_removeVoter_4 : decode cX11_removeVoter 4 = .ok (.invokevirtual 85, 3) := by decide +kernel
theorem dX11_removeVoter_7 : decode cX11_removeVoter 7 = .ok (.iconst 1, 1) := by decide +kernel
theorem dX11_removeVoter_8 : decode cX11_removeVoter 8 = .ok (.isub, 1) := by decide +kernel
theorem dX11_removeVoter_9 : decode cX11_removeVoter 9 = .ok (.if_icmp .ge 41, 3) := by decide +kernel
theorem dX11_removeVoter_12 : decode cX11_removeVoter 12 = .ok (.iconst 0, 1) := by decide +kernel
theorem dX11_removeVoter_13 : decode cX11_removeVoter 13 = .ok (.istore_n 3, 1) := by decide +kernel
theorem dX11_removeVoter_14 : decode cX11_removeVoter 14 = .ok (.iload_n 3, 1) := by decide +kernel
theorem dX11_removeVoter_15 : decode cX11_removeVoter 15 = .ok (.bipush 12, 2) := by decide +kernel
theorem dX11_removeVoter_17 : decode cX11_removeVoter 17 = .ok (.if_icmp .ge 27, 3) := by decide +kernel
theorem dX11_removeVoter_20 : decode cX11_removeVoter 20 = .ok (.aload_n 0, 1) := by decide +kernel
theorem dX11_removeVoter_21 : decode cX11_removeVoter 21 = .ok (.getfield 9, 3) := by decide +kernel
theorem dX11_removeVoter_24 : decode cX11_removeVoter 24 = .ok (.iload_n 2, 1) := by decide +kernel
theorem dX11_removeVoter_25 : decode cX11_removeVoter 25 = .ok (.iload_n 3, 1) := by decide +kernel
theorem dX11_removeVoter_26 : decode cX11_removeVoter 26 = .ok (.invokestatic 73, 3) := by decide +kernel
theorem dX11_removeVoter_29 : decode cX11_removeVoter 29 = .ok (.aload_n 0, 1) := by decide +kernel
theorem dX11_removeVoter_30 : decode cX11_removeVoter 30 = .ok (.iload_n 2, 1) := by decide +kernel
theorem dX11_removeVoter_31 : decode cX11_removeVoter 31 = .ok (.iconst 1, 1) := by decide +kernel
theorem dX11_removeVoter_32 : decode cX11_removeVoter 32 = .ok (.iadd, 1) := by decide +kernel
theorem dX11_removeVoter_33 : decode cX11_removeVoter 33 = .ok (.iload_n 3, 1) := by decide +kernel
theorem dX11_removeVoter_34 : decode cX11_removeVoter 34 = .ok (.invokevirtual 88, 3) := by decide +kernel
theorem dX11_removeVoter_37 : decode cX11_removeVoter 37 = .ok (.iastore, 1) := by decide +kernel
theorem dX11_removeVoter_38 : decode cX11_removeVoter 38 = .ok (.iinc 3 1, 3) := by decide +kernel
theorem dX11_removeVoter_41 : decode cX11_removeVoter 41 = .ok (.goto (-27), 3) := by decide +kernel
theorem dX11_removeVoter_44 : decode cX11_removeVoter 44 = .ok (.iinc 2 1, 3) := by decide +kernel
theorem dX11_removeVoter_47 : decode cX11_removeVoter 47 = .ok (.goto (-45), 3) := by decide +kernel
theorem dX11_removeVoter_50 : decode cX11_removeVoter 50 = .ok (.iconst 0, 1) := by decide +kernel
theorem dX11_removeVoter_51 : decode cX11_removeVoter 51 = .ok (.istore_n 2, 1) := by decide +kernel
theorem dX11_removeVoter_52 : decode cX11_removeVoter 52 = .ok (.iload_n 2, 1) := by decide +kernel
theorem dX11_removeVoter_53 : decode cX11_removeVoter 53 = .ok (.bipush 12, 2) := by decide +kernel
theorem dX11_removeVoter_55 : decode cX11_removeVoter 55 = .ok (.if_icmp .ge 25, 3) := by decide +kernel
theorem dX11_removeVoter_58 : decode cX11_removeVoter 58 = .ok (.aload_n 0, 1) := by decide +kernel
theorem dX11_removeVoter_59 : decode cX11_removeVoter 59 = .ok (.getfield 9, 3) := by decide +kernel
theorem dX11_removeVoter_62 : decode cX11_removeVoter 62 = .ok (.aload_n 0, 1) := by decide +kernel
theorem dX11_removeVoter_63 : decode cX11_removeVoter 63 = .ok (.invokevirtual 85, 3) := by decide +kernel
theorem dX11_removeVoter_66 : decode cX11_removeVoter 66 = .ok (.iconst 1, 1) := by decide +kernel
theorem dX11_removeVoter_67 : decode cX11_removeVoter 67 = .ok (.isub, 1) := by decide +kernel
theorem dX11_removeVoter_68 : decode cX11_removeVoter 68 = .ok (.iload_n 2, 1) := by decide +kernel
theorem dX11_removeVoter_69 : decode cX11_removeVoter 69 = .ok (.invokestatic 73, 3) := by decide +kernel
theorem dX11_removeVoter_72 : decode cX11_removeVoter 72 = .ok (.iconst 0, 1) := by decide +kernel
theorem dX11_removeVoter_73 : decode cX11_removeVoter 73 = .ok (.iastore, 1) := by decide +kernel
theorem dX11_removeVoter_74 : decode cX11_removeVoter 74 = .ok (.iinc 2 1, 3) := by decide +kernel
theorem dX11_removeVoter_77 : decode cX11_removeVoter 77 = .ok (.goto (-25), 3) := by decide +kernel
theorem dX11_removeVoter_80 : decode cX11_removeVoter 80 = .ok (.aload_n 0, 1) := by decide +kernel
theorem dX11_removeVoter_81 : decode cX11_removeVoter 81 = .ok (.getfield 9, 3) := by decide +kernel
theorem dX11_removeVoter_84 : decode cX11_removeVoter 84 = .ok (.iconst 2, 1) := by decide +kernel
theorem dX11_removeVoter_85 : decode cX11_removeVoter 85 = .ok (.dup2, 1) := by decide +kernel
theorem dX11_removeVoter_86 : decode cX11_removeVoter 86 = .ok (.iaload, 1) := by decide +kernel
theorem dX11_removeVoter_87 : decode cX11_removeVoter 87 = .ok (.iconst 1, 1) := by decide +kernel
theorem dX11_removeVoter_88 : decode cX11_removeVoter 88 = .ok (.isub, 1) := by decide +kernel
theorem dX11_removeVoter_89 : decode cX11_removeVoter 89 = .ok (.iastore, 1) := by decide +kernel
theorem dX11_removeVoter_90 : decode cX11_removeVoter 90 = .ok (.return_, 1) := by decide +kernel
def bX11_removeVoter_14 (Y : XS) (n : Nat) (v0 : Nat) (v2 : Int32) (s14 : (Int32 × PS)) : Option ((Int32 × PS) ⊕ PS) :=
  (if (12 : Int32) ≤ s14.1 then some (.inr s14.2) else kgr s14.2 v0 0 (fun b21 => kc (fX11_scoreAt Y n s14.2 v2 s14.1) (fun q26 => kc (fX11_scoreOf Y n s14.2 v0 (v2 + (1 : Int32)) s14.1) (fun q34 => kwi Y s14.2 b21 q26 q34 (fun S37 => some (.inl (s14.1 + (1 : Int32), S37)))))))
def bX11_removeVoter_2 (Y : XS) (n : Nat) (v0 : Nat) (s2 : (Int32 × PS)) : Option ((Int32 × PS) ⊕ PS) :=
  kc (fX11_people Y n s2.2 v0) (fun q4 => (if (q4 - (1 : Int32)) ≤ s2.1 then some (.inr s2.2) else kc (iter (bX11_removeVoter_14 Y n v0 s2.1) n ((0 : Int32), s2.2)) (fun r14 => some (.inl (s2.1 + (1 : Int32), r14)))))
def bX11_removeVoter_52 (Y : XS) (n : Nat) (v0 : Nat) (s52 : (Int32 × PS)) : Option ((Int32 × PS) ⊕ PS) :=
  (if (12 : Int32) ≤ s52.1 then some (.inr s52.2) else kgr s52.2 v0 0 (fun b59 => kc (fX11_people Y n s52.2 v0) (fun q63 => kc (fX11_scoreAt Y n s52.2 (q63 - (1 : Int32)) s52.1) (fun q69 => kwi Y s52.2 b59 q69 (0 : Int32) (fun S73 => some (.inl (s52.1 + (1 : Int32), S73)))))))
def fX11_removeVoter (Y : XS) (n : Nat) (S : PS) (a0 : Nat) (x1_ : Int32) : Option (PS) :=
  kc (iter (bX11_removeVoter_2 Y n a0) n (x1_, S)) (fun r2 => kc (iter (bX11_removeVoter_52 Y n a0) n ((0 : Int32), r2)) (fun r52 => kgr r52 a0 0 (fun b81 => kai Y r52 b81 (2 : Int32) (fun x86 => kwi Y r52 b81 (2 : Int32) (x86 - (1 : Int32)) (fun S89 => some S89)))))
theorem wbX11_removeVoter_14 {C : CT} {X : XT} (hC : CK C RX11 cX11_removeVoter 4 none 3) (n : Nat) (v0 : Nat) (v2 : Int32) (hTv0 : Ty X.2.1 v0 11) (s14 : (Int32 × PS)) {o : (Int32 × PS) ⊕ PS} (hf : bX11_removeVoter_14 X.2.1 n v0 v2 s14 = some o) (hN : ∀ s', o = .inl s' → UW C X s'.2 14 [(0, .ref (X.1 v0)), (2, .int v2), (3, .int s'.1)] []) (hO0 : ∀ p', o = .inr p' → UW C X p' 44 [(0, .ref (X.1 v0)), (2, .int v2)] []) : UW C X s14.2 14 [(0, .ref (X.1 v0)), (2, .int v2), (3, .int s14.1)] [] := by
  unfold bX11_removeVoter_14 at hf
  refine u_iload_n hC dX11_removeVoter_14 2 rfl rfl ?_
  refine u_bipush (v := (12 : Int32)) hC dX11_removeVoter_15 (by decide) ?_
  refine u_icmp_ge (tgt := 44) hC dX11_removeVoter_17 (by decide) hf (fun h17 hf => ?_) (fun h17 hf => ?_)
  · refine u_sub (lv' := [(0, .ref (X.1 v0)), (2, .int v2)]) [0, 1] rfl ?_
    exact hO0 _ (Option.some.inj hf).symm
  · refine u_aload_n hC dX11_removeVoter_20 0 rfl rfl ?_
    refine u_gr hC lf_X11_9 rfl hTv0 dX11_removeVoter_21 hf (fun b21 hTb21 hf => ?_)
    refine u_iload_n hC dX11_removeVoter_24 1 rfl rfl ?_
    refine u_iload_n hC dX11_removeVoter_25 2 rfl rfl ?_
    obtain ⟨q26, hq26, hf⟩ := kc_some hf
    refine u_callS hC (ctX11_scoreAt (cL C) hC.tr (cG C) X.1 X.2.1 n s14.2 v2 s14.1  hq26) lk_X11_73 (by decide) (by decide) rfl rfl (Nat.le_of_ble_eq_true rfl) dX11_removeVoter_26 ?_
    refine u_aload_n hC dX11_removeVoter_29 0 rfl rfl ?_
    refine u_iload_n hC dX11_removeVoter_30 1 rfl rfl ?_
    refine u_iconst (v := (1 : Int32)) hC dX11_removeVoter_31 (by decide) ?_
    refine u_iadd hC dX11_removeVoter_32 ?_
    refine u_iload_n hC dX11_removeVoter_33 2 rfl rfl ?_
    obtain ⟨q34, hq34, hf⟩ := kc_some hf
    refine u_callV hC (ctX11_scoreOf (cL C) hC.tr (cG C) X.1 X.2.1 n s14.2 v0 (v2 + (1 : Int32)) s14.1 hTv0 hq34) lk_X11_88 rfl hTv0 (by decide) rfl (by decide) (by decide) rfl rfl (Nat.le_of_ble_eq_true rfl) dX11_removeVoter_34 ?_
    refine u_wi hC hTb21 dX11_removeVoter_37 hf (fun S37 hf => ?_)
    refine u_iinc (v := s14.1 + (1 : Int32)) (lv' := [(3, .int (s14.1 + (1 : Int32))), (0, .ref (X.1 v0)), (2, .int v2)]) hC dX11_removeVoter_38 2 rfl rfl (by decide) rfl ?_
    refine u_goto (tgt := 14) hC dX11_removeVoter_41 (by decide) ?_
    refine u_sub (lv' := [(0, .ref (X.1 v0)), (2, .int v2), (3, .int (s14.1 + (1 : Int32)))]) [1, 2, 0] rfl ?_
    exact hN _ (Option.some.inj hf).symm
theorem wbX11_removeVoter_2 {C : CT} {X : XT} (hC : CK C RX11 cX11_removeVoter 4 none 3) (n : Nat) (v0 : Nat) (hTv0 : Ty X.2.1 v0 11) (s2 : (Int32 × PS)) {o : (Int32 × PS) ⊕ PS} (hf : bX11_removeVoter_2 X.2.1 n v0 s2 = some o) (hN : ∀ s', o = .inl s' → UW C X s'.2 2 [(0, .ref (X.1 v0)), (2, .int s'.1)] []) (hO0 : ∀ p', o = .inr p' → UW C X p' 50 [(0, .ref (X.1 v0))] []) : UW C X s2.2 2 [(0, .ref (X.1 v0)), (2, .int s2.1)] [] := by
  unfold bX11_removeVoter_2 at hf
  refine u_iload_n hC dX11_removeVoter_2 1 rfl rfl ?_
  refine u_aload_n hC dX11_removeVoter_3 0 rfl rfl ?_
  obtain ⟨q4, hq4, hf⟩ := kc_some hf
  refine u_callV hC (ctX11_people (cL C) hC.tr (cG C) X.1 X.2.1 n s2.2 v0 hTv0 hq4) lk_X11_85 rfl hTv0 (by decide) rfl (by decide) (by decide) rfl rfl (Nat.le_of_ble_eq_true rfl) dX11_removeVoter_4 ?_
  refine u_iconst (v := (1 : Int32)) hC dX11_removeVoter_7 (by decide) ?_
  refine u_isub hC dX11_removeVoter_8 ?_
  refine u_icmp_ge (tgt := 50) hC dX11_removeVoter_9 (by decide) hf (fun h9 hf => ?_) (fun h9 hf => ?_)
  · refine u_sub (lv' := [(0, .ref (X.1 v0))]) [0] rfl ?_
    exact hO0 _ (Option.some.inj hf).symm
  · refine u_iconst (v := (0 : Int32)) hC dX11_removeVoter_12 (by decide) ?_
    refine u_istore_n (lv' := [(3, .int (0 : Int32)), (0, .ref (X.1 v0)), (2, .int s2.1)]) hC dX11_removeVoter_13 rfl (by decide) rfl ?_
    obtain ⟨r14, hr14, hf⟩ := kc_some hf
    have hk14 : UW C X r14 44 [(0, .ref (X.1 v0)), (2, .int s2.1)] [] := by
      refine u_iinc (v := s2.1 + (1 : Int32)) (lv' := [(2, .int (s2.1 + (1 : Int32))), (0, .ref (X.1 v0))]) hC dX11_removeVoter_44 1 rfl rfl (by decide) rfl ?_
      refine u_goto (tgt := 2) hC dX11_removeVoter_47 (by decide) ?_
      refine u_sub (lv' := [(0, .ref (X.1 v0)), (2, .int (s2.1 + (1 : Int32)))]) [1, 0] rfl ?_
      exact hN _ (Option.some.inj hf).symm
    refine u_sub (lv' := [(0, .ref (X.1 v0)), (2, .int s2.1), (3, .int (0 : Int32))]) [1, 2, 0] rfl ?_
    refine iter_ind (P := fun s14 => UW C X s14.2 14 [(0, .ref (X.1 v0)), (2, .int s2.1), (3, .int s14.1)] []) (fun s14 o' hb hin hout => ?_) n ((0 : Int32), s2.2) hr14
    exact wbX11_removeVoter_14 hC n v0 s2.1 hTv0 s14 hb hin (fun p e => by rw [hout p e]; exact hk14)
theorem wbX11_removeVoter_52 {C : CT} {X : XT} (hC : CK C RX11 cX11_removeVoter 4 none 3) (n : Nat) (v0 : Nat) (hTv0 : Ty X.2.1 v0 11) (s52 : (Int32 × PS)) {o : (Int32 × PS) ⊕ PS} (hf : bX11_removeVoter_52 X.2.1 n v0 s52 = some o) (hN : ∀ s', o = .inl s' → UW C X s'.2 52 [(0, .ref (X.1 v0)), (2, .int s'.1)] []) (hO0 : ∀ p', o = .inr p' → UW C X p' 80 [(0, .ref (X.1 v0))] []) : UW C X s52.2 52 [(0, .ref (X.1 v0)), (2, .int s52.1)] [] := by
  unfold bX11_removeVoter_52 at hf
  refine u_iload_n hC dX11_removeVoter_52 1 rfl rfl ?_
  refine u_bipush (v := (12 : Int32)) hC dX11_removeVoter_53 (by decide) ?_
  refine u_icmp_ge (tgt := 80) hC dX11_removeVoter_55 (by decide) hf (fun h55 hf => ?_) (fun h55 hf => ?_)
  · refine u_sub (lv' := [(0, .ref (X.1 v0))]) [0] rfl ?_
    exact hO0 _ (Option.some.inj hf).symm
  · refine u_aload_n hC dX11_removeVoter_58 0 rfl rfl ?_
    refine u_gr hC lf_X11_9 rfl hTv0 dX11_removeVoter_59 hf (fun b59 hTb59 hf => ?_)
    refine u_aload_n hC dX11_removeVoter_62 0 rfl rfl ?_
    obtain ⟨q63, hq63, hf⟩ := kc_some hf
    refine u_callV hC (ctX11_people (cL C) hC.tr (cG C) X.1 X.2.1 n s52.2 v0 hTv0 hq63) lk_X11_85 rfl hTv0 (by decide) rfl (by decide) (by decide) rfl rfl (Nat.le_of_ble_eq_true rfl) dX11_removeVoter_63 ?_
    refine u_iconst (v := (1 : Int32)) hC dX11_removeVoter_66 (by decide) ?_
    refine u_isub hC dX11_removeVoter_67 ?_
    refine u_iload_n hC dX11_removeVoter_68 1 rfl rfl ?_
    obtain ⟨q69, hq69, hf⟩ := kc_some hf
    refine u_callS hC (ctX11_scoreAt (cL C) hC.tr (cG C) X.1 X.2.1 n s52.2 (q63 - (1 : Int32)) s52.1  hq69) lk_X11_73 (by decide) (by decide) rfl rfl (Nat.le_of_ble_eq_true rfl) dX11_removeVoter_69 ?_
    refine u_iconst (v := (0 : Int32)) hC dX11_removeVoter_72 (by decide) ?_
    refine u_wi hC hTb59 dX11_removeVoter_73 hf (fun S73 hf => ?_)
    refine u_iinc (v := s52.1 + (1 : Int32)) (lv' := [(2, .int (s52.1 + (1 : Int32))), (0, .ref (X.1 v0))]) hC dX11_removeVoter_74 1 rfl rfl (by decide) rfl ?_
    refine u_goto (tgt := 52) hC dX11_removeVoter_77 (by decide) ?_
    refine u_sub (lv' := [(0, .ref (X.1 v0)), (2, .int (s52.1 + (1 : Int32)))]) [1, 0] rfl ?_
    exact hN _ (Option.some.inj hf).symm
theorem wX11_removeVoter {C : CT} {X : XT} (hC : CK C RX11 cX11_removeVoter 4 none 3) (n : Nat) (S : PS) (a0 : Nat) (x1_ : Int32) (hTa0 : Ty X.2.1 a0 11) {o : PS} (hf : fX11_removeVoter X.2.1 n S a0 x1_ = some o) (hR : Rt C X cX11_removeVoter none none o) : UW C X S 0 [(0, .ref (X.1 a0)), (1, .int x1_)] [] := by
  unfold fX11_removeVoter at hf
  refine u_iload_n hC dX11_removeVoter_0 1 rfl rfl ?_
  refine u_istore_n (lv' := [(2, .int x1_), (0, .ref (X.1 a0)), (1, .int x1_)]) hC dX11_removeVoter_1 rfl (by decide) rfl ?_
  obtain ⟨r2, hr2, hf⟩ := kc_some hf
  have hk2 : UW C X r2 50 [(0, .ref (X.1 a0))] [] := by
    refine u_iconst (v := (0 : Int32)) hC dX11_removeVoter_50 (by decide) ?_
    refine u_istore_n (lv' := [(2, .int (0 : Int32)), (0, .ref (X.1 a0))]) hC dX11_removeVoter_51 rfl (by decide) rfl ?_
    obtain ⟨r52, hr52, hf⟩ := kc_some hf
    have hk52 : UW C X r52 80 [(0, .ref (X.1 a0))] [] := by
      refine u_aload_n hC dX11_removeVoter_80 0 rfl rfl ?_
      refine u_gr hC lf_X11_9 rfl hTa0 dX11_removeVoter_81 hf (fun b81 hTb81 hf => ?_)
      refine u_iconst (v := (2 : Int32)) hC dX11_removeVoter_84 (by decide) ?_
      refine u_dup2 hC dX11_removeVoter_85 rfl rfl ?_
      refine u_ai hC hTb81 dX11_removeVoter_86 hf (fun x86 hf => ?_)
      refine u_iconst (v := (1 : Int32)) hC dX11_removeVoter_87 (by decide) ?_
      refine u_isub hC dX11_removeVoter_88 ?_
      refine u_wi hC hTb81 dX11_removeVoter_89 hf (fun S89 hf => ?_)
      cases hf
      exact hR _ _ dX11_removeVoter_90 trivial
    refine u_sub (lv' := [(0, .ref (X.1 a0)), (2, .int (0 : Int32))]) [1, 0] rfl ?_
    refine iter_ind (P := fun s52 => UW C X s52.2 52 [(0, .ref (X.1 a0)), (2, .int s52.1)] []) (fun s52 o' hb hin hout => ?_) n ((0 : Int32), r2) hr52
    exact wbX11_removeVoter_52 hC n a0 hTa0 s52 hb hin (fun p e => by rw [hout p e]; exact hk52)
  refine u_sub (lv' := [(0, .ref (X.1 a0)), (2, .int x1_)]) [1, 0] rfl ?_
  refine iter_ind (P := fun s2 => UW C X s2.2 2 [(0, .ref (X.1 a0)), (2, .int s2.1)] []) (fun s2 o' hb hin hout => ?_) n (x1_, S) hr2
  exact wbX11_removeVoter_2 hC n a0 hTa0 s2 hb hin (fun p e => by rw [hout p e]; exact hk2)
theorem ctX11_removeVoter (l : Launch) (hl : l.stackTraces = false) (G : GT) (ρ : Nat → Nat) (Y : XS) (n : Nat) (S : PS) (a0 : Nat) (x1_ : Int32) (hTa0 : Ty Y a0 11) {o : PS} (hf : fX11_removeVoter Y n S a0 x1_ = some o) : Mt l G yX11_removeVoter cX11_removeVoter 4 none 3 ρ Y [.ref (ρ a0), .int x1_] S none o :=
  Mt_of hl (by decide) (Nat.le_of_ble_eq_true rfl) (fun C _ _ hC hR => wX11_removeVoter (X := (ρ, Y, 0, 0)) hC n S a0 x1_ hTa0 hf hR)
-- X11_removeProject
theorem dX11_removeProject_0 : decode cX11_removeProject 0 = .ok (.iload_n 1, 1) := by decide +kernel
theorem dX11_removeProject_1 : decode cX11_removeProject 1 = .ok (.istore_n 2, 1) := by decide +kernel
theorem dX11_removeProject_2 : decode cX11_removeProject 2 = .ok (.iload_n 2, 1) := by decide +kernel
theorem dX11_removeProject_3 : decode cX11_removeProject 3 = .ok (.aload_n 0, 1) := by decide +kernel
theorem dX11_removeProject_4 : decode cX11_removeProject 4 = .ok (.invokevirtual 77, 3) := by decide +kernel
theorem dX11_removeProject_7 : decode cX11_removeProject 7 = .ok (.iconst 1, 1) := by decide +kernel
theorem dX11_removeProject_8 : decode cX11_removeProject 8 = .ok (.isub, 1) := by decide +kernel
theorem dX11_removeProject_9 : decode cX11_removeProject 9 = .ok (.if_icmp .ge 102, 3) := by decide +kernel
theorem dX11_removeProject_12 : decode cX11_removeProject 12 = .ok (.aload_n 0, 1) := by decide +kernel
theorem dX11_removeProject_13 : decode cX11_removeProject 13 = .ok (.getfield 9, 3) := by decide +kernel
theorem dX11_removeProject_16 : decode cX11_removeProject 16 = .ok (.iconst 3, 1) := by decide +kernel
theorem dX11_removeProject_17 : decode cX11_removeProject 17 = .ok (.iload_n 2, 1) := by decide +kernel
theorem dX11_removeProject_18 : decode cX11_removeProject 18 = .ok (.iadd, 1) := by decide +kernel
theorem dX11_removeProject_19 : decode cX11_removeProject 19 = .ok (.aload_n 0, 1) := by decide +kernel
theorem dX11_removeProject_20 : decode cX11_removeProject 20 = .ok (.iload_n 2, 1) := by decide +kernel
theorem dX11_removeProject_21 : decode cX11_removeProject 21 = .ok (.iconst 1, 1) := by decide +kernel
theorem dX11_removeProject_22 : decode cX11_removeProject 22 = .ok (.iadd, 1) := by decide +kernel
theorem dX11_removeProject_23 : decode cX11_removeProject 23 = .ok (.invokevirtual 134, 3) := by decide +kernel
theorem dX11_removeProject_26 : decode cX11_removeProject 26 = .ok (.iastore, 1) := by decide +kernel
theorem dX11_removeProject_27 : decode cX11_removeProject 27 = .ok (.iconst 0, 1) := by decide +kernel
theorem dX11_removeProject_28 : decode cX11_removeProject 28 = .ok (.istore_n 3, 1) := by decide +kernel
theorem dX11_removeProject_29 : decode cX11_removeProject 29 = .ok (.iload_n 3, 1) := by decide +kernel
theorem dX11_removeProject_30 : decode cX11_removeProject 30 = .ok (.bipush 6, 2) := by decide +kernel
theorem dX11_removeProject_32 : decode cX11_removeProject 32 = .ok (.if_icmp .ge 39, 3) := by decide +kernel
theorem dX11_removeProject_35 : decode cX11_removeProject 35 = .ok (.aload_n 0, 1) := by decide +kernel
theorem dX11_removeProject_36 : decode cX11_removeProject 36 = .ok (.getfield 9, 3) := by decide +kernel
theorem dX11_removeProject_39 : decode cX11_removeProject 39 = .ok (.bipush 15, 2) := by decide +kernel
theorem dX11_removeProject_41 : decode cX11_removeProject 41 = .ok (.bipush 6, 2) := by decide +kernel
theorem dX11_removeProject_43 : decode cX11_removeProject 43 = .ok (.iload_n 2, 1) := by decide +kernel
theorem dX11_removeProject_44 : decode cX11_removeProject 44 = .ok (.imul, 1) := by decide +kernel
theorem dX11_removeProject_45 : decode cX11_removeProject 45 = .ok (.iadd, 1) := by decide +kernel
theorem dX11_removeProject_46 : decode cX11_removeProject 46 = .ok (.iload_n 3, 1) := by decide +kernel
theorem dX11_removeProject_47 : decode cX11_removeProject 47 = .ok (.iadd, 1) := by decide +kernel
theorem dX11_removeProject_48 : decode cX11_removeProject 48 = .ok (.aload_n 0, 1) := by decide +kernel
theorem dX11_removeProject_49 : decode cX11_removeProject 49 = .ok (.getfield 9, 3) := by decide +kernel
theorem dX11_removeProject_52 : decode cX11_removeProject 52 = .ok (.bipush 15, 2) := by decide +kernel
theorem dX11_removeProject_54 : decode cX11_removeProject 54 = .ok (.bipush 6, 2) := by decide +kernel
theorem dX11_removeProject_56 : decode cX11_removeProject 56 = .ok (.iload_n 2, 1) := by decide +kernel
theorem dX11_removeProject_57 : decode cX11_removeProject 57 = .ok (.iconst 1, 1) := by decide +kernel
theorem dX11_removeProject_58 : decode cX11_removeProject 58 = .ok (.iadd, 1) := by decide +kernel
theorem dX11_removeProject_59 : decode cX11_removeProject 59 = .ok (.imul, 1) := by decide +kernel
theorem dX11_removeProject_60 : decode cX11_removeProject 60 = .ok (.iadd, 1) := by decide +kernel
theorem dX11_removeProject_61 : decode cX11_removeProject 61 = .ok (.iload_n 3, 1) := by decide +kernel
theorem dX11_removeProject_62 : decode cX11_removeProject 62 = .ok (.iadd, 1) := by decide +kernel
theorem dX11_removeProject_63 : decode cX11_removeProject 63 = .ok (.iaload, 1) := by decide +kernel
theorem dX11_removeProject_64 : decode cX11_removeProject 64 = .ok (.iastore, 1) := by decide +kernel
theorem dX11_removeProject_65 : decode cX11_removeProject 65 = .ok (.iinc 3 1, 3) := by decide +kernel
theorem dX11_removeProject_68 : decode cX11_removeProject 68 = .ok (.goto (-39), 3) := by decide +kernel
theorem dX11_removeProject_71 : decode cX11_removeProject 71 = .ok (.iconst 0, 1) := by decide +kernel
theorem dX11_removeProject_72 : decode cX11_removeProject 72 = .ok (.istore_n 3, 1) := by decide +kernel
theorem dX11_removeProject_73 : decode cX11_removeProject 73 = .ok (.iload_n 3, 1) := by decide +kernel
theorem dX11_removeProject_74 : decode cX11_removeProject 74 = .ok (.aload_n 0, 1) := by decide +kernel
theorem dX11_removeProject_75 : decode cX11_removeProject 75 = .ok (.invokevirtual 85, 3) := by decide +kernel
theorem dX11_removeProject_78 : decode cX11_removeProject 78 = .ok (.if_icmp .ge 27, 3) := by decide +kernel
theorem dX11_removeProject_81 : decode cX11_removeProject 81 = .ok (.aload_n 0, 1) := by decide +kernel
theorem dX11_removeProject_82 : decode cX11_removeProject 82 = .ok (.getfield 9, 3) := by decide +kernel
theorem dX11_removeProject_85 : decode cX11_removeProject 85 = .ok (.iload_n 3, 1) := by decide +kernel
theorem dX11_removeProject_86 : decode cX11_removeProject 86 = .ok (.iload_n 2, 1) := by decide +kernel
theorem dX11_removeProject_87 : decode cX11_removeProject 87 = .ok (.invokestatic 73, 3) := by decide +kernel
theorem dX11_removeProject_90 : decode cX11_removeProject 90 = .ok (.aload_n 0, 1) := by decide +kernel
theorem dX11_removeProject_91 : decode cX11_removeProject 91 = .ok (.iload_n 3, 1) := by decide +kernel
theorem dX11_removeProject_92 : decode cX11_removeProject 92 = .ok (.iload_n 2, 1) := by decide +kernel
theorem dX11_removeProject_93 : decode cX11_removeProject 93 = .ok (.iconst 1, 1) := by decide +kernel
theorem dX11_removeProject_94 : decode cX11_removeProject 94 = .ok (.iadd, 1) := by decide +kernel
theorem dX11_removeProject_95 : decode cX11_removeProject 95 = .ok (.invokevirtual 88, 3) := by decide +kernel
theorem dX11_removeProject_98 : decode cX11_removeProject 98 = .ok (.iastore, 1) := by decide +kernel
theorem dX11_removeProject_99 : decode cX11_removeProject 99 = .ok (.iinc 3 1, 3) := by decide +kernel
theorem dX11_removeProject_102 : decode cX11_removeProject 102 = .ok (.goto (-29), 3) := by decide +kernel
theorem dX11_removeProject_105 : decode cX11_removeProject 105 = .ok (.iinc 2 1, 3) := by decide +kernel
theorem dX11_removeProject_108 : decode cX11_removeProject 108 = .ok (.goto (-106), 3) := by decide +kernel
theorem dX11_removeProject_111 : decode cX11_removeProject 111 = .ok (.aload_n 0, 1) := by decide +kernel
theorem dX11_removeProject_112 : decode cX11_removeProject 112 = .ok (.invokevirtual 77, 3) := by decide +kernel
theorem dX11_removeProject_115 : decode cX11_removeProject 115 = .ok (.iconst 1, 1) := by decide +kernel
theorem dX11_removeProject_116 : decode cX11_removeProject 116 = .ok (.isub, 1) := by decide +kernel
theorem dX11_removeProject_117 : decode cX11_removeProject 117 = .ok (.istore_n 2, 1) := by decide +kernel
theorem dX11_removeProject_118 : decode cX11_removeProject 118 = .ok (.aload_n 0, 1) := by decide +kernel
theorem dX11_removeProject_119 : decode cX11_removeProject 119 = .ok (.getfield 9, 3) := by decide +kernel
theorem dX11_removeProject_122 : decode cX11_removeProject 122 = .ok (.iconst 3, 1) := by decide +kernel
theorem dX11_removeProject_123 : decode cX11_removeProject 123 = .ok (.iload_n 2, 1) := by decide +kernel
theorem dX11_removeProject_124 : decode cX11_removeProject 124 = .ok (.iadd, 1) := by decide +kernel
theorem dX11_removeProject_125 : decode cX11_removeProject 125 = .ok (.iconst 0, 1) := by decide +kernel
theorem dX11_removeProject_126 : decode cX11_removeProject 126 = .ok (.iastore, 1) := by decide +kernel
theorem dX11_removeProject_127 : decode cX11_removeProject 127 = .ok (.iconst 0, 1) := by decide +kernel
theorem dX11_removeProject_128 : decode cX11_removeProject 128 = .ok (.istore_n 3, 1) := by decide +kernel
theorem dX11_removeProject_129 : decode cX11_removeProject 129 = .ok (.iload_n 3, 1) := by decide +kernel
theorem dX11_removeProject_130 : decode cX11_removeProject 130 = .ok (.bipush 6, 2) := by decide +kernel
theorem dX11_removeProject_132 : decode cX11_removeProject 132 = .ok (.if_icmp .ge 24, 3) := by decide +kernel
theorem dX11_removeProject_135 : decode cX11_removeProject 135 = .ok (.aload_n 0, 1) := by decide +kernel
theorem dX11_removeProject_136 : decode cX11_removeProject 136 = .ok (.getfield 9, 3) := by decide +kernel
theorem dX11_removeProject_139 : decode cX11_removeProject 139 = .ok (.bipush 15, 2) := by decide +kernel
theorem dX11_removeProject_141 : decode cX11_removeProject 141 = .ok (.bipush 6, 2) := by decide +kernel
theorem dX11_removeProject_143 : decode cX11_removeProject 143 = .ok (.iload_n 2, 1) := by decide +kernel
theorem dX11_removeProject_144 : decode cX11_removeProject 144 = .ok (.imul, 1) := by decide +kernel
theorem dX11_removeProject_145 : decode cX11_removeProject 145 = .ok (.iadd, 1) := by decide +kernel
theorem dX11_removeProject_146 : decode cX11_removeProject 146 = .ok (.iload_n 3, 1) := by decide +kernel
theorem dX11_removeProject_147 : decode cX11_removeProject 147 = .ok (.iadd, 1) := by decide +kernel
theorem dX11_removeProject_148 : decode cX11_removeProject 148 = .ok (.iconst 0, 1) := by decide +kernel
theorem dX11_removeProject_149 : decode cX11_removeProject 149 = .ok (.iastore, 1) := by decide +kernel
theorem dX11_removeProject_150 : decode cX11_removeProject 150 = .ok (.iinc 3 1, 3) := by decide +kernel
theorem dX11_removeProject_153 : decode cX11_removeProject 153 = .ok (.goto (-24), 3) := by decide +kernel
theorem dX11_removeProject_156 : decode cX11_removeProject 156 = .ok (.iconst 0, 1) := by decide +kernel
theorem dX11_removeProject_157 : decode cX11_removeProject 157 = .ok (.istore_n 3, 1) := by decide +kernel
theorem dX11_removeProject_158 : decode cX11_removeProject 158 = .ok (.iload_n 3, 1) := by decide +kernel
theorem dX11_removeProject_159 : decode cX11_removeProject 159 = .ok (.aload_n 0, 1) := by decide +kernel
theorem dX11_removeProject_160 : decode cX11_removeProject 160 = .ok (.invokevirtual 85, 3) := by decide +kernel
theorem dX11_removeProject_163 : decode cX11_removeProject 163 = .ok (.if_icmp .ge 20, 3) := by decide +kernel
theorem dX11_removeProject_166 : decode cX11_removeProject 166 = .ok (.aload_n 0, 1) := by decide +kernel
theorem dX11_removeProject_167 : decode cX11_removeProject 167 = .ok (.getfield 9, 3) := by decide +kernel
theorem dX11_removeProject_170 : decode cX11_removeProject 170 = .ok (.iload_n 3, 1) := by decide +kernel
theorem dX11_removeProject_171 : decode cX11_removeProject 171 = .ok (.iload_n 2, 1) := by decide +kernel
theorem dX11_removeProject_172 : decode cX11_removeProject 172 = .ok (.invokestatic 73, 3) := by decide +kernel
theorem dX11_removeProject_175 : decode cX11_removeProject 175 = .ok (.iconst 0, 1) := by decide +kernel
theorem dX11_removeProject_176 : decode cX11_removeProject 176 = .ok (.iastore, 1) := by decide +kernel
theorem dX11_removeProject_177 : decode cX11_removeProject 177 = .ok (.iinc 3 1, 3) := by decide +kernel
theorem dX11_removeProject_180 : decode cX11_removeProject 180 = .ok (.goto (-22), 3) := by decide +kernel
theorem dX11_removeProject_183 : decode cX11_removeProject 183 = .ok (.aload_n 0, 1) := by decide +kernel
theorem dX11_removeProject_184 : decode cX11_removeProject 184 = .ok (.getfield 9, 3) := by decide +kernel
theorem dX11_removeProject_187 : decode cX11_removeProject 187 = .ok (.iconst 1, 1) := by decide +kernel
theorem dX11_removeProject_188 : decode cX11_removeProject 188 = .ok (.dup2, 1) := by decide +kernel
theorem dX11_removeProject_189 : decode cX11_removeProject 189 = .ok (.iaload, 1) := by decide +kernel
theorem dX11_removeProject_190 : decode cX11_removeProject 190 = .ok (.iconst 1, 1) := by decide +kernel
theorem dX11_removeProject_191 : decode cX11_removeProject 191 = .ok (.isub, 1) := by decide +kernel
theorem dX11_removeProject_192 : decode cX11_removeProject 192 = .ok (.iastore, 1) := by decide +kernel
theorem dX11_removeProject_193 : decode cX11_removeProject 193 = .ok (.return_, 1) := by decide +kernel
def bX11_removeProject_29 (Y : XS) (n : Nat) (v0 : Nat) (v2 : Int32) (s29 : (Int32 × PS)) : Option ((Int32 × PS) ⊕ PS) :=
  (if (6 : Int32) ≤ s29.1 then some (.inr s29.2) else kgr s29.2 v0 0 (fun b36 => kgr s29.2 v0 0 (fun b49 => kai Y s29.2 b49 (((15 : Int32) + ((6 : Int32) * (v2 + (1 : Int32)))) + s29.1) (fun x63 => kwi Y s29.2 b36 (((15 : Int32) + ((6 : Int32) * v2)) + s29.1) x63 (fun S64 => some (.inl (s29.1 + (1 : Int32), S64)))))))
def bX11_removeProject_73 (Y : XS) (n : Nat) (v0 : Nat) (v2 : Int32) (s73 : (Int32 × PS)) : Option ((Int32 × PS) ⊕ PS) :=
  kc (fX11_people Y n s73.2 v0) (fun q75 => (if q75 ≤ s73.1 then some (.inr s73.2) else kgr s73.2 v0 0 (fun b82 => kc (fX11_scoreAt Y n s73.2 s73.1 v2) (fun q87 => kc (fX11_scoreOf Y n s73.2 v0 s73.1 (v2 + (1 : Int32))) (fun q95 => kwi Y s73.2 b82 q87 q95 (fun S98 => some (.inl (s73.1 + (1 : Int32), S98))))))))
def bX11_removeProject_2 (Y : XS) (n : Nat) (v0 : Nat) (s2 : (Int32 × PS)) : Option ((Int32 × PS) ⊕ PS) :=
  kc (fX11_many Y n s2.2 v0) (fun q4 => (if (q4 - (1 : Int32)) ≤ s2.1 then some (.inr s2.2) else kgr s2.2 v0 0 (fun b13 => kc (fX11_costOf Y n s2.2 v0 (s2.1 + (1 : Int32))) (fun q23 => kwi Y s2.2 b13 ((3 : Int32) + s2.1) q23 (fun S26 => kc (iter (bX11_removeProject_29 Y n v0 s2.1) n ((0 : Int32), S26)) (fun r29 => kc (iter (bX11_removeProject_73 Y n v0 s2.1) n ((0 : Int32), r29)) (fun r73 => some (.inl (s2.1 + (1 : Int32), r73)))))))))
def bX11_removeProject_129 (Y : XS) (n : Nat) (v0 : Nat) (v2 : Int32) (s129 : (Int32 × PS)) : Option ((Int32 × PS) ⊕ PS) :=
  (if (6 : Int32) ≤ s129.1 then some (.inr s129.2) else kgr s129.2 v0 0 (fun b136 => kwi Y s129.2 b136 (((15 : Int32) + ((6 : Int32) * v2)) + s129.1) (0 : Int32) (fun S149 => some (.inl (s129.1 + (1 : Int32), S149)))))
def bX11_removeProject_158 (Y : XS) (n : Nat) (v0 : Nat) (v2 : Int32) (s158 : (Int32 × PS)) : Option ((Int32 × PS) ⊕ PS) :=
  kc (fX11_people Y n s158.2 v0) (fun q160 => (if q160 ≤ s158.1 then some (.inr s158.2) else kgr s158.2 v0 0 (fun b167 => kc (fX11_scoreAt Y n s158.2 s158.1 v2) (fun q172 => kwi Y s158.2 b167 q172 (0 : Int32) (fun S176 => some (.inl (s158.1 + (1 : Int32), S176)))))))
def fX11_removeProject (Y : XS) (n : Nat) (S : PS) (a0 : Nat) (x1_ : Int32) : Option (PS) :=
  kc (iter (bX11_removeProject_2 Y n a0) n (x1_, S)) (fun r2 => kc (fX11_many Y n r2 a0) (fun q112 => kgr r2 a0 0 (fun b119 => kwi Y r2 b119 ((3 : Int32) + (q112 - (1 : Int32))) (0 : Int32) (fun S126 => kc (iter (bX11_removeProject_129 Y n a0 (q112 - (1 : Int32))) n ((0 : Int32), S126)) (fun r129 => kc (iter (bX11_removeProject_158 Y n a0 (q112 - (1 : Int32))) n ((0 : Int32), r129)) (fun r158 => kgr r158 a0 0 (fun b184 => kai Y r158 b184 (1 : Int32) (fun x189 => kwi Y r158 b184 (1 : Int32) (x189 - (1 : Int32)) (fun S192 => some S192)))))))))
theorem wbX11_removeProject_29 {C : CT} {X : XT} (hC : CK C RX11 cX11_removeProject 4 none 3) (n : Nat) (v0 : Nat) (v2 : Int32) (hTv0 : Ty X.2.1 v0 11) (s29 : (Int32 × PS)) {o : (Int32 × PS) ⊕ PS} (hf : bX11_removeProject_29 X.2.1 n v0 v2 s29 = some o) (hN : ∀ s', o = .inl s' → UW C X s'.2 29 [(0, .ref (X.1 v0)), (2, .int v2), (3, .int s'.1)] []) (hO0 : ∀ p', o = .inr p' → UW C X p' 71 [(0, .ref (X.1 v0)), (2, .int v2)] []) : UW C X s29.2 29 [(0, .ref (X.1 v0)), (2, .int v2), (3, .int s29.1)] [] := by
  unfold bX11_removeProject_29 at hf
  refine u_iload_n hC dX11_removeProject_29 2 rfl rfl ?_
  refine u_bipush (v := (6 : Int32)) hC dX11_removeProject_30 (by decide) ?_
  refine u_icmp_ge (tgt := 71) hC dX11_removeProject_32 (by decide) hf (fun h32 hf => ?_) (fun h32 hf => ?_)
  · refine u_sub (lv' := [(0, .ref (X.1 v0)), (2, .int v2)]) [0, 1] rfl ?_
    exact hO0 _ (Option.some.inj hf).symm
  · refine u_aload_n hC dX11_removeProject_35 0 rfl rfl ?_
    refine u_gr hC lf_X11_9 rfl hTv0 dX11_removeProject_36 hf (fun b36 hTb36 hf => ?_)
    refine u_bipush (v := (15 : Int32)) hC dX11_removeProject_39 (by decide) ?_
    refine u_bipush (v := (6 : Int32)) hC dX11_removeProject_41 (by decide) ?_
    refine u_iload_n hC dX11_removeProject_43 1 rfl rfl ?_
    refine u_imul hC dX11_removeProject_44 ?_
    refine u_iadd hC dX11_removeProject_45 ?_
    refine u_iload_n hC dX11_removeProject_46 2 rfl rfl ?_
    refine u_iadd hC dX11_removeProject_47 ?_
    refine u_aload_n hC dX11_removeProject_48 0 rfl rfl ?_
    refine u_gr hC lf_X11_9 rfl hTv0 dX11_removeProject_49 hf (fun b49 hTb49 hf => ?_)
    refine u_bipush (v := (15 : Int32)) hC dX11_removeProject_52 (by decide) ?_
    refine u_bipush (v := (6 : Int32)) hC dX11_removeProject_54 (by decide) ?_
    refine u_iload_n hC dX11_removeProject_56 1 rfl rfl ?_
    refine u_iconst (v := (1 : Int32)) hC dX11_removeProject_57 (by decide) ?_
    refine u_iadd hC dX11_removeProject_58 ?_
    refine u_imul hC dX11_removeProject_59 ?_
    refine u_iadd hC dX11_removeProject_60 ?_
    refine u_iload_n hC dX11_removeProject_61 2 rfl rfl ?_
    refine u_iadd hC dX11_removeProject_62 ?_
    refine u_ai hC hTb49 dX11_removeProject_63 hf (fun x63 hf => ?_)
    refine u_wi hC hTb36 dX11_removeProject_64 hf (fun S64 hf => ?_)
    refine u_iinc (v := s29.1 + (1 : Int32)) (lv' := [(3, .int (s29.1 + (1 : Int32))), (0, .ref (X.1 v0)), (2, .int v2)]) hC dX11_removeProject_65 2 rfl rfl (by decide) rfl ?_
    refine u_goto (tgt := 29) hC dX11_removeProject_68 (by decide) ?_
    refine u_sub (lv' := [(0, .ref (X.1 v0)), (2, .int v2), (3, .int (s29.1 + (1 : Int32)))]) [1, 2, 0] rfl ?_
    exact hN _ (Option.some.inj hf).symm
theorem wbX11_removeProject_73 {C : CT} {X : XT} (hC : CK C RX11 cX11_removeProject 4 none 3) (n : Nat) (v0 : Nat) (v2 : Int32) (hTv0 : Ty X.2.1 v0 11) (s73 : (Int32 × PS)) {o : (Int32 × PS) ⊕ PS} (hf : bX11_removeProject_73 X.2.1 n v0 v2 s73 = some o) (hN : ∀ s', o = .inl s' → UW C X s'.2 73 [(0, .ref (X.1 v0)), (2, .int v2), (3, .int s'.1)] []) (hO0 : ∀ p', o = .inr p' → UW C X p' 105 [(0, .ref (X.1 v0)), (2, .int v2)] []) : UW C X s73.2 73 [(0, .ref (X.1 v0)), (2, .int v2), (3, .int s73.1)] [] := by
  unfold bX11_removeProject_73 at hf
  refine u_iload_n hC dX11_removeProject_73 2 rfl rfl ?_
  refine u_aload_n hC dX11_removeProject_74 0 rfl rfl ?_
  obtain ⟨q75, hq75, hf⟩ := kc_some hf
  refine u_callV hC (ctX11_people (cL C) hC.tr (cG C) X.1 X.2.1 n s73.2 v0 hTv0 hq75) lk_X11_85 rfl hTv0 (by decide) rfl (by decide) (by decide) rfl rfl (Nat.le_of_ble_eq_true rfl) dX11_removeProject_75 ?_
  refine u_icmp_ge (tgt := 105) hC dX11_removeProject_78 (by decide) hf (fun h78 hf => ?_) (fun h78 hf => ?_)
  · refine u_sub (lv' := [(0, .ref (X.1 v0)), (2, .int v2)]) [0, 1] rfl ?_
    exact hO0 _ (Option.some.inj hf).symm
  · refine u_aload_n hC dX11_removeProject_81 0 rfl rfl ?_
    refine u_gr hC lf_X11_9 rfl hTv0 dX11_removeProject_82 hf (fun b82 hTb82 hf => ?_)
    refine u_iload_n hC dX11_removeProject_85 2 rfl rfl ?_
    refine u_iload_n hC dX11_removeProject_86 1 rfl rfl ?_
    obtain ⟨q87, hq87, hf⟩ := kc_some hf
    refine u_callS hC (ctX11_scoreAt (cL C) hC.tr (cG C) X.1 X.2.1 n s73.2 s73.1 v2  hq87) lk_X11_73 (by decide) (by decide) rfl rfl (Nat.le_of_ble_eq_true rfl) dX11_removeProject_87 ?_
    refine u_aload_n hC dX11_removeProject_90 0 rfl rfl ?_
    refine u_iload_n hC dX11_removeProject_91 2 rfl rfl ?_
    refine u_iload_n hC dX11_removeProject_92 1 rfl rfl ?_
    refine u_iconst (v := (1 : Int32)) hC dX11_removeProject_93 (by decide) ?_
    refine u_iadd hC dX11_removeProject_94 ?_
    obtain ⟨q95, hq95, hf⟩ := kc_some hf
    refine u_callV hC (ctX11_scoreOf (cL C) hC.tr (cG C) X.1 X.2.1 n s73.2 v0 s73.1 (v2 + (1 : Int32)) hTv0 hq95) lk_X11_88 rfl hTv0 (by decide) rfl (by decide) (by decide) rfl rfl (Nat.le_of_ble_eq_true rfl) dX11_removeProject_95 ?_
    refine u_wi hC hTb82 dX11_removeProject_98 hf (fun S98 hf => ?_)
    refine u_iinc (v := s73.1 + (1 : Int32)) (lv' := [(3, .int (s73.1 + (1 : Int32))), (0, .ref (X.1 v0)), (2, .int v2)]) hC dX11_removeProject_99 2 rfl rfl (by decide) rfl ?_
    refine u_goto (tgt := 73) hC dX11_removeProject_102 (by decide) ?_
    refine u_sub (lv' := [(0, .ref (X.1 v0)), (2, .int v2), (3, .int (s73.1 + (1 : Int32)))]) [1, 2, 0] rfl ?_
    exact hN _ (Option.some.inj hf).symm
theorem wbX11_removeProject_2 {C : CT} {X : XT} (hC : CK C RX11 cX11_removeProject 4 none 3) (n : Nat) (v0 : Nat) (hTv0 : Ty X.2.1 v0 11) (s2 : (Int32 × PS)) {o : (Int32 × PS) ⊕ PS} (hf : bX11_removeProject_2 X.2.1 n v0 s2 = some o) (hN : ∀ s', o = .inl s' → UW C X s'.2 2 [(0, .ref (X.1 v0)), (2, .int s'.1)] []) (hO0 : ∀ p', o = .inr p' → UW C X p' 111 [(0, .ref (X.1 v0))] []) : UW C X s2.2 2 [(0, .ref (X.1 v0)), (2, .int s2.1)] [] := by
  unfold bX11_removeProject_2 at hf
  refine u_iload_n hC dX11_removeProject_2 1 rfl rfl ?_
  refine u_aload_n hC dX11_removeProject_3 0 rfl rfl ?_
  obtain ⟨q4, hq4, hf⟩ := kc_some hf
  refine u_callV hC (ctX11_many (cL C) hC.tr (cG C) X.1 X.2.1 n s2.2 v0 hTv0 hq4) lk_X11_77 rfl hTv0 (by decide) rfl (by decide) (by decide) rfl rfl (Nat.le_of_ble_eq_true rfl) dX11_removeProject_4 ?_
  refine u_iconst (v := (1 : Int32)) hC dX11_removeProject_7 (by decide) ?_
  refine u_isub hC dX11_removeProject_8 ?_
  refine u_icmp_ge (tgt := 111) hC dX11_removeProject_9 (by decide) hf (fun h9 hf => ?_) (fun h9 hf => ?_)
  · refine u_sub (lv' := [(0, .ref (X.1 v0))]) [0] rfl ?_
    exact hO0 _ (Option.some.inj hf).symm
  · refine u_aload_n hC dX11_removeProject_12 0 rfl rfl ?_
    refine u_gr hC lf_X11_9 rfl hTv0 dX11_removeProject_13 hf (fun b13 hTb13 hf => ?_)
    refine u_iconst (v := (3 : Int32)) hC dX11_removeProject_16 (by decide) ?_
    refine u_iload_n hC dX11_removeProject_17 1 rfl rfl ?_
    refine u_iadd hC dX11_removeProject_18 ?_
    refine u_aload_n hC dX11_removeProject_19 0 rfl rfl ?_
    refine u_iload_n hC dX11_removeProject_20 1 rfl rfl ?_
    refine u_iconst (v := (1 : Int32)) hC dX11_removeProject_21 (by decide) ?_
    refine u_iadd hC dX11_removeProject_22 ?_
    obtain ⟨q23, hq23, hf⟩ := kc_some hf
    refine u_callV hC (ctX11_costOf (cL C) hC.tr (cG C) X.1 X.2.1 n s2.2 v0 (s2.1 + (1 : Int32)) hTv0 hq23) lk_X11_134 rfl hTv0 (by decide) rfl (by decide) (by decide) rfl rfl (Nat.le_of_ble_eq_true rfl) dX11_removeProject_23 ?_
    refine u_wi hC hTb13 dX11_removeProject_26 hf (fun S26 hf => ?_)
    refine u_iconst (v := (0 : Int32)) hC dX11_removeProject_27 (by decide) ?_
    refine u_istore_n (lv' := [(3, .int (0 : Int32)), (0, .ref (X.1 v0)), (2, .int s2.1)]) hC dX11_removeProject_28 rfl (by decide) rfl ?_
    obtain ⟨r29, hr29, hf⟩ := kc_some hf
    have hk29 : UW C X r29 71 [(0, .ref (X.1 v0)), (2, .int s2.1)] [] := by
      refine u_iconst (v := (0 : Int32)) hC dX11_removeProject_71 (by decide) ?_
      refine u_istore_n (lv' := [(3, .int (0 : Int32)), (0, .ref (X.1 v0)), (2, .int s2.1)]) hC dX11_removeProject_72 rfl (by decide) rfl ?_
      obtain ⟨r73, hr73, hf⟩ := kc_some hf
      have hk73 : UW C X r73 105 [(0, .ref (X.1 v0)), (2, .int s2.1)] [] := by
        refine u_iinc (v := s2.1 + (1 : Int32)) (lv' := [(2, .int (s2.1 + (1 : Int32))), (0, .ref (X.1 v0))]) hC dX11_removeProject_105 1 rfl rfl (by decide) rfl ?_
        refine u_goto (tgt := 2) hC dX11_removeProject_108 (by decide) ?_
        refine u_sub (lv' := [(0, .ref (X.1 v0)), (2, .int (s2.1 + (1 : Int32)))]) [1, 0] rfl ?_
        exact hN _ (Option.some.inj hf).symm
      refine u_sub (lv' := [(0, .ref (X.1 v0)), (2, .int s2.1), (3, .int (0 : Int32))]) [1, 2, 0] rfl ?_
      refine iter_ind (P := fun s73 => UW C X s73.2 73 [(0, .ref (X.1 v0)), (2, .int s2.1), (3, .int s73.1)] []) (fun s73 o' hb hin hout => ?_) n ((0 : Int32), r29) hr73
      exact wbX11_removeProject_73 hC n v0 s2.1 hTv0 s73 hb hin (fun p e => by rw [hout p e]; exact hk73)
    refine u_sub (lv' := [(0, .ref (X.1 v0)), (2, .int s2.1), (3, .int (0 : Int32))]) [1, 2, 0] rfl ?_
    refine iter_ind (P := fun s29 => UW C X s29.2 29 [(0, .ref (X.1 v0)), (2, .int s2.1), (3, .int s29.1)] []) (fun s29 o' hb hin hout => ?_) n ((0 : Int32), S26) hr29
    exact wbX11_removeProject_29 hC n v0 s2.1 hTv0 s29 hb hin (fun p e => by rw [hout p e]; exact hk29)
theorem wbX11_removeProject_129 {C : CT} {X : XT} (hC : CK C RX11 cX11_removeProject 4 none 3) (n : Nat) (v0 : Nat) (v2 : Int32) (hTv0 : Ty X.2.1 v0 11) (s129 : (Int32 × PS)) {o : (Int32 × PS) ⊕ PS} (hf : bX11_removeProject_129 X.2.1 n v0 v2 s129 = some o) (hN : ∀ s', o = .inl s' → UW C X s'.2 129 [(0, .ref (X.1 v0)), (2, .int v2), (3, .int s'.1)] []) (hO0 : ∀ p', o = .inr p' → UW C X p' 156 [(0, .ref (X.1 v0)), (2, .int v2)] []) : UW C X s129.2 129 [(0, .ref (X.1 v0)), (2, .int v2), (3, .int s129.1)] [] := by
  unfold bX11_removeProject_129 at hf
  refine u_iload_n hC dX11_removeProject_129 2 rfl rfl ?_
  refine u_bipush (v := (6 : Int32)) hC dX11_removeProject_130 (by decide) ?_
  refine u_icmp_ge (tgt := 156) hC dX11_removeProject_132 (by decide) hf (fun h132 hf => ?_) (fun h132 hf => ?_)
  · refine u_sub (lv' := [(0, .ref (X.1 v0)), (2, .int v2)]) [0, 1] rfl ?_
    exact hO0 _ (Option.some.inj hf).symm
  · refine u_aload_n hC dX11_removeProject_135 0 rfl rfl ?_
    refine u_gr hC lf_X11_9 rfl hTv0 dX11_removeProject_136 hf (fun b136 hTb136 hf => ?_)
    refine u_bipush (v := (15 : Int32)) hC dX11_removeProject_139 (by decide) ?_
    refine u_bipush (v := (6 : Int32)) hC dX11_removeProject_141 (by decide) ?_
    refine u_iload_n hC dX11_removeProject_143 1 rfl rfl ?_
    refine u_imul hC dX11_removeProject_144 ?_
    refine u_iadd hC dX11_removeProject_145 ?_
    refine u_iload_n hC dX11_removeProject_146 2 rfl rfl ?_
    refine u_iadd hC dX11_removeProject_147 ?_
    refine u_iconst (v := (0 : Int32)) hC dX11_removeProject_148 (by decide) ?_
    refine u_wi hC hTb136 dX11_removeProject_149 hf (fun S149 hf => ?_)
    refine u_iinc (v := s129.1 + (1 : Int32)) (lv' := [(3, .int (s129.1 + (1 : Int32))), (0, .ref (X.1 v0)), (2, .int v2)]) hC dX11_removeProject_150 2 rfl rfl (by decide) rfl ?_
    refine u_goto (tgt := 129) hC dX11_removeProject_153 (by decide) ?_
    refine u_sub (lv' := [(0, .ref (X.1 v0)), (2, .int v2), (3, .int (s129.1 + (1 : Int32)))]) [1, 2, 0] rfl ?_
    exact hN _ (Option.some.inj hf).symm
theorem wbX11_removeProject_158 {C : CT} {X : XT} (hC : CK C RX11 cX11_removeProject 4 none 3) (n : Nat) (v0 : Nat) (v2 : Int32) (hTv0 : Ty X.2.1 v0 11) (s158 : (Int32 × PS)) {o : (Int32 × PS) ⊕ PS} (hf : bX11_removeProject_158 X.2.1 n v0 v2 s158 = some o) (hN : ∀ s', o = .inl s' → UW C X s'.2 158 [(0, .ref (X.1 v0)), (2, .int v2), (3, .int s'.1)] []) (hO0 : ∀ p', o = .inr p' → UW C X p' 183 [(0, .ref (X.1 v0))] []) : UW C X s158.2 158 [(0, .ref (X.1 v0)), (2, .int v2), (3, .int s158.1)] [] := by
  unfold bX11_removeProject_158 at hf
  refine u_iload_n hC dX11_removeProject_158 2 rfl rfl ?_
  refine u_aload_n hC dX11_removeProject_159 0 rfl rfl ?_
  obtain ⟨q160, hq160, hf⟩ := kc_some hf
  refine u_callV hC (ctX11_people (cL C) hC.tr (cG C) X.1 X.2.1 n s158.2 v0 hTv0 hq160) lk_X11_85 rfl hTv0 (by decide) rfl (by decide) (by decide) rfl rfl (Nat.le_of_ble_eq_true rfl) dX11_removeProject_160 ?_
  refine u_icmp_ge (tgt := 183) hC dX11_removeProject_163 (by decide) hf (fun h163 hf => ?_) (fun h163 hf => ?_)
  · refine u_sub (lv' := [(0, .ref (X.1 v0))]) [0] rfl ?_
    exact hO0 _ (Option.some.inj hf).symm
  · refine u_aload_n hC dX11_removeProject_166 0 rfl rfl ?_
    refine u_gr hC lf_X11_9 rfl hTv0 dX11_removeProject_167 hf (fun b167 hTb167 hf => ?_)
    refine u_iload_n hC dX11_removeProject_170 2 rfl rfl ?_
    refine u_iload_n hC dX11_removeProject_171 1 rfl rfl ?_
    obtain ⟨q172, hq172, hf⟩ := kc_some hf
    refine u_callS hC (ctX11_scoreAt (cL C) hC.tr (cG C) X.1 X.2.1 n s158.2 s158.1 v2  hq172) lk_X11_73 (by decide) (by decide) rfl rfl (Nat.le_of_ble_eq_true rfl) dX11_removeProject_172 ?_
    refine u_iconst (v := (0 : Int32)) hC dX11_removeProject_175 (by decide) ?_
    refine u_wi hC hTb167 dX11_removeProject_176 hf (fun S176 hf => ?_)
    refine u_iinc (v := s158.1 + (1 : Int32)) (lv' := [(3, .int (s158.1 + (1 : Int32))), (0, .ref (X.1 v0)), (2, .int v2)]) hC dX11_removeProject_177 2 rfl rfl (by decide) rfl ?_
    refine u_goto (tgt := 158) hC dX11_removeProject_180 (by decide) ?_
    refine u_sub (lv' := [(0, .ref (X.1 v0)), (2, .int v2), (3, .int (s158.1 + (1 : Int32)))]) [1, 2, 0] rfl ?_
    exact hN _ (Option.some.inj hf).symm
theorem wX11_removeProject {C : CT} {X : XT} (hC : CK C RX11 cX11_removeProject 4 none 3) (n : Nat) (S : PS) (a0 : Nat) (x1_ : Int32) (hTa0 : Ty X.2.1 a0 11) {o : PS} (hf : fX11_removeProject X.2.1 n S a0 x1_ = some o) (hR : Rt C X cX11_removeProject none none o) : UW C X S 0 [(0, .ref (X.1 a0)), (1, .int x1_)] [] := by
  unfold fX11_removeProject at hf
  refine u_iload_n hC dX11_removeProject_0 1 rfl rfl ?_
  refine u_istore_n (lv' := [(2, .int x1_), (0, .ref (X.1 a0)), (1, .int x1_)]) hC dX11_removeProject_1 rfl (by decide) rfl ?_
  obtain ⟨r2, hr2, hf⟩ := kc_some hf
  have hk2 : UW C X r2 111 [(0, .ref (X.1 a0))] [] := by
    refine u_aload_n hC dX11_removeProject_111 0 rfl rfl ?_
    obtain ⟨q112, hq112, hf⟩ := kc_some hf
    refine u_callV hC (ctX11_many (cL C) hC.tr (cG C) X.1 X.2.1 n r2 a0 hTa0 hq112) lk_X11_77 rfl hTa0 (by decide) rfl (by decide) (by decide) rfl rfl (Nat.le_of_ble_eq_true rfl) dX11_removeProject_112 ?_
    refine u_iconst (v := (1 : Int32)) hC dX11_removeProject_115 (by decide) ?_
    refine u_isub hC dX11_removeProject_116 ?_
    refine u_istore_n (lv' := [(2, .int (q112 - (1 : Int32))), (0, .ref (X.1 a0))]) hC dX11_removeProject_117 rfl (by decide) rfl ?_
    refine u_aload_n hC dX11_removeProject_118 1 rfl rfl ?_
    refine u_gr hC lf_X11_9 rfl hTa0 dX11_removeProject_119 hf (fun b119 hTb119 hf => ?_)
    refine u_iconst (v := (3 : Int32)) hC dX11_removeProject_122 (by decide) ?_
    refine u_iload_n hC dX11_removeProject_123 0 rfl rfl ?_
    refine u_iadd hC dX11_removeProject_124 ?_
    refine u_iconst (v := (0 : Int32)) hC dX11_removeProject_125 (by decide) ?_
    refine u_wi hC hTb119 dX11_removeProject_126 hf (fun S126 hf => ?_)
    refine u_iconst (v := (0 : Int32)) hC dX11_removeProject_127 (by decide) ?_
    refine u_istore_n (lv' := [(3, .int (0 : Int32)), (2, .int (q112 - (1 : Int32))), (0, .ref (X.1 a0))]) hC dX11_removeProject_128 rfl (by decide) rfl ?_
    obtain ⟨r129, hr129, hf⟩ := kc_some hf
    have hk129 : UW C X r129 156 [(0, .ref (X.1 a0)), (2, .int (q112 - (1 : Int32)))] [] := by
      refine u_iconst (v := (0 : Int32)) hC dX11_removeProject_156 (by decide) ?_
      refine u_istore_n (lv' := [(3, .int (0 : Int32)), (0, .ref (X.1 a0)), (2, .int (q112 - (1 : Int32)))]) hC dX11_removeProject_157 rfl (by decide) rfl ?_
      obtain ⟨r158, hr158, hf⟩ := kc_some hf
      have hk158 : UW C X r158 183 [(0, .ref (X.1 a0))] [] := by
        refine u_aload_n hC dX11_removeProject_183 0 rfl rfl ?_
        refine u_gr hC lf_X11_9 rfl hTa0 dX11_removeProject_184 hf (fun b184 hTb184 hf => ?_)
        refine u_iconst (v := (1 : Int32)) hC dX11_removeProject_187 (by decide) ?_
        refine u_dup2 hC dX11_removeProject_188 rfl rfl ?_
        refine u_ai hC hTb184 dX11_removeProject_189 hf (fun x189 hf => ?_)
        refine u_iconst (v := (1 : Int32)) hC dX11_removeProject_190 (by decide) ?_
        refine u_isub hC dX11_removeProject_191 ?_
        refine u_wi hC hTb184 dX11_removeProject_192 hf (fun S192 hf => ?_)
        cases hf
        exact hR _ _ dX11_removeProject_193 trivial
      refine u_sub (lv' := [(0, .ref (X.1 a0)), (2, .int (q112 - (1 : Int32))), (3, .int (0 : Int32))]) [1, 2, 0] rfl ?_
      refine iter_ind (P := fun s158 => UW C X s158.2 158 [(0, .ref (X.1 a0)), (2, .int (q112 - (1 : Int32))), (3, .int s158.1)] []) (fun s158 o' hb hin hout => ?_) n ((0 : Int32), r129) hr158
      exact wbX11_removeProject_158 hC n a0 (q112 - (1 : Int32)) hTa0 s158 hb hin (fun p e => by rw [hout p e]; exact hk158)
    refine u_sub (lv' := [(0, .ref (X.1 a0)), (2, .int (q112 - (1 : Int32))), (3, .int (0 : Int32))]) [2, 1, 0] rfl ?_
    refine iter_ind (P := fun s129 => UW C X s129.2 129 [(0, .ref (X.1 a0)), (2, .int (q112 - (1 : Int32))), (3, .int s129.1)] []) (fun s129 o' hb hin hout => ?_) n ((0 : Int32), S126) hr129
    exact wbX11_removeProject_129 hC n a0 (q112 - (1 : Int32)) hTa0 s129 hb hin (fun p e => by rw [hout p e]; exact hk129)
  refine u_sub (lv' := [(0, .ref (X.1 a0)), (2, .int x1_)]) [1, 0] rfl ?_
  refine iter_ind (P := fun s2 => UW C X s2.2 2 [(0, .ref (X.1 a0)), (2, .int s2.1)] []) (fun s2 o' hb hin hout => ?_) n (x1_, S) hr2
  exact wbX11_removeProject_2 hC n a0 hTa0 s2 hb hin (fun p e => by rw [hout p e]; exact hk2)
theorem ctX11_removeProject (l : Launch) (hl : l.stackTraces = false) (G : GT) (ρ : Nat → Nat) (Y : XS) (n : Nat) (S : PS) (a0 : Nat) (x1_ : Int32) (hTa0 : Ty Y a0 11) {o : PS} (hf : fX11_removeProject Y n S a0 x1_ = some o) : Mt l G yX11_removeProject cX11_removeProject 4 none 3 ρ Y [.ref (ρ a0), .int x1_] S none o :=
  Mt_of hl (by decide) (Nat.le_of_ble_eq_true rfl) (fun C _ _ hC hR => wX11_removeProject (X := (ρ, Y, 0, 0)) hC n S a0 x1_ hTa0 hf hR)
-- X11_bestHeld
theorem dX11_bestHeld_0 : decode cX11_bestHeld 0 = .ok (.iload_n 2, 1) := by decide +kernel
theorem dX11_bestHeld_1 : decode cX11_bestHeld 1 = .ok (.istore_n 3, 1) := by decide +kernel
theorem dX11_bestHeld_2 : decode cX11_bestHeld 2 = .ok (.iconst (-1), 1) := by decide +kernel
theorem dX11_bestHeld_3 : decode cX11_bestHeld 3 = .ok (.istore 4, 2) := by decide +kernel
theorem dX11_bestHeld_5 : decode cX11_bestHeld 5 = .ok (.iconst 0, 1) := by decide +kernel
theorem dX11_bestHeld_6 : decode cX11_bestHeld 6 = .ok (.istore 5, 2) := by decide +kernel
theorem dX11_bestHeld_8 : decode cX11_bestHeld 8 = .ok (.iload 5, 2) := by decide +kernel
theorem dX11_bestHeld_10 : decode cX11_bestHeld 10 = .ok (.aload_n 0, 1) := by decide +kernel
theorem dX11_bestHeld_11 : decode cX11_bestHeld 11 = .ok (.invokevirtual 77, 3) := by decide +kernel
theorem dX11_bestHeld_14 : decode cX11_bestHeld 14 = .ok (.if_icmp .ge 56, 3) := by decide +kernel
theorem dX11_bestHeld_17 : decode cX11_bestHeld 17 = .ok (.aload_n 0, 1) := by decide +kernel
theorem dX11_bestHeld_18 : decode cX11_bestHeld 18 = .ok (.getfield 60, 3) := by decide +kernel
theorem dX11_bestHeld_21 : decode cX11_bestHeld 21 = .ok (.iload 5, 2) := by decide +kernel
theorem dX11_bestHeld_23 : decode cX11_bestHeld 23 = .ok (.iaload, 1) := by decide +kernel
theorem dX11_bestHeld_24 : decode cX11_bestHeld 24 = .ok (.iconst (-1), 1) := by decide +kernel
theorem dX11_bestHeld_25 : decode cX11_bestHeld 25 = .ok (.if_icmp .eq 39, 3) := by decide +kernel
theorem dX11_bestHeld_28 : decode cX11_bestHeld 28 = .ok (.aload_n 0, 1) := by decide +kernel
theorem dX11_bestHeld_29 : decode cX11_bestHeld 29 = .ok (.iload_n 1, 1) := by decide +kernel
theorem dX11_bestHeld_30 : decode cX11_bestHeld 30 = .ok (.aload_n 0, 1) := by decide +kernel
theorem dX11_bestHeld_31 : decode cX11_bestHeld 31 = .ok (.getfield 60, 3) := by decide +kernel
theorem dX11_bestHeld_34 : decode cX11_bestHeld 34 = .ok (.iload 5, 2) := by decide +kernel
theorem dX11_bestHeld_36 : decode cX11_bestHeld 36 = .ok (.iaload, 1) := by decide +kernel
theorem dX11_bestHeld_37 : decode cX11_bestHeld 37 = .ok (.invokevirtual 151, 3) := by decide +kernel
theorem dX11_bestHeld_40 : decode cX11_bestHeld 40 = .ok (.iload_n 3, 1) := by decide +kernel
theorem dX11_bestHeld_41 : decode cX11_bestHeld 41 = .ok (.if_icmp .gt 6, 3) := by decide +kernel
theorem dX11_bestHeld_44 : decode cX11_bestHeld 44 = .ok (.goto 20, 3) := by decide +kernel
theorem dX11_bestHeld_47 : decode cX11_bestHeld 47 = .ok (.aload_n 0, 1) := by decide +kernel
theorem dX11_bestHeld_48 : decode cX11_bestHeld 48 = .ok (.iload_n 1, 1) := by decide +kernel
theorem dX11_bestHeld_49 : decode cX11_bestHeld 49 = .ok (.aload_n 0, 1) := by decide +kernel
theorem dX11_bestHeld_50 : decode cX11_bestHeld 50 = .ok (.getfield 60, 3) := by decide +kernel
theorem dX11_bestHeld_53 : decode cX11_bestHeld 53 = .ok (.iload 5, 2) := by decide +kernel
theorem dX11_bestHeld_55 : decode cX11_bestHeld 55 = .ok (.iaload, 1) := by decide +kernel
theorem dX11_bestHeld_56 : decode cX11_bestHeld 56 = .ok (.invokevirtual 151, 3) := by decide +kernel
theorem dX11_bestHeld_59 : decode cX11_bestHeld 59 = .ok (.istore_n 3, 1) := by decide +kernel
theorem dX11_bestHeld_60 : decode cX11_bestHeld 60 = .ok (.iload 5, 2) := by decide +kernel
theorem dX11_bestHeld_62 : decode cX11_bestHeld 62 = .ok (.istore 4, 2) := by decide +kernel
theorem dX11_bestHeld_64 : decode cX11_bestHeld 64 = .ok (.iinc 5 1, 3) := by decide +kernel
theorem dX11_bestHeld_67 : decode cX11_bestHeld 67 = .ok (.goto (-59), 3) := by decide +kernel
theorem dX11_bestHeld_70 : decode cX11_bestHeld 70 = .ok (.iload 4, 2) := by decide +kernel
theorem dX11_bestHeld_72 : decode cX11_bestHeld 72 = .ok (.ireturn, 1) := by decide +kernel
def jX11_bestHeld_64_8 (Y : XS) (n : Nat) (S : PS) (v0 : Nat) (v1 : Int32) (v3 : Int32) (v4 : Int32) (v5 : Int32) : Option ((Int32 × Int32 × Int32) ⊕ Int32) :=
  some (.inl (v3, v4, v5 + (1 : Int32)))
def bX11_bestHeld_8 (Y : XS) (n : Nat) (S : PS) (v0 : Nat) (v1 : Int32) (s8 : (Int32 × Int32 × Int32)) : Option ((Int32 × Int32 × Int32) ⊕ Int32) :=
  kc (fX11_many Y n S v0) (fun q11 => (if q11 ≤ s8.2.2 then some (.inr s8.2.1) else kgr S v0 26 (fun b18 => kai Y S b18 s8.2.2 (fun x23 => (if x23 = (-1 : Int32) then jX11_bestHeld_64_8 Y n S v0 v1 s8.1 s8.2.1 s8.2.2 else kgr S v0 26 (fun b31 => kai Y S b31 s8.2.2 (fun x36 => kc (fX11_worthTo Y n S v0 v1 x36) (fun q37 => (if s8.1 < q37 then kgr S v0 26 (fun b50 => kai Y S b50 s8.2.2 (fun x55 => kc (fX11_worthTo Y n S v0 v1 x55) (fun q56 => jX11_bestHeld_64_8 Y n S v0 v1 q56 s8.2.2 s8.2.2))) else jX11_bestHeld_64_8 Y n S v0 v1 s8.1 s8.2.1 s8.2.2)))))))))
def fX11_bestHeld (Y : XS) (n : Nat) (S : PS) (a0 : Nat) (x1_ : Int32) (x2_ : Int32) : Option (Int32) :=
  kc (iter (bX11_bestHeld_8 Y n S a0 x1_) n (x2_, (-1 : Int32), (0 : Int32))) (fun r8 => some r8)
theorem wjX11_bestHeld_64_8 {C : CT} {X : XT} (hC : CK C RX11 cX11_bestHeld 6 (some .int) 3) (n : Nat) (S : PS) (v0 : Nat) (v1 : Int32) (v3 : Int32) (v4 : Int32) (v5 : Int32)  (hTv0 : Ty X.2.1 v0 11) {o : (Int32 × Int32 × Int32) ⊕ Int32} (hf : jX11_bestHeld_64_8 X.2.1 n S v0 v1 v3 v4 v5 = some o) (hN : ∀ s', o = .inl s' → UW C X S 8 [(0, .ref (X.1 v0)), (1, .int v1), (3, .int s'.1), (4, .int s'.2.1), (5, .int s'.2.2)] []) (hO0 : ∀ p', o = .inr p' → UW C X S 70 [(4, .int p')] []) : UW C X S 64 [(0, .ref (X.1 v0)), (1, .int v1), (3, .int v3), (4, .int v4), (5, .int v5)] [] := by
  unfold jX11_bestHeld_64_8 at hf
  refine u_iinc (v := v5 + (1 : Int32)) (lv' := [(5, .int (v5 + (1 : Int32))), (0, .ref (X.1 v0)), (1, .int v1), (3, .int v3), (4, .int v4)]) hC dX11_bestHeld_64 4 rfl rfl (by decide) rfl ?_
  refine u_goto (tgt := 8) hC dX11_bestHeld_67 (by decide) ?_
  refine u_sub (lv' := [(0, .ref (X.1 v0)), (1, .int v1), (3, .int v3), (4, .int v4), (5, .int (v5 + (1 : Int32)))]) [1, 2, 3, 4, 0] rfl ?_
  exact hN _ (Option.some.inj hf).symm
theorem wbX11_bestHeld_8 {C : CT} {X : XT} (hC : CK C RX11 cX11_bestHeld 6 (some .int) 3) (n : Nat) (S : PS) (v0 : Nat) (v1 : Int32) (hTv0 : Ty X.2.1 v0 11) (s8 : (Int32 × Int32 × Int32)) {o : (Int32 × Int32 × Int32) ⊕ Int32} (hf : bX11_bestHeld_8 X.2.1 n S v0 v1 s8 = some o) (hN : ∀ s', o = .inl s' → UW C X S 8 [(0, .ref (X.1 v0)), (1, .int v1), (3, .int s'.1), (4, .int s'.2.1), (5, .int s'.2.2)] []) (hO0 : ∀ p', o = .inr p' → UW C X S 70 [(4, .int p')] []) : UW C X S 8 [(0, .ref (X.1 v0)), (1, .int v1), (3, .int s8.1), (4, .int s8.2.1), (5, .int s8.2.2)] [] := by
  unfold bX11_bestHeld_8 at hf
  refine u_iload hC dX11_bestHeld_8 4 rfl ?_
  refine u_aload_n hC dX11_bestHeld_10 0 rfl rfl ?_
  obtain ⟨q11, hq11, hf⟩ := kc_some hf
  refine u_callV hC (ctX11_many (cL C) hC.tr (cG C) X.1 X.2.1 n S v0 hTv0 hq11) lk_X11_77 rfl hTv0 (by decide) rfl (by decide) (by decide) rfl rfl (Nat.le_of_ble_eq_true rfl) dX11_bestHeld_11 ?_
  refine u_icmp_ge (tgt := 70) hC dX11_bestHeld_14 (by decide) hf (fun h14 hf => ?_) (fun h14 hf => ?_)
  · refine u_sub (lv' := [(4, .int s8.2.1)]) [3] rfl ?_
    exact hO0 _ (Option.some.inj hf).symm
  · refine u_aload_n hC dX11_bestHeld_17 0 rfl rfl ?_
    refine u_gr hC lf_X11_60 rfl hTv0 dX11_bestHeld_18 hf (fun b18 hTb18 hf => ?_)
    refine u_iload hC dX11_bestHeld_21 4 rfl ?_
    refine u_ai hC hTb18 dX11_bestHeld_23 hf (fun x23 hf => ?_)
    refine u_iconst (v := (-1 : Int32)) hC dX11_bestHeld_24 (by decide) ?_
    refine u_icmp_eq (tgt := 64) hC dX11_bestHeld_25 (by decide) hf (fun h25 hf => ?_) (fun h25 hf => ?_)
    · exact wjX11_bestHeld_64_8 hC n S v0 v1 s8.1 s8.2.1 s8.2.2  hTv0 hf hN hO0
    · refine u_aload_n hC dX11_bestHeld_28 0 rfl rfl ?_
      refine u_iload_n hC dX11_bestHeld_29 1 rfl rfl ?_
      refine u_aload_n hC dX11_bestHeld_30 0 rfl rfl ?_
      refine u_gr hC lf_X11_60 rfl hTv0 dX11_bestHeld_31 hf (fun b31 hTb31 hf => ?_)
      refine u_iload hC dX11_bestHeld_34 4 rfl ?_
      refine u_ai hC hTb31 dX11_bestHeld_36 hf (fun x36 hf => ?_)
      obtain ⟨q37, hq37, hf⟩ := kc_some hf
      refine u_callV hC (ctX11_worthTo (cL C) hC.tr (cG C) X.1 X.2.1 n S v0 v1 x36 hTv0 hq37) lk_X11_151 rfl hTv0 (by decide) rfl (by decide) (by decide) rfl rfl (Nat.le_of_ble_eq_true rfl) dX11_bestHeld_37 ?_
      refine u_iload_n hC dX11_bestHeld_40 2 rfl rfl ?_
      refine u_icmp_gt (tgt := 47) hC dX11_bestHeld_41 (by decide) hf (fun h41 hf => ?_) (fun h41 hf => ?_)
      · refine u_aload_n hC dX11_bestHeld_47 0 rfl rfl ?_
        refine u_iload_n hC dX11_bestHeld_48 1 rfl rfl ?_
        refine u_aload_n hC dX11_bestHeld_49 0 rfl rfl ?_
        refine u_gr hC lf_X11_60 rfl hTv0 dX11_bestHeld_50 hf (fun b50 hTb50 hf => ?_)
        refine u_iload hC dX11_bestHeld_53 4 rfl ?_
        refine u_ai hC hTb50 dX11_bestHeld_55 hf (fun x55 hf => ?_)
        obtain ⟨q56, hq56, hf⟩ := kc_some hf
        refine u_callV hC (ctX11_worthTo (cL C) hC.tr (cG C) X.1 X.2.1 n S v0 v1 x55 hTv0 hq56) lk_X11_151 rfl hTv0 (by decide) rfl (by decide) (by decide) rfl rfl (Nat.le_of_ble_eq_true rfl) dX11_bestHeld_56 ?_
        refine u_istore_n (lv' := [(3, .int q56), (0, .ref (X.1 v0)), (1, .int v1), (4, .int s8.2.1), (5, .int s8.2.2)]) hC dX11_bestHeld_59 rfl (by decide) rfl ?_
        refine u_iload hC dX11_bestHeld_60 4 rfl ?_
        refine u_istore (lv' := [(4, .int s8.2.2), (3, .int q56), (0, .ref (X.1 v0)), (1, .int v1), (5, .int s8.2.2)]) hC dX11_bestHeld_62 (by decide) rfl ?_
        refine u_sub (lv' := [(0, .ref (X.1 v0)), (1, .int v1), (3, .int q56), (4, .int s8.2.2), (5, .int s8.2.2)]) [2, 3, 1, 0, 4] rfl ?_
        exact wjX11_bestHeld_64_8 hC n S v0 v1 q56 s8.2.2 s8.2.2  hTv0 hf hN hO0
      · refine u_goto (tgt := 64) hC dX11_bestHeld_44 (by decide) ?_
        exact wjX11_bestHeld_64_8 hC n S v0 v1 s8.1 s8.2.1 s8.2.2  hTv0 hf hN hO0
theorem wX11_bestHeld {C : CT} {X : XT} (hC : CK C RX11 cX11_bestHeld 6 (some .int) 3) (n : Nat) (S : PS) (a0 : Nat) (x1_ : Int32) (x2_ : Int32) (hTa0 : Ty X.2.1 a0 11) {o : Int32} (hf : fX11_bestHeld X.2.1 n S a0 x1_ x2_ = some o) (hR : Rt C X cX11_bestHeld (some .int) (some (.int o)) S) : UW C X S 0 [(0, .ref (X.1 a0)), (1, .int x1_), (2, .int x2_)] [] := by
  unfold fX11_bestHeld at hf
  refine u_iload_n hC dX11_bestHeld_0 2 rfl rfl ?_
  refine u_istore_n (lv' := [(3, .int x2_), (0, .ref (X.1 a0)), (1, .int x1_), (2, .int x2_)]) hC dX11_bestHeld_1 rfl (by decide) rfl ?_
  refine u_iconst (v := (-1 : Int32)) hC dX11_bestHeld_2 (by decide) ?_
  refine u_istore (lv' := [(4, .int (-1 : Int32)), (3, .int x2_), (0, .ref (X.1 a0)), (1, .int x1_), (2, .int x2_)]) hC dX11_bestHeld_3 (by decide) rfl ?_
  refine u_iconst (v := (0 : Int32)) hC dX11_bestHeld_5 (by decide) ?_
  refine u_istore (lv' := [(5, .int (0 : Int32)), (4, .int (-1 : Int32)), (3, .int x2_), (0, .ref (X.1 a0)), (1, .int x1_), (2, .int x2_)]) hC dX11_bestHeld_6 (by decide) rfl ?_
  obtain ⟨r8, hr8, hf⟩ := kc_some hf
  have hk8 : UW C X S 70 [(4, .int r8)] [] := by
    refine u_iload hC dX11_bestHeld_70 0 rfl ?_
    cases hf
    exact hR _ _ dX11_bestHeld_72 trivial
  refine u_sub (lv' := [(0, .ref (X.1 a0)), (1, .int x1_), (3, .int x2_), (4, .int (-1 : Int32)), (5, .int (0 : Int32))]) [3, 4, 2, 1, 0] rfl ?_
  refine iter_ind (P := fun s8 => UW C X S 8 [(0, .ref (X.1 a0)), (1, .int x1_), (3, .int s8.1), (4, .int s8.2.1), (5, .int s8.2.2)] []) (fun s8 o' hb hin hout => ?_) n (x2_, (-1 : Int32), (0 : Int32)) hr8
  exact wbX11_bestHeld_8 hC n S a0 x1_ hTa0 s8 hb hin (fun p e => by rw [hout p e]; exact hk8)
theorem ctX11_bestHeld (l : Launch) (hl : l.stackTraces = false) (G : GT) (ρ : Nat → Nat) (Y : XS) (n : Nat) (S : PS) (a0 : Nat) (x1_ : Int32) (x2_ : Int32) (hTa0 : Ty Y a0 11) {o : Int32} (hf : fX11_bestHeld Y n S a0 x1_ x2_ = some o) : Mt l G yX11_bestHeld cX11_bestHeld 6 (some .int) 3 ρ Y [.ref (ρ a0), .int x1_, .int x2_] S (some (.int o)) S :=
  Mt_of hl (by decide) (Nat.le_of_ble_eq_true rfl) (fun C _ _ hC hR => wX11_bestHeld (X := (ρ, Y, 0, 0)) hC n S a0 x1_ x2_ hTa0 hf hR)
-- X11_keep
theorem dX11_keep_0 : decode cX11_keep 0 = .ok (.aload_n 0, 1) := by decide +kernel
theorem dX11_keep_1 : decode cX11_keep 1 = .ok (.getfield 246, 3) := by decide +kernel
theorem dX11_keep_4 : decode cX11_keep 4 = .ok (.bipush 20, 2) := by decide +kernel
theorem dX11_keep_6 : decode cX11_keep 6 = .ok (.if_icmp .ne 46, 3) := by decide +kernel
theorem dX11_keep_9 : decode cX11_keep 9 = .ok (.sipush 877, 3) := by decide +kernel
theorem dX11_keep_12 : decode cX11_keep 12 = .ok (.istore_n 1, 1) := by decide +kernel
theorem dX11_keep_13 : decode cX11_keep 13 = .ok (.iload_n 1, 1) := by decide +kernel
theorem dX11_keep_14 : decode cX11_keep 14 = .ok (.sipush 17540, 3) := by decide +kernel
theorem dX11_keep_17 : decode cX11_keep 17 = .ok (.if_icmp .ge 25, 3) := by decide +kernel
theorem dX11_keep_20 : decode cX11_keep 20 = .ok (.aload_n 0, 1) := by decide +kernel
theorem dX11_keep_21 : decode cX11_keep 21 = .ok (.getfield 22, 3) := by decide +kernel
theorem dX11_keep_24 : decode cX11_keep 24 = .ok (.iload_n 1, 1) := by decide +kernel
theorem dX11_keep_25 : decode cX11_keep 25 = .ok (.sipush 877, 3) := by decide +kernel
theorem dX11_keep_28 : decode cX11_keep 28 = .ok (.isub, 1) := by decide +kernel
theorem dX11_keep_29 : decode cX11_keep 29 = .ok (.aload_n 0, 1) := by decide +kernel
theorem dX11_keep_30 : decode cX11_keep 30 = .ok (.getfield 22, 3) := by decide +kernel
theorem dX11_keep_33 : decode cX11_keep 33 = .ok (.iload_n 1, 1) := by decide +kernel
theorem dX11_keep_34 : decode cX11_keep 34 = .ok (.iaload, 1) := by decide +kernel
theorem dX11_keep_35 : decode cX11_keep 35 = .ok (.iastore, 1) := by decide +kernel
theorem dX11_keep_36 : decode cX11_keep 36 = .ok (.iinc 1 1, 3) := by decide +kernel
theorem dX11_keep_39 : decode cX11_keep 39 = .ok (.goto (-26), 3) := by decide +kernel
theorem dX11_keep_42 : decode cX11_keep 42 = .ok (.aload_n 0, 1) := by decide +kernel
theorem dX11_keep_43 : decode cX11_keep 43 = .ok (.dup, 1) := by decide +kernel
theorem dX11_keep_44 : decode cX11_keep 44 = .ok (.getfield 246, 3) := by decide +kernel
theorem dX11_keep_47 : decode cX11_keep 47 = .ok (.iconst 1, 1) := by decide +kernel
theorem dX11_keep_48 : decode cX11_keep 48 = .ok (.isub, 1) := by decide +kernel
theorem dX11_keep_49 : decode cX11_keep 49 = .ok (.putfield 246, 3) := by decide +kernel
theorem dX11_keep_52 : decode cX11_keep 52 = .ok (.iconst 0, 1) := by decide +kernel
theorem dX11_keep_53 : decode cX11_keep 53 = .ok (.istore_n 1, 1) := by decide +kernel
theorem dX11_keep_54 : decode cX11_keep 54 = .ok (.iload_n 1, 1) := by decide +kernel
theorem dX11_keep_55 : decode cX11_keep 55 = .ok (.sipush 877, 3) := by decide +kernel
theorem dX11_keep_58 : decode cX11_keep 58 = .ok (.if_icmp .ge 30, 3) := by decide +kernel
theorem dX11_keep_61 : decode cX11_keep 61 = .ok (.aload_n 0, 1) := by decide +kernel
theorem dX11_keep_62 : decode cX11_keep 62 = .ok (.getfield 22, 3) := by decide +kernel
theorem dX11_keep_65 : decode cX11_keep 65 = .ok (.sipush 877, 3) := by decide +kernel
theorem dX11_keep_68 : decode cX11_keep 68 = .ok (.aload_n 0, 1) := by decide +kernel
theorem dX11_keep_69 : decode cX11_keep 69 = .ok (.getfield 246, 3) := by decide +kernel
theorem dX11_keep_72 : decode cX11_keep 72 = .ok (.imul, 1) := by decide +kernel
theorem dX11_keep_73 : decode cX11_keep 73 = .ok (.iload_n 1, 1) := by decide +kernel
theorem dX11_keep_74 : decode cX11_keep 74 = .ok (.iadd, 1) := by decide +kernel
theorem dX11_keep_75 : decode cX11_keep 75 = .ok (.aload_n 0, 1) := by decide +kernel
theorem dX11_keep_76 : decode cX11_keep 76 = .ok (.getfield 9, 3) := by decide +kernel
theorem dX11_keep_79 : decode cX11_keep 79 = .ok (.iload_n 1, 1) := by decide +kernel
theorem dX11_keep_80 : decode cX11_keep 80 = .ok (.iaload, 1) := by decide +kernel
theorem dX11_keep_81 : decode cX11_keep 81 = .ok (.iastore, 1) := by decide +kernel
theorem dX11_keep_82 : decode cX11_keep 82 = .ok (.iinc 1 1, 3) := by decide +kernel
theorem dX11_keep_85 : decode cX11_keep 85 = .ok (.goto (-31), 3) := by decide +kernel
theorem dX11_keep_88 : decode cX11_keep 88 = .ok (.aload_n 0, 1) := by decide +kernel
theorem dX11_keep_89 : decode cX11_keep 89 = .ok (.dup, 1) := by decide +kernel
theorem dX11_keep_90 : decode cX11_keep 90 = .ok (.getfield 246, 3) := by decide +kernel
theorem dX11_keep_93 : decode cX11_keep 93 = .ok (.iconst 1, 1) := by decide +kernel
theorem dX11_keep_94 : decode cX11_keep 94 = .ok (.iadd, 1) := by decide +kernel
theorem dX11_keep_95 : decode cX11_keep 95 = .ok (.putfield 246, 3) := by decide +kernel
theorem dX11_keep_98 : decode cX11_keep 98 = .ok (.return_, 1) := by decide +kernel
def bX11_keep_54 (Y : XS) (n : Nat) (v0 : Nat) (s54 : (Int32 × PS)) : Option ((Int32 × PS) ⊕ PS) :=
  (if (877 : Int32) ≤ s54.1 then some (.inr s54.2) else kgr s54.2 v0 4 (fun b62 => kgi s54.2 v0 6 (fun x69 => kgr s54.2 v0 0 (fun b76 => kai Y s54.2 b76 s54.1 (fun x80 => kwi Y s54.2 b62 (((877 : Int32) * x69) + s54.1) x80 (fun S81 => some (.inl (s54.1 + (1 : Int32), S81))))))))
def jX11_keep_52 (Y : XS) (n : Nat) (S : PS) (v0 : Nat) : Option (PS) :=
  kc (iter (bX11_keep_54 Y n v0) n ((0 : Int32), S)) (fun r54 => kgi r54 v0 6 (fun x90 => kpi r54 v0 6 (x90 + (1 : Int32)) (fun S95 => some S95)))
def bX11_keep_13 (Y : XS) (n : Nat) (v0 : Nat) (s13 : (Int32 × PS)) : Option ((Int32 × PS) ⊕ PS) :=
  (if (17540 : Int32) ≤ s13.1 then some (.inr s13.2) else kgr s13.2 v0 4 (fun b21 => kgr s13.2 v0 4 (fun b30 => kai Y s13.2 b30 s13.1 (fun x34 => kwi Y s13.2 b21 (s13.1 - (877 : Int32)) x34 (fun S35 => some (.inl (s13.1 + (1 : Int32), S35)))))))
def fX11_keep (Y : XS) (n : Nat) (S : PS) (a0 : Nat) : Option (PS) :=
  kgi S a0 6 (fun x1 => (if x1 = (20 : Int32) then kc (iter (bX11_keep_13 Y n a0) n ((877 : Int32), S)) (fun r13 => kgi r13 a0 6 (fun x44 => kpi r13 a0 6 (x44 - (1 : Int32)) (fun S49 => jX11_keep_52 Y n S49 a0))) else jX11_keep_52 Y n S a0))
theorem wbX11_keep_54 {C : CT} {X : XT} (hC : CK C RX11 cX11_keep 2 none 1) (n : Nat) (v0 : Nat) (hTv0 : Ty X.2.1 v0 11) (s54 : (Int32 × PS)) {o : (Int32 × PS) ⊕ PS} (hf : bX11_keep_54 X.2.1 n v0 s54 = some o) (hN : ∀ s', o = .inl s' → UW C X s'.2 54 [(0, .ref (X.1 v0)), (1, .int s'.1)] []) (hO0 : ∀ p', o = .inr p' → UW C X p' 88 [(0, .ref (X.1 v0))] []) : UW C X s54.2 54 [(0, .ref (X.1 v0)), (1, .int s54.1)] [] := by
  unfold bX11_keep_54 at hf
  refine u_iload_n hC dX11_keep_54 1 rfl rfl ?_
  refine u_sipush (v := (877 : Int32)) hC dX11_keep_55 (by decide) ?_
  refine u_icmp_ge (tgt := 88) hC dX11_keep_58 (by decide) hf (fun h58 hf => ?_) (fun h58 hf => ?_)
  · refine u_sub (lv' := [(0, .ref (X.1 v0))]) [0] rfl ?_
    exact hO0 _ (Option.some.inj hf).symm
  · refine u_aload_n hC dX11_keep_61 0 rfl rfl ?_
    refine u_gr hC lf_X11_22 rfl hTv0 dX11_keep_62 hf (fun b62 hTb62 hf => ?_)
    refine u_sipush (v := (877 : Int32)) hC dX11_keep_65 (by decide) ?_
    refine u_aload_n hC dX11_keep_68 0 rfl rfl ?_
    refine u_gi hC lf_X11_246 rfl hTv0 dX11_keep_69 hf (fun x69 hf => ?_)
    refine u_imul hC dX11_keep_72 ?_
    refine u_iload_n hC dX11_keep_73 1 rfl rfl ?_
    refine u_iadd hC dX11_keep_74 ?_
    refine u_aload_n hC dX11_keep_75 0 rfl rfl ?_
    refine u_gr hC lf_X11_9 rfl hTv0 dX11_keep_76 hf (fun b76 hTb76 hf => ?_)
    refine u_iload_n hC dX11_keep_79 1 rfl rfl ?_
    refine u_ai hC hTb76 dX11_keep_80 hf (fun x80 hf => ?_)
    refine u_wi hC hTb62 dX11_keep_81 hf (fun S81 hf => ?_)
    refine u_iinc (v := s54.1 + (1 : Int32)) (lv' := [(1, .int (s54.1 + (1 : Int32))), (0, .ref (X.1 v0))]) hC dX11_keep_82 1 rfl rfl (by decide) rfl ?_
    refine u_goto (tgt := 54) hC dX11_keep_85 (by decide) ?_
    refine u_sub (lv' := [(0, .ref (X.1 v0)), (1, .int (s54.1 + (1 : Int32)))]) [1, 0] rfl ?_
    exact hN _ (Option.some.inj hf).symm
theorem wjX11_keep_52 {C : CT} {X : XT} (hC : CK C RX11 cX11_keep 2 none 1) (n : Nat) (S : PS) (v0 : Nat)  (hTv0 : Ty X.2.1 v0 11) {o : PS} (hf : jX11_keep_52 X.2.1 n S v0 = some o) (hR : Rt C X cX11_keep none none o) : UW C X S 52 [(0, .ref (X.1 v0))] [] := by
  unfold jX11_keep_52 at hf
  refine u_iconst (v := (0 : Int32)) hC dX11_keep_52 (by decide) ?_
  refine u_istore_n (lv' := [(1, .int (0 : Int32)), (0, .ref (X.1 v0))]) hC dX11_keep_53 rfl (by decide) rfl ?_
  obtain ⟨r54, hr54, hf⟩ := kc_some hf
  have hk54 : UW C X r54 88 [(0, .ref (X.1 v0))] [] := by
    refine u_aload_n hC dX11_keep_88 0 rfl rfl ?_
    refine u_dup hC dX11_keep_89 rfl ?_
    refine u_gi hC lf_X11_246 rfl hTv0 dX11_keep_90 hf (fun x90 hf => ?_)
    refine u_iconst (v := (1 : Int32)) hC dX11_keep_93 (by decide) ?_
    refine u_iadd hC dX11_keep_94 ?_
    refine u_pi hC lf_X11_246 rfl rfl rfl hTv0 dX11_keep_95 hf (fun S95 hf => ?_)
    cases hf
    exact hR _ _ dX11_keep_98 trivial
  refine u_sub (lv' := [(0, .ref (X.1 v0)), (1, .int (0 : Int32))]) [1, 0] rfl ?_
  refine iter_ind (P := fun s54 => UW C X s54.2 54 [(0, .ref (X.1 v0)), (1, .int s54.1)] []) (fun s54 o' hb hin hout => ?_) n ((0 : Int32), S) hr54
  exact wbX11_keep_54 hC n v0 hTv0 s54 hb hin (fun p e => by rw [hout p e]; exact hk54)
theorem wbX11_keep_13 {C : CT} {X : XT} (hC : CK C RX11 cX11_keep 2 none 1) (n : Nat) (v0 : Nat) (hTv0 : Ty X.2.1 v0 11) (s13 : (Int32 × PS)) {o : (Int32 × PS) ⊕ PS} (hf : bX11_keep_13 X.2.1 n v0 s13 = some o) (hN : ∀ s', o = .inl s' → UW C X s'.2 13 [(0, .ref (X.1 v0)), (1, .int s'.1)] []) (hO0 : ∀ p', o = .inr p' → UW C X p' 42 [(0, .ref (X.1 v0))] []) : UW C X s13.2 13 [(0, .ref (X.1 v0)), (1, .int s13.1)] [] := by
  unfold bX11_keep_13 at hf
  refine u_iload_n hC dX11_keep_13 1 rfl rfl ?_
  refine u_sipush (v := (17540 : Int32)) hC dX11_keep_14 (by decide) ?_
  refine u_icmp_ge (tgt := 42) hC dX11_keep_17 (by decide) hf (fun h17 hf => ?_) (fun h17 hf => ?_)
  · refine u_sub (lv' := [(0, .ref (X.1 v0))]) [0] rfl ?_
    exact hO0 _ (Option.some.inj hf).symm
  · refine u_aload_n hC dX11_keep_20 0 rfl rfl ?_
    refine u_gr hC lf_X11_22 rfl hTv0 dX11_keep_21 hf (fun b21 hTb21 hf => ?_)
    refine u_iload_n hC dX11_keep_24 1 rfl rfl ?_
    refine u_sipush (v := (877 : Int32)) hC dX11_keep_25 (by decide) ?_
    refine u_isub hC dX11_keep_28 ?_
    refine u_aload_n hC dX11_keep_29 0 rfl rfl ?_
    refine u_gr hC lf_X11_22 rfl hTv0 dX11_keep_30 hf (fun b30 hTb30 hf => ?_)
    refine u_iload_n hC dX11_keep_33 1 rfl rfl ?_
    refine u_ai hC hTb30 dX11_keep_34 hf (fun x34 hf => ?_)
    refine u_wi hC hTb21 dX11_keep_35 hf (fun S35 hf => ?_)
    refine u_iinc (v := s13.1 + (1 : Int32)) (lv' := [(1, .int (s13.1 + (1 : Int32))), (0, .ref (X.1 v0))]) hC dX11_keep_36 1 rfl rfl (by decide) rfl ?_
    refine u_goto (tgt := 13) hC dX11_keep_39 (by decide) ?_
    refine u_sub (lv' := [(0, .ref (X.1 v0)), (1, .int (s13.1 + (1 : Int32)))]) [1, 0] rfl ?_
    exact hN _ (Option.some.inj hf).symm
theorem wX11_keep {C : CT} {X : XT} (hC : CK C RX11 cX11_keep 2 none 1) (n : Nat) (S : PS) (a0 : Nat) (hTa0 : Ty X.2.1 a0 11) {o : PS} (hf : fX11_keep X.2.1 n S a0 = some o) (hR : Rt C X cX11_keep none none o) : UW C X S 0 [(0, .ref (X.1 a0))] [] := by
  unfold fX11_keep at hf
  refine u_aload_n hC dX11_keep_0 0 rfl rfl ?_
  refine u_gi hC lf_X11_246 rfl hTa0 dX11_keep_1 hf (fun x1 hf => ?_)
  refine u_bipush (v := (20 : Int32)) hC dX11_keep_4 (by decide) ?_
  refine u_icmp_ne (tgt := 52) hC dX11_keep_6 (by decide) hf (fun h6 hf => ?_) (fun h6 hf => ?_)
  · exact wjX11_keep_52 hC n S a0  hTa0 hf hR
  · refine u_sipush (v := (877 : Int32)) hC dX11_keep_9 (by decide) ?_
    refine u_istore_n (lv' := [(1, .int (877 : Int32)), (0, .ref (X.1 a0))]) hC dX11_keep_12 rfl (by decide) rfl ?_
    obtain ⟨r13, hr13, hf⟩ := kc_some hf
    have hk13 : UW C X r13 42 [(0, .ref (X.1 a0))] [] := by
      refine u_aload_n hC dX11_keep_42 0 rfl rfl ?_
      refine u_dup hC dX11_keep_43 rfl ?_
      refine u_gi hC lf_X11_246 rfl hTa0 dX11_keep_44 hf (fun x44 hf => ?_)
      refine u_iconst (v := (1 : Int32)) hC dX11_keep_47 (by decide) ?_
      refine u_isub hC dX11_keep_48 ?_
      refine u_pi hC lf_X11_246 rfl rfl rfl hTa0 dX11_keep_49 hf (fun S49 hf => ?_)
      exact wjX11_keep_52 hC n S49 a0  hTa0 hf hR
    refine u_sub (lv' := [(0, .ref (X.1 a0)), (1, .int (877 : Int32))]) [1, 0] rfl ?_
    refine iter_ind (P := fun s13 => UW C X s13.2 13 [(0, .ref (X.1 a0)), (1, .int s13.1)] []) (fun s13 o' hb hin hout => ?_) n ((877 : Int32), S) hr13
    exact wbX11_keep_13 hC n a0 hTa0 s13 hb hin (fun p e => by rw [hout p e]; exact hk13)
theorem ctX11_keep (l : Launch) (hl : l.stackTraces = false) (G : GT) (ρ : Nat → Nat) (Y : XS) (n : Nat) (S : PS) (a0 : Nat) (hTa0 : Ty Y a0 11) {o : PS} (hf : fX11_keep Y n S a0 = some o) : Mt l G yX11_keep cX11_keep 2 none 1 ρ Y [.ref (ρ a0)] S none o :=
  Mt_of hl (by decide) (Nat.le_of_ble_eq_true rfl) (fun C _ _ hC hR => wX11_keep (X := (ρ, Y, 0, 0)) hC n S a0 hTa0 hf hR)
-- X11_becomes
theorem dX11_becomes_0 : decode cX11_becomes 0 = .ok (.aload_n 0, 1) := by decide +kernel
theorem dX11_becomes_1 : decode cX11_becomes 1 = .ok (.invokevirtual 315, 3) := by decide +kernel
theorem dX11_becomes_4 : decode cX11_becomes 4 = .ok (.aload_n 0, 1) := by decide +kernel
theorem dX11_becomes_5 : decode cX11_becomes 5 = .ok (.getfield 9, 3) := by decide +kernel
theorem dX11_becomes_8 : decode cX11_becomes 8 = .ok (.iload_n 1, 1) := by decide +kernel
theorem dX11_becomes_9 : decode cX11_becomes 9 = .ok (.iaload, 1) := by decide +kernel
theorem dX11_becomes_10 : decode cX11_becomes 10 = .ok (.istore_n 3, 1) := by decide +kernel
theorem dX11_becomes_11 : decode cX11_becomes 11 = .ok (.aload_n 0, 1) := by decide +kernel
theorem dX11_becomes_12 : decode cX11_becomes 12 = .ok (.getfield 9, 3) := by decide +kernel
theorem dX11_becomes_15 : decode cX11_becomes 15 = .ok (.iload_n 1, 1) := by decide +kernel
theorem dX11_becomes_16 : decode cX11_becomes 16 = .ok (.iload_n 2, 1) := by decide +kernel
theorem dX11_becomes_17 : decode cX11_becomes 17 = .ok (.iastore, 1) := by decide +kernel
theorem dX11_becomes_18 : decode cX11_becomes 18 = .ok (.iload_n 3, 1) := by decide +kernel
theorem dX11_becomes_19 : decode cX11_becomes 19 = .ok (.ireturn, 1) := by decide +kernel
def fX11_becomes (Y : XS) (n : Nat) (S : PS) (a0 : Nat) (x1_ : Int32) (x2_ : Int32) : Option (Int32 × PS) :=
  kc (fX11_keep Y n S a0) (fun q1 => kgr q1 a0 0 (fun b5 => kai Y q1 b5 x1_ (fun x9 => kgr q1 a0 0 (fun b12 => kwi Y q1 b12 x1_ x2_ (fun S17 => some (x9, S17))))))
theorem wX11_becomes {C : CT} {X : XT} (hC : CK C RX11 cX11_becomes 4 (some .int) 2) (n : Nat) (S : PS) (a0 : Nat) (x1_ : Int32) (x2_ : Int32) (hTa0 : Ty X.2.1 a0 11) {o : Int32 × PS} (hf : fX11_becomes X.2.1 n S a0 x1_ x2_ = some o) (hR : Rt C X cX11_becomes (some .int) (some (.int o.1)) o.2) : UW C X S 0 [(0, .ref (X.1 a0)), (1, .int x1_), (2, .int x2_)] [] := by
  unfold fX11_becomes at hf
  refine u_aload_n hC dX11_becomes_0 0 rfl rfl ?_
  obtain ⟨q1, hq1, hf⟩ := kc_some hf
  refine u_callV hC (ctX11_keep (cL C) hC.tr (cG C) X.1 X.2.1 n S a0 hTa0 hq1) lk_X11_315 rfl hTa0 (by decide) rfl (by decide) (by decide) rfl rfl (Nat.le_of_ble_eq_true rfl) dX11_becomes_1 ?_
  refine u_aload_n hC dX11_becomes_4 0 rfl rfl ?_
  refine u_gr hC lf_X11_9 rfl hTa0 dX11_becomes_5 hf (fun b5 hTb5 hf => ?_)
  refine u_iload_n hC dX11_becomes_8 1 rfl rfl ?_
  refine u_ai hC hTb5 dX11_becomes_9 hf (fun x9 hf => ?_)
  refine u_istore_n (lv' := [(3, .int x9), (0, .ref (X.1 a0)), (1, .int x1_), (2, .int x2_)]) hC dX11_becomes_10 rfl (by decide) rfl ?_
  refine u_aload_n hC dX11_becomes_11 1 rfl rfl ?_
  refine u_gr hC lf_X11_9 rfl hTa0 dX11_becomes_12 hf (fun b12 hTb12 hf => ?_)
  refine u_iload_n hC dX11_becomes_15 2 rfl rfl ?_
  refine u_iload_n hC dX11_becomes_16 3 rfl rfl ?_
  refine u_wi hC hTb12 dX11_becomes_17 hf (fun S17 hf => ?_)
  refine u_iload_n hC dX11_becomes_18 0 rfl rfl ?_
  cases hf
  exact hR _ _ dX11_becomes_19 trivial
theorem ctX11_becomes (l : Launch) (hl : l.stackTraces = false) (G : GT) (ρ : Nat → Nat) (Y : XS) (n : Nat) (S : PS) (a0 : Nat) (x1_ : Int32) (x2_ : Int32) (hTa0 : Ty Y a0 11) {o : Int32 × PS} (hf : fX11_becomes Y n S a0 x1_ x2_ = some o) : Mt l G yX11_becomes cX11_becomes 4 (some .int) 2 ρ Y [.ref (ρ a0), .int x1_, .int x2_] S (some (.int o.1)) o.2 :=
  Mt_of hl (by decide) (Nat.le_of_ble_eq_true rfl) (fun C _ _ hC hR => wX11_becomes (X := (ρ, Y, 0, 0)) hC n S a0 x1_ x2_ hTa0 hf hR)
-- X11_budget
theorem dX11_budget_0 : decode cX11_budget 0 = .ok (.aload_n 0, 1) := by decide +kernel
theorem dX11_budget_1 : decode cX11_budget 1 = .ok (.iconst 0, 1) := by decide +kernel
theorem dX11_budget_2 : decode cX11_budget 2 = .ok (.putfield 70, 3) := by decide +kernel
theorem dX11_budget_5 : decode cX11_budget 5 = .ok (.iload_n 1, 1) := by decide +kernel
theorem dX11_budget_6 : decode cX11_budget 6 = .ok (.iconst 0, 1) := by decide +kernel
theorem dX11_budget_7 : decode cX11_budget 7 = .ok (.ldc_w 305, 3) := by decide +kernel
theorem dX11_budget_10 : decode cX11_budget 10 = .ok (.invokestatic 81, 3) := by decide +kernel
theorem dX11_budget_13 : decode cX11_budget 13 = .ok (.ifCond .eq 12, 3) := by decide +kernel
theorem dX11_budget_16 : decode cX11_budget 16 = .ok (.aload_n 0, 1) := by decide +kernel
theorem dX11_budget_17 : decode cX11_budget 17 = .ok (.iconst 0, 1) := by decide +kernel
theorem dX11_budget_18 : decode cX11_budget 18 = .ok (.iload_n 1, 1) := by decide +kernel
theorem dX11_budget_19 : decode cX11_budget 19 = .ok (.invokevirtual 318, 3) := by decide +kernel
theorem dX11_budget_22 : decode cX11_budget 22 = .ok (.goto 8, 3) := by decide +kernel
theorem dX11_budget_25 : decode cX11_budget 25 = .ok (.aload_n 0, 1) := by decide +kernel
theorem dX11_budget_26 : decode cX11_budget 26 = .ok (.iconst 1, 1) := by decide +kernel
theorem dX11_budget_27 : decode cX11_budget 27 = .ok (.invokevirtual 252, 3) := by decide +kernel
theorem dX11_budget_30 : decode cX11_budget 30 = .ok (.ireturn, 1) := by decide +kernel
def jX11_budget_30 (Y : XS) (n : Nat) (S : PS) (t0 : Int32) : Option (Int32 × PS) :=
  some (t0, S)
def fX11_budget (Y : XS) (n : Nat) (S : PS) (a0 : Nat) (x1_ : Int32) : Option (Int32 × PS) :=
  kpi S a0 7 (0 : Int32) (fun S2 => kc (fX11_isIn Y n S2 x1_ (0 : Int32) (99999 : Int32)) (fun q10 => (if q10 = 0 then kc (fX11_fail Y n S2 a0 (1 : Int32)) (fun q27 => jX11_budget_30 Y n q27.2 q27.1) else kc (fX11_becomes Y n S2 a0 (0 : Int32) x1_) (fun q19 => jX11_budget_30 Y n q19.2 q19.1))))
theorem wjX11_budget_30 {C : CT} {X : XT} (hC : CK C RX11 cX11_budget 2 (some .int) 3) (n : Nat) (S : PS) (t0 : Int32)   {o : Int32 × PS} (hf : jX11_budget_30 X.2.1 n S t0 = some o) (hR : Rt C X cX11_budget (some .int) (some (.int o.1)) o.2) : UW C X S 30 [] [.int t0] := by
  unfold jX11_budget_30 at hf
  cases hf
  exact hR _ _ dX11_budget_30 trivial
theorem wX11_budget {C : CT} {X : XT} (hC : CK C RX11 cX11_budget 2 (some .int) 3) (n : Nat) (S : PS) (a0 : Nat) (x1_ : Int32) (hTa0 : Ty X.2.1 a0 11) {o : Int32 × PS} (hf : fX11_budget X.2.1 n S a0 x1_ = some o) (hR : Rt C X cX11_budget (some .int) (some (.int o.1)) o.2) : UW C X S 0 [(0, .ref (X.1 a0)), (1, .int x1_)] [] := by
  unfold fX11_budget at hf
  refine u_aload_n hC dX11_budget_0 0 rfl rfl ?_
  refine u_iconst (v := (0 : Int32)) hC dX11_budget_1 (by decide) ?_
  refine u_pi hC lf_X11_70 rfl rfl rfl hTa0 dX11_budget_2 hf (fun S2 hf => ?_)
  refine u_iload_n hC dX11_budget_5 1 rfl rfl ?_
  refine u_iconst (v := (0 : Int32)) hC dX11_budget_6 (by decide) ?_
  refine u_ldcw (v := (99999 : Int32)) hC dX11_budget_7 (tb_7 197 rfl rfl) ?_
  obtain ⟨q10, hq10, hf⟩ := kc_some hf
  refine u_callS hC (ctX11_isIn (cL C) hC.tr (cG C) X.1 X.2.1 n S2 x1_ (0 : Int32) (99999 : Int32)  hq10) lk_X11_81 (by decide) (by decide) rfl rfl (Nat.le_of_ble_eq_true rfl) dX11_budget_10 ?_
  refine u_if_eq (tgt := 25) hC dX11_budget_13 (by decide) hf (fun h13 hf => ?_) (fun h13 hf => ?_)
  · refine u_aload_n hC dX11_budget_25 0 rfl rfl ?_
    refine u_iconst (v := (1 : Int32)) hC dX11_budget_26 (by decide) ?_
    obtain ⟨q27, hq27, hf⟩ := kc_some hf
    refine u_callV hC (ctX11_fail (cL C) hC.tr (cG C) X.1 X.2.1 n S2 a0 (1 : Int32) hTa0 hq27) lk_X11_252 rfl hTa0 (by decide) rfl (by decide) (by decide) rfl rfl (Nat.le_of_ble_eq_true rfl) dX11_budget_27 ?_
    refine u_sub (lv' := []) [] rfl ?_
    exact wjX11_budget_30 hC n q27.2 q27.1   hf hR
  · refine u_aload_n hC dX11_budget_16 0 rfl rfl ?_
    refine u_iconst (v := (0 : Int32)) hC dX11_budget_17 (by decide) ?_
    refine u_iload_n hC dX11_budget_18 1 rfl rfl ?_
    obtain ⟨q19, hq19, hf⟩ := kc_some hf
    refine u_callV hC (ctX11_becomes (cL C) hC.tr (cG C) X.1 X.2.1 n S2 a0 (0 : Int32) x1_ hTa0 hq19) lk_X11_318 rfl hTa0 (by decide) rfl (by decide) (by decide) rfl rfl (Nat.le_of_ble_eq_true rfl) dX11_budget_19 ?_
    refine u_goto (tgt := 30) hC dX11_budget_22 (by decide) ?_
    refine u_sub (lv' := []) [] rfl ?_
    exact wjX11_budget_30 hC n q19.2 q19.1   hf hR
theorem ctX11_budget (l : Launch) (hl : l.stackTraces = false) (G : GT) (ρ : Nat → Nat) (Y : XS) (n : Nat) (S : PS) (a0 : Nat) (x1_ : Int32) (hTa0 : Ty Y a0 11) {o : Int32 × PS} (hf : fX11_budget Y n S a0 x1_ = some o) : Mt l G yX11_budget cX11_budget 2 (some .int) 3 ρ Y [.ref (ρ a0), .int x1_] S (some (.int o.1)) o.2 :=
  Mt_of hl (by decide) (Nat.le_of_ble_eq_true rfl) (fun C _ _ hC hR => wX11_budget (X := (ρ, Y, 0, 0)) hC n S a0 x1_ hTa0 hf hR)
-- X11_cost
theorem dX11_cost_0 : decode cX11_cost 0 = .ok (.aload_n 0, 1) := by decide +kernel
theorem dX11_cost_1 : decode cX11_cost 1 = .ok (.aload_n 0, 1) := by decide +kernel
theorem dX11_cost_2 : decode cX11_cost 2 = .ok (.iload_n 1, 1) := by decide +kernel
theorem dX11_cost_3 : decode cX11_cost 3 = .ok (.invokevirtual 255, 3) := by decide +kernel
theorem dX11_cost_6 : decode cX11_cost 6 = .ok (.ifCond .ne 7, 3) := by decide +kernel
theorem dX11_cost_9 : decode cX11_cost 9 = .ok (.iconst 1, 1) := by decide +kernel
theorem dX11_cost_10 : decode cX11_cost 10 = .ok (.goto 19, 3) := by decide +kernel
theorem dX11_cost_13 : decode cX11_cost 13 = .ok (.iload_n 2, 1) := by decide +kernel
theorem dX11_cost_14 : decode cX11_cost 14 = .ok (.iconst 1, 1) := by decide +kernel
theorem dX11_cost_15 : decode cX11_cost 15 = .ok (.sipush 9999, 3) := by decide +kernel
theorem dX11_cost_18 : decode cX11_cost 18 = .ok (.invokestatic 81, 3) := by decide +kernel
theorem dX11_cost_21 : decode cX11_cost 21 = .ok (.ifCond .ne 7, 3) := by decide +kernel
theorem dX11_cost_24 : decode cX11_cost 24 = .ok (.iconst 2, 1) := by decide +kernel
theorem dX11_cost_25 : decode cX11_cost 25 = .ok (.goto 4, 3) := by decide +kernel
theorem dX11_cost_28 : decode cX11_cost 28 = .ok (.iconst 0, 1) := by decide +kernel
theorem dX11_cost_29 : decode cX11_cost 29 = .ok (.putfield 70, 3) := by decide +kernel
theorem dX11_cost_32 : decode cX11_cost 32 = .ok (.aload_n 0, 1) := by decide +kernel
theorem dX11_cost_33 : decode cX11_cost 33 = .ok (.getfield 70, 3) := by decide +kernel
theorem dX11_cost_36 : decode cX11_cost 36 = .ok (.ifCond .le 7, 3) := by decide +kernel
theorem dX11_cost_39 : decode cX11_cost 39 = .ok (.iconst 0, 1) := by decide +kernel
theorem dX11_cost_40 : decode cX11_cost 40 = .ok (.goto 11, 3) := by decide +kernel
theorem dX11_cost_43 : decode cX11_cost 43 = .ok (.aload_n 0, 1) := by decide +kernel
theorem dX11_cost_44 : decode cX11_cost 44 = .ok (.iconst 3, 1) := by decide +kernel
theorem dX11_cost_45 : decode cX11_cost 45 = .ok (.iload_n 1, 1) := by decide +kernel
theorem dX11_cost_46 : decode cX11_cost 46 = .ok (.iadd, 1) := by decide +kernel
theorem dX11_cost_47 : decode cX11_cost 47 = .ok (.iload_n 2, 1) := by decide +kernel
theorem dX11_cost_48 : decode cX11_cost 48 = .ok (.invokevirtual 318, 3) := by decide +kernel
theorem dX11_cost_51 : decode cX11_cost 51 = .ok (.ireturn, 1) := by decide +kernel
def jX11_cost_51 (Y : XS) (n : Nat) (S : PS) (t0 : Int32) : Option (Int32 × PS) :=
  some (t0, S)
def jX11_cost_29 (Y : XS) (n : Nat) (S : PS) (v0 : Nat) (v1 : Int32) (v2 : Int32) (t0 : Int32) (t1 : Nat) : Option (Int32 × PS) :=
  kpi S t1 7 t0 (fun S29 => kgi S29 v0 7 (fun x33 => (if x33 ≤ 0 then kc (fX11_becomes Y n S29 v0 ((3 : Int32) + v1) v2) (fun q48 => jX11_cost_51 Y n q48.2 q48.1) else jX11_cost_51 Y n S29 (0 : Int32))))
def fX11_cost (Y : XS) (n : Nat) (S : PS) (a0 : Nat) (x1_ : Int32) (x2_ : Int32) : Option (Int32 × PS) :=
  kc (fX11_isProject Y n S a0 x1_) (fun q3 => (if q3 = 0 then jX11_cost_29 Y n S a0 x1_ x2_ (1 : Int32) a0 else kc (fX11_isIn Y n S x2_ (1 : Int32) (9999 : Int32)) (fun q18 => (if q18 = 0 then jX11_cost_29 Y n S a0 x1_ x2_ (2 : Int32) a0 else jX11_cost_29 Y n S a0 x1_ x2_ (0 : Int32) a0))))
theorem wjX11_cost_51 {C : CT} {X : XT} (hC : CK C RX11 cX11_cost 3 (some .int) 3) (n : Nat) (S : PS) (t0 : Int32)   {o : Int32 × PS} (hf : jX11_cost_51 X.2.1 n S t0 = some o) (hR : Rt C X cX11_cost (some .int) (some (.int o.1)) o.2) : UW C X S 51 [] [.int t0] := by
  unfold jX11_cost_51 at hf
  cases hf
  exact hR _ _ dX11_cost_51 trivial
theorem wjX11_cost_29 {C : CT} {X : XT} (hC : CK C RX11 cX11_cost 3 (some .int) 3) (n : Nat) (S : PS) (v0 : Nat) (v1 : Int32) (v2 : Int32) (t0 : Int32) (t1 : Nat)  (hTv0 : Ty X.2.1 v0 11) (hTt1 : Ty X.2.1 t1 11) {o : Int32 × PS} (hf : jX11_cost_29 X.2.1 n S v0 v1 v2 t0 t1 = some o) (hR : Rt C X cX11_cost (some .int) (some (.int o.1)) o.2) : UW C X S 29 [(0, .ref (X.1 v0)), (1, .int v1), (2, .int v2)] [.int t0, .ref (X.1 t1)] := by
  unfold jX11_cost_29 at hf
  refine u_pi hC lf_X11_70 rfl rfl rfl hTt1 dX11_cost_29 hf (fun S29 hf => ?_)
  refine u_aload_n hC dX11_cost_32 0 rfl rfl ?_
  refine u_gi hC lf_X11_70 rfl hTv0 dX11_cost_33 hf (fun x33 hf => ?_)
  refine u_if_le (tgt := 43) hC dX11_cost_36 (by decide) hf (fun h36 hf => ?_) (fun h36 hf => ?_)
  · refine u_aload_n hC dX11_cost_43 0 rfl rfl ?_
    refine u_iconst (v := (3 : Int32)) hC dX11_cost_44 (by decide) ?_
    refine u_iload_n hC dX11_cost_45 1 rfl rfl ?_
    refine u_iadd hC dX11_cost_46 ?_
    refine u_iload_n hC dX11_cost_47 2 rfl rfl ?_
    obtain ⟨q48, hq48, hf⟩ := kc_some hf
    refine u_callV hC (ctX11_becomes (cL C) hC.tr (cG C) X.1 X.2.1 n S29 v0 ((3 : Int32) + v1) v2 hTv0 hq48) lk_X11_318 rfl hTv0 (by decide) rfl (by decide) (by decide) rfl rfl (Nat.le_of_ble_eq_true rfl) dX11_cost_48 ?_
    refine u_sub (lv' := []) [] rfl ?_
    exact wjX11_cost_51 hC n q48.2 q48.1   hf hR
  · refine u_iconst (v := (0 : Int32)) hC dX11_cost_39 (by decide) ?_
    refine u_goto (tgt := 51) hC dX11_cost_40 (by decide) ?_
    refine u_sub (lv' := []) [] rfl ?_
    exact wjX11_cost_51 hC n S29 (0 : Int32)   hf hR
theorem wX11_cost {C : CT} {X : XT} (hC : CK C RX11 cX11_cost 3 (some .int) 3) (n : Nat) (S : PS) (a0 : Nat) (x1_ : Int32) (x2_ : Int32) (hTa0 : Ty X.2.1 a0 11) {o : Int32 × PS} (hf : fX11_cost X.2.1 n S a0 x1_ x2_ = some o) (hR : Rt C X cX11_cost (some .int) (some (.int o.1)) o.2) : UW C X S 0 [(0, .ref (X.1 a0)), (1, .int x1_), (2, .int x2_)] [] := by
  unfold fX11_cost at hf
  refine u_aload_n hC dX11_cost_0 0 rfl rfl ?_
  refine u_aload_n hC dX11_cost_1 0 rfl rfl ?_
  refine u_iload_n hC dX11_cost_2 1 rfl rfl ?_
  obtain ⟨q3, hq3, hf⟩ := kc_some hf
  refine u_callV hC (ctX11_isProject (cL C) hC.tr (cG C) X.1 X.2.1 n S a0 x1_ hTa0 hq3) lk_X11_255 rfl hTa0 (by decide) rfl (by decide) (by decide) rfl rfl (Nat.le_of_ble_eq_true rfl) dX11_cost_3 ?_
  refine u_if_ne (tgt := 13) hC dX11_cost_6 (by decide) hf (fun h6 hf => ?_) (fun h6 hf => ?_)
  · refine u_iload_n hC dX11_cost_13 2 rfl rfl ?_
    refine u_iconst (v := (1 : Int32)) hC dX11_cost_14 (by decide) ?_
    refine u_sipush (v := (9999 : Int32)) hC dX11_cost_15 (by decide) ?_
    obtain ⟨q18, hq18, hf⟩ := kc_some hf
    refine u_callS hC (ctX11_isIn (cL C) hC.tr (cG C) X.1 X.2.1 n S x2_ (1 : Int32) (9999 : Int32)  hq18) lk_X11_81 (by decide) (by decide) rfl rfl (Nat.le_of_ble_eq_true rfl) dX11_cost_18 ?_
    refine u_if_ne (tgt := 28) hC dX11_cost_21 (by decide) hf (fun h21 hf => ?_) (fun h21 hf => ?_)
    · refine u_iconst (v := (0 : Int32)) hC dX11_cost_28 (by decide) ?_
      exact wjX11_cost_29 hC n S a0 x1_ x2_ (0 : Int32) a0  hTa0 hTa0 hf hR
    · refine u_iconst (v := (2 : Int32)) hC dX11_cost_24 (by decide) ?_
      refine u_goto (tgt := 29) hC dX11_cost_25 (by decide) ?_
      exact wjX11_cost_29 hC n S a0 x1_ x2_ (2 : Int32) a0  hTa0 hTa0 hf hR
  · refine u_iconst (v := (1 : Int32)) hC dX11_cost_9 (by decide) ?_
    refine u_goto (tgt := 29) hC dX11_cost_10 (by decide) ?_
    exact wjX11_cost_29 hC n S a0 x1_ x2_ (1 : Int32) a0  hTa0 hTa0 hf hR
theorem ctX11_cost (l : Launch) (hl : l.stackTraces = false) (G : GT) (ρ : Nat → Nat) (Y : XS) (n : Nat) (S : PS) (a0 : Nat) (x1_ : Int32) (x2_ : Int32) (hTa0 : Ty Y a0 11) {o : Int32 × PS} (hf : fX11_cost Y n S a0 x1_ x2_ = some o) : Mt l G yX11_cost cX11_cost 3 (some .int) 3 ρ Y [.ref (ρ a0), .int x1_, .int x2_] S (some (.int o.1)) o.2 :=
  Mt_of hl (by decide) (Nat.le_of_ble_eq_true rfl) (fun C _ _ hC hR => wX11_cost (X := (ρ, Y, 0, 0)) hC n S a0 x1_ x2_ hTa0 hf hR)
-- X11_score
theorem dX11_score_0 : decode cX11_score 0 = .ok (.aload_n 0, 1) := by decide +kernel
theorem dX11_score_1 : decode cX11_score 1 = .ok (.aload_n 0, 1) := by decide +kernel
theorem dX11_score_2 : decode cX11_score 2 = .ok (.iload_n 1, 1) := by decide +kernel
theorem dX11_score_3 : decode cX11_score 3 = .ok (.invokevirtual 258, 3) := by decide +kernel
theorem dX11_score_6 : decode cX11_score 6 = .ok (.ifCond .eq 11, 3) := by decide +kernel
theorem dX11_score_9 : decode cX11_score 9 = .ok (.aload_n 0, 1) := by decide +kernel
theorem dX11_score_10 : decode cX11_score 10 = .ok (.iload_n 2, 1) := by decide +kernel
theorem dX11_score_11 : decode cX11_score 11 = .ok (.invokevirtual 255, 3) := by decide +kernel
theorem dX11_score_14 : decode cX11_score 14 = .ok (.ifCond .ne 7, 3) := by decide +kernel
theorem dX11_score_17 : decode cX11_score 17 = .ok (.iconst 1, 1) := by decide +kernel
theorem dX11_score_18 : decode cX11_score 18 = .ok (.goto 18, 3) := by decide +kernel
theorem dX11_score_21 : decode cX11_score 21 = .ok (.iload_n 3, 1) := by decide +kernel
theorem dX11_score_22 : decode cX11_score 22 = .ok (.iconst 0, 1) := by decide +kernel
theorem dX11_score_23 : decode cX11_score 23 = .ok (.bipush 9, 2) := by decide +kernel
theorem dX11_score_25 : decode cX11_score 25 = .ok (.invokestatic 81, 3) := by decide +kernel
theorem dX11_score_28 : decode cX11_score 28 = .ok (.ifCond .ne 7, 3) := by decide +kernel
theorem dX11_score_31 : decode cX11_score 31 = .ok (.iconst 2, 1) := by decide +kernel
theorem dX11_score_32 : decode cX11_score 32 = .ok (.goto 4, 3) := by decide +kernel
theorem dX11_score_35 : decode cX11_score 35 = .ok (.iconst 0, 1) := by decide +kernel
theorem dX11_score_36 : decode cX11_score 36 = .ok (.putfield 70, 3) := by decide +kernel
theorem dX11_score_39 : decode cX11_score 39 = .ok (.aload_n 0, 1) := by decide +kernel
theorem dX11_score_40 : decode cX11_score 40 = .ok (.getfield 70, 3) := by decide +kernel
theorem dX11_score_43 : decode cX11_score 43 = .ok (.ifCond .le 7, 3) := by decide +kernel
theorem dX11_score_46 : decode cX11_score 46 = .ok (.iconst 0, 1) := by decide +kernel
theorem dX11_score_47 : decode cX11_score 47 = .ok (.goto 13, 3) := by decide +kernel
theorem dX11_score_50 : decode cX11_score 50 = .ok (.aload_n 0, 1) := by decide +kernel
theorem dX11_score_51 : decode cX11_score 51 = .ok (.iload_n 1, 1) := by decide +kernel
theorem dX11_score_52 : decode cX11_score 52 = .ok (.iload_n 2, 1) := by decide +kernel
theorem dX11_score_53 : decode cX11_score 53 = .ok (.invokestatic 73, 3) := by decide +kernel
theorem dX11_score_56 : decode cX11_score 56 = .ok (.iload_n 3, 1) := by decide +kernel
theorem dX11_score_57 : decode cX11_score 57 = .ok (.invokevirtual 318, 3) := by decide +kernel
theorem dX11_score_60 : decode cX11_score 60 = .ok (.ireturn, 1) := by decide +kernel
def jX11_score_60 (Y : XS) (n : Nat) (S : PS) (t0 : Int32) : Option (Int32 × PS) :=
  some (t0, S)
def jX11_score_36 (Y : XS) (n : Nat) (S : PS) (v0 : Nat) (v1 : Int32) (v2 : Int32) (v3 : Int32) (t0 : Int32) (t1 : Nat) : Option (Int32 × PS) :=
  kpi S t1 7 t0 (fun S36 => kgi S36 v0 7 (fun x40 => (if x40 ≤ 0 then kc (fX11_scoreAt Y n S36 v1 v2) (fun q53 => kc (fX11_becomes Y n S36 v0 q53 v3) (fun q57 => jX11_score_60 Y n q57.2 q57.1)) else jX11_score_60 Y n S36 (0 : Int32))))
def jX11_score_17 (Y : XS) (n : Nat) (S : PS) (v0 : Nat) (v1 : Int32) (v2 : Int32) (v3 : Int32) (t0 : Nat) : Option (Int32 × PS) :=
  jX11_score_36 Y n S v0 v1 v2 v3 (1 : Int32) t0
def fX11_score (Y : XS) (n : Nat) (S : PS) (a0 : Nat) (x1_ : Int32) (x2_ : Int32) (x3_ : Int32) : Option (Int32 × PS) :=
  kc (fX11_isVoter Y n S a0 x1_) (fun q3 => (if q3 = 0 then jX11_score_17 Y n S a0 x1_ x2_ x3_ a0 else kc (fX11_isProject Y n S a0 x2_) (fun q11 => (if q11 = 0 then jX11_score_17 Y n S a0 x1_ x2_ x3_ a0 else kc (fX11_isIn Y n S x3_ (0 : Int32) (9 : Int32)) (fun q25 => (if q25 = 0 then jX11_score_36 Y n S a0 x1_ x2_ x3_ (2 : Int32) a0 else jX11_score_36 Y n S a0 x1_ x2_ x3_ (0 : Int32) a0))))))
theorem wjX11_score_60 {C : CT} {X : XT} (hC : CK C RX11 cX11_score 4 (some .int) 3) (n : Nat) (S : PS) (t0 : Int32)   {o : Int32 × PS} (hf : jX11_score_60 X.2.1 n S t0 = some o) (hR : Rt C X cX11_score (some .int) (some (.int o.1)) o.2) : UW C X S 60 [] [.int t0] := by
  unfold jX11_score_60 at hf
  cases hf
  exact hR _ _ dX11_score_60 trivial
theorem wjX11_score_36 {C : CT} {X : XT} (hC : CK C RX11 cX11_score 4 (some .int) 3) (n : Nat) (S : PS) (v0 : Nat) (v1 : Int32) (v2 : Int32) (v3 : Int32) (t0 : Int32) (t1 : Nat)  (hTv0 : Ty X.2.1 v0 11) (hTt1 : Ty X.2.1 t1 11) {o : Int32 × PS} (hf : jX11_score_36 X.2.1 n S v0 v1 v2 v3 t0 t1 = some o) (hR : Rt C X cX11_score (some .int) (some (.int o.1)) o.2) : UW C X S 36 [(0, .ref (X.1 v0)), (1, .int v1), (2, .int v2), (3, .int v3)] [.int t0, .ref (X.1 t1)] := by
  unfold jX11_score_36 at hf
  refine u_pi hC lf_X11_70 rfl rfl rfl hTt1 dX11_score_36 hf (fun S36 hf => ?_)
  refine u_aload_n hC dX11_score_39 0 rfl rfl ?_
  refine u_gi hC lf_X11_70 rfl hTv0 dX11_score_40 hf (fun x40 hf => ?_)
  refine u_if_le (tgt := 50) hC dX11_score_43 (by decide) hf (fun h43 hf => ?_) (fun h43 hf => ?_)
  · refine u_aload_n hC dX11_score_50 0 rfl rfl ?_
    refine u_iload_n hC dX11_score_51 1 rfl rfl ?_
    refine u_iload_n hC dX11_score_52 2 rfl rfl ?_
    obtain ⟨q53, hq53, hf⟩ := kc_some hf
    refine u_callS hC (ctX11_scoreAt (cL C) hC.tr (cG C) X.1 X.2.1 n S36 v1 v2  hq53) lk_X11_73 (by decide) (by decide) rfl rfl (Nat.le_of_ble_eq_true rfl) dX11_score_53 ?_
    refine u_iload_n hC dX11_score_56 3 rfl rfl ?_
    obtain ⟨q57, hq57, hf⟩ := kc_some hf
    refine u_callV hC (ctX11_becomes (cL C) hC.tr (cG C) X.1 X.2.1 n S36 v0 q53 v3 hTv0 hq57) lk_X11_318 rfl hTv0 (by decide) rfl (by decide) (by decide) rfl rfl (Nat.le_of_ble_eq_true rfl) dX11_score_57 ?_
    refine u_sub (lv' := []) [] rfl ?_
    exact wjX11_score_60 hC n q57.2 q57.1   hf hR
  · refine u_iconst (v := (0 : Int32)) hC dX11_score_46 (by decide) ?_
    refine u_goto (tgt := 60) hC dX11_score_47 (by decide) ?_
    refine u_sub (lv' := []) [] rfl ?_
    exact wjX11_score_60 hC n S36 (0 : Int32)   hf hR
theorem wjX11_score_17 {C : CT} {X : XT} (hC : CK C RX11 cX11_score 4 (some .int) 3) (n : Nat) (S : PS) (v0 : Nat) (v1 : Int32) (v2 : Int32) (v3 : Int32) (t0 : Nat)  (hTv0 : Ty X.2.1 v0 11) (hTt0 : Ty X.2.1 t0 11) {o : Int32 × PS} (hf : jX11_score_17 X.2.1 n S v0 v1 v2 v3 t0 = some o) (hR : Rt C X cX11_score (some .int) (some (.int o.1)) o.2) : UW C X S 17 [(0, .ref (X.1 v0)), (1, .int v1), (2, .int v2), (3, .int v3)] [.ref (X.1 t0)] := by
  unfold jX11_score_17 at hf
  refine u_iconst (v := (1 : Int32)) hC dX11_score_17 (by decide) ?_
  refine u_goto (tgt := 36) hC dX11_score_18 (by decide) ?_
  exact wjX11_score_36 hC n S v0 v1 v2 v3 (1 : Int32) t0  hTv0 hTt0 hf hR
theorem wX11_score {C : CT} {X : XT} (hC : CK C RX11 cX11_score 4 (some .int) 3) (n : Nat) (S : PS) (a0 : Nat) (x1_ : Int32) (x2_ : Int32) (x3_ : Int32) (hTa0 : Ty X.2.1 a0 11) {o : Int32 × PS} (hf : fX11_score X.2.1 n S a0 x1_ x2_ x3_ = some o) (hR : Rt C X cX11_score (some .int) (some (.int o.1)) o.2) : UW C X S 0 [(0, .ref (X.1 a0)), (1, .int x1_), (2, .int x2_), (3, .int x3_)] [] := by
  unfold fX11_score at hf
  refine u_aload_n hC dX11_score_0 0 rfl rfl ?_
  refine u_aload_n hC dX11_score_1 0 rfl rfl ?_
  refine u_iload_n hC dX11_score_2 1 rfl rfl ?_
  obtain ⟨q3, hq3, hf⟩ := kc_some hf
  refine u_callV hC (ctX11_isVoter (cL C) hC.tr (cG C) X.1 X.2.1 n S a0 x1_ hTa0 hq3) lk_X11_258 rfl hTa0 (by decide) rfl (by decide) (by decide) rfl rfl (Nat.le_of_ble_eq_true rfl) dX11_score_3 ?_
  refine u_if_eq (tgt := 17) hC dX11_score_6 (by decide) hf (fun h6 hf => ?_) (fun h6 hf => ?_)
  · exact wjX11_score_17 hC n S a0 x1_ x2_ x3_ a0  hTa0 hTa0 hf hR
  · refine u_aload_n hC dX11_score_9 0 rfl rfl ?_
    refine u_iload_n hC dX11_score_10 2 rfl rfl ?_
    obtain ⟨q11, hq11, hf⟩ := kc_some hf
    refine u_callV hC (ctX11_isProject (cL C) hC.tr (cG C) X.1 X.2.1 n S a0 x2_ hTa0 hq11) lk_X11_255 rfl hTa0 (by decide) rfl (by decide) (by decide) rfl rfl (Nat.le_of_ble_eq_true rfl) dX11_score_11 ?_
    refine u_if_ne (tgt := 21) hC dX11_score_14 (by decide) hf (fun h14 hf => ?_) (fun h14 hf => ?_)
    · refine u_iload_n hC dX11_score_21 3 rfl rfl ?_
      refine u_iconst (v := (0 : Int32)) hC dX11_score_22 (by decide) ?_
      refine u_bipush (v := (9 : Int32)) hC dX11_score_23 (by decide) ?_
      obtain ⟨q25, hq25, hf⟩ := kc_some hf
      refine u_callS hC (ctX11_isIn (cL C) hC.tr (cG C) X.1 X.2.1 n S x3_ (0 : Int32) (9 : Int32)  hq25) lk_X11_81 (by decide) (by decide) rfl rfl (Nat.le_of_ble_eq_true rfl) dX11_score_25 ?_
      refine u_if_ne (tgt := 35) hC dX11_score_28 (by decide) hf (fun h28 hf => ?_) (fun h28 hf => ?_)
      · refine u_iconst (v := (0 : Int32)) hC dX11_score_35 (by decide) ?_
        exact wjX11_score_36 hC n S a0 x1_ x2_ x3_ (0 : Int32) a0  hTa0 hTa0 hf hR
      · refine u_iconst (v := (2 : Int32)) hC dX11_score_31 (by decide) ?_
        refine u_goto (tgt := 36) hC dX11_score_32 (by decide) ?_
        exact wjX11_score_36 hC n S a0 x1_ x2_ x3_ (2 : Int32) a0  hTa0 hTa0 hf hR
    · exact wjX11_score_17 hC n S a0 x1_ x2_ x3_ a0  hTa0 hTa0 hf hR
theorem ctX11_score (l : Launch) (hl : l.stackTraces = false) (G : GT) (ρ : Nat → Nat) (Y : XS) (n : Nat) (S : PS) (a0 : Nat) (x1_ : Int32) (x2_ : Int32) (x3_ : Int32) (hTa0 : Ty Y a0 11) {o : Int32 × PS} (hf : fX11_score Y n S a0 x1_ x2_ x3_ = some o) : Mt l G yX11_score cX11_score 4 (some .int) 3 ρ Y [.ref (ρ a0), .int x1_, .int x2_, .int x3_] S (some (.int o.1)) o.2 :=
  Mt_of hl (by decide) (Nat.le_of_ble_eq_true rfl) (fun C _ _ hC hR => wX11_score (X := (ρ, Y, 0, 0)) hC n S a0 x1_ x2_ x3_ hTa0 hf hR)
-- X11_go
theorem dX11_go_0 : decode cX11_go 0 = .ok (.aload_n 0, 1) := by decide +kernel
theorem dX11_go_1 : decode cX11_go 1 = .ok (.iconst 0, 1) := by decide +kernel
theorem dX11_go_2 : decode cX11_go 2 = .ok (.putfield 70, 3) := by decide +kernel
theorem dX11_go_5 : decode cX11_go 5 = .ok (.iload_n 1, 1) := by decide +kernel
theorem dX11_go_6 : decode cX11_go 6 = .ok (.ifCond .eq 14, 3) := by decide +kernel
theorem dX11_go_9 : decode cX11_go 9 = .ok (.aload_n 0, 1) := by decide +kernel
theorem dX11_go_10 : decode cX11_go 10 = .ok (.iload_n 2, 1) := by decide +kernel
theorem dX11_go_11 : decode cX11_go 11 = .ok (.invokevirtual 258, 3) := by decide +kernel
theorem dX11_go_14 : decode cX11_go 14 = .ok (.ifCond .ne 20, 3) := by decide +kernel
theorem dX11_go_17 : decode cX11_go 17 = .ok (.goto 11, 3) := by decide +kernel
theorem dX11_go_20 : decode cX11_go 20 = .ok (.aload_n 0, 1) := by decide +kernel
theorem dX11_go_21 : decode cX11_go 21 = .ok (.iload_n 2, 1) := by decide +kernel
theorem dX11_go_22 : decode cX11_go 22 = .ok (.invokevirtual 255, 3) := by decide +kernel
theorem dX11_go_25 : decode cX11_go 25 = .ok (.ifCond .ne 9, 3) := by decide +kernel
theorem dX11_go_28 : decode cX11_go 28 = .ok (.aload_n 0, 1) := by decide +kernel
theorem dX11_go_29 : decode cX11_go 29 = .ok (.iconst 1, 1) := by decide +kernel
theorem dX11_go_30 : decode cX11_go 30 = .ok (.invokevirtual 252, 3) := by decide +kernel
theorem dX11_go_33 : decode cX11_go 33 = .ok (.ireturn, 1) := by decide +kernel
theorem dX11_go_34 : decode cX11_go 34 = .ok (.aload_n 0, 1) := by decide +kernel
theorem dX11_go_35 : decode cX11_go 35 = .ok (.invokevirtual 315, 3) := by decide +kernel
theorem dX11_go_38 : decode cX11_go 38 = .ok (.iload_n 1, 1) := by decide +kernel
theorem dX11_go_39 : decode cX11_go 39 = .ok (.ifCond .eq 11, 3) := by decide +kernel
theorem dX11_go_42 : decode cX11_go 42 = .ok (.aload_n 0, 1) := by decide +kernel
theorem dX11_go_43 : decode cX11_go 43 = .ok (.iload_n 2, 1) := by decide +kernel
theorem dX11_go_44 : decode cX11_go 44 = .ok (.invokevirtual 299, 3) := by decide +kernel
theorem dX11_go_47 : decode cX11_go 47 = .ok (.goto 8, 3) := by decide +kernel
theorem dX11_go_50 : decode cX11_go 50 = .ok (.aload_n 0, 1) := by decide +kernel
theorem dX11_go_51 : decode cX11_go 51 = .ok (.iload_n 2, 1) := by decide +kernel
theorem dX11_go_52 : decode cX11_go 52 = .ok (.invokevirtual 321, 3) := by decide +kernel
theorem dX11_go_55 : decode cX11_go 55 = .ok (.iload_n 1, 1) := by decide +kernel
theorem dX11_go_56 : decode cX11_go 56 = .ok (.ifCond .eq 10, 3) := by decide +kernel
theorem dX11_go_59 : decode cX11_go 59 = .ok (.aload_n 0, 1) := by decide +kernel
theorem dX11_go_60 : decode cX11_go 60 = .ok (.invokevirtual 85, 3) := by decide +kernel
theorem dX11_go_63 : decode cX11_go 63 = .ok (.goto 7, 3) := by decide +kernel
theorem dX11_go_66 : decode cX11_go 66 = .ok (.aload_n 0, 1) := by decide +kernel
theorem dX11_go_67 : decode cX11_go 67 = .ok (.invokevirtual 77, 3) := by decide +kernel
theorem dX11_go_70 : decode cX11_go 70 = .ok (.ireturn, 1) := by decide +kernel
def jX11_go_70 (Y : XS) (n : Nat) (S : PS) (t0 : Int32) : Option (Int32 × PS) :=
  some (t0, S)
def jX11_go_55 (Y : XS) (n : Nat) (S : PS) (v0 : Nat) (v1 : Int32) : Option (Int32 × PS) :=
  (if v1 = 0 then kc (fX11_many Y n S v0) (fun q67 => jX11_go_70 Y n S q67) else kc (fX11_people Y n S v0) (fun q60 => jX11_go_70 Y n S q60))
def jX11_go_34 (Y : XS) (n : Nat) (S : PS) (v0 : Nat) (v1 : Int32) (v2 : Int32) : Option (Int32 × PS) :=
  kc (fX11_keep Y n S v0) (fun q35 => (if v1 = 0 then kc (fX11_removeProject Y n q35 v0 v2) (fun q52 => jX11_go_55 Y n q52 v0 v1) else kc (fX11_removeVoter Y n q35 v0 v2) (fun q44 => jX11_go_55 Y n q44 v0 v1)))
def jX11_go_28 (Y : XS) (n : Nat) (S : PS) (v0 : Nat) : Option (Int32 × PS) :=
  kc (fX11_fail Y n S v0 (1 : Int32)) (fun q30 => some (q30.1, q30.2))
def fX11_go (Y : XS) (n : Nat) (S : PS) (a0 : Nat) (x1_ : Int32) (x2_ : Int32) : Option (Int32 × PS) :=
  kpi S a0 7 (0 : Int32) (fun S2 => (if x1_ = 0 then kc (fX11_isProject Y n S2 a0 x2_) (fun q22 => (if q22 = 0 then jX11_go_28 Y n S2 a0 else jX11_go_34 Y n S2 a0 x1_ x2_)) else kc (fX11_isVoter Y n S2 a0 x2_) (fun q11 => (if q11 = 0 then jX11_go_28 Y n S2 a0 else jX11_go_34 Y n S2 a0 x1_ x2_))))
theorem wjX11_go_70 {C : CT} {X : XT} (hC : CK C RX11 cX11_go 3 (some .int) 4) (n : Nat) (S : PS) (t0 : Int32)   {o : Int32 × PS} (hf : jX11_go_70 X.2.1 n S t0 = some o) (hR : Rt C X cX11_go (some .int) (some (.int o.1)) o.2) : UW C X S 70 [] [.int t0] := by
  unfold jX11_go_70 at hf
  cases hf
  exact hR _ _ dX11_go_70 trivial
theorem wjX11_go_55 {C : CT} {X : XT} (hC : CK C RX11 cX11_go 3 (some .int) 4) (n : Nat) (S : PS) (v0 : Nat) (v1 : Int32)  (hTv0 : Ty X.2.1 v0 11) {o : Int32 × PS} (hf : jX11_go_55 X.2.1 n S v0 v1 = some o) (hR : Rt C X cX11_go (some .int) (some (.int o.1)) o.2) : UW C X S 55 [(0, .ref (X.1 v0)), (1, .int v1)] [] := by
  unfold jX11_go_55 at hf
  refine u_iload_n hC dX11_go_55 1 rfl rfl ?_
  refine u_if_eq (tgt := 66) hC dX11_go_56 (by decide) hf (fun h56 hf => ?_) (fun h56 hf => ?_)
  · refine u_aload_n hC dX11_go_66 0 rfl rfl ?_
    obtain ⟨q67, hq67, hf⟩ := kc_some hf
    refine u_callV hC (ctX11_many (cL C) hC.tr (cG C) X.1 X.2.1 n S v0 hTv0 hq67) lk_X11_77 rfl hTv0 (by decide) rfl (by decide) (by decide) rfl rfl (Nat.le_of_ble_eq_true rfl) dX11_go_67 ?_
    refine u_sub (lv' := []) [] rfl ?_
    exact wjX11_go_70 hC n S q67   hf hR
  · refine u_aload_n hC dX11_go_59 0 rfl rfl ?_
    obtain ⟨q60, hq60, hf⟩ := kc_some hf
    refine u_callV hC (ctX11_people (cL C) hC.tr (cG C) X.1 X.2.1 n S v0 hTv0 hq60) lk_X11_85 rfl hTv0 (by decide) rfl (by decide) (by decide) rfl rfl (Nat.le_of_ble_eq_true rfl) dX11_go_60 ?_
    refine u_goto (tgt := 70) hC dX11_go_63 (by decide) ?_
    refine u_sub (lv' := []) [] rfl ?_
    exact wjX11_go_70 hC n S q60   hf hR
theorem wjX11_go_34 {C : CT} {X : XT} (hC : CK C RX11 cX11_go 3 (some .int) 4) (n : Nat) (S : PS) (v0 : Nat) (v1 : Int32) (v2 : Int32)  (hTv0 : Ty X.2.1 v0 11) {o : Int32 × PS} (hf : jX11_go_34 X.2.1 n S v0 v1 v2 = some o) (hR : Rt C X cX11_go (some .int) (some (.int o.1)) o.2) : UW C X S 34 [(0, .ref (X.1 v0)), (1, .int v1), (2, .int v2)] [] := by
  unfold jX11_go_34 at hf
  refine u_aload_n hC dX11_go_34 0 rfl rfl ?_
  obtain ⟨q35, hq35, hf⟩ := kc_some hf
  refine u_callV hC (ctX11_keep (cL C) hC.tr (cG C) X.1 X.2.1 n S v0 hTv0 hq35) lk_X11_315 rfl hTv0 (by decide) rfl (by decide) (by decide) rfl rfl (Nat.le_of_ble_eq_true rfl) dX11_go_35 ?_
  refine u_iload_n hC dX11_go_38 1 rfl rfl ?_
  refine u_if_eq (tgt := 50) hC dX11_go_39 (by decide) hf (fun h39 hf => ?_) (fun h39 hf => ?_)
  · refine u_aload_n hC dX11_go_50 0 rfl rfl ?_
    refine u_iload_n hC dX11_go_51 2 rfl rfl ?_
    obtain ⟨q52, hq52, hf⟩ := kc_some hf
    refine u_callV hC (ctX11_removeProject (cL C) hC.tr (cG C) X.1 X.2.1 n q35 v0 v2 hTv0 hq52) lk_X11_321 rfl hTv0 (by decide) rfl (by decide) (by decide) rfl rfl (Nat.le_of_ble_eq_true rfl) dX11_go_52 ?_
    refine u_sub (lv' := [(0, .ref (X.1 v0)), (1, .int v1)]) [0, 1] rfl ?_
    exact wjX11_go_55 hC n q52 v0 v1  hTv0 hf hR
  · refine u_aload_n hC dX11_go_42 0 rfl rfl ?_
    refine u_iload_n hC dX11_go_43 2 rfl rfl ?_
    obtain ⟨q44, hq44, hf⟩ := kc_some hf
    refine u_callV hC (ctX11_removeVoter (cL C) hC.tr (cG C) X.1 X.2.1 n q35 v0 v2 hTv0 hq44) lk_X11_299 rfl hTv0 (by decide) rfl (by decide) (by decide) rfl rfl (Nat.le_of_ble_eq_true rfl) dX11_go_44 ?_
    refine u_goto (tgt := 55) hC dX11_go_47 (by decide) ?_
    refine u_sub (lv' := [(0, .ref (X.1 v0)), (1, .int v1)]) [0, 1] rfl ?_
    exact wjX11_go_55 hC n q44 v0 v1  hTv0 hf hR
theorem wjX11_go_28 {C : CT} {X : XT} (hC : CK C RX11 cX11_go 3 (some .int) 4) (n : Nat) (S : PS) (v0 : Nat)  (hTv0 : Ty X.2.1 v0 11) {o : Int32 × PS} (hf : jX11_go_28 X.2.1 n S v0 = some o) (hR : Rt C X cX11_go (some .int) (some (.int o.1)) o.2) : UW C X S 28 [(0, .ref (X.1 v0))] [] := by
  unfold jX11_go_28 at hf
  refine u_aload_n hC dX11_go_28 0 rfl rfl ?_
  refine u_iconst (v := (1 : Int32)) hC dX11_go_29 (by decide) ?_
  obtain ⟨q30, hq30, hf⟩ := kc_some hf
  refine u_callV hC (ctX11_fail (cL C) hC.tr (cG C) X.1 X.2.1 n S v0 (1 : Int32) hTv0 hq30) lk_X11_252 rfl hTv0 (by decide) rfl (by decide) (by decide) rfl rfl (Nat.le_of_ble_eq_true rfl) dX11_go_30 ?_
  cases hf
  exact hR _ _ dX11_go_33 trivial
theorem wX11_go {C : CT} {X : XT} (hC : CK C RX11 cX11_go 3 (some .int) 4) (n : Nat) (S : PS) (a0 : Nat) (x1_ : Int32) (x2_ : Int32) (hTa0 : Ty X.2.1 a0 11) {o : Int32 × PS} (hf : fX11_go X.2.1 n S a0 x1_ x2_ = some o) (hR : Rt C X cX11_go (some .int) (some (.int o.1)) o.2) : UW C X S 0 [(0, .ref (X.1 a0)), (1, .int x1_), (2, .int x2_)] [] := by
  unfold fX11_go at hf
  refine u_aload_n hC dX11_go_0 0 rfl rfl ?_
  refine u_iconst (v := (0 : Int32)) hC dX11_go_1 (by decide) ?_
  refine u_pi hC lf_X11_70 rfl rfl rfl hTa0 dX11_go_2 hf (fun S2 hf => ?_)
  refine u_iload_n hC dX11_go_5 1 rfl rfl ?_
  refine u_if_eq (tgt := 20) hC dX11_go_6 (by decide) hf (fun h6 hf => ?_) (fun h6 hf => ?_)
  · refine u_aload_n hC dX11_go_20 0 rfl rfl ?_
    refine u_iload_n hC dX11_go_21 2 rfl rfl ?_
    obtain ⟨q22, hq22, hf⟩ := kc_some hf
    refine u_callV hC (ctX11_isProject (cL C) hC.tr (cG C) X.1 X.2.1 n S2 a0 x2_ hTa0 hq22) lk_X11_255 rfl hTa0 (by decide) rfl (by decide) (by decide) rfl rfl (Nat.le_of_ble_eq_true rfl) dX11_go_22 ?_
    refine u_if_ne (tgt := 34) hC dX11_go_25 (by decide) hf (fun h25 hf => ?_) (fun h25 hf => ?_)
    · exact wjX11_go_34 hC n S2 a0 x1_ x2_  hTa0 hf hR
    · refine u_sub (lv' := [(0, .ref (X.1 a0))]) [0] rfl ?_
      exact wjX11_go_28 hC n S2 a0  hTa0 hf hR
  · refine u_aload_n hC dX11_go_9 0 rfl rfl ?_
    refine u_iload_n hC dX11_go_10 2 rfl rfl ?_
    obtain ⟨q11, hq11, hf⟩ := kc_some hf
    refine u_callV hC (ctX11_isVoter (cL C) hC.tr (cG C) X.1 X.2.1 n S2 a0 x2_ hTa0 hq11) lk_X11_258 rfl hTa0 (by decide) rfl (by decide) (by decide) rfl rfl (Nat.le_of_ble_eq_true rfl) dX11_go_11 ?_
    refine u_if_ne (tgt := 34) hC dX11_go_14 (by decide) hf (fun h14 hf => ?_) (fun h14 hf => ?_)
    · exact wjX11_go_34 hC n S2 a0 x1_ x2_  hTa0 hf hR
    · refine u_goto (tgt := 28) hC dX11_go_17 (by decide) ?_
      refine u_sub (lv' := [(0, .ref (X.1 a0))]) [0] rfl ?_
      exact wjX11_go_28 hC n S2 a0  hTa0 hf hR
theorem ctX11_go (l : Launch) (hl : l.stackTraces = false) (G : GT) (ρ : Nat → Nat) (Y : XS) (n : Nat) (S : PS) (a0 : Nat) (x1_ : Int32) (x2_ : Int32) (hTa0 : Ty Y a0 11) {o : Int32 × PS} (hf : fX11_go Y n S a0 x1_ x2_ = some o) : Mt l G yX11_go cX11_go 3 (some .int) 4 ρ Y [.ref (ρ a0), .int x1_, .int x2_] S (some (.int o.1)) o.2 :=
  Mt_of hl (by decide) (Nat.le_of_ble_eq_true rfl) (fun C _ _ hC hR => wX11_go (X := (ρ, Y, 0, 0)) hC n S a0 x1_ x2_ hTa0 hf hR)
-- X11_undo
theorem dX11_undo_0 : decode cX11_undo 0 = .ok (.aload_n 0, 1) := by decide +kernel
theorem dX11_undo_1 : decode cX11_undo 1 = .ok (.iconst 0, 1) := by decide +kernel
theorem dX11_undo_2 : decode cX11_undo 2 = .ok (.putfield 70, 3) := by decide +kernel
theorem dX11_undo_5 : decode cX11_undo 5 = .ok (.aload_n 0, 1) := by decide +kernel
theorem dX11_undo_6 : decode cX11_undo 6 = .ok (.getfield 246, 3) := by decide +kernel
theorem dX11_undo_9 : decode cX11_undo 9 = .ok (.ifCond .ne 5, 3) := by decide +kernel
theorem dX11_undo_12 : decode cX11_undo 12 = .ok (.iconst (-1), 1) := by decide +kernel
theorem dX11_undo_13 : decode cX11_undo 13 = .ok (.ireturn, 1) := by decide +kernel
theorem dX11_undo_14 : decode cX11_undo 14 = .ok (.aload_n 0, 1) := by decide +kernel
theorem dX11_undo_15 : decode cX11_undo 15 = .ok (.dup, 1) := by decide +kernel
theorem dX11_undo_16 : decode cX11_undo 16 = .ok (.getfield 246, 3) := by decide +kernel
theorem dX11_undo_19 : decode cX11_undo 19 = .ok (.iconst 1, 1) := by decide +kernel
theorem dX11_undo_20 : decode cX11_undo 20 = .ok (.isub, 1) := by decide +kernel
theorem dX11_undo_21 : decode cX11_undo 21 = .ok (.putfield 246, 3) := by decide +kernel
theorem dX11_undo_24 : decode cX11_undo 24 = .ok (.iconst 0, 1) := by decide +kernel
theorem dX11_undo_25 : decode cX11_undo 25 = .ok (.istore_n 1, 1) := by decide +kernel
theorem dX11_undo_26 : decode cX11_undo 26 = .ok (.iload_n 1, 1) := by decide +kernel
theorem dX11_undo_27 : decode cX11_undo 27 = .ok (.sipush 877, 3) := by decide +kernel
theorem dX11_undo_30 : decode cX11_undo 30 = .ok (.if_icmp .ge 30, 3) := by decide +kernel
theorem dX11_undo_33 : decode cX11_undo 33 = .ok (.aload_n 0, 1) := by decide +kernel
theorem dX11_undo_34 : decode cX11_undo 34 = .ok (.getfield 9, 3) := by decide +kernel
theorem dX11_undo_37 : decode cX11_undo 37 = .ok (.iload_n 1, 1) := by decide +kernel
theorem dX11_undo_38 : decode cX11_undo 38 = .ok (.aload_n 0, 1) := by decide +kernel
theorem dX11_undo_39 : decode cX11_undo 39 = .ok (.getfield 22, 3) := by decide +kernel
theorem dX11_undo_42 : decode cX11_undo 42 = .ok (.sipush 877, 3) := by decide +kernel
theorem dX11_undo_45 : decode cX11_undo 45 = .ok (.aload_n 0, 1) := by decide +kernel
theorem dX11_undo_46 : decode cX11_undo 46 = .ok (.getfield 246, 3) := by decide +kernel
theorem dX11_undo_49 : decode cX11_undo 49 = .ok (.imul, 1) := by decide +kernel
theorem dX11_undo_50 : decode cX11_undo 50 = .ok (.iload_n 1, 1) := by decide +kernel
theorem dX11_undo_51 : decode cX11_undo 51 = .ok (.iadd, 1) := by decide +kernel
theorem dX11_undo_52 : decode cX11_undo 52 = .ok (.iaload, 1) := by decide +kernel
theorem dX11_undo_53 : decode cX11_undo 53 = .ok (.iastore, 1) := by decide +kernel
theorem dX11_undo_54 : decode cX11_undo 54 = .ok (.iinc 1 1, 3) := by decide +kernel
theorem dX11_undo_57 : decode cX11_undo 57 = .ok (.goto (-31), 3) := by decide +kernel
theorem dX11_undo_60 : decode cX11_undo 60 = .ok (.aload_n 0, 1) := by decide +kernel
theorem dX11_undo_61 : decode cX11_undo 61 = .ok (.getfield 246, 3) := by decide +kernel
theorem dX11_undo_64 : decode cX11_undo 64 = .ok (.ireturn, 1) := by decide +kernel
def bX11_undo_26 (Y : XS) (n : Nat) (v0 : Nat) (s26 : (Int32 × PS)) : Option ((Int32 × PS) ⊕ PS) :=
  (if (877 : Int32) ≤ s26.1 then some (.inr s26.2) else kgr s26.2 v0 0 (fun b34 => kgr s26.2 v0 4 (fun b39 => kgi s26.2 v0 6 (fun x46 => kai Y s26.2 b39 (((877 : Int32) * x46) + s26.1) (fun x52 => kwi Y s26.2 b34 s26.1 x52 (fun S53 => some (.inl (s26.1 + (1 : Int32), S53))))))))
def fX11_undo (Y : XS) (n : Nat) (S : PS) (a0 : Nat) : Option (Int32 × PS) :=
  kpi S a0 7 (0 : Int32) (fun S2 => kgi S2 a0 6 (fun x6 => (if x6 = 0 then some ((-1 : Int32), S2) else kgi S2 a0 6 (fun x16 => kpi S2 a0 6 (x16 - (1 : Int32)) (fun S21 => kc (iter (bX11_undo_26 Y n a0) n ((0 : Int32), S21)) (fun r26 => kgi r26 a0 6 (fun x61 => some (x61, r26))))))))
theorem wbX11_undo_26 {C : CT} {X : XT} (hC : CK C RX11 cX11_undo 2 (some .int) 1) (n : Nat) (v0 : Nat) (hTv0 : Ty X.2.1 v0 11) (s26 : (Int32 × PS)) {o : (Int32 × PS) ⊕ PS} (hf : bX11_undo_26 X.2.1 n v0 s26 = some o) (hN : ∀ s', o = .inl s' → UW C X s'.2 26 [(0, .ref (X.1 v0)), (1, .int s'.1)] []) (hO0 : ∀ p', o = .inr p' → UW C X p' 60 [(0, .ref (X.1 v0))] []) : UW C X s26.2 26 [(0, .ref (X.1 v0)), (1, .int s26.1)] [] := by
  unfold bX11_undo_26 at hf
  refine u_iload_n hC dX11_undo_26 1 rfl rfl ?_
  refine u_sipush (v := (877 : Int32)) hC dX11_undo_27 (by decide) ?_
  refine u_icmp_ge (tgt := 60) hC dX11_undo_30 (by decide) hf (fun h30 hf => ?_) (fun h30 hf => ?_)
  · refine u_sub (lv' := [(0, .ref (X.1 v0))]) [0] rfl ?_
    exact hO0 _ (Option.some.inj hf).symm
  · refine u_aload_n hC dX11_undo_33 0 rfl rfl ?_
    refine u_gr hC lf_X11_9 rfl hTv0 dX11_undo_34 hf (fun b34 hTb34 hf => ?_)
    refine u_iload_n hC dX11_undo_37 1 rfl rfl ?_
    refine u_aload_n hC dX11_undo_38 0 rfl rfl ?_
    refine u_gr hC lf_X11_22 rfl hTv0 dX11_undo_39 hf (fun b39 hTb39 hf => ?_)
    refine u_sipush (v := (877 : Int32)) hC dX11_undo_42 (by decide) ?_
    refine u_aload_n hC dX11_undo_45 0 rfl rfl ?_
    refine u_gi hC lf_X11_246 rfl hTv0 dX11_undo_46 hf (fun x46 hf => ?_)
    refine u_imul hC dX11_undo_49 ?_
    refine u_iload_n hC dX11_undo_50 1 rfl rfl ?_
    refine u_iadd hC dX11_undo_51 ?_
    refine u_ai hC hTb39 dX11_undo_52 hf (fun x52 hf => ?_)
    refine u_wi hC hTb34 dX11_undo_53 hf (fun S53 hf => ?_)
    refine u_iinc (v := s26.1 + (1 : Int32)) (lv' := [(1, .int (s26.1 + (1 : Int32))), (0, .ref (X.1 v0))]) hC dX11_undo_54 1 rfl rfl (by decide) rfl ?_
    refine u_goto (tgt := 26) hC dX11_undo_57 (by decide) ?_
    refine u_sub (lv' := [(0, .ref (X.1 v0)), (1, .int (s26.1 + (1 : Int32)))]) [1, 0] rfl ?_
    exact hN _ (Option.some.inj hf).symm
theorem wX11_undo {C : CT} {X : XT} (hC : CK C RX11 cX11_undo 2 (some .int) 1) (n : Nat) (S : PS) (a0 : Nat) (hTa0 : Ty X.2.1 a0 11) {o : Int32 × PS} (hf : fX11_undo X.2.1 n S a0 = some o) (hR : Rt C X cX11_undo (some .int) (some (.int o.1)) o.2) : UW C X S 0 [(0, .ref (X.1 a0))] [] := by
  unfold fX11_undo at hf
  refine u_aload_n hC dX11_undo_0 0 rfl rfl ?_
  refine u_iconst (v := (0 : Int32)) hC dX11_undo_1 (by decide) ?_
  refine u_pi hC lf_X11_70 rfl rfl rfl hTa0 dX11_undo_2 hf (fun S2 hf => ?_)
  refine u_aload_n hC dX11_undo_5 0 rfl rfl ?_
  refine u_gi hC lf_X11_246 rfl hTa0 dX11_undo_6 hf (fun x6 hf => ?_)
  refine u_if_ne (tgt := 14) hC dX11_undo_9 (by decide) hf (fun h9 hf => ?_) (fun h9 hf => ?_)
  · refine u_aload_n hC dX11_undo_14 0 rfl rfl ?_
    refine u_dup hC dX11_undo_15 rfl ?_
    refine u_gi hC lf_X11_246 rfl hTa0 dX11_undo_16 hf (fun x16 hf => ?_)
    refine u_iconst (v := (1 : Int32)) hC dX11_undo_19 (by decide) ?_
    refine u_isub hC dX11_undo_20 ?_
    refine u_pi hC lf_X11_246 rfl rfl rfl hTa0 dX11_undo_21 hf (fun S21 hf => ?_)
    refine u_iconst (v := (0 : Int32)) hC dX11_undo_24 (by decide) ?_
    refine u_istore_n (lv' := [(1, .int (0 : Int32)), (0, .ref (X.1 a0))]) hC dX11_undo_25 rfl (by decide) rfl ?_
    obtain ⟨r26, hr26, hf⟩ := kc_some hf
    have hk26 : UW C X r26 60 [(0, .ref (X.1 a0))] [] := by
      refine u_aload_n hC dX11_undo_60 0 rfl rfl ?_
      refine u_gi hC lf_X11_246 rfl hTa0 dX11_undo_61 hf (fun x61 hf => ?_)
      cases hf
      exact hR _ _ dX11_undo_64 trivial
    refine u_sub (lv' := [(0, .ref (X.1 a0)), (1, .int (0 : Int32))]) [1, 0] rfl ?_
    refine iter_ind (P := fun s26 => UW C X s26.2 26 [(0, .ref (X.1 a0)), (1, .int s26.1)] []) (fun s26 o' hb hin hout => ?_) n ((0 : Int32), S21) hr26
    exact wbX11_undo_26 hC n a0 hTa0 s26 hb hin (fun p e => by rw [hout p e]; exact hk26)
  · refine u_iconst (v := (-1 : Int32)) hC dX11_undo_12 (by decide) ?_
    cases hf
    exact hR _ _ dX11_undo_13 trivial
theorem ctX11_undo (l : Launch) (hl : l.stackTraces = false) (G : GT) (ρ : Nat → Nat) (Y : XS) (n : Nat) (S : PS) (a0 : Nat) (hTa0 : Ty Y a0 11) {o : Int32 × PS} (hf : fX11_undo Y n S a0 = some o) : Mt l G yX11_undo cX11_undo 2 (some .int) 1 ρ Y [.ref (ρ a0)] S (some (.int o.1)) o.2 :=
  Mt_of hl (by decide) (Nat.le_of_ble_eq_true rfl) (fun C _ _ hC hR => wX11_undo (X := (ρ, Y, 0, 0)) hC n S a0 hTa0 hf hR)
-- X11_image
theorem dX11_image_0 : decode cX11_image 0 = .ok (.aload_n 0, 1) := by decide +kernel
theorem dX11_image_1 : decode cX11_image 1 = .ok (.iconst 0, 1) := by decide +kernel
theorem dX11_image_2 : decode cX11_image 2 = .ok (.putfield 70, 3) := by decide +kernel
theorem dX11_image_5 : decode cX11_image 5 = .ok (.aload_n 0, 1) := by decide +kernel
theorem dX11_image_6 : decode cX11_image 6 = .ok (.getfield 19, 3) := by decide +kernel
theorem dX11_image_9 : decode cX11_image 9 = .ok (.aload_n 0, 1) := by decide +kernel
theorem dX11_image_10 : decode cX11_image 10 = .ok (.getfield 9, 3) := by decide +kernel
theorem dX11_image_13 : decode cX11_image 13 = .ok (.invokestatic 295, 3) := by decide +kernel
theorem dX11_image_16 : decode cX11_image 16 = .ok (.aload_n 0, 1) := by decide +kernel
theorem dX11_image_17 : decode cX11_image 17 = .ok (.iconst 1, 1) := by decide +kernel
theorem dX11_image_18 : decode cX11_image 18 = .ok (.putfield 324, 3) := by decide +kernel
theorem dX11_image_21 : decode cX11_image 21 = .ok (.return_, 1) := by decide +kernel
def fX11_image (Y : XS) (n : Nat) (S : PS) (a0 : Nat) : Option (PS) :=
  kpi S a0 7 (0 : Int32) (fun S2 => kgr S2 a0 3 (fun b6 => kgr S2 a0 0 (fun b10 => kc (fX11_copy Y n S2 b6 b10) (fun q13 => kpz q13 a0 5 (1 : Int32) (fun S18 => some S18)))))
theorem wX11_image {C : CT} {X : XT} (hC : CK C RX11 cX11_image 1 none 2) (n : Nat) (S : PS) (a0 : Nat) (hTa0 : Ty X.2.1 a0 11) {o : PS} (hf : fX11_image X.2.1 n S a0 = some o) (hR : Rt C X cX11_image none none o) : UW C X S 0 [(0, .ref (X.1 a0))] [] := by
  unfold fX11_image at hf
  refine u_aload_n hC dX11_image_0 0 rfl rfl ?_
  refine u_iconst (v := (0 : Int32)) hC dX11_image_1 (by decide) ?_
  refine u_pi hC lf_X11_70 rfl rfl rfl hTa0 dX11_image_2 hf (fun S2 hf => ?_)
  refine u_aload_n hC dX11_image_5 0 rfl rfl ?_
  refine u_gr hC lf_X11_19 rfl hTa0 dX11_image_6 hf (fun b6 hTb6 hf => ?_)
  refine u_aload_n hC dX11_image_9 0 rfl rfl ?_
  refine u_gr hC lf_X11_9 rfl hTa0 dX11_image_10 hf (fun b10 hTb10 hf => ?_)
  obtain ⟨q13, hq13, hf⟩ := kc_some hf
  refine u_callS hC (ctX11_copy (cL C) hC.tr (cG C) X.1 X.2.1 n S2 b6 b10 hTb6 hTb10 hq13) lk_X11_295 (by decide) (by decide) rfl rfl (Nat.le_of_ble_eq_true rfl) dX11_image_13 ?_
  refine u_aload_n hC dX11_image_16 0 rfl rfl ?_
  refine u_iconst (v := (1 : Int32)) hC dX11_image_17 (by decide) ?_
  refine u_pz hC lf_X11_324 rfl rfl rfl hTa0 dX11_image_18 hf (fun S18 hf => ?_)
  cases hf
  exact hR _ _ dX11_image_21 trivial
theorem ctX11_image (l : Launch) (hl : l.stackTraces = false) (G : GT) (ρ : Nat → Nat) (Y : XS) (n : Nat) (S : PS) (a0 : Nat) (hTa0 : Ty Y a0 11) {o : PS} (hf : fX11_image Y n S a0 = some o) : Mt l G yX11_image cX11_image 1 none 2 ρ Y [.ref (ρ a0)] S none o :=
  Mt_of hl (by decide) (Nat.le_of_ble_eq_true rfl) (fun C _ _ hC hR => wX11_image (X := (ρ, Y, 0, 0)) hC n S a0 hTa0 hf hR)
-- X11_back
theorem dX11_back_0 : decode cX11_back 0 = .ok (.aload_n 0, 1) := by decide +kernel
theorem dX11_back_1 : decode cX11_back 1 = .ok (.iconst 0, 1) := by decide +kernel
theorem dX11_back_2 : decode cX11_back 2 = .ok (.putfield 70, 3) := by decide +kernel
theorem dX11_back_5 : decode cX11_back 5 = .ok (.aload_n 0, 1) := by decide +kernel
theorem dX11_back_6 : decode cX11_back 6 = .ok (.getfield 324, 3) := by decide +kernel
theorem dX11_back_9 : decode cX11_back 9 = .ok (.ifCond .ne 5, 3) := by decide +kernel
theorem dX11_back_12 : decode cX11_back 12 = .ok (.iconst 0, 1) := by decide +kernel
theorem dX11_back_13 : decode cX11_back 13 = .ok (.ireturn, 1) := by decide +kernel
theorem dX11_back_14 : decode cX11_back 14 = .ok (.aload_n 0, 1) := by decide +kernel
theorem dX11_back_15 : decode cX11_back 15 = .ok (.getfield 9, 3) := by decide +kernel
theorem dX11_back_18 : decode cX11_back 18 = .ok (.aload_n 0, 1) := by decide +kernel
theorem dX11_back_19 : decode cX11_back 19 = .ok (.getfield 19, 3) := by decide +kernel
theorem dX11_back_22 : decode cX11_back 22 = .ok (.invokestatic 295, 3) := by decide +kernel
theorem dX11_back_25 : decode cX11_back 25 = .ok (.aload_n 0, 1) := by decide +kernel
theorem dX11_back_26 : decode cX11_back 26 = .ok (.iconst 0, 1) := by decide +kernel
theorem dX11_back_27 : decode cX11_back 27 = .ok (.putfield 246, 3) := by decide +kernel
theorem dX11_back_30 : decode cX11_back 30 = .ok (.iconst 1, 1) := by decide +kernel
theorem dX11_back_31 : decode cX11_back 31 = .ok (.ireturn, 1) := by decide +kernel
def fX11_back (Y : XS) (n : Nat) (S : PS) (a0 : Nat) : Option (Int32 × PS) :=
  kpi S a0 7 (0 : Int32) (fun S2 => kgi S2 a0 5 (fun x6 => (if x6 = 0 then kzr (0 : Int32) (some ((0 : Int32), S2)) else kgr S2 a0 0 (fun b15 => kgr S2 a0 3 (fun b19 => kc (fX11_copy Y n S2 b15 b19) (fun q22 => kpi q22 a0 6 (0 : Int32) (fun S27 => kzr (1 : Int32) (some ((1 : Int32), S27)))))))))
theorem wX11_back {C : CT} {X : XT} (hC : CK C RX11 cX11_back 1 (some .boolean) 2) (n : Nat) (S : PS) (a0 : Nat) (hTa0 : Ty X.2.1 a0 11) {o : Int32 × PS} (hf : fX11_back X.2.1 n S a0 = some o) (hR : Rt C X cX11_back (some .boolean) (some (.int o.1)) o.2) : UW C X S 0 [(0, .ref (X.1 a0))] [] := by
  unfold fX11_back at hf
  refine u_aload_n hC dX11_back_0 0 rfl rfl ?_
  refine u_iconst (v := (0 : Int32)) hC dX11_back_1 (by decide) ?_
  refine u_pi hC lf_X11_70 rfl rfl rfl hTa0 dX11_back_2 hf (fun S2 hf => ?_)
  refine u_aload_n hC dX11_back_5 0 rfl rfl ?_
  refine u_gi hC lf_X11_324 rfl hTa0 dX11_back_6 hf (fun x6 hf => ?_)
  refine u_if_ne (tgt := 14) hC dX11_back_9 (by decide) hf (fun h9 hf => ?_) (fun h9 hf => ?_)
  · refine u_aload_n hC dX11_back_14 0 rfl rfl ?_
    refine u_gr hC lf_X11_9 rfl hTa0 dX11_back_15 hf (fun b15 hTb15 hf => ?_)
    refine u_aload_n hC dX11_back_18 0 rfl rfl ?_
    refine u_gr hC lf_X11_19 rfl hTa0 dX11_back_19 hf (fun b19 hTb19 hf => ?_)
    obtain ⟨q22, hq22, hf⟩ := kc_some hf
    refine u_callS hC (ctX11_copy (cL C) hC.tr (cG C) X.1 X.2.1 n S2 b15 b19 hTb15 hTb19 hq22) lk_X11_295 (by decide) (by decide) rfl rfl (Nat.le_of_ble_eq_true rfl) dX11_back_22 ?_
    refine u_aload_n hC dX11_back_25 0 rfl rfl ?_
    refine u_iconst (v := (0 : Int32)) hC dX11_back_26 (by decide) ?_
    refine u_pi hC lf_X11_246 rfl rfl rfl hTa0 dX11_back_27 hf (fun S27 hf => ?_)
    refine u_iconst (v := (1 : Int32)) hC dX11_back_30 (by decide) ?_
    obtain ⟨hz, hf⟩ := kzr_some hf
    cases hf
    exact hR _ _ dX11_back_31 hz
  · refine u_iconst (v := (0 : Int32)) hC dX11_back_12 (by decide) ?_
    obtain ⟨hz, hf⟩ := kzr_some hf
    cases hf
    exact hR _ _ dX11_back_13 hz
theorem ctX11_back (l : Launch) (hl : l.stackTraces = false) (G : GT) (ρ : Nat → Nat) (Y : XS) (n : Nat) (S : PS) (a0 : Nat) (hTa0 : Ty Y a0 11) {o : Int32 × PS} (hf : fX11_back Y n S a0 = some o) : Mt l G yX11_back cX11_back 1 (some .boolean) 2 ρ Y [.ref (ρ a0)] S (some (.int o.1)) o.2 :=
  Mt_of hl (by decide) (Nat.le_of_ble_eq_true rfl) (fun C _ _ hC hR => wX11_back (X := (ρ, Y, 0, 0)) hC n S a0 hTa0 hf hR)
-- X11_feed
theorem dX11_feed_0 : decode cX11_feed 0 = .ok (.aload_n 0, 1) := by decide +kernel
theorem dX11_feed_1 : decode cX11_feed 1 = .ok (.iconst 0, 1) := by decide +kernel
theorem dX11_feed_2 : decode cX11_feed 2 = .ok (.putfield 70, 3) := by decide +kernel
theorem dX11_feed_5 : decode cX11_feed 5 = .ok (.aload_n 0, 1) := by decide +kernel
theorem dX11_feed_6 : decode cX11_feed 6 = .ok (.getfield 249, 3) := by decide +kernel
theorem dX11_feed_9 : decode cX11_feed 9 = .ok (.bipush 20, 2) := by decide +kernel
theorem dX11_feed_11 : decode cX11_feed 11 = .ok (.iadd, 1) := by decide +kernel
theorem dX11_feed_12 : decode cX11_feed 12 = .ok (.sipush 500, 3) := by decide +kernel
theorem dX11_feed_15 : decode cX11_feed 15 = .ok (.if_icmp .le 5, 3) := by decide +kernel
theorem dX11_feed_18 : decode cX11_feed 18 = .ok (.iconst (-1), 1) := by decide +kernel
theorem dX11_feed_19 : decode cX11_feed 19 = .ok (.ireturn, 1) := by decide +kernel
theorem dX11_feed_20 : decode cX11_feed 20 = .ok (.iconst 0, 1) := by decide +kernel
theorem dX11_feed_21 : decode cX11_feed 21 = .ok (.istore 6, 2) := by decide +kernel
theorem dX11_feed_23 : decode cX11_feed 23 = .ok (.iload 6, 2) := by decide +kernel
theorem dX11_feed_25 : decode cX11_feed 25 = .ok (.bipush 20, 2) := by decide +kernel
theorem dX11_feed_27 : decode cX11_feed 27 = .ok (.if_icmp .ge 93, 3) := by decide +kernel
theorem dX11_feed_30 : decode cX11_feed 30 = .ok (.iload 6, 2) := by decide +kernel
theorem dX11_feed_32 : decode cX11_feed 32 = .ok (.iconst 4, 1) := by decide +kernel
theorem dX11_feed_33 : decode cX11_feed 33 = .ok (.if_icmp .ge 7, 3) := by decide +kernel
theorem dX11_feed_36 : decode cX11_feed 36 = .ok (.iload_n 1, 1) := by decide +kernel
theorem dX11_feed_37 : decode cX11_feed 37 = .ok (.goto 39, 3) := by decide +kernel
theorem dX11_feed_40 : decode cX11_feed 40 = .ok (.iload 6, 2) := by decide +kernel
theorem dX11_feed_42 : decode cX11_feed 42 = .ok (.bipush 8, 2) := by decide +kernel
theorem dX11_feed_44 : decode cX11_feed 44 = .ok (.if_icmp .ge 7, 3) := by decide +kernel
theorem dX11_feed_47 : decode cX11_feed 47 = .ok (.iload_n 2, 1) := by decide +kernel
theorem dX11_feed_48 : decode cX11_feed 48 = .ok (.goto 28, 3) := by decide +kernel
theorem dX11_feed_51 : decode cX11_feed 51 = .ok (.iload 6, 2) := by decide +kernel
theorem dX11_feed_53 : decode cX11_feed 53 = .ok (.bipush 12, 2) := by decide +kernel
theorem dX11_feed_55 : decode cX11_feed 55 = .ok (.if_icmp .ge 7, 3) := by decide +kernel
theorem dX11_feed_58 : decode cX11_feed 58 = .ok (.iload_n 3, 1) := by decide +kernel
theorem dX11_feed_59 : decode cX11_feed 59 = .ok (.goto 17, 3) := by decide +kernel
theorem dX11_feed_62 : decode cX11_feed 62 = .ok (.iload 6, 2) := by decide +kernel
theorem dX11_feed_64 : decode cX11_feed 64 = .ok (.bipush 16, 2) := by decide +kernel
theorem dX11_feed_66 : decode cX11_feed 66 = .ok (.if_icmp .ge 8, 3) := by decide +kernel
theorem dX11_feed_69 : decode cX11_feed 69 = .ok (.iload 4, 2) := by decide +kernel
theorem dX11_feed_71 : decode cX11_feed 71 = .ok (.goto 5, 3) := by decide +kernel
theorem dX11_feed_74 : decode cX11_feed 74 = .ok (.iload 5, 2) := by decide +kernel
theorem dX11_feed_76 : decode cX11_feed 76 = .ok (.istore 7, 2) := by decide +kernel
theorem dX11_feed_78 : decode cX11_feed 78 = .ok (.aload_n 0, 1) := by decide +kernel
theorem dX11_feed_79 : decode cX11_feed 79 = .ok (.getfield 63, 3) := by decide +kernel
theorem dX11_feed_82 : decode cX11_feed 82 = .ok (.aload_n 0, 1) := by decide +kernel
theorem dX11_feed_83 : decode cX11_feed 83 = .ok (.getfield 249, 3) := by decide +kernel
theorem dX11_feed_86 : decode cX11_feed 86 = .ok (.iload 7, 2) := by decide +kernel
theorem dX11_feed_88 : decode cX11_feed 88 = .ok (.bipush 24, 2) := by decide +kernel
theorem dX11_feed_90 : decode cX11_feed 90 = .ok (.bipush 8, 2) := by decide +kernel
theorem dX11_feed_92 : decode cX11_feed 92 = .ok (.iload 6, 2) := by decide +kernel
theorem dX11_feed_94 : decode cX11_feed 94 = .ok (.iconst 4, 1) := by decide +kernel
theorem dX11_feed_95 : decode cX11_feed 95 = .ok (.irem, 1) := by decide +kernel
theorem dX11_feed_96 : decode cX11_feed 96 = .ok (.imul, 1) := by decide +kernel
theorem dX11_feed_97 : decode cX11_feed 97 = .ok (.isub, 1) := by decide +kernel
theorem dX11_feed_98 : decode cX11_feed 98 = .ok (.ishr, 1) := by decide +kernel
theorem dX11_feed_99 : decode cX11_feed 99 = .ok (.sipush 255, 3) := by decide +kernel
theorem dX11_feed_102 : decode cX11_feed 102 = .ok (.iand, 1) := by decide +kernel
theorem dX11_feed_103 : decode cX11_feed 103 = .ok (.iastore, 1) := by decide +kernel
theorem dX11_feed_104 : decode cX11_feed 104 = .ok (.aload_n 0, 1) := by decide +kernel
theorem dX11_feed_105 : decode cX11_feed 105 = .ok (.dup, 1) := by decide +kernel
theorem dX11_feed_106 : decode cX11_feed 106 = .ok (.getfield 249, 3) := by decide +kernel
theorem dX11_feed_109 : decode cX11_feed 109 = .ok (.iconst 1, 1) := by decide +kernel
theorem dX11_feed_110 : decode cX11_feed 110 = .ok (.iadd, 1) := by decide +kernel
theorem dX11_feed_111 : decode cX11_feed 111 = .ok (.putfield 249, 3) := by decide +kernel
theorem dX11_feed_114 : decode cX11_feed 114 = .ok (.iinc 6 1, 3) := by decide +kernel
theorem dX11_feed_117 : decode cX11_feed 117 = .ok (.goto (-94), 3) := by decide +kernel
theorem dX11_feed_120 : decode cX11_feed 120 = .ok (.aload_n 0, 1) := by decide +kernel
theorem dX11_feed_121 : decode cX11_feed 121 = .ok (.getfield 249, 3) := by decide +kernel
theorem dX11_feed_124 : decode cX11_feed 124 = .ok (.ireturn, 1) := by decide +kernel
def jX11_feed_76_23 (Y : XS) (n : Nat) (S : PS) (v0 : Nat) (v1 : Int32) (v2 : Int32) (v3 : Int32) (v4 : Int32) (v5 : Int32) (v6 : Int32) (t0 : Int32) : Option ((Int32 × PS) ⊕ PS) :=
  kgr S v0 27 (fun b79 => kgi S v0 28 (fun x83 => kirem v6 (4 : Int32) (fun z95 => kwi Y S b79 x83 ((t0 >>> (((24 : Int32) - ((8 : Int32) * z95)) &&& 31)) &&& (255 : Int32)) (fun S103 => kgi S103 v0 28 (fun x106 => kpi S103 v0 28 (x106 + (1 : Int32)) (fun S111 => some (.inl (v6 + (1 : Int32), S111))))))))
def bX11_feed_23 (Y : XS) (n : Nat) (v0 : Nat) (v1 : Int32) (v2 : Int32) (v3 : Int32) (v4 : Int32) (v5 : Int32) (s23 : (Int32 × PS)) : Option ((Int32 × PS) ⊕ PS) :=
  (if (20 : Int32) ≤ s23.1 then some (.inr s23.2) else (if (4 : Int32) ≤ s23.1 then (if (8 : Int32) ≤ s23.1 then (if (12 : Int32) ≤ s23.1 then (if (16 : Int32) ≤ s23.1 then jX11_feed_76_23 Y n s23.2 v0 v1 v2 v3 v4 v5 s23.1 v5 else jX11_feed_76_23 Y n s23.2 v0 v1 v2 v3 v4 v5 s23.1 v4) else jX11_feed_76_23 Y n s23.2 v0 v1 v2 v3 v4 v5 s23.1 v3) else jX11_feed_76_23 Y n s23.2 v0 v1 v2 v3 v4 v5 s23.1 v2) else jX11_feed_76_23 Y n s23.2 v0 v1 v2 v3 v4 v5 s23.1 v1))
def fX11_feed (Y : XS) (n : Nat) (S : PS) (a0 : Nat) (x1_ : Int32) (x2_ : Int32) (x3_ : Int32) (x4_ : Int32) (x5_ : Int32) : Option (Int32 × PS) :=
  kpi S a0 7 (0 : Int32) (fun S2 => kgi S2 a0 28 (fun x6 => (if (x6 + (20 : Int32)) ≤ (500 : Int32) then kc (iter (bX11_feed_23 Y n a0 x1_ x2_ x3_ x4_ x5_) n ((0 : Int32), S2)) (fun r23 => kgi r23 a0 28 (fun x121 => some (x121, r23))) else some ((-1 : Int32), S2))))
theorem wjX11_feed_76_23 {C : CT} {X : XT} (hC : CK C RX11 cX11_feed 8 (some .int) 1) (n : Nat) (S : PS) (v0 : Nat) (v1 : Int32) (v2 : Int32) (v3 : Int32) (v4 : Int32) (v5 : Int32) (v6 : Int32) (t0 : Int32)  (hTv0 : Ty X.2.1 v0 11) {o : (Int32 × PS) ⊕ PS} (hf : jX11_feed_76_23 X.2.1 n S v0 v1 v2 v3 v4 v5 v6 t0 = some o) (hN : ∀ s', o = .inl s' → UW C X s'.2 23 [(0, .ref (X.1 v0)), (1, .int v1), (2, .int v2), (3, .int v3), (4, .int v4), (5, .int v5), (6, .int s'.1)] []) (hO0 : ∀ p', o = .inr p' → UW C X p' 120 [(0, .ref (X.1 v0))] []) : UW C X S 76 [(0, .ref (X.1 v0)), (1, .int v1), (2, .int v2), (3, .int v3), (4, .int v4), (5, .int v5), (6, .int v6)] [.int t0] := by
  unfold jX11_feed_76_23 at hf
  refine u_istore (lv' := [(7, .int t0), (0, .ref (X.1 v0)), (1, .int v1), (2, .int v2), (3, .int v3), (4, .int v4), (5, .int v5), (6, .int v6)]) hC dX11_feed_76 (by decide) rfl ?_
  refine u_aload_n hC dX11_feed_78 1 rfl rfl ?_
  refine u_gr hC lf_X11_63 rfl hTv0 dX11_feed_79 hf (fun b79 hTb79 hf => ?_)
  refine u_aload_n hC dX11_feed_82 1 rfl rfl ?_
  refine u_gi hC lf_X11_249 rfl hTv0 dX11_feed_83 hf (fun x83 hf => ?_)
  refine u_iload hC dX11_feed_86 0 rfl ?_
  refine u_bipush (v := (24 : Int32)) hC dX11_feed_88 (by decide) ?_
  refine u_bipush (v := (8 : Int32)) hC dX11_feed_90 (by decide) ?_
  refine u_iload hC dX11_feed_92 7 rfl ?_
  refine u_iconst (v := (4 : Int32)) hC dX11_feed_94 (by decide) ?_
  refine u_irem hC dX11_feed_95 hf (fun z95 hf => ?_)
  refine u_imul hC dX11_feed_96 ?_
  refine u_isub hC dX11_feed_97 ?_
  refine u_ishr hC dX11_feed_98 ?_
  refine u_sipush (v := (255 : Int32)) hC dX11_feed_99 (by decide) ?_
  refine u_iand hC dX11_feed_102 ?_
  refine u_wi hC hTb79 dX11_feed_103 hf (fun S103 hf => ?_)
  refine u_aload_n hC dX11_feed_104 1 rfl rfl ?_
  refine u_dup hC dX11_feed_105 rfl ?_
  refine u_gi hC lf_X11_249 rfl hTv0 dX11_feed_106 hf (fun x106 hf => ?_)
  refine u_iconst (v := (1 : Int32)) hC dX11_feed_109 (by decide) ?_
  refine u_iadd hC dX11_feed_110 ?_
  refine u_pi hC lf_X11_249 rfl rfl rfl hTv0 dX11_feed_111 hf (fun S111 hf => ?_)
  refine u_iinc (v := v6 + (1 : Int32)) (lv' := [(6, .int (v6 + (1 : Int32))), (7, .int t0), (0, .ref (X.1 v0)), (1, .int v1), (2, .int v2), (3, .int v3), (4, .int v4), (5, .int v5)]) hC dX11_feed_114 7 rfl rfl (by decide) rfl ?_
  refine u_goto (tgt := 23) hC dX11_feed_117 (by decide) ?_
  refine u_sub (lv' := [(0, .ref (X.1 v0)), (1, .int v1), (2, .int v2), (3, .int v3), (4, .int v4), (5, .int v5), (6, .int (v6 + (1 : Int32)))]) [2, 3, 4, 5, 6, 7, 0] rfl ?_
  exact hN _ (Option.some.inj hf).symm
theorem wbX11_feed_23 {C : CT} {X : XT} (hC : CK C RX11 cX11_feed 8 (some .int) 1) (n : Nat) (v0 : Nat) (v1 : Int32) (v2 : Int32) (v3 : Int32) (v4 : Int32) (v5 : Int32) (hTv0 : Ty X.2.1 v0 11) (s23 : (Int32 × PS)) {o : (Int32 × PS) ⊕ PS} (hf : bX11_feed_23 X.2.1 n v0 v1 v2 v3 v4 v5 s23 = some o) (hN : ∀ s', o = .inl s' → UW C X s'.2 23 [(0, .ref (X.1 v0)), (1, .int v1), (2, .int v2), (3, .int v3), (4, .int v4), (5, .int v5), (6, .int s'.1)] []) (hO0 : ∀ p', o = .inr p' → UW C X p' 120 [(0, .ref (X.1 v0))] []) : UW C X s23.2 23 [(0, .ref (X.1 v0)), (1, .int v1), (2, .int v2), (3, .int v3), (4, .int v4), (5, .int v5), (6, .int s23.1)] [] := by
  unfold bX11_feed_23 at hf
  refine u_iload hC dX11_feed_23 6 rfl ?_
  refine u_bipush (v := (20 : Int32)) hC dX11_feed_25 (by decide) ?_
  refine u_icmp_ge (tgt := 120) hC dX11_feed_27 (by decide) hf (fun h27 hf => ?_) (fun h27 hf => ?_)
  · refine u_sub (lv' := [(0, .ref (X.1 v0))]) [0] rfl ?_
    exact hO0 _ (Option.some.inj hf).symm
  · refine u_iload hC dX11_feed_30 6 rfl ?_
    refine u_iconst (v := (4 : Int32)) hC dX11_feed_32 (by decide) ?_
    refine u_icmp_ge (tgt := 40) hC dX11_feed_33 (by decide) hf (fun h33 hf => ?_) (fun h33 hf => ?_)
    · refine u_iload hC dX11_feed_40 6 rfl ?_
      refine u_bipush (v := (8 : Int32)) hC dX11_feed_42 (by decide) ?_
      refine u_icmp_ge (tgt := 51) hC dX11_feed_44 (by decide) hf (fun h44 hf => ?_) (fun h44 hf => ?_)
      · refine u_iload hC dX11_feed_51 6 rfl ?_
        refine u_bipush (v := (12 : Int32)) hC dX11_feed_53 (by decide) ?_
        refine u_icmp_ge (tgt := 62) hC dX11_feed_55 (by decide) hf (fun h55 hf => ?_) (fun h55 hf => ?_)
        · refine u_iload hC dX11_feed_62 6 rfl ?_
          refine u_bipush (v := (16 : Int32)) hC dX11_feed_64 (by decide) ?_
          refine u_icmp_ge (tgt := 74) hC dX11_feed_66 (by decide) hf (fun h66 hf => ?_) (fun h66 hf => ?_)
          · refine u_iload hC dX11_feed_74 5 rfl ?_
            exact wjX11_feed_76_23 hC n s23.2 v0 v1 v2 v3 v4 v5 s23.1 v5  hTv0 hf hN hO0
          · refine u_iload hC dX11_feed_69 4 rfl ?_
            refine u_goto (tgt := 76) hC dX11_feed_71 (by decide) ?_
            exact wjX11_feed_76_23 hC n s23.2 v0 v1 v2 v3 v4 v5 s23.1 v4  hTv0 hf hN hO0
        · refine u_iload_n hC dX11_feed_58 3 rfl rfl ?_
          refine u_goto (tgt := 76) hC dX11_feed_59 (by decide) ?_
          exact wjX11_feed_76_23 hC n s23.2 v0 v1 v2 v3 v4 v5 s23.1 v3  hTv0 hf hN hO0
      · refine u_iload_n hC dX11_feed_47 2 rfl rfl ?_
        refine u_goto (tgt := 76) hC dX11_feed_48 (by decide) ?_
        exact wjX11_feed_76_23 hC n s23.2 v0 v1 v2 v3 v4 v5 s23.1 v2  hTv0 hf hN hO0
    · refine u_iload_n hC dX11_feed_36 1 rfl rfl ?_
      refine u_goto (tgt := 76) hC dX11_feed_37 (by decide) ?_
      exact wjX11_feed_76_23 hC n s23.2 v0 v1 v2 v3 v4 v5 s23.1 v1  hTv0 hf hN hO0
theorem wX11_feed {C : CT} {X : XT} (hC : CK C RX11 cX11_feed 8 (some .int) 1) (n : Nat) (S : PS) (a0 : Nat) (x1_ : Int32) (x2_ : Int32) (x3_ : Int32) (x4_ : Int32) (x5_ : Int32) (hTa0 : Ty X.2.1 a0 11) {o : Int32 × PS} (hf : fX11_feed X.2.1 n S a0 x1_ x2_ x3_ x4_ x5_ = some o) (hR : Rt C X cX11_feed (some .int) (some (.int o.1)) o.2) : UW C X S 0 [(0, .ref (X.1 a0)), (1, .int x1_), (2, .int x2_), (3, .int x3_), (4, .int x4_), (5, .int x5_)] [] := by
  unfold fX11_feed at hf
  refine u_aload_n hC dX11_feed_0 0 rfl rfl ?_
  refine u_iconst (v := (0 : Int32)) hC dX11_feed_1 (by decide) ?_
  refine u_pi hC lf_X11_70 rfl rfl rfl hTa0 dX11_feed_2 hf (fun S2 hf => ?_)
  refine u_aload_n hC dX11_feed_5 0 rfl rfl ?_
  refine u_gi hC lf_X11_249 rfl hTa0 dX11_feed_6 hf (fun x6 hf => ?_)
  refine u_bipush (v := (20 : Int32)) hC dX11_feed_9 (by decide) ?_
  refine u_iadd hC dX11_feed_11 ?_
  refine u_sipush (v := (500 : Int32)) hC dX11_feed_12 (by decide) ?_
  refine u_icmp_le (tgt := 20) hC dX11_feed_15 (by decide) hf (fun h15 hf => ?_) (fun h15 hf => ?_)
  · refine u_iconst (v := (0 : Int32)) hC dX11_feed_20 (by decide) ?_
    refine u_istore (lv' := [(6, .int (0 : Int32)), (0, .ref (X.1 a0)), (1, .int x1_), (2, .int x2_), (3, .int x3_), (4, .int x4_), (5, .int x5_)]) hC dX11_feed_21 (by decide) rfl ?_
    obtain ⟨r23, hr23, hf⟩ := kc_some hf
    have hk23 : UW C X r23 120 [(0, .ref (X.1 a0))] [] := by
      refine u_aload_n hC dX11_feed_120 0 rfl rfl ?_
      refine u_gi hC lf_X11_249 rfl hTa0 dX11_feed_121 hf (fun x121 hf => ?_)
      cases hf
      exact hR _ _ dX11_feed_124 trivial
    refine u_sub (lv' := [(0, .ref (X.1 a0)), (1, .int x1_), (2, .int x2_), (3, .int x3_), (4, .int x4_), (5, .int x5_), (6, .int (0 : Int32))]) [1, 2, 3, 4, 5, 6, 0] rfl ?_
    refine iter_ind (P := fun s23 => UW C X s23.2 23 [(0, .ref (X.1 a0)), (1, .int x1_), (2, .int x2_), (3, .int x3_), (4, .int x4_), (5, .int x5_), (6, .int s23.1)] []) (fun s23 o' hb hin hout => ?_) n ((0 : Int32), S2) hr23
    exact wbX11_feed_23 hC n a0 x1_ x2_ x3_ x4_ x5_ hTa0 s23 hb hin (fun p e => by rw [hout p e]; exact hk23)
  · refine u_iconst (v := (-1 : Int32)) hC dX11_feed_18 (by decide) ?_
    cases hf
    exact hR _ _ dX11_feed_19 trivial
theorem ctX11_feed (l : Launch) (hl : l.stackTraces = false) (G : GT) (ρ : Nat → Nat) (Y : XS) (n : Nat) (S : PS) (a0 : Nat) (x1_ : Int32) (x2_ : Int32) (x3_ : Int32) (x4_ : Int32) (x5_ : Int32) (hTa0 : Ty Y a0 11) {o : Int32 × PS} (hf : fX11_feed Y n S a0 x1_ x2_ x3_ x4_ x5_ = some o) : Mt l G yX11_feed cX11_feed 8 (some .int) 1 ρ Y [.ref (ρ a0), .int x1_, .int x2_, .int x3_, .int x4_, .int x5_] S (some (.int o.1)) o.2 :=
  Mt_of hl (by decide) (Nat.le_of_ble_eq_true rfl) (fun C _ _ hC hR => wX11_feed (X := (ρ, Y, 0, 0)) hC n S a0 x1_ x2_ x3_ x4_ x5_ hTa0 hf hR)
-- X11_fault
theorem dX11_fault_0 : decode cX11_fault 0 = .ok (.aload_n 0, 1) := by decide +kernel
theorem dX11_fault_1 : decode cX11_fault 1 = .ok (.iconst 0, 1) := by decide +kernel
theorem dX11_fault_2 : decode cX11_fault 2 = .ok (.putfield 70, 3) := by decide +kernel
theorem dX11_fault_5 : decode cX11_fault 5 = .ok (.aload_n 0, 1) := by decide +kernel
theorem dX11_fault_6 : decode cX11_fault 6 = .ok (.getfield 66, 3) := by decide +kernel
theorem dX11_fault_9 : decode cX11_fault 9 = .ok (.ireturn, 1) := by decide +kernel
def fX11_fault (Y : XS) (n : Nat) (S : PS) (a0 : Nat) : Option (Int32 × PS) :=
  kpi S a0 7 (0 : Int32) (fun S2 => kgi S2 a0 36 (fun x6 => some (x6, S2)))
theorem wX11_fault {C : CT} {X : XT} (hC : CK C RX11 cX11_fault 1 (some .int) 1) (n : Nat) (S : PS) (a0 : Nat) (hTa0 : Ty X.2.1 a0 11) {o : Int32 × PS} (hf : fX11_fault X.2.1 n S a0 = some o) (hR : Rt C X cX11_fault (some .int) (some (.int o.1)) o.2) : UW C X S 0 [(0, .ref (X.1 a0))] [] := by
  unfold fX11_fault at hf
  refine u_aload_n hC dX11_fault_0 0 rfl rfl ?_
  refine u_iconst (v := (0 : Int32)) hC dX11_fault_1 (by decide) ?_
  refine u_pi hC lf_X11_70 rfl rfl rfl hTa0 dX11_fault_2 hf (fun S2 hf => ?_)
  refine u_aload_n hC dX11_fault_5 0 rfl rfl ?_
  refine u_gi hC lf_X11_66 rfl hTa0 dX11_fault_6 hf (fun x6 hf => ?_)
  cases hf
  exact hR _ _ dX11_fault_9 trivial
theorem ctX11_fault (l : Launch) (hl : l.stackTraces = false) (G : GT) (ρ : Nat → Nat) (Y : XS) (n : Nat) (S : PS) (a0 : Nat) (hTa0 : Ty Y a0 11) {o : Int32 × PS} (hf : fX11_fault Y n S a0 = some o) : Mt l G yX11_fault cX11_fault 1 (some .int) 1 ρ Y [.ref (ρ a0)] S (some (.int o.1)) o.2 :=
  Mt_of hl (by decide) (Nat.le_of_ble_eq_true rfl) (fun C _ _ hC hR => wX11_fault (X := (ρ, Y, 0, 0)) hC n S a0 hTa0 hf hR)
-- X11_byteAt
theorem dX11_byteAt_0 : decode cX11_byteAt 0 = .ok (.iload_n 1, 1) := by decide +kernel
theorem dX11_byteAt_1 : decode cX11_byteAt 1 = .ok (.aload_n 0, 1) := by decide +kernel
theorem dX11_byteAt_2 : decode cX11_byteAt 2 = .ok (.getfield 328, 3) := by decide +kernel
theorem dX11_byteAt_5 : decode cX11_byteAt 5 = .ok (.if_icmp .ge 12, 3) := by decide +kernel
theorem dX11_byteAt_8 : decode cX11_byteAt 8 = .ok (.aload_n 0, 1) := by decide +kernel
theorem dX11_byteAt_9 : decode cX11_byteAt 9 = .ok (.getfield 63, 3) := by decide +kernel
theorem dX11_byteAt_12 : decode cX11_byteAt 12 = .ok (.iload_n 1, 1) := by decide +kernel
theorem dX11_byteAt_13 : decode cX11_byteAt 13 = .ok (.iaload, 1) := by decide +kernel
theorem dX11_byteAt_14 : decode cX11_byteAt 14 = .ok (.goto 4, 3) := by decide +kernel
theorem dX11_byteAt_17 : decode cX11_byteAt 17 = .ok (.iconst (-1), 1) := by decide +kernel
theorem dX11_byteAt_18 : decode cX11_byteAt 18 = .ok (.ireturn, 1) := by decide +kernel
def jX11_byteAt_18 (Y : XS) (n : Nat) (S : PS) (t0 : Int32) : Option (Int32) :=
  some t0
def fX11_byteAt (Y : XS) (n : Nat) (S : PS) (a0 : Nat) (x1_ : Int32) : Option (Int32) :=
  kgi S a0 29 (fun x2 => (if x2 ≤ x1_ then jX11_byteAt_18 Y n S (-1 : Int32) else kgr S a0 27 (fun b9 => kai Y S b9 x1_ (fun x13 => jX11_byteAt_18 Y n S x13))))
theorem wjX11_byteAt_18 {C : CT} {X : XT} (hC : CK C RX11 cX11_byteAt 2 (some .int) 1) (n : Nat) (S : PS) (t0 : Int32)   {o : Int32} (hf : jX11_byteAt_18 X.2.1 n S t0 = some o) (hR : Rt C X cX11_byteAt (some .int) (some (.int o)) S) : UW C X S 18 [] [.int t0] := by
  unfold jX11_byteAt_18 at hf
  cases hf
  exact hR _ _ dX11_byteAt_18 trivial
theorem wX11_byteAt {C : CT} {X : XT} (hC : CK C RX11 cX11_byteAt 2 (some .int) 1) (n : Nat) (S : PS) (a0 : Nat) (x1_ : Int32) (hTa0 : Ty X.2.1 a0 11) {o : Int32} (hf : fX11_byteAt X.2.1 n S a0 x1_ = some o) (hR : Rt C X cX11_byteAt (some .int) (some (.int o)) S) : UW C X S 0 [(0, .ref (X.1 a0)), (1, .int x1_)] [] := by
  unfold fX11_byteAt at hf
  refine u_iload_n hC dX11_byteAt_0 1 rfl rfl ?_
  refine u_aload_n hC dX11_byteAt_1 0 rfl rfl ?_
  refine u_gi hC lf_X11_328 rfl hTa0 dX11_byteAt_2 hf (fun x2 hf => ?_)
  refine u_icmp_ge (tgt := 17) hC dX11_byteAt_5 (by decide) hf (fun h5 hf => ?_) (fun h5 hf => ?_)
  · refine u_iconst (v := (-1 : Int32)) hC dX11_byteAt_17 (by decide) ?_
    refine u_sub (lv' := []) [] rfl ?_
    exact wjX11_byteAt_18 hC n S (-1 : Int32)   hf hR
  · refine u_aload_n hC dX11_byteAt_8 0 rfl rfl ?_
    refine u_gr hC lf_X11_63 rfl hTa0 dX11_byteAt_9 hf (fun b9 hTb9 hf => ?_)
    refine u_iload_n hC dX11_byteAt_12 1 rfl rfl ?_
    refine u_ai hC hTb9 dX11_byteAt_13 hf (fun x13 hf => ?_)
    refine u_goto (tgt := 18) hC dX11_byteAt_14 (by decide) ?_
    refine u_sub (lv' := []) [] rfl ?_
    exact wjX11_byteAt_18 hC n S x13   hf hR
theorem ctX11_byteAt (l : Launch) (hl : l.stackTraces = false) (G : GT) (ρ : Nat → Nat) (Y : XS) (n : Nat) (S : PS) (a0 : Nat) (x1_ : Int32) (hTa0 : Ty Y a0 11) {o : Int32} (hf : fX11_byteAt Y n S a0 x1_ = some o) : Mt l G yX11_byteAt cX11_byteAt 2 (some .int) 1 ρ Y [.ref (ρ a0), .int x1_] S (some (.int o)) S :=
  Mt_of hl (by decide) (Nat.le_of_ble_eq_true rfl) (fun C _ _ hC hR => wX11_byteAt (X := (ρ, Y, 0, 0)) hC n S a0 x1_ hTa0 hf hR)
-- X11_next
theorem dX11_next_0 : decode cX11_next 0 = .ok (.aload_n 0, 1) := by decide +kernel
theorem dX11_next_1 : decode cX11_next 1 = .ok (.aload_n 0, 1) := by decide +kernel
theorem dX11_next_2 : decode cX11_next 2 = .ok (.getfield 331, 3) := by decide +kernel
theorem dX11_next_5 : decode cX11_next 5 = .ok (.invokevirtual 334, 3) := by decide +kernel
theorem dX11_next_8 : decode cX11_next 8 = .ok (.bipush 32, 2) := by decide +kernel
theorem dX11_next_10 : decode cX11_next 10 = .ok (.if_icmp .eq 16, 3) := by decide +kernel
theorem dX11_next_13 : decode cX11_next 13 = .ok (.aload_n 0, 1) := by decide +kernel
theorem dX11_next_14 : decode cX11_next 14 = .ok (.aload_n 0, 1) := by decide +kernel
theorem dX11_next_15 : decode cX11_next 15 = .ok (.getfield 331, 3) := by decide +kernel
theorem dX11_next_18 : decode cX11_next 18 = .ok (.invokevirtual 334, 3) := by decide +kernel
theorem dX11_next_21 : decode cX11_next 21 = .ok (.bipush 10, 2) := by decide +kernel
theorem dX11_next_23 : decode cX11_next 23 = .ok (.if_icmp .ne 16, 3) := by decide +kernel
theorem dX11_next_26 : decode cX11_next 26 = .ok (.aload_n 0, 1) := by decide +kernel
theorem dX11_next_27 : decode cX11_next 27 = .ok (.dup, 1) := by decide +kernel
theorem dX11_next_28 : decode cX11_next 28 = .ok (.getfield 331, 3) := by decide +kernel
theorem dX11_next_31 : decode cX11_next 31 = .ok (.iconst 1, 1) := by decide +kernel
theorem dX11_next_32 : decode cX11_next 32 = .ok (.iadd, 1) := by decide +kernel
theorem dX11_next_33 : decode cX11_next 33 = .ok (.putfield 331, 3) := by decide +kernel
theorem dX11_next_36 : decode cX11_next 36 = .ok (.goto (-36), 3) := by decide +kernel
theorem dX11_next_39 : decode cX11_next 39 = .ok (.aload_n 0, 1) := by decide +kernel
theorem dX11_next_40 : decode cX11_next 40 = .ok (.aload_n 0, 1) := by decide +kernel
theorem dX11_next_41 : decode cX11_next 41 = .ok (.getfield 331, 3) := by decide +kernel
theorem dX11_next_44 : decode cX11_next 44 = .ok (.putfield 337, 3) := by decide +kernel
theorem dX11_next_47 : decode cX11_next 47 = .ok (.aload_n 0, 1) := by decide +kernel
theorem dX11_next_48 : decode cX11_next 48 = .ok (.aload_n 0, 1) := by decide +kernel
theorem dX11_next_49 : decode cX11_next 49 = .ok (.getfield 331, 3) := by decide +kernel
theorem dX11_next_52 : decode cX11_next 52 = .ok (.invokevirtual 334, 3) := by decide +kernel
theorem dX11_next_55 : decode cX11_next 55 = .ok (.istore_n 1, 1) := by decide +kernel
theorem dX11_next_56 : decode cX11_next 56 = .ok (.iload_n 1, 1) := by decide +kernel
theorem dX11_next_57 : decode cX11_next 57 = .ok (.iconst (-1), 1) := by decide +kernel
theorem dX11_next_58 : decode cX11_next 58 = .ok (.if_icmp .ne 11, 3) := by decide +kernel
theorem dX11_next_61 : decode cX11_next 61 = .ok (.aload_n 0, 1) := by decide +kernel
theorem dX11_next_62 : decode cX11_next 62 = .ok (.iconst 0, 1) := by decide +kernel
theorem dX11_next_63 : decode cX11_next 63 = .ok (.putfield 340, 3) := by decide +kernel
theorem dX11_next_66 : decode cX11_next 66 = .ok (.goto 102, 3) := by decide +kernel
theorem dX11_next_69 : decode cX11_next 69 = .ok (.iload_n 1, 1) := by decide +kernel
theorem dX11_next_70 : decode cX11_next 70 = .ok (.invokestatic 116, 3) := by decide +kernel
theorem dX11_next_73 : decode cX11_next 73 = .ok (.ifCond .eq 38, 3) := by decide +kernel
theorem dX11_next_76 : decode cX11_next 76 = .ok (.aload_n 0, 1) := by decide +kernel
theorem dX11_next_77 : decode cX11_next 77 = .ok (.aload_n 0, 1) := by decide +kernel
theorem dX11_next_78 : decode cX11_next 78 = .ok (.getfield 331, 3) := by decide +kernel
theorem dX11_next_81 : decode cX11_next 81 = .ok (.invokevirtual 334, 3) := by decide +kernel
theorem dX11_next_84 : decode cX11_next 84 = .ok (.invokestatic 116, 3) := by decide +kernel
theorem dX11_next_87 : decode cX11_next 87 = .ok (.ifCond .eq 16, 3) := by decide +kernel
theorem dX11_next_90 : decode cX11_next 90 = .ok (.aload_n 0, 1) := by decide +kernel
theorem dX11_next_91 : decode cX11_next 91 = .ok (.dup, 1) := by decide +kernel
theorem dX11_next_92 : decode cX11_next 92 = .ok (.getfield 331, 3) := by decide +kernel
theorem dX11_next_95 : decode cX11_next 95 = .ok (.iconst 1, 1) := by decide +kernel
theorem dX11_next_96 : decode cX11_next 96 = .ok (.iadd, 1) := by decide +kernel
theorem dX11_next_97 : decode cX11_next 97 = .ok (.putfield 331, 3) := by decide +kernel
theorem dX11_next_100 : decode cX11_next 100 = .ok (.goto (-24), 3) := by decide +kernel
theorem dX11_next_103 : decode cX11_next 103 = .ok (.aload_n 0, 1) := by decide +kernel
theorem dX11_next_104 : decode cX11_next 104 = .ok (.iconst 1, 1) := by decide +kernel
theorem dX11_next_105 : decode cX11_next 105 = .ok (.putfield 340, 3) := by decide +kernel
theorem dX11_next_108 : decode cX11_next 108 = .ok (.goto 60, 3) := by decide +kernel
theorem dX11_next_111 : decode cX11_next 111 = .ok (.iload_n 1, 1) := by decide +kernel
theorem dX11_next_112 : decode cX11_next 112 = .ok (.invokestatic 100, 3) := by decide +kernel
theorem dX11_next_115 : decode cX11_next 115 = .ok (.ifCond .eq 38, 3) := by decide +kernel
theorem dX11_next_118 : decode cX11_next 118 = .ok (.aload_n 0, 1) := by decide +kernel
theorem dX11_next_119 : decode cX11_next 119 = .ok (.aload_n 0, 1) := by decide +kernel
theorem dX11_next_120 : decode cX11_next 120 = .ok (.getfield 331, 3) := by decide +kernel
theorem dX11_next_123 : decode cX11_next 123 = .ok (.invokevirtual 334, 3) := by decide +kernel
theorem dX11_next_126 : decode cX11_next 126 = .ok (.invokestatic 100, 3) := by decide +kernel
theorem dX11_next_129 : decode cX11_next 129 = .ok (.ifCond .eq 16, 3) := by decide +kernel
theorem dX11_next_132 : decode cX11_next 132 = .ok (.aload_n 0, 1) := by decide +kernel
theorem dX11_next_133 : decode cX11_next 133 = .ok (.dup, 1) := by decide +kernel
theorem dX11_next_134 : decode cX11_next 134 = .ok (.getfield 331, 3) := by decide +kernel
theorem dX11_next_137 : decode cX11_next 137 = .ok (.iconst 1, 1) := by decide +kernel
theorem dX11_next_138 : decode cX11_next 138 = .ok (.iadd, 1) := by decide +kernel
theorem dX11_next_139 : decode cX11_next 139 = .ok (.putfield 331, 3) := by decide +kernel
theorem dX11_next_142 : decode cX11_next 142 = .ok (.goto (-24), 3) := by decide +kernel
theorem dX11_next_145 : decode cX11_next 145 = .ok (.aload_n 0, 1) := by decide +kernel
theorem dX11_next_146 : decode cX11_next 146 = .ok (.iconst 2, 1) := by decide +kernel
theorem dX11_next_147 : decode cX11_next 147 = .ok (.putfield 340, 3) := by decide +kernel
theorem dX11_next_150 : decode cX11_next 150 = .ok (.goto 18, 3) := by decide +kernel
theorem dX11_next_153 : decode cX11_next 153 = .ok (.aload_n 0, 1) := by decide +kernel
theorem dX11_next_154 : decode cX11_next 154 = .ok (.dup, 1) := by decide +kernel
theorem dX11_next_155 : decode cX11_next 155 = .ok (.getfield 331, 3) := by decide +kernel
theorem dX11_next_158 : decode cX11_next 158 = .ok (.iconst 1, 1) := by decide +kernel
theorem dX11_next_159 : decode cX11_next 159 = .ok (.iadd, 1) := by decide +kernel
theorem dX11_next_160 : decode cX11_next 160 = .ok (.putfield 331, 3) := by decide +kernel
theorem dX11_next_163 : decode cX11_next 163 = .ok (.aload_n 0, 1) := by decide +kernel
theorem dX11_next_164 : decode cX11_next 164 = .ok (.iconst 3, 1) := by decide +kernel
theorem dX11_next_165 : decode cX11_next 165 = .ok (.putfield 340, 3) := by decide +kernel
theorem dX11_next_168 : decode cX11_next 168 = .ok (.aload_n 0, 1) := by decide +kernel
theorem dX11_next_169 : decode cX11_next 169 = .ok (.aload_n 0, 1) := by decide +kernel
theorem dX11_next_170 : decode cX11_next 170 = .ok (.getfield 331, 3) := by decide +kernel
theorem dX11_next_173 : decode cX11_next 173 = .ok (.putfield 343, 3) := by decide +kernel
theorem dX11_next_176 : decode cX11_next 176 = .ok (.return_, 1) := by decide +kernel
def jX11_next_26_0 (Y : XS) (n : Nat) (S : PS) (v0 : Nat) : Option (PS ⊕ (PS)) :=
  kgi S v0 30 (fun x28 => kpi S v0 30 (x28 + (1 : Int32)) (fun S33 => some (.inl S33)))
def jX11_next_168_0 (Y : XS) (n : Nat) (S : PS) (v0 : Nat) : Option (PS ⊕ (PS)) :=
  kgi S v0 30 (fun x170 => kpi S v0 33 x170 (fun S173 => some (.inr S173)))
def bX11_next_118 (Y : XS) (n : Nat) (v0 : Nat) (s118 : PS) : Option (PS ⊕ PS) :=
  kgi s118 v0 30 (fun x120 => kc (fX11_byteAt Y n s118 v0 x120) (fun q123 => kc (fX11_isFigure Y n s118 q123) (fun q126 => (if q126 = 0 then some (.inr s118) else kgi s118 v0 30 (fun x134 => kpi s118 v0 30 (x134 + (1 : Int32)) (fun S139 => some (.inl S139)))))))
def bX11_next_76 (Y : XS) (n : Nat) (v0 : Nat) (s76 : PS) : Option (PS ⊕ PS) :=
  kgi s76 v0 30 (fun x78 => kc (fX11_byteAt Y n s76 v0 x78) (fun q81 => kc (fX11_isSmall Y n s76 q81) (fun q84 => (if q84 = 0 then some (.inr s76) else kgi s76 v0 30 (fun x92 => kpi s76 v0 30 (x92 + (1 : Int32)) (fun S97 => some (.inl S97)))))))
def bX11_next_0 (Y : XS) (n : Nat) (v0 : Nat) (s0 : PS) : Option (PS ⊕ (PS)) :=
  kgi s0 v0 30 (fun x2 => kc (fX11_byteAt Y n s0 v0 x2) (fun q5 => (if q5 = (32 : Int32) then jX11_next_26_0 Y n s0 v0 else kgi s0 v0 30 (fun x15 => kc (fX11_byteAt Y n s0 v0 x15) (fun q18 => (if q18 = (10 : Int32) then jX11_next_26_0 Y n s0 v0 else kgi s0 v0 30 (fun x41 => kpi s0 v0 32 x41 (fun S44 => kgi S44 v0 30 (fun x49 => kc (fX11_byteAt Y n S44 v0 x49) (fun q52 => (if q52 = (-1 : Int32) then kpi S44 v0 31 (0 : Int32) (fun S63 => jX11_next_168_0 Y n S63 v0) else kc (fX11_isSmall Y n S44 q52) (fun q70 => (if q70 = 0 then kc (fX11_isFigure Y n S44 q52) (fun q112 => (if q112 = 0 then kgi S44 v0 30 (fun x155 => kpi S44 v0 30 (x155 + (1 : Int32)) (fun S160 => kpi S160 v0 31 (3 : Int32) (fun S165 => jX11_next_168_0 Y n S165 v0))) else kc (iter (bX11_next_118 Y n v0) n S44) (fun r118 => kpi r118 v0 31 (2 : Int32) (fun S147 => jX11_next_168_0 Y n S147 v0)))) else kc (iter (bX11_next_76 Y n v0) n S44) (fun r76 => kpi r76 v0 31 (1 : Int32) (fun S105 => jX11_next_168_0 Y n S105 v0)))))))))))))))
def fX11_next (Y : XS) (n : Nat) (S : PS) (a0 : Nat) : Option (PS) :=
  kc (iter (bX11_next_0 Y n a0) n S) (fun r0 => some r0)
theorem wjX11_next_26_0 {C : CT} {X : XT} (hC : CK C RX11 cX11_next 2 none 2) (n : Nat) (S : PS) (v0 : Nat)  (hTv0 : Ty X.2.1 v0 11) {o : PS ⊕ (PS)} (hf : jX11_next_26_0 X.2.1 n S v0 = some o) (hN : ∀ s', o = .inl s' → UW C X s' 0 [(0, .ref (X.1 v0))] []) (hR : ∀ q', o = .inr q' → Rt C X cX11_next none none q') : UW C X S 26 [(0, .ref (X.1 v0))] [] := by
  unfold jX11_next_26_0 at hf
  refine u_aload_n hC dX11_next_26 0 rfl rfl ?_
  refine u_dup hC dX11_next_27 rfl ?_
  refine u_gi hC lf_X11_331 rfl hTv0 dX11_next_28 hf (fun x28 hf => ?_)
  refine u_iconst (v := (1 : Int32)) hC dX11_next_31 (by decide) ?_
  refine u_iadd hC dX11_next_32 ?_
  refine u_pi hC lf_X11_331 rfl rfl rfl hTv0 dX11_next_33 hf (fun S33 hf => ?_)
  refine u_goto (tgt := 0) hC dX11_next_36 (by decide) ?_
  exact hN _ (Option.some.inj hf).symm
theorem wjX11_next_168_0 {C : CT} {X : XT} (hC : CK C RX11 cX11_next 2 none 2) (n : Nat) (S : PS) (v0 : Nat)  (hTv0 : Ty X.2.1 v0 11) {o : PS ⊕ (PS)} (hf : jX11_next_168_0 X.2.1 n S v0 = some o) (hN : ∀ s', o = .inl s' → UW C X s' 0 [(0, .ref (X.1 v0))] []) (hR : ∀ q', o = .inr q' → Rt C X cX11_next none none q') : UW C X S 168 [(0, .ref (X.1 v0))] [] := by
  unfold jX11_next_168_0 at hf
  refine u_aload_n hC dX11_next_168 0 rfl rfl ?_
  refine u_aload_n hC dX11_next_169 0 rfl rfl ?_
  refine u_gi hC lf_X11_331 rfl hTv0 dX11_next_170 hf (fun x170 hf => ?_)
  refine u_pi hC lf_X11_343 rfl rfl rfl hTv0 dX11_next_173 hf (fun S173 hf => ?_)
  exact hR _ (Option.some.inj hf).symm _ _ dX11_next_176 trivial
theorem wbX11_next_118 {C : CT} {X : XT} (hC : CK C RX11 cX11_next 2 none 2) (n : Nat) (v0 : Nat) (hTv0 : Ty X.2.1 v0 11) (s118 : PS) {o : PS ⊕ PS} (hf : bX11_next_118 X.2.1 n v0 s118 = some o) (hN : ∀ s', o = .inl s' → UW C X s' 118 [(0, .ref (X.1 v0))] []) (hO0 : ∀ p', o = .inr p' → UW C X p' 145 [(0, .ref (X.1 v0))] []) : UW C X s118 118 [(0, .ref (X.1 v0))] [] := by
  unfold bX11_next_118 at hf
  refine u_aload_n hC dX11_next_118 0 rfl rfl ?_
  refine u_aload_n hC dX11_next_119 0 rfl rfl ?_
  refine u_gi hC lf_X11_331 rfl hTv0 dX11_next_120 hf (fun x120 hf => ?_)
  obtain ⟨q123, hq123, hf⟩ := kc_some hf
  refine u_callV hC (ctX11_byteAt (cL C) hC.tr (cG C) X.1 X.2.1 n s118 v0 x120 hTv0 hq123) lk_X11_334 rfl hTv0 (by decide) rfl (by decide) (by decide) rfl rfl (Nat.le_of_ble_eq_true rfl) dX11_next_123 ?_
  obtain ⟨q126, hq126, hf⟩ := kc_some hf
  refine u_callS hC (ctX11_isFigure (cL C) hC.tr (cG C) X.1 X.2.1 n s118 q123  hq126) lk_X11_100 (by decide) (by decide) rfl rfl (Nat.le_of_ble_eq_true rfl) dX11_next_126 ?_
  refine u_if_eq (tgt := 145) hC dX11_next_129 (by decide) hf (fun h129 hf => ?_) (fun h129 hf => ?_)
  · exact hO0 _ (Option.some.inj hf).symm
  · refine u_aload_n hC dX11_next_132 0 rfl rfl ?_
    refine u_dup hC dX11_next_133 rfl ?_
    refine u_gi hC lf_X11_331 rfl hTv0 dX11_next_134 hf (fun x134 hf => ?_)
    refine u_iconst (v := (1 : Int32)) hC dX11_next_137 (by decide) ?_
    refine u_iadd hC dX11_next_138 ?_
    refine u_pi hC lf_X11_331 rfl rfl rfl hTv0 dX11_next_139 hf (fun S139 hf => ?_)
    refine u_goto (tgt := 118) hC dX11_next_142 (by decide) ?_
    exact hN _ (Option.some.inj hf).symm
theorem wbX11_next_76 {C : CT} {X : XT} (hC : CK C RX11 cX11_next 2 none 2) (n : Nat) (v0 : Nat) (hTv0 : Ty X.2.1 v0 11) (s76 : PS) {o : PS ⊕ PS} (hf : bX11_next_76 X.2.1 n v0 s76 = some o) (hN : ∀ s', o = .inl s' → UW C X s' 76 [(0, .ref (X.1 v0))] []) (hO0 : ∀ p', o = .inr p' → UW C X p' 103 [(0, .ref (X.1 v0))] []) : UW C X s76 76 [(0, .ref (X.1 v0))] [] := by
  unfold bX11_next_76 at hf
  refine u_aload_n hC dX11_next_76 0 rfl rfl ?_
  refine u_aload_n hC dX11_next_77 0 rfl rfl ?_
  refine u_gi hC lf_X11_331 rfl hTv0 dX11_next_78 hf (fun x78 hf => ?_)
  obtain ⟨q81, hq81, hf⟩ := kc_some hf
  refine u_callV hC (ctX11_byteAt (cL C) hC.tr (cG C) X.1 X.2.1 n s76 v0 x78 hTv0 hq81) lk_X11_334 rfl hTv0 (by decide) rfl (by decide) (by decide) rfl rfl (Nat.le_of_ble_eq_true rfl) dX11_next_81 ?_
  obtain ⟨q84, hq84, hf⟩ := kc_some hf
  refine u_callS hC (ctX11_isSmall (cL C) hC.tr (cG C) X.1 X.2.1 n s76 q81  hq84) lk_X11_116 (by decide) (by decide) rfl rfl (Nat.le_of_ble_eq_true rfl) dX11_next_84 ?_
  refine u_if_eq (tgt := 103) hC dX11_next_87 (by decide) hf (fun h87 hf => ?_) (fun h87 hf => ?_)
  · exact hO0 _ (Option.some.inj hf).symm
  · refine u_aload_n hC dX11_next_90 0 rfl rfl ?_
    refine u_dup hC dX11_next_91 rfl ?_
    refine u_gi hC lf_X11_331 rfl hTv0 dX11_next_92 hf (fun x92 hf => ?_)
    refine u_iconst (v := (1 : Int32)) hC dX11_next_95 (by decide) ?_
    refine u_iadd hC dX11_next_96 ?_
    refine u_pi hC lf_X11_331 rfl rfl rfl hTv0 dX11_next_97 hf (fun S97 hf => ?_)
    refine u_goto (tgt := 76) hC dX11_next_100 (by decide) ?_
    exact hN _ (Option.some.inj hf).symm
theorem wbX11_next_0 {C : CT} {X : XT} (hC : CK C RX11 cX11_next 2 none 2) (n : Nat) (v0 : Nat) (hTv0 : Ty X.2.1 v0 11) (s0 : PS) {o : PS ⊕ (PS)} (hf : bX11_next_0 X.2.1 n v0 s0 = some o) (hN : ∀ s', o = .inl s' → UW C X s' 0 [(0, .ref (X.1 v0))] []) (hR : ∀ q', o = .inr q' → Rt C X cX11_next none none q') : UW C X s0 0 [(0, .ref (X.1 v0))] [] := by
  unfold bX11_next_0 at hf
  refine u_aload_n hC dX11_next_0 0 rfl rfl ?_
  refine u_aload_n hC dX11_next_1 0 rfl rfl ?_
  refine u_gi hC lf_X11_331 rfl hTv0 dX11_next_2 hf (fun x2 hf => ?_)
  obtain ⟨q5, hq5, hf⟩ := kc_some hf
  refine u_callV hC (ctX11_byteAt (cL C) hC.tr (cG C) X.1 X.2.1 n s0 v0 x2 hTv0 hq5) lk_X11_334 rfl hTv0 (by decide) rfl (by decide) (by decide) rfl rfl (Nat.le_of_ble_eq_true rfl) dX11_next_5 ?_
  refine u_bipush (v := (32 : Int32)) hC dX11_next_8 (by decide) ?_
  refine u_icmp_eq (tgt := 26) hC dX11_next_10 (by decide) hf (fun h10 hf => ?_) (fun h10 hf => ?_)
  · exact wjX11_next_26_0 hC n s0 v0  hTv0 hf hN hR
  · refine u_aload_n hC dX11_next_13 0 rfl rfl ?_
    refine u_aload_n hC dX11_next_14 0 rfl rfl ?_
    refine u_gi hC lf_X11_331 rfl hTv0 dX11_next_15 hf (fun x15 hf => ?_)
    obtain ⟨q18, hq18, hf⟩ := kc_some hf
    refine u_callV hC (ctX11_byteAt (cL C) hC.tr (cG C) X.1 X.2.1 n s0 v0 x15 hTv0 hq18) lk_X11_334 rfl hTv0 (by decide) rfl (by decide) (by decide) rfl rfl (Nat.le_of_ble_eq_true rfl) dX11_next_18 ?_
    refine u_bipush (v := (10 : Int32)) hC dX11_next_21 (by decide) ?_
    refine u_icmp_ne (tgt := 39) hC dX11_next_23 (by decide) hf (fun h23 hf => ?_) (fun h23 hf => ?_)
    · refine u_aload_n hC dX11_next_39 0 rfl rfl ?_
      refine u_aload_n hC dX11_next_40 0 rfl rfl ?_
      refine u_gi hC lf_X11_331 rfl hTv0 dX11_next_41 hf (fun x41 hf => ?_)
      refine u_pi hC lf_X11_337 rfl rfl rfl hTv0 dX11_next_44 hf (fun S44 hf => ?_)
      refine u_aload_n hC dX11_next_47 0 rfl rfl ?_
      refine u_aload_n hC dX11_next_48 0 rfl rfl ?_
      refine u_gi hC lf_X11_331 rfl hTv0 dX11_next_49 hf (fun x49 hf => ?_)
      obtain ⟨q52, hq52, hf⟩ := kc_some hf
      refine u_callV hC (ctX11_byteAt (cL C) hC.tr (cG C) X.1 X.2.1 n S44 v0 x49 hTv0 hq52) lk_X11_334 rfl hTv0 (by decide) rfl (by decide) (by decide) rfl rfl (Nat.le_of_ble_eq_true rfl) dX11_next_52 ?_
      refine u_istore_n (lv' := [(1, .int q52), (0, .ref (X.1 v0))]) hC dX11_next_55 rfl (by decide) rfl ?_
      refine u_iload_n hC dX11_next_56 0 rfl rfl ?_
      refine u_iconst (v := (-1 : Int32)) hC dX11_next_57 (by decide) ?_
      refine u_icmp_ne (tgt := 69) hC dX11_next_58 (by decide) hf (fun h58 hf => ?_) (fun h58 hf => ?_)
      · refine u_iload_n hC dX11_next_69 0 rfl rfl ?_
        obtain ⟨q70, hq70, hf⟩ := kc_some hf
        refine u_callS hC (ctX11_isSmall (cL C) hC.tr (cG C) X.1 X.2.1 n S44 q52  hq70) lk_X11_116 (by decide) (by decide) rfl rfl (Nat.le_of_ble_eq_true rfl) dX11_next_70 ?_
        refine u_if_eq (tgt := 111) hC dX11_next_73 (by decide) hf (fun h73 hf => ?_) (fun h73 hf => ?_)
        · refine u_iload_n hC dX11_next_111 0 rfl rfl ?_
          obtain ⟨q112, hq112, hf⟩ := kc_some hf
          refine u_callS hC (ctX11_isFigure (cL C) hC.tr (cG C) X.1 X.2.1 n S44 q52  hq112) lk_X11_100 (by decide) (by decide) rfl rfl (Nat.le_of_ble_eq_true rfl) dX11_next_112 ?_
          refine u_if_eq (tgt := 153) hC dX11_next_115 (by decide) hf (fun h115 hf => ?_) (fun h115 hf => ?_)
          · refine u_aload_n hC dX11_next_153 1 rfl rfl ?_
            refine u_dup hC dX11_next_154 rfl ?_
            refine u_gi hC lf_X11_331 rfl hTv0 dX11_next_155 hf (fun x155 hf => ?_)
            refine u_iconst (v := (1 : Int32)) hC dX11_next_158 (by decide) ?_
            refine u_iadd hC dX11_next_159 ?_
            refine u_pi hC lf_X11_331 rfl rfl rfl hTv0 dX11_next_160 hf (fun S160 hf => ?_)
            refine u_aload_n hC dX11_next_163 1 rfl rfl ?_
            refine u_iconst (v := (3 : Int32)) hC dX11_next_164 (by decide) ?_
            refine u_pi hC lf_X11_340 rfl rfl rfl hTv0 dX11_next_165 hf (fun S165 hf => ?_)
            refine u_sub (lv' := [(0, .ref (X.1 v0))]) [1] rfl ?_
            exact wjX11_next_168_0 hC n S165 v0  hTv0 hf hN hR
          · obtain ⟨r118, hr118, hf⟩ := kc_some hf
            have hk118 : UW C X r118 145 [(0, .ref (X.1 v0))] [] := by
              refine u_aload_n hC dX11_next_145 0 rfl rfl ?_
              refine u_iconst (v := (2 : Int32)) hC dX11_next_146 (by decide) ?_
              refine u_pi hC lf_X11_340 rfl rfl rfl hTv0 dX11_next_147 hf (fun S147 hf => ?_)
              refine u_goto (tgt := 168) hC dX11_next_150 (by decide) ?_
              exact wjX11_next_168_0 hC n S147 v0  hTv0 hf hN hR
            refine u_sub (lv' := [(0, .ref (X.1 v0))]) [1] rfl ?_
            refine iter_ind (P := fun s118 => UW C X s118 118 [(0, .ref (X.1 v0))] []) (fun s118 o' hb hin hout => ?_) n S44 hr118
            exact wbX11_next_118 hC n v0 hTv0 s118 hb hin (fun p e => by rw [hout p e]; exact hk118)
        · obtain ⟨r76, hr76, hf⟩ := kc_some hf
          have hk76 : UW C X r76 103 [(0, .ref (X.1 v0))] [] := by
            refine u_aload_n hC dX11_next_103 0 rfl rfl ?_
            refine u_iconst (v := (1 : Int32)) hC dX11_next_104 (by decide) ?_
            refine u_pi hC lf_X11_340 rfl rfl rfl hTv0 dX11_next_105 hf (fun S105 hf => ?_)
            refine u_goto (tgt := 168) hC dX11_next_108 (by decide) ?_
            exact wjX11_next_168_0 hC n S105 v0  hTv0 hf hN hR
          refine u_sub (lv' := [(0, .ref (X.1 v0))]) [1] rfl ?_
          refine iter_ind (P := fun s76 => UW C X s76 76 [(0, .ref (X.1 v0))] []) (fun s76 o' hb hin hout => ?_) n S44 hr76
          exact wbX11_next_76 hC n v0 hTv0 s76 hb hin (fun p e => by rw [hout p e]; exact hk76)
      · refine u_aload_n hC dX11_next_61 1 rfl rfl ?_
        refine u_iconst (v := (0 : Int32)) hC dX11_next_62 (by decide) ?_
        refine u_pi hC lf_X11_340 rfl rfl rfl hTv0 dX11_next_63 hf (fun S63 hf => ?_)
        refine u_goto (tgt := 168) hC dX11_next_66 (by decide) ?_
        refine u_sub (lv' := [(0, .ref (X.1 v0))]) [1] rfl ?_
        exact wjX11_next_168_0 hC n S63 v0  hTv0 hf hN hR
    · exact wjX11_next_26_0 hC n s0 v0  hTv0 hf hN hR
theorem wX11_next {C : CT} {X : XT} (hC : CK C RX11 cX11_next 2 none 2) (n : Nat) (S : PS) (a0 : Nat) (hTa0 : Ty X.2.1 a0 11) {o : PS} (hf : fX11_next X.2.1 n S a0 = some o) (hR : Rt C X cX11_next none none o) : UW C X S 0 [(0, .ref (X.1 a0))] [] := by
  unfold fX11_next at hf
  obtain ⟨r0, hr0, hf⟩ := kc_some hf
  have hk0 : Rt C X cX11_next none none r0 := by
    cases hf
    exact hR
  refine iter_ind (P := fun s0 => UW C X s0 0 [(0, .ref (X.1 a0))] []) (fun s0 o' hb hin hout => ?_) n S hr0
  exact wbX11_next_0 hC n a0 hTa0 s0 hb hin (fun p e => by rw [hout p e]; exact hk0)
theorem ctX11_next (l : Launch) (hl : l.stackTraces = false) (G : GT) (ρ : Nat → Nat) (Y : XS) (n : Nat) (S : PS) (a0 : Nat) (hTa0 : Ty Y a0 11) {o : PS} (hf : fX11_next Y n S a0 = some o) : Mt l G yX11_next cX11_next 2 none 2 ρ Y [.ref (ρ a0)] S none o :=
  Mt_of hl (by decide) (Nat.le_of_ble_eq_true rfl) (fun C _ _ hC hR => wX11_next (X := (ρ, Y, 0, 0)) hC n S a0 hTa0 hf hR)
-- X11_wrong
theorem dX11_wrong_0 : decode cX11_wrong 0 = .ok (.aload_n 0, 1) := by decide +kernel
theorem dX11_wrong_1 : decode cX11_wrong 1 = .ok (.getfield 346, 3) := by decide +kernel
theorem dX11_wrong_4 : decode cX11_wrong 4 = .ok (.ifCond .eq 4, 3) := by decide +kernel
theorem dX11_wrong_7 : decode cX11_wrong 7 = .ok (.return_, 1) := by decide +kernel
theorem dX11_wrong_8 : decode cX11_wrong 8 = .ok (.aload_n 0, 1) := by decide +kernel
theorem dX11_wrong_9 : decode cX11_wrong 9 = .ok (.iload_n 1, 1) := by decide +kernel
theorem dX11_wrong_10 : decode cX11_wrong 10 = .ok (.putfield 346, 3) := by decide +kernel
theorem dX11_wrong_13 : decode cX11_wrong 13 = .ok (.aload_n 0, 1) := by decide +kernel
theorem dX11_wrong_14 : decode cX11_wrong 14 = .ok (.aload_n 0, 1) := by decide +kernel
theorem dX11_wrong_15 : decode cX11_wrong 15 = .ok (.getfield 337, 3) := by decide +kernel
theorem dX11_wrong_18 : decode cX11_wrong 18 = .ok (.putfield 349, 3) := by decide +kernel
theorem dX11_wrong_21 : decode cX11_wrong 21 = .ok (.return_, 1) := by decide +kernel
def fX11_wrong (Y : XS) (n : Nat) (S : PS) (a0 : Nat) (x1_ : Int32) : Option (PS) :=
  kgi S a0 34 (fun x1 => (if x1 = 0 then kpi S a0 34 x1_ (fun S10 => kgi S10 a0 32 (fun x15 => kpi S10 a0 35 x15 (fun S18 => some S18))) else some S))
theorem wX11_wrong {C : CT} {X : XT} (hC : CK C RX11 cX11_wrong 2 none 1) (n : Nat) (S : PS) (a0 : Nat) (x1_ : Int32) (hTa0 : Ty X.2.1 a0 11) {o : PS} (hf : fX11_wrong X.2.1 n S a0 x1_ = some o) (hR : Rt C X cX11_wrong none none o) : UW C X S 0 [(0, .ref (X.1 a0)), (1, .int x1_)] [] := by
  unfold fX11_wrong at hf
  refine u_aload_n hC dX11_wrong_0 0 rfl rfl ?_
  refine u_gi hC lf_X11_346 rfl hTa0 dX11_wrong_1 hf (fun x1 hf => ?_)
  refine u_if_eq (tgt := 8) hC dX11_wrong_4 (by decide) hf (fun h4 hf => ?_) (fun h4 hf => ?_)
  · refine u_aload_n hC dX11_wrong_8 0 rfl rfl ?_
    refine u_iload_n hC dX11_wrong_9 1 rfl rfl ?_
    refine u_pi hC lf_X11_346 rfl rfl rfl hTa0 dX11_wrong_10 hf (fun S10 hf => ?_)
    refine u_aload_n hC dX11_wrong_13 0 rfl rfl ?_
    refine u_aload_n hC dX11_wrong_14 0 rfl rfl ?_
    refine u_gi hC lf_X11_337 rfl hTa0 dX11_wrong_15 hf (fun x15 hf => ?_)
    refine u_pi hC lf_X11_349 rfl rfl rfl hTa0 dX11_wrong_18 hf (fun S18 hf => ?_)
    cases hf
    exact hR _ _ dX11_wrong_21 trivial
  · cases hf
    exact hR _ _ dX11_wrong_7 trivial
theorem ctX11_wrong (l : Launch) (hl : l.stackTraces = false) (G : GT) (ρ : Nat → Nat) (Y : XS) (n : Nat) (S : PS) (a0 : Nat) (x1_ : Int32) (hTa0 : Ty Y a0 11) {o : PS} (hf : fX11_wrong Y n S a0 x1_ = some o) : Mt l G yX11_wrong cX11_wrong 2 none 1 ρ Y [.ref (ρ a0), .int x1_] S none o :=
  Mt_of hl (by decide) (Nat.le_of_ble_eq_true rfl) (fun C _ _ hC hR => wX11_wrong (X := (ρ, Y, 0, 0)) hC n S a0 x1_ hTa0 hf hR)
-- X11_pass
theorem dX11_pass_0 : decode cX11_pass 0 = .ok (.aload_n 0, 1) := by decide +kernel
theorem dX11_pass_1 : decode cX11_pass 1 = .ok (.getfield 346, 3) := by decide +kernel
theorem dX11_pass_4 : decode cX11_pass 4 = .ok (.ifCond .ne 7, 3) := by decide +kernel
theorem dX11_pass_7 : decode cX11_pass 7 = .ok (.aload_n 0, 1) := by decide +kernel
theorem dX11_pass_8 : decode cX11_pass 8 = .ok (.invokevirtual 352, 3) := by decide +kernel
theorem dX11_pass_11 : decode cX11_pass 11 = .ok (.return_, 1) := by decide +kernel
def jX11_pass_11 (Y : XS) (n : Nat) (S : PS)  : Option (PS) :=
  some S
def fX11_pass (Y : XS) (n : Nat) (S : PS) (a0 : Nat) : Option (PS) :=
  kgi S a0 34 (fun x1 => (if x1 = 0 then kc (fX11_next Y n S a0) (fun q8 => jX11_pass_11 Y n q8 ) else jX11_pass_11 Y n S ))
theorem wjX11_pass_11 {C : CT} {X : XT} (hC : CK C RX11 cX11_pass 1 none 3) (n : Nat) (S : PS)    {o : PS} (hf : jX11_pass_11 X.2.1 n S  = some o) (hR : Rt C X cX11_pass none none o) : UW C X S 11 [] [] := by
  unfold jX11_pass_11 at hf
  cases hf
  exact hR _ _ dX11_pass_11 trivial
theorem wX11_pass {C : CT} {X : XT} (hC : CK C RX11 cX11_pass 1 none 3) (n : Nat) (S : PS) (a0 : Nat) (hTa0 : Ty X.2.1 a0 11) {o : PS} (hf : fX11_pass X.2.1 n S a0 = some o) (hR : Rt C X cX11_pass none none o) : UW C X S 0 [(0, .ref (X.1 a0))] [] := by
  unfold fX11_pass at hf
  refine u_aload_n hC dX11_pass_0 0 rfl rfl ?_
  refine u_gi hC lf_X11_346 rfl hTa0 dX11_pass_1 hf (fun x1 hf => ?_)
  refine u_if_ne (tgt := 11) hC dX11_pass_4 (by decide) hf (fun h4 hf => ?_) (fun h4 hf => ?_)
  · refine u_sub (lv' := []) [] rfl ?_
    exact wjX11_pass_11 hC n S    hf hR
  · refine u_aload_n hC dX11_pass_7 0 rfl rfl ?_
    obtain ⟨q8, hq8, hf⟩ := kc_some hf
    refine u_callV hC (ctX11_next (cL C) hC.tr (cG C) X.1 X.2.1 n S a0 hTa0 hq8) lk_X11_352 rfl hTa0 (by decide) rfl (by decide) (by decide) rfl rfl (Nat.le_of_ble_eq_true rfl) dX11_pass_8 ?_
    refine u_sub (lv' := []) [] rfl ?_
    exact wjX11_pass_11 hC n q8    hf hR
theorem ctX11_pass (l : Launch) (hl : l.stackTraces = false) (G : GT) (ρ : Nat → Nat) (Y : XS) (n : Nat) (S : PS) (a0 : Nat) (hTa0 : Ty Y a0 11) {o : PS} (hf : fX11_pass Y n S a0 = some o) : Mt l G yX11_pass cX11_pass 1 none 3 ρ Y [.ref (ρ a0)] S none o :=
  Mt_of hl (by decide) (Nat.le_of_ble_eq_true rfl) (fun C _ _ hC hR => wX11_pass (X := (ρ, Y, 0, 0)) hC n S a0 hTa0 hf hR)
-- X11_isSign
theorem dX11_isSign_0 : decode cX11_isSign 0 = .ok (.aload_n 0, 1) := by decide +kernel
theorem dX11_isSign_1 : decode cX11_isSign 1 = .ok (.getfield 346, 3) := by decide +kernel
theorem dX11_isSign_4 : decode cX11_isSign 4 = .ok (.ifCond .ne 28, 3) := by decide +kernel
theorem dX11_isSign_7 : decode cX11_isSign 7 = .ok (.aload_n 0, 1) := by decide +kernel
theorem dX11_isSign_8 : decode cX11_isSign 8 = .ok (.getfield 340, 3) := by decide +kernel
theorem dX11_isSign_11 : decode cX11_isSign 11 = .ok (.iconst 3, 1) := by decide +kernel
theorem dX11_isSign_12 : decode cX11_isSign 12 = .ok (.if_icmp .ne 20, 3) := by decide +kernel
theorem dX11_isSign_15 : decode cX11_isSign 15 = .ok (.aload_n 0, 1) := by decide +kernel
theorem dX11_isSign_16 : decode cX11_isSign 16 = .ok (.getfield 63, 3) := by decide +kernel
theorem dX11_isSign_19 : decode cX11_isSign 19 = .ok (.aload_n 0, 1) := by decide +kernel
theorem dX11_isSign_20 : decode cX11_isSign 20 = .ok (.getfield 337, 3) := by decide +kernel
theorem dX11_isSign_23 : decode cX11_isSign 23 = .ok (.iaload, 1) := by decide +kernel
theorem dX11_isSign_24 : decode cX11_isSign 24 = .ok (.iload_n 1, 1) := by decide +kernel
theorem dX11_isSign_25 : decode cX11_isSign 25 = .ok (.if_icmp .ne 7, 3) := by decide +kernel
theorem dX11_isSign_28 : decode cX11_isSign 28 = .ok (.iconst 1, 1) := by decide +kernel
theorem dX11_isSign_29 : decode cX11_isSign 29 = .ok (.goto 4, 3) := by decide +kernel
theorem dX11_isSign_32 : decode cX11_isSign 32 = .ok (.iconst 0, 1) := by decide +kernel
theorem dX11_isSign_33 : decode cX11_isSign 33 = .ok (.ireturn, 1) := by decide +kernel
def jX11_isSign_33 (Y : XS) (n : Nat) (S : PS) (t0 : Int32) : Option (Int32) :=
  kzr t0 (some t0)
def jX11_isSign_32 (Y : XS) (n : Nat) (S : PS)  : Option (Int32) :=
  jX11_isSign_33 Y n S (0 : Int32)
def fX11_isSign (Y : XS) (n : Nat) (S : PS) (a0 : Nat) (x1_ : Int32) : Option (Int32) :=
  kgi S a0 34 (fun x1 => (if x1 = 0 then kgi S a0 31 (fun x8 => (if x8 = (3 : Int32) then kgr S a0 27 (fun b16 => kgi S a0 32 (fun x20 => kai Y S b16 x20 (fun x23 => (if x23 = x1_ then jX11_isSign_33 Y n S (1 : Int32) else jX11_isSign_32 Y n S )))) else jX11_isSign_32 Y n S )) else jX11_isSign_32 Y n S ))
theorem wjX11_isSign_33 {C : CT} {X : XT} (hC : CK C RX11 cX11_isSign 2 (some .boolean) 1) (n : Nat) (S : PS) (t0 : Int32)   {o : Int32} (hf : jX11_isSign_33 X.2.1 n S t0 = some o) (hR : Rt C X cX11_isSign (some .boolean) (some (.int o)) S) : UW C X S 33 [] [.int t0] := by
  unfold jX11_isSign_33 at hf
  obtain ⟨hz, hf⟩ := kzr_some hf
  cases hf
  exact hR _ _ dX11_isSign_33 hz
theorem wjX11_isSign_32 {C : CT} {X : XT} (hC : CK C RX11 cX11_isSign 2 (some .boolean) 1) (n : Nat) (S : PS)    {o : Int32} (hf : jX11_isSign_32 X.2.1 n S  = some o) (hR : Rt C X cX11_isSign (some .boolean) (some (.int o)) S) : UW C X S 32 [] [] := by
  unfold jX11_isSign_32 at hf
  refine u_iconst (v := (0 : Int32)) hC dX11_isSign_32 (by decide) ?_
  exact wjX11_isSign_33 hC n S (0 : Int32)   hf hR
theorem wX11_isSign {C : CT} {X : XT} (hC : CK C RX11 cX11_isSign 2 (some .boolean) 1) (n : Nat) (S : PS) (a0 : Nat) (x1_ : Int32) (hTa0 : Ty X.2.1 a0 11) {o : Int32} (hf : fX11_isSign X.2.1 n S a0 x1_ = some o) (hR : Rt C X cX11_isSign (some .boolean) (some (.int o)) S) : UW C X S 0 [(0, .ref (X.1 a0)), (1, .int x1_)] [] := by
  unfold fX11_isSign at hf
  refine u_aload_n hC dX11_isSign_0 0 rfl rfl ?_
  refine u_gi hC lf_X11_346 rfl hTa0 dX11_isSign_1 hf (fun x1 hf => ?_)
  refine u_if_ne (tgt := 32) hC dX11_isSign_4 (by decide) hf (fun h4 hf => ?_) (fun h4 hf => ?_)
  · refine u_sub (lv' := []) [] rfl ?_
    exact wjX11_isSign_32 hC n S    hf hR
  · refine u_aload_n hC dX11_isSign_7 0 rfl rfl ?_
    refine u_gi hC lf_X11_340 rfl hTa0 dX11_isSign_8 hf (fun x8 hf => ?_)
    refine u_iconst (v := (3 : Int32)) hC dX11_isSign_11 (by decide) ?_
    refine u_icmp_ne (tgt := 32) hC dX11_isSign_12 (by decide) hf (fun h12 hf => ?_) (fun h12 hf => ?_)
    · refine u_sub (lv' := []) [] rfl ?_
      exact wjX11_isSign_32 hC n S    hf hR
    · refine u_aload_n hC dX11_isSign_15 0 rfl rfl ?_
      refine u_gr hC lf_X11_63 rfl hTa0 dX11_isSign_16 hf (fun b16 hTb16 hf => ?_)
      refine u_aload_n hC dX11_isSign_19 0 rfl rfl ?_
      refine u_gi hC lf_X11_337 rfl hTa0 dX11_isSign_20 hf (fun x20 hf => ?_)
      refine u_ai hC hTb16 dX11_isSign_23 hf (fun x23 hf => ?_)
      refine u_iload_n hC dX11_isSign_24 1 rfl rfl ?_
      refine u_icmp_ne (tgt := 32) hC dX11_isSign_25 (by decide) hf (fun h25 hf => ?_) (fun h25 hf => ?_)
      · refine u_sub (lv' := []) [] rfl ?_
        exact wjX11_isSign_32 hC n S    hf hR
      · refine u_iconst (v := (1 : Int32)) hC dX11_isSign_28 (by decide) ?_
        refine u_goto (tgt := 33) hC dX11_isSign_29 (by decide) ?_
        refine u_sub (lv' := []) [] rfl ?_
        exact wjX11_isSign_33 hC n S (1 : Int32)   hf hR
theorem ctX11_isSign (l : Launch) (hl : l.stackTraces = false) (G : GT) (ρ : Nat → Nat) (Y : XS) (n : Nat) (S : PS) (a0 : Nat) (x1_ : Int32) (hTa0 : Ty Y a0 11) {o : Int32} (hf : fX11_isSign Y n S a0 x1_ = some o) : Mt l G yX11_isSign cX11_isSign 2 (some .boolean) 1 ρ Y [.ref (ρ a0), .int x1_] S (some (.int o)) S :=
  Mt_of hl (by decide) (Nat.le_of_ble_eq_true rfl) (fun C _ _ hC hR => wX11_isSign (X := (ρ, Y, 0, 0)) hC n S a0 x1_ hTa0 hf hR)
-- X11_must
theorem dX11_must_0 : decode cX11_must 0 = .ok (.aload_n 0, 1) := by decide +kernel
theorem dX11_must_1 : decode cX11_must 1 = .ok (.iload_n 1, 1) := by decide +kernel
theorem dX11_must_2 : decode cX11_must 2 = .ok (.invokevirtual 364, 3) := by decide +kernel
theorem dX11_must_5 : decode cX11_must 5 = .ok (.ifCond .ne 8, 3) := by decide +kernel
theorem dX11_must_8 : decode cX11_must 8 = .ok (.aload_n 0, 1) := by decide +kernel
theorem dX11_must_9 : decode cX11_must 9 = .ok (.iconst 1, 1) := by decide +kernel
theorem dX11_must_10 : decode cX11_must 10 = .ok (.invokevirtual 367, 3) := by decide +kernel
theorem dX11_must_13 : decode cX11_must 13 = .ok (.aload_n 0, 1) := by decide +kernel
theorem dX11_must_14 : decode cX11_must 14 = .ok (.invokevirtual 370, 3) := by decide +kernel
theorem dX11_must_17 : decode cX11_must 17 = .ok (.return_, 1) := by decide +kernel
def jX11_must_13 (Y : XS) (n : Nat) (S : PS) (v0 : Nat) : Option (PS) :=
  kc (fX11_pass Y n S v0) (fun q14 => some q14)
def fX11_must (Y : XS) (n : Nat) (S : PS) (a0 : Nat) (x1_ : Int32) : Option (PS) :=
  kc (fX11_isSign Y n S a0 x1_) (fun q2 => (if q2 = 0 then kc (fX11_wrong Y n S a0 (1 : Int32)) (fun q10 => jX11_must_13 Y n q10 a0) else jX11_must_13 Y n S a0))
theorem wjX11_must_13 {C : CT} {X : XT} (hC : CK C RX11 cX11_must 2 none 4) (n : Nat) (S : PS) (v0 : Nat)  (hTv0 : Ty X.2.1 v0 11) {o : PS} (hf : jX11_must_13 X.2.1 n S v0 = some o) (hR : Rt C X cX11_must none none o) : UW C X S 13 [(0, .ref (X.1 v0))] [] := by
  unfold jX11_must_13 at hf
  refine u_aload_n hC dX11_must_13 0 rfl rfl ?_
  obtain ⟨q14, hq14, hf⟩ := kc_some hf
  refine u_callV hC (ctX11_pass (cL C) hC.tr (cG C) X.1 X.2.1 n S v0 hTv0 hq14) lk_X11_370 rfl hTv0 (by decide) rfl (by decide) (by decide) rfl rfl (Nat.le_of_ble_eq_true rfl) dX11_must_14 ?_
  cases hf
  exact hR _ _ dX11_must_17 trivial
theorem wX11_must {C : CT} {X : XT} (hC : CK C RX11 cX11_must 2 none 4) (n : Nat) (S : PS) (a0 : Nat) (x1_ : Int32) (hTa0 : Ty X.2.1 a0 11) {o : PS} (hf : fX11_must X.2.1 n S a0 x1_ = some o) (hR : Rt C X cX11_must none none o) : UW C X S 0 [(0, .ref (X.1 a0)), (1, .int x1_)] [] := by
  unfold fX11_must at hf
  refine u_aload_n hC dX11_must_0 0 rfl rfl ?_
  refine u_iload_n hC dX11_must_1 1 rfl rfl ?_
  obtain ⟨q2, hq2, hf⟩ := kc_some hf
  refine u_callV hC (ctX11_isSign (cL C) hC.tr (cG C) X.1 X.2.1 n S a0 x1_ hTa0 hq2) lk_X11_364 rfl hTa0 (by decide) rfl (by decide) (by decide) rfl rfl (Nat.le_of_ble_eq_true rfl) dX11_must_2 ?_
  refine u_if_ne (tgt := 13) hC dX11_must_5 (by decide) hf (fun h5 hf => ?_) (fun h5 hf => ?_)
  · refine u_sub (lv' := [(0, .ref (X.1 a0))]) [0] rfl ?_
    exact wjX11_must_13 hC n S a0  hTa0 hf hR
  · refine u_aload_n hC dX11_must_8 0 rfl rfl ?_
    refine u_iconst (v := (1 : Int32)) hC dX11_must_9 (by decide) ?_
    obtain ⟨q10, hq10, hf⟩ := kc_some hf
    refine u_callV hC (ctX11_wrong (cL C) hC.tr (cG C) X.1 X.2.1 n S a0 (1 : Int32) hTa0 hq10) lk_X11_367 rfl hTa0 (by decide) rfl (by decide) (by decide) rfl rfl (Nat.le_of_ble_eq_true rfl) dX11_must_10 ?_
    refine u_sub (lv' := [(0, .ref (X.1 a0))]) [0] rfl ?_
    exact wjX11_must_13 hC n q10 a0  hTa0 hf hR
theorem ctX11_must (l : Launch) (hl : l.stackTraces = false) (G : GT) (ρ : Nat → Nat) (Y : XS) (n : Nat) (S : PS) (a0 : Nat) (x1_ : Int32) (hTa0 : Ty Y a0 11) {o : PS} (hf : fX11_must Y n S a0 x1_ = some o) : Mt l G yX11_must cX11_must 2 none 4 ρ Y [.ref (ρ a0), .int x1_] S none o :=
  Mt_of hl (by decide) (Nat.le_of_ble_eq_true rfl) (fun C _ _ hC hR => wX11_must (X := (ρ, Y, 0, 0)) hC n S a0 x1_ hTa0 hf hR)
-- X11_numberHere
theorem dX11_numberHere_0 : decode cX11_numberHere 0 = .ok (.aload_n 0, 1) := by decide +kernel
theorem dX11_numberHere_1 : decode cX11_numberHere 1 = .ok (.getfield 346, 3) := by decide +kernel
theorem dX11_numberHere_4 : decode cX11_numberHere 4 = .ok (.ifCond .ne 16, 3) := by decide +kernel
theorem dX11_numberHere_7 : decode cX11_numberHere 7 = .ok (.aload_n 0, 1) := by decide +kernel
theorem dX11_numberHere_8 : decode cX11_numberHere 8 = .ok (.getfield 340, 3) := by decide +kernel
theorem dX11_numberHere_11 : decode cX11_numberHere 11 = .ok (.iconst 2, 1) := by decide +kernel
theorem dX11_numberHere_12 : decode cX11_numberHere 12 = .ok (.if_icmp .eq 8, 3) := by decide +kernel
theorem dX11_numberHere_15 : decode cX11_numberHere 15 = .ok (.aload_n 0, 1) := by decide +kernel
theorem dX11_numberHere_16 : decode cX11_numberHere 16 = .ok (.iconst 1, 1) := by decide +kernel
theorem dX11_numberHere_17 : decode cX11_numberHere 17 = .ok (.invokevirtual 367, 3) := by decide +kernel
theorem dX11_numberHere_20 : decode cX11_numberHere 20 = .ok (.iconst 0, 1) := by decide +kernel
theorem dX11_numberHere_21 : decode cX11_numberHere 21 = .ok (.istore_n 3, 1) := by decide +kernel
theorem dX11_numberHere_22 : decode cX11_numberHere 22 = .ok (.aload_n 0, 1) := by decide +kernel
theorem dX11_numberHere_23 : decode cX11_numberHere 23 = .ok (.getfield 337, 3) := by decide +kernel
theorem dX11_numberHere_26 : decode cX11_numberHere 26 = .ok (.istore 4, 2) := by decide +kernel
theorem dX11_numberHere_28 : decode cX11_numberHere 28 = .ok (.aload_n 0, 1) := by decide +kernel
theorem dX11_numberHere_29 : decode cX11_numberHere 29 = .ok (.getfield 346, 3) := by decide +kernel
theorem dX11_numberHere_32 : decode cX11_numberHere 32 = .ok (.ifCond .ne 40, 3) := by decide +kernel
theorem dX11_numberHere_35 : decode cX11_numberHere 35 = .ok (.iload 4, 2) := by decide +kernel
theorem dX11_numberHere_37 : decode cX11_numberHere 37 = .ok (.aload_n 0, 1) := by decide +kernel
theorem dX11_numberHere_38 : decode cX11_numberHere 38 = .ok (.getfield 343, 3) := by decide +kernel
theorem dX11_numberHere_41 : decode cX11_numberHere 41 = .ok (.if_icmp .ge 31, 3) := by decide +kernel
theorem dX11_numberHere_44 : decode cX11_numberHere 44 = .ok (.ldc_w 373, 3) := by decide +kernel
theorem dX11_numberHere_47 : decode cX11_numberHere 47 = .ok (.bipush 10, 2) := by decide +kernel
theorem dX11_numberHere_49 : decode cX11_numberHere 49 = .ok (.iload_n 3, 1) := by decide +kernel
theorem dX11_numberHere_50 : decode cX11_numberHere 50 = .ok (.imul, 1) := by decide +kernel
theorem dX11_numberHere_51 : decode cX11_numberHere 51 = .ok (.aload_n 0, 1) := by decide +kernel
theorem dX11_numberHere_52 : decode cX11_numberHere 52 = .ok (.getfield 63, 3) := by decide +kernel
theorem dX11_numberHere_55 : decode cX11_numberHere 55 = .ok (.iload 4, 2) := by decide +kernel
theorem dX11_numberHere_57 : decode cX11_numberHere 57 = .ok (.iaload, 1) := by decide +kernel
theorem dX11_numberHere_58 : decode cX11_numberHere 58 = .ok (.iadd, 1) := by decide +kernel
theorem dX11_numberHere_59 : decode cX11_numberHere 59 = .ok (.bipush 48, 2) := by decide +kernel
theorem dX11_numberHere_61 : decode cX11_numberHere 61 = .ok (.isub, 1) := by decide +kernel
theorem dX11_numberHere_62 : decode cX11_numberHere 62 = .ok (.invokestatic 111, 3) := by decide +kernel
theorem dX11_numberHere_65 : decode cX11_numberHere 65 = .ok (.istore_n 3, 1) := by decide +kernel
theorem dX11_numberHere_66 : decode cX11_numberHere 66 = .ok (.iinc 4 1, 3) := by decide +kernel
theorem dX11_numberHere_69 : decode cX11_numberHere 69 = .ok (.goto (-41), 3) := by decide +kernel
theorem dX11_numberHere_72 : decode cX11_numberHere 72 = .ok (.aload_n 0, 1) := by decide +kernel
theorem dX11_numberHere_73 : decode cX11_numberHere 73 = .ok (.getfield 346, 3) := by decide +kernel
theorem dX11_numberHere_76 : decode cX11_numberHere 76 = .ok (.ifCond .ne 17, 3) := by decide +kernel
theorem dX11_numberHere_79 : decode cX11_numberHere 79 = .ok (.iload_n 3, 1) := by decide +kernel
theorem dX11_numberHere_80 : decode cX11_numberHere 80 = .ok (.iload_n 1, 1) := by decide +kernel
theorem dX11_numberHere_81 : decode cX11_numberHere 81 = .ok (.iload_n 2, 1) := by decide +kernel
theorem dX11_numberHere_82 : decode cX11_numberHere 82 = .ok (.invokestatic 81, 3) := by decide +kernel
theorem dX11_numberHere_85 : decode cX11_numberHere 85 = .ok (.ifCond .ne 8, 3) := by decide +kernel
theorem dX11_numberHere_88 : decode cX11_numberHere 88 = .ok (.aload_n 0, 1) := by decide +kernel
theorem dX11_numberHere_89 : decode cX11_numberHere 89 = .ok (.iconst 2, 1) := by decide +kernel
theorem dX11_numberHere_90 : decode cX11_numberHere 90 = .ok (.invokevirtual 367, 3) := by decide +kernel
theorem dX11_numberHere_93 : decode cX11_numberHere 93 = .ok (.iload_n 3, 1) := by decide +kernel
theorem dX11_numberHere_94 : decode cX11_numberHere 94 = .ok (.ireturn, 1) := by decide +kernel
def bX11_numberHere_28 (Y : XS) (n : Nat) (S : PS) (v0 : Nat) (v1 : Int32) (v2 : Int32) (s28 : (Int32 × Int32)) : Option ((Int32 × Int32) ⊕ Int32) :=
  kgi S v0 34 (fun x29 => (if x29 = 0 then kgi S v0 33 (fun x38 => (if x38 ≤ s28.2 then some (.inr s28.1) else kgr S v0 27 (fun b52 => kai Y S b52 s28.2 (fun x57 => some (.inl (imin (1000000 : Int32) ((((10 : Int32) * s28.1) + x57) - (48 : Int32)), s28.2 + (1 : Int32))))))) else some (.inr s28.1)))
def jX11_numberHere_93 (Y : XS) (n : Nat) (S : PS) (v3 : Int32) : Option (Int32 × PS) :=
  some (v3, S)
def jX11_numberHere_72 (Y : XS) (n : Nat) (S : PS) (v0 : Nat) (v1 : Int32) (v2 : Int32) (v3 : Int32) : Option (Int32 × PS) :=
  kgi S v0 34 (fun x73 => (if x73 = 0 then kc (fX11_isIn Y n S v3 v1 v2) (fun q82 => (if q82 = 0 then kc (fX11_wrong Y n S v0 (2 : Int32)) (fun q90 => jX11_numberHere_93 Y n q90 v3) else jX11_numberHere_93 Y n S v3)) else jX11_numberHere_93 Y n S v3))
def jX11_numberHere_20 (Y : XS) (n : Nat) (S : PS) (v0 : Nat) (v1 : Int32) (v2 : Int32) : Option (Int32 × PS) :=
  kgi S v0 32 (fun x23 => kc (iter (bX11_numberHere_28 Y n S v0 v1 v2) n ((0 : Int32), x23)) (fun r28 => jX11_numberHere_72 Y n S v0 v1 v2 r28))
def fX11_numberHere (Y : XS) (n : Nat) (S : PS) (a0 : Nat) (x1_ : Int32) (x2_ : Int32) : Option (Int32 × PS) :=
  kgi S a0 34 (fun x1 => (if x1 = 0 then kgi S a0 31 (fun x8 => (if x8 = (2 : Int32) then jX11_numberHere_20 Y n S a0 x1_ x2_ else kc (fX11_wrong Y n S a0 (1 : Int32)) (fun q17 => jX11_numberHere_20 Y n q17 a0 x1_ x2_))) else jX11_numberHere_20 Y n S a0 x1_ x2_))
theorem wbX11_numberHere_28 {C : CT} {X : XT} (hC : CK C RX11 cX11_numberHere 5 (some .int) 2) (n : Nat) (S : PS) (v0 : Nat) (v1 : Int32) (v2 : Int32) (hTv0 : Ty X.2.1 v0 11) (s28 : (Int32 × Int32)) {o : (Int32 × Int32) ⊕ Int32} (hf : bX11_numberHere_28 X.2.1 n S v0 v1 v2 s28 = some o) (hN : ∀ s', o = .inl s' → UW C X S 28 [(0, .ref (X.1 v0)), (1, .int v1), (2, .int v2), (3, .int s'.1), (4, .int s'.2)] []) (hO0 : ∀ p', o = .inr p' → UW C X S 72 [(0, .ref (X.1 v0)), (1, .int v1), (2, .int v2), (3, .int p')] []) : UW C X S 28 [(0, .ref (X.1 v0)), (1, .int v1), (2, .int v2), (3, .int s28.1), (4, .int s28.2)] [] := by
  unfold bX11_numberHere_28 at hf
  refine u_aload_n hC dX11_numberHere_28 0 rfl rfl ?_
  refine u_gi hC lf_X11_346 rfl hTv0 dX11_numberHere_29 hf (fun x29 hf => ?_)
  refine u_if_ne (tgt := 72) hC dX11_numberHere_32 (by decide) hf (fun h32 hf => ?_) (fun h32 hf => ?_)
  · refine u_sub (lv' := [(0, .ref (X.1 v0)), (1, .int v1), (2, .int v2), (3, .int s28.1)]) [0, 1, 2, 3] rfl ?_
    exact hO0 _ (Option.some.inj hf).symm
  · refine u_iload hC dX11_numberHere_35 4 rfl ?_
    refine u_aload_n hC dX11_numberHere_37 0 rfl rfl ?_
    refine u_gi hC lf_X11_343 rfl hTv0 dX11_numberHere_38 hf (fun x38 hf => ?_)
    refine u_icmp_ge (tgt := 72) hC dX11_numberHere_41 (by decide) hf (fun h41 hf => ?_) (fun h41 hf => ?_)
    · refine u_sub (lv' := [(0, .ref (X.1 v0)), (1, .int v1), (2, .int v2), (3, .int s28.1)]) [0, 1, 2, 3] rfl ?_
      exact hO0 _ (Option.some.inj hf).symm
    · refine u_ldcw (v := (1000000 : Int32)) hC dX11_numberHere_44 (tb_8 73 rfl rfl) ?_
      refine u_bipush (v := (10 : Int32)) hC dX11_numberHere_47 (by decide) ?_
      refine u_iload_n hC dX11_numberHere_49 3 rfl rfl ?_
      refine u_imul hC dX11_numberHere_50 ?_
      refine u_aload_n hC dX11_numberHere_51 0 rfl rfl ?_
      refine u_gr hC lf_X11_63 rfl hTv0 dX11_numberHere_52 hf (fun b52 hTb52 hf => ?_)
      refine u_iload hC dX11_numberHere_55 4 rfl ?_
      refine u_ai hC hTb52 dX11_numberHere_57 hf (fun x57 hf => ?_)
      refine u_iadd hC dX11_numberHere_58 ?_
      refine u_bipush (v := (48 : Int32)) hC dX11_numberHere_59 (by decide) ?_
      refine u_isub hC dX11_numberHere_61 ?_
      refine u_mmin hC (tb_6 226 rfl rfl) (by decide) (Nat.le_of_ble_eq_true rfl) dX11_numberHere_62 ?_
      refine u_istore_n (lv' := [(3, .int (imin (1000000 : Int32) ((((10 : Int32) * s28.1) + x57) - (48 : Int32)))), (0, .ref (X.1 v0)), (1, .int v1), (2, .int v2), (4, .int s28.2)]) hC dX11_numberHere_65 rfl (by decide) rfl ?_
      refine u_iinc (v := s28.2 + (1 : Int32)) (lv' := [(4, .int (s28.2 + (1 : Int32))), (3, .int (imin (1000000 : Int32) ((((10 : Int32) * s28.1) + x57) - (48 : Int32)))), (0, .ref (X.1 v0)), (1, .int v1), (2, .int v2)]) hC dX11_numberHere_66 4 rfl rfl (by decide) rfl ?_
      refine u_goto (tgt := 28) hC dX11_numberHere_69 (by decide) ?_
      refine u_sub (lv' := [(0, .ref (X.1 v0)), (1, .int v1), (2, .int v2), (3, .int (imin (1000000 : Int32) ((((10 : Int32) * s28.1) + x57) - (48 : Int32)))), (4, .int (s28.2 + (1 : Int32)))]) [2, 3, 4, 1, 0] rfl ?_
      exact hN _ (Option.some.inj hf).symm
theorem wjX11_numberHere_93 {C : CT} {X : XT} (hC : CK C RX11 cX11_numberHere 5 (some .int) 2) (n : Nat) (S : PS) (v3 : Int32)   {o : Int32 × PS} (hf : jX11_numberHere_93 X.2.1 n S v3 = some o) (hR : Rt C X cX11_numberHere (some .int) (some (.int o.1)) o.2) : UW C X S 93 [(3, .int v3)] [] := by
  unfold jX11_numberHere_93 at hf
  refine u_iload_n hC dX11_numberHere_93 0 rfl rfl ?_
  cases hf
  exact hR _ _ dX11_numberHere_94 trivial
theorem wjX11_numberHere_72 {C : CT} {X : XT} (hC : CK C RX11 cX11_numberHere 5 (some .int) 2) (n : Nat) (S : PS) (v0 : Nat) (v1 : Int32) (v2 : Int32) (v3 : Int32)  (hTv0 : Ty X.2.1 v0 11) {o : Int32 × PS} (hf : jX11_numberHere_72 X.2.1 n S v0 v1 v2 v3 = some o) (hR : Rt C X cX11_numberHere (some .int) (some (.int o.1)) o.2) : UW C X S 72 [(0, .ref (X.1 v0)), (1, .int v1), (2, .int v2), (3, .int v3)] [] := by
  unfold jX11_numberHere_72 at hf
  refine u_aload_n hC dX11_numberHere_72 0 rfl rfl ?_
  refine u_gi hC lf_X11_346 rfl hTv0 dX11_numberHere_73 hf (fun x73 hf => ?_)
  refine u_if_ne (tgt := 93) hC dX11_numberHere_76 (by decide) hf (fun h76 hf => ?_) (fun h76 hf => ?_)
  · refine u_sub (lv' := [(3, .int v3)]) [3] rfl ?_
    exact wjX11_numberHere_93 hC n S v3   hf hR
  · refine u_iload_n hC dX11_numberHere_79 3 rfl rfl ?_
    refine u_iload_n hC dX11_numberHere_80 1 rfl rfl ?_
    refine u_iload_n hC dX11_numberHere_81 2 rfl rfl ?_
    obtain ⟨q82, hq82, hf⟩ := kc_some hf
    refine u_callS hC (ctX11_isIn (cL C) hC.tr (cG C) X.1 X.2.1 n S v3 v1 v2  hq82) lk_X11_81 (by decide) (by decide) rfl rfl (Nat.le_of_ble_eq_true rfl) dX11_numberHere_82 ?_
    refine u_if_ne (tgt := 93) hC dX11_numberHere_85 (by decide) hf (fun h85 hf => ?_) (fun h85 hf => ?_)
    · refine u_sub (lv' := [(3, .int v3)]) [3] rfl ?_
      exact wjX11_numberHere_93 hC n S v3   hf hR
    · refine u_aload_n hC dX11_numberHere_88 0 rfl rfl ?_
      refine u_iconst (v := (2 : Int32)) hC dX11_numberHere_89 (by decide) ?_
      obtain ⟨q90, hq90, hf⟩ := kc_some hf
      refine u_callV hC (ctX11_wrong (cL C) hC.tr (cG C) X.1 X.2.1 n S v0 (2 : Int32) hTv0 hq90) lk_X11_367 rfl hTv0 (by decide) rfl (by decide) (by decide) rfl rfl (Nat.le_of_ble_eq_true rfl) dX11_numberHere_90 ?_
      refine u_sub (lv' := [(3, .int v3)]) [3] rfl ?_
      exact wjX11_numberHere_93 hC n q90 v3   hf hR
theorem wjX11_numberHere_20 {C : CT} {X : XT} (hC : CK C RX11 cX11_numberHere 5 (some .int) 2) (n : Nat) (S : PS) (v0 : Nat) (v1 : Int32) (v2 : Int32)  (hTv0 : Ty X.2.1 v0 11) {o : Int32 × PS} (hf : jX11_numberHere_20 X.2.1 n S v0 v1 v2 = some o) (hR : Rt C X cX11_numberHere (some .int) (some (.int o.1)) o.2) : UW C X S 20 [(0, .ref (X.1 v0)), (1, .int v1), (2, .int v2)] [] := by
  unfold jX11_numberHere_20 at hf
  refine u_iconst (v := (0 : Int32)) hC dX11_numberHere_20 (by decide) ?_
  refine u_istore_n (lv' := [(3, .int (0 : Int32)), (0, .ref (X.1 v0)), (1, .int v1), (2, .int v2)]) hC dX11_numberHere_21 rfl (by decide) rfl ?_
  refine u_aload_n hC dX11_numberHere_22 1 rfl rfl ?_
  refine u_gi hC lf_X11_337 rfl hTv0 dX11_numberHere_23 hf (fun x23 hf => ?_)
  refine u_istore (lv' := [(4, .int x23), (3, .int (0 : Int32)), (0, .ref (X.1 v0)), (1, .int v1), (2, .int v2)]) hC dX11_numberHere_26 (by decide) rfl ?_
  obtain ⟨r28, hr28, hf⟩ := kc_some hf
  have hk28 : UW C X S 72 [(0, .ref (X.1 v0)), (1, .int v1), (2, .int v2), (3, .int r28)] [] := by
    exact wjX11_numberHere_72 hC n S v0 v1 v2 r28  hTv0 hf hR
  refine u_sub (lv' := [(0, .ref (X.1 v0)), (1, .int v1), (2, .int v2), (3, .int (0 : Int32)), (4, .int x23)]) [2, 3, 4, 1, 0] rfl ?_
  refine iter_ind (P := fun s28 => UW C X S 28 [(0, .ref (X.1 v0)), (1, .int v1), (2, .int v2), (3, .int s28.1), (4, .int s28.2)] []) (fun s28 o' hb hin hout => ?_) n ((0 : Int32), x23) hr28
  exact wbX11_numberHere_28 hC n S v0 v1 v2 hTv0 s28 hb hin (fun p e => by rw [hout p e]; exact hk28)
theorem wX11_numberHere {C : CT} {X : XT} (hC : CK C RX11 cX11_numberHere 5 (some .int) 2) (n : Nat) (S : PS) (a0 : Nat) (x1_ : Int32) (x2_ : Int32) (hTa0 : Ty X.2.1 a0 11) {o : Int32 × PS} (hf : fX11_numberHere X.2.1 n S a0 x1_ x2_ = some o) (hR : Rt C X cX11_numberHere (some .int) (some (.int o.1)) o.2) : UW C X S 0 [(0, .ref (X.1 a0)), (1, .int x1_), (2, .int x2_)] [] := by
  unfold fX11_numberHere at hf
  refine u_aload_n hC dX11_numberHere_0 0 rfl rfl ?_
  refine u_gi hC lf_X11_346 rfl hTa0 dX11_numberHere_1 hf (fun x1 hf => ?_)
  refine u_if_ne (tgt := 20) hC dX11_numberHere_4 (by decide) hf (fun h4 hf => ?_) (fun h4 hf => ?_)
  · exact wjX11_numberHere_20 hC n S a0 x1_ x2_  hTa0 hf hR
  · refine u_aload_n hC dX11_numberHere_7 0 rfl rfl ?_
    refine u_gi hC lf_X11_340 rfl hTa0 dX11_numberHere_8 hf (fun x8 hf => ?_)
    refine u_iconst (v := (2 : Int32)) hC dX11_numberHere_11 (by decide) ?_
    refine u_icmp_eq (tgt := 20) hC dX11_numberHere_12 (by decide) hf (fun h12 hf => ?_) (fun h12 hf => ?_)
    · exact wjX11_numberHere_20 hC n S a0 x1_ x2_  hTa0 hf hR
    · refine u_aload_n hC dX11_numberHere_15 0 rfl rfl ?_
      refine u_iconst (v := (1 : Int32)) hC dX11_numberHere_16 (by decide) ?_
      obtain ⟨q17, hq17, hf⟩ := kc_some hf
      refine u_callV hC (ctX11_wrong (cL C) hC.tr (cG C) X.1 X.2.1 n S a0 (1 : Int32) hTa0 hq17) lk_X11_367 rfl hTa0 (by decide) rfl (by decide) (by decide) rfl rfl (Nat.le_of_ble_eq_true rfl) dX11_numberHere_17 ?_
      exact wjX11_numberHere_20 hC n q17 a0 x1_ x2_  hTa0 hf hR
theorem ctX11_numberHere (l : Launch) (hl : l.stackTraces = false) (G : GT) (ρ : Nat → Nat) (Y : XS) (n : Nat) (S : PS) (a0 : Nat) (x1_ : Int32) (x2_ : Int32) (hTa0 : Ty Y a0 11) {o : Int32 × PS} (hf : fX11_numberHere Y n S a0 x1_ x2_ = some o) : Mt l G yX11_numberHere cX11_numberHere 5 (some .int) 2 ρ Y [.ref (ρ a0), .int x1_, .int x2_] S (some (.int o.1)) o.2 :=
  Mt_of hl (by decide) (Nat.le_of_ble_eq_true rfl) (fun C _ _ hC hR => wX11_numberHere (X := (ρ, Y, 0, 0)) hC n S a0 x1_ x2_ hTa0 hf hR)
-- X11_number
theorem dX11_number_0 : decode cX11_number 0 = .ok (.aload_n 0, 1) := by decide +kernel
theorem dX11_number_1 : decode cX11_number 1 = .ok (.iload_n 1, 1) := by decide +kernel
theorem dX11_number_2 : decode cX11_number 2 = .ok (.iload_n 2, 1) := by decide +kernel
theorem dX11_number_3 : decode cX11_number 3 = .ok (.invokevirtual 374, 3) := by decide +kernel
theorem dX11_number_6 : decode cX11_number 6 = .ok (.istore_n 3, 1) := by decide +kernel
theorem dX11_number_7 : decode cX11_number 7 = .ok (.aload_n 0, 1) := by decide +kernel
theorem dX11_number_8 : decode cX11_number 8 = .ok (.invokevirtual 370, 3) := by decide +kernel
theorem dX11_number_11 : decode cX11_number 11 = .ok (.iload_n 3, 1) := by decide +kernel
theorem dX11_number_12 : decode cX11_number 12 = .ok (.ireturn, 1) := by decide +kernel
def fX11_number (Y : XS) (n : Nat) (S : PS) (a0 : Nat) (x1_ : Int32) (x2_ : Int32) : Option (Int32 × PS) :=
  kc (fX11_numberHere Y n S a0 x1_ x2_) (fun q3 => kc (fX11_pass Y n q3.2 a0) (fun q8 => some (q3.1, q8)))
theorem wX11_number {C : CT} {X : XT} (hC : CK C RX11 cX11_number 4 (some .int) 4) (n : Nat) (S : PS) (a0 : Nat) (x1_ : Int32) (x2_ : Int32) (hTa0 : Ty X.2.1 a0 11) {o : Int32 × PS} (hf : fX11_number X.2.1 n S a0 x1_ x2_ = some o) (hR : Rt C X cX11_number (some .int) (some (.int o.1)) o.2) : UW C X S 0 [(0, .ref (X.1 a0)), (1, .int x1_), (2, .int x2_)] [] := by
  unfold fX11_number at hf
  refine u_aload_n hC dX11_number_0 0 rfl rfl ?_
  refine u_iload_n hC dX11_number_1 1 rfl rfl ?_
  refine u_iload_n hC dX11_number_2 2 rfl rfl ?_
  obtain ⟨q3, hq3, hf⟩ := kc_some hf
  refine u_callV hC (ctX11_numberHere (cL C) hC.tr (cG C) X.1 X.2.1 n S a0 x1_ x2_ hTa0 hq3) lk_X11_374 rfl hTa0 (by decide) rfl (by decide) (by decide) rfl rfl (Nat.le_of_ble_eq_true rfl) dX11_number_3 ?_
  refine u_istore_n (lv' := [(3, .int q3.1), (0, .ref (X.1 a0)), (1, .int x1_), (2, .int x2_)]) hC dX11_number_6 rfl (by decide) rfl ?_
  refine u_aload_n hC dX11_number_7 1 rfl rfl ?_
  obtain ⟨q8, hq8, hf⟩ := kc_some hf
  refine u_callV hC (ctX11_pass (cL C) hC.tr (cG C) X.1 X.2.1 n q3.2 a0 hTa0 hq8) lk_X11_370 rfl hTa0 (by decide) rfl (by decide) (by decide) rfl rfl (Nat.le_of_ble_eq_true rfl) dX11_number_8 ?_
  refine u_iload_n hC dX11_number_11 0 rfl rfl ?_
  cases hf
  exact hR _ _ dX11_number_12 trivial
theorem ctX11_number (l : Launch) (hl : l.stackTraces = false) (G : GT) (ρ : Nat → Nat) (Y : XS) (n : Nat) (S : PS) (a0 : Nat) (x1_ : Int32) (x2_ : Int32) (hTa0 : Ty Y a0 11) {o : Int32 × PS} (hf : fX11_number Y n S a0 x1_ x2_ = some o) : Mt l G yX11_number cX11_number 4 (some .int) 4 ρ Y [.ref (ρ a0), .int x1_, .int x2_] S (some (.int o.1)) o.2 :=
  Mt_of hl (by decide) (Nat.le_of_ble_eq_true rfl) (fun C _ _ hC hR => wX11_number (X := (ρ, Y, 0, 0)) hC n S a0 x1_ x2_ hTa0 hf hR)
-- X11_letterHere
theorem dX11_letterHere_0 : decode cX11_letterHere 0 = .ok (.aload_n 0, 1) := by decide +kernel
theorem dX11_letterHere_1 : decode cX11_letterHere 1 = .ok (.getfield 337, 3) := by decide +kernel
theorem dX11_letterHere_4 : decode cX11_letterHere 4 = .ok (.iload_n 1, 1) := by decide +kernel
theorem dX11_letterHere_5 : decode cX11_letterHere 5 = .ok (.iadd, 1) := by decide +kernel
theorem dX11_letterHere_6 : decode cX11_letterHere 6 = .ok (.aload_n 0, 1) := by decide +kernel
theorem dX11_letterHere_7 : decode cX11_letterHere 7 = .ok (.getfield 343, 3) := by decide +kernel
theorem dX11_letterHere_10 : decode cX11_letterHere 10 = .ok (.if_icmp .ge 20, 3) := by decide +kernel
theorem dX11_letterHere_13 : decode cX11_letterHere 13 = .ok (.aload_n 0, 1) := by decide +kernel
theorem dX11_letterHere_14 : decode cX11_letterHere 14 = .ok (.getfield 63, 3) := by decide +kernel
theorem dX11_letterHere_17 : decode cX11_letterHere 17 = .ok (.aload_n 0, 1) := by decide +kernel
theorem dX11_letterHere_18 : decode cX11_letterHere 18 = .ok (.getfield 337, 3) := by decide +kernel
theorem dX11_letterHere_21 : decode cX11_letterHere 21 = .ok (.iload_n 1, 1) := by decide +kernel
theorem dX11_letterHere_22 : decode cX11_letterHere 22 = .ok (.iadd, 1) := by decide +kernel
theorem dX11_letterHere_23 : decode cX11_letterHere 23 = .ok (.iaload, 1) := by decide +kernel
theorem dX11_letterHere_24 : decode cX11_letterHere 24 = .ok (.bipush 96, 2) := by decide +kernel
theorem dX11_letterHere_26 : decode cX11_letterHere 26 = .ok (.isub, 1) := by decide +kernel
theorem dX11_letterHere_27 : decode cX11_letterHere 27 = .ok (.goto 4, 3) := by decide +kernel
theorem dX11_letterHere_30 : decode cX11_letterHere 30 = .ok (.iconst 0, 1) := by decide +kernel
theorem dX11_letterHere_31 : decode cX11_letterHere 31 = .ok (.ireturn, 1) := by decide +kernel
def jX11_letterHere_31 (Y : XS) (n : Nat) (S : PS) (t0 : Int32) : Option (Int32) :=
  some t0
def fX11_letterHere (Y : XS) (n : Nat) (S : PS) (a0 : Nat) (x1_ : Int32) : Option (Int32) :=
  kgi S a0 32 (fun x1 => kgi S a0 33 (fun x7 => (if x7 ≤ (x1 + x1_) then jX11_letterHere_31 Y n S (0 : Int32) else kgr S a0 27 (fun b14 => kgi S a0 32 (fun x18 => kai Y S b14 (x18 + x1_) (fun x23 => jX11_letterHere_31 Y n S (x23 - (96 : Int32))))))))
theorem wjX11_letterHere_31 {C : CT} {X : XT} (hC : CK C RX11 cX11_letterHere 2 (some .int) 1) (n : Nat) (S : PS) (t0 : Int32)   {o : Int32} (hf : jX11_letterHere_31 X.2.1 n S t0 = some o) (hR : Rt C X cX11_letterHere (some .int) (some (.int o)) S) : UW C X S 31 [] [.int t0] := by
  unfold jX11_letterHere_31 at hf
  cases hf
  exact hR _ _ dX11_letterHere_31 trivial
theorem wX11_letterHere {C : CT} {X : XT} (hC : CK C RX11 cX11_letterHere 2 (some .int) 1) (n : Nat) (S : PS) (a0 : Nat) (x1_ : Int32) (hTa0 : Ty X.2.1 a0 11) {o : Int32} (hf : fX11_letterHere X.2.1 n S a0 x1_ = some o) (hR : Rt C X cX11_letterHere (some .int) (some (.int o)) S) : UW C X S 0 [(0, .ref (X.1 a0)), (1, .int x1_)] [] := by
  unfold fX11_letterHere at hf
  refine u_aload_n hC dX11_letterHere_0 0 rfl rfl ?_
  refine u_gi hC lf_X11_337 rfl hTa0 dX11_letterHere_1 hf (fun x1 hf => ?_)
  refine u_iload_n hC dX11_letterHere_4 1 rfl rfl ?_
  refine u_iadd hC dX11_letterHere_5 ?_
  refine u_aload_n hC dX11_letterHere_6 0 rfl rfl ?_
  refine u_gi hC lf_X11_343 rfl hTa0 dX11_letterHere_7 hf (fun x7 hf => ?_)
  refine u_icmp_ge (tgt := 30) hC dX11_letterHere_10 (by decide) hf (fun h10 hf => ?_) (fun h10 hf => ?_)
  · refine u_iconst (v := (0 : Int32)) hC dX11_letterHere_30 (by decide) ?_
    refine u_sub (lv' := []) [] rfl ?_
    exact wjX11_letterHere_31 hC n S (0 : Int32)   hf hR
  · refine u_aload_n hC dX11_letterHere_13 0 rfl rfl ?_
    refine u_gr hC lf_X11_63 rfl hTa0 dX11_letterHere_14 hf (fun b14 hTb14 hf => ?_)
    refine u_aload_n hC dX11_letterHere_17 0 rfl rfl ?_
    refine u_gi hC lf_X11_337 rfl hTa0 dX11_letterHere_18 hf (fun x18 hf => ?_)
    refine u_iload_n hC dX11_letterHere_21 1 rfl rfl ?_
    refine u_iadd hC dX11_letterHere_22 ?_
    refine u_ai hC hTb14 dX11_letterHere_23 hf (fun x23 hf => ?_)
    refine u_bipush (v := (96 : Int32)) hC dX11_letterHere_24 (by decide) ?_
    refine u_isub hC dX11_letterHere_26 ?_
    refine u_goto (tgt := 31) hC dX11_letterHere_27 (by decide) ?_
    refine u_sub (lv' := []) [] rfl ?_
    exact wjX11_letterHere_31 hC n S (x23 - (96 : Int32))   hf hR
theorem ctX11_letterHere (l : Launch) (hl : l.stackTraces = false) (G : GT) (ρ : Nat → Nat) (Y : XS) (n : Nat) (S : PS) (a0 : Nat) (x1_ : Int32) (hTa0 : Ty Y a0 11) {o : Int32} (hf : fX11_letterHere Y n S a0 x1_ = some o) : Mt l G yX11_letterHere cX11_letterHere 2 (some .int) 1 ρ Y [.ref (ρ a0), .int x1_] S (some (.int o)) S :=
  Mt_of hl (by decide) (Nat.le_of_ble_eq_true rfl) (fun C _ _ hC hR => wX11_letterHere (X := (ρ, Y, 0, 0)) hC n S a0 x1_ hTa0 hf hR)
-- X11_named
theorem dX11_named_0 : decode cX11_named 0 = .ok (.iconst 0, 1) := by decide +kernel
theorem dX11_named_1 : decode cX11_named 1 = .ok (.istore_n 1, 1) := by decide +kernel
theorem dX11_named_2 : decode cX11_named 2 = .ok (.iload_n 1, 1) := by decide +kernel
theorem dX11_named_3 : decode cX11_named 3 = .ok (.aload_n 0, 1) := by decide +kernel
theorem dX11_named_4 : decode cX11_named 4 = .ok (.getfield 13, 3) := by decide +kernel
theorem dX11_named_7 : decode cX11_named 7 = .ok (.iconst 1, 1) := by decide +kernel
theorem dX11_named_8 : decode cX11_named 8 = .ok (.iaload, 1) := by decide +kernel
theorem dX11_named_9 : decode cX11_named 9 = .ok (.if_icmp .ge 63, 3) := by decide +kernel
theorem dX11_named_12 : decode cX11_named 12 = .ok (.iconst 1, 1) := by decide +kernel
theorem dX11_named_13 : decode cX11_named 13 = .ok (.istore_n 2, 1) := by decide +kernel
theorem dX11_named_14 : decode cX11_named 14 = .ok (.iconst 0, 1) := by decide +kernel
theorem dX11_named_15 : decode cX11_named 15 = .ok (.istore_n 3, 1) := by decide +kernel
theorem dX11_named_16 : decode cX11_named 16 = .ok (.iload_n 3, 1) := by decide +kernel
theorem dX11_named_17 : decode cX11_named 17 = .ok (.bipush 6, 2) := by decide +kernel
theorem dX11_named_19 : decode cX11_named 19 = .ok (.if_icmp .ge 41, 3) := by decide +kernel
theorem dX11_named_22 : decode cX11_named 22 = .ok (.iload_n 2, 1) := by decide +kernel
theorem dX11_named_23 : decode cX11_named 23 = .ok (.ifCond .eq 29, 3) := by decide +kernel
theorem dX11_named_26 : decode cX11_named 26 = .ok (.aload_n 0, 1) := by decide +kernel
theorem dX11_named_27 : decode cX11_named 27 = .ok (.getfield 13, 3) := by decide +kernel
theorem dX11_named_30 : decode cX11_named 30 = .ok (.bipush 15, 2) := by decide +kernel
theorem dX11_named_32 : decode cX11_named 32 = .ok (.bipush 6, 2) := by decide +kernel
theorem dX11_named_34 : decode cX11_named 34 = .ok (.iload_n 1, 1) := by decide +kernel
theorem dX11_named_35 : decode cX11_named 35 = .ok (.imul, 1) := by decide +kernel
theorem dX11_named_36 : decode cX11_named 36 = .ok (.iadd, 1) := by decide +kernel
theorem dX11_named_37 : decode cX11_named 37 = .ok (.iload_n 3, 1) := by decide +kernel
theorem dX11_named_38 : decode cX11_named 38 = .ok (.iadd, 1) := by decide +kernel
theorem dX11_named_39 : decode cX11_named 39 = .ok (.iaload, 1) := by decide +kernel
theorem dX11_named_40 : decode cX11_named 40 = .ok (.aload_n 0, 1) := by decide +kernel
theorem dX11_named_41 : decode cX11_named 41 = .ok (.iload_n 3, 1) := by decide +kernel
theorem dX11_named_42 : decode cX11_named 42 = .ok (.invokevirtual 389, 3) := by decide +kernel
theorem dX11_named_45 : decode cX11_named 45 = .ok (.if_icmp .ne 7, 3) := by decide +kernel
theorem dX11_named_48 : decode cX11_named 48 = .ok (.iconst 1, 1) := by decide +kernel
theorem dX11_named_49 : decode cX11_named 49 = .ok (.goto 4, 3) := by decide +kernel
theorem dX11_named_52 : decode cX11_named 52 = .ok (.iconst 0, 1) := by decide +kernel
theorem dX11_named_53 : decode cX11_named 53 = .ok (.istore_n 2, 1) := by decide +kernel
theorem dX11_named_54 : decode cX11_named 54 = .ok (.iinc 3 1, 3) := by decide +kernel
theorem dX11_named_57 : decode cX11_named 57 = .ok (.goto (-41), 3) := by decide +kernel
theorem dX11_named_60 : decode cX11_named 60 = .ok (.iload_n 2, 1) := by decide +kernel
theorem dX11_named_61 : decode cX11_named 61 = .ok (.ifCond .eq 5, 3) := by decide +kernel
theorem dX11_named_64 : decode cX11_named 64 = .ok (.iload_n 1, 1) := by decide +kernel
theorem dX11_named_65 : decode cX11_named 65 = .ok (.ireturn, 1) := by decide +kernel
theorem dX11_named_66 : decode cX11_named 66 = .ok (.iinc 1 1, 3) := by decide +kernel
theorem dX11_named_69 : decode cX11_named 69 = .ok (.goto (-67), 3) := by decide +kernel
theorem dX11_named_72 : decode cX11_named 72 = .ok (.iconst (-1), 1) := by decide +kernel
theorem dX11_named_73 : decode cX11_named 73 = .ok (.ireturn, 1) := by decide +kernel
def jX11_named_53_16 (Y : XS) (n : Nat) (S : PS) (v0 : Nat) (v1 : Int32) (v3 : Int32) (t0 : Int32) : Option ((Int32 × Int32) ⊕ Int32) :=
  some (.inl (t0, v3 + (1 : Int32)))
def jX11_named_52_16 (Y : XS) (n : Nat) (S : PS) (v0 : Nat) (v1 : Int32) (v3 : Int32) : Option ((Int32 × Int32) ⊕ Int32) :=
  jX11_named_53_16 Y n S v0 v1 v3 (0 : Int32)
def bX11_named_16 (Y : XS) (n : Nat) (S : PS) (v0 : Nat) (v1 : Int32) (s16 : (Int32 × Int32)) : Option ((Int32 × Int32) ⊕ Int32) :=
  (if (6 : Int32) ≤ s16.2 then some (.inr s16.1) else (if s16.1 = 0 then jX11_named_52_16 Y n S v0 v1 s16.2 else kgr S v0 1 (fun b27 => kai Y S b27 (((15 : Int32) + ((6 : Int32) * v1)) + s16.2) (fun x39 => kc (fX11_letterHere Y n S v0 s16.2) (fun q42 => (if x39 = q42 then jX11_named_53_16 Y n S v0 v1 s16.2 (1 : Int32) else jX11_named_52_16 Y n S v0 v1 s16.2))))))
def bX11_named_2 (Y : XS) (n : Nat) (S : PS) (v0 : Nat) (s2 : Int32) : Option (Int32 ⊕ (Unit ⊕ (Int32))) :=
  kgr S v0 1 (fun b4 => kai Y S b4 (1 : Int32) (fun x8 => (if x8 ≤ s2 then some (.inr (.inl ())) else kc (iter (bX11_named_16 Y n S v0 s2) n ((1 : Int32), (0 : Int32))) (fun r16 => (if r16 = 0 then some (.inl (s2 + (1 : Int32))) else some (.inr (.inr s2)))))))
def fX11_named (Y : XS) (n : Nat) (S : PS) (a0 : Nat) : Option (Int32) :=
  kc (iter (bX11_named_2 Y n S a0) n (0 : Int32)) (fun r2 => ks r2 (fun p2_0 => some (-1 : Int32)) (fun p2_1 => some p2_1))
theorem wjX11_named_53_16 {C : CT} {X : XT} (hC : CK C RX11 cX11_named 4 (some .int) 2) (n : Nat) (S : PS) (v0 : Nat) (v1 : Int32) (v3 : Int32) (t0 : Int32)  (hTv0 : Ty X.2.1 v0 11) {o : (Int32 × Int32) ⊕ Int32} (hf : jX11_named_53_16 X.2.1 n S v0 v1 v3 t0 = some o) (hN : ∀ s', o = .inl s' → UW C X S 16 [(0, .ref (X.1 v0)), (1, .int v1), (2, .int s'.1), (3, .int s'.2)] []) (hO0 : ∀ p', o = .inr p' → UW C X S 60 [(0, .ref (X.1 v0)), (1, .int v1), (2, .int p')] []) : UW C X S 53 [(0, .ref (X.1 v0)), (1, .int v1), (3, .int v3)] [.int t0] := by
  unfold jX11_named_53_16 at hf
  refine u_istore_n (lv' := [(2, .int t0), (0, .ref (X.1 v0)), (1, .int v1), (3, .int v3)]) hC dX11_named_53 rfl (by decide) rfl ?_
  refine u_iinc (v := v3 + (1 : Int32)) (lv' := [(3, .int (v3 + (1 : Int32))), (2, .int t0), (0, .ref (X.1 v0)), (1, .int v1)]) hC dX11_named_54 3 rfl rfl (by decide) rfl ?_
  refine u_goto (tgt := 16) hC dX11_named_57 (by decide) ?_
  refine u_sub (lv' := [(0, .ref (X.1 v0)), (1, .int v1), (2, .int t0), (3, .int (v3 + (1 : Int32)))]) [2, 3, 1, 0] rfl ?_
  exact hN _ (Option.some.inj hf).symm
theorem wjX11_named_52_16 {C : CT} {X : XT} (hC : CK C RX11 cX11_named 4 (some .int) 2) (n : Nat) (S : PS) (v0 : Nat) (v1 : Int32) (v3 : Int32)  (hTv0 : Ty X.2.1 v0 11) {o : (Int32 × Int32) ⊕ Int32} (hf : jX11_named_52_16 X.2.1 n S v0 v1 v3 = some o) (hN : ∀ s', o = .inl s' → UW C X S 16 [(0, .ref (X.1 v0)), (1, .int v1), (2, .int s'.1), (3, .int s'.2)] []) (hO0 : ∀ p', o = .inr p' → UW C X S 60 [(0, .ref (X.1 v0)), (1, .int v1), (2, .int p')] []) : UW C X S 52 [(0, .ref (X.1 v0)), (1, .int v1), (3, .int v3)] [] := by
  unfold jX11_named_52_16 at hf
  refine u_iconst (v := (0 : Int32)) hC dX11_named_52 (by decide) ?_
  exact wjX11_named_53_16 hC n S v0 v1 v3 (0 : Int32)  hTv0 hf hN hO0
theorem wbX11_named_16 {C : CT} {X : XT} (hC : CK C RX11 cX11_named 4 (some .int) 2) (n : Nat) (S : PS) (v0 : Nat) (v1 : Int32) (hTv0 : Ty X.2.1 v0 11) (s16 : (Int32 × Int32)) {o : (Int32 × Int32) ⊕ Int32} (hf : bX11_named_16 X.2.1 n S v0 v1 s16 = some o) (hN : ∀ s', o = .inl s' → UW C X S 16 [(0, .ref (X.1 v0)), (1, .int v1), (2, .int s'.1), (3, .int s'.2)] []) (hO0 : ∀ p', o = .inr p' → UW C X S 60 [(0, .ref (X.1 v0)), (1, .int v1), (2, .int p')] []) : UW C X S 16 [(0, .ref (X.1 v0)), (1, .int v1), (2, .int s16.1), (3, .int s16.2)] [] := by
  unfold bX11_named_16 at hf
  refine u_iload_n hC dX11_named_16 3 rfl rfl ?_
  refine u_bipush (v := (6 : Int32)) hC dX11_named_17 (by decide) ?_
  refine u_icmp_ge (tgt := 60) hC dX11_named_19 (by decide) hf (fun h19 hf => ?_) (fun h19 hf => ?_)
  · refine u_sub (lv' := [(0, .ref (X.1 v0)), (1, .int v1), (2, .int s16.1)]) [0, 1, 2] rfl ?_
    exact hO0 _ (Option.some.inj hf).symm
  · refine u_iload_n hC dX11_named_22 2 rfl rfl ?_
    refine u_if_eq (tgt := 52) hC dX11_named_23 (by decide) hf (fun h23 hf => ?_) (fun h23 hf => ?_)
    · refine u_sub (lv' := [(0, .ref (X.1 v0)), (1, .int v1), (3, .int s16.2)]) [0, 1, 3] rfl ?_
      exact wjX11_named_52_16 hC n S v0 v1 s16.2  hTv0 hf hN hO0
    · refine u_aload_n hC dX11_named_26 0 rfl rfl ?_
      refine u_gr hC lf_X11_13 rfl hTv0 dX11_named_27 hf (fun b27 hTb27 hf => ?_)
      refine u_bipush (v := (15 : Int32)) hC dX11_named_30 (by decide) ?_
      refine u_bipush (v := (6 : Int32)) hC dX11_named_32 (by decide) ?_
      refine u_iload_n hC dX11_named_34 1 rfl rfl ?_
      refine u_imul hC dX11_named_35 ?_
      refine u_iadd hC dX11_named_36 ?_
      refine u_iload_n hC dX11_named_37 3 rfl rfl ?_
      refine u_iadd hC dX11_named_38 ?_
      refine u_ai hC hTb27 dX11_named_39 hf (fun x39 hf => ?_)
      refine u_aload_n hC dX11_named_40 0 rfl rfl ?_
      refine u_iload_n hC dX11_named_41 3 rfl rfl ?_
      obtain ⟨q42, hq42, hf⟩ := kc_some hf
      refine u_callV hC (ctX11_letterHere (cL C) hC.tr (cG C) X.1 X.2.1 n S v0 s16.2 hTv0 hq42) lk_X11_389 rfl hTv0 (by decide) rfl (by decide) (by decide) rfl rfl (Nat.le_of_ble_eq_true rfl) dX11_named_42 ?_
      refine u_icmp_ne (tgt := 52) hC dX11_named_45 (by decide) hf (fun h45 hf => ?_) (fun h45 hf => ?_)
      · refine u_sub (lv' := [(0, .ref (X.1 v0)), (1, .int v1), (3, .int s16.2)]) [0, 1, 3] rfl ?_
        exact wjX11_named_52_16 hC n S v0 v1 s16.2  hTv0 hf hN hO0
      · refine u_iconst (v := (1 : Int32)) hC dX11_named_48 (by decide) ?_
        refine u_goto (tgt := 53) hC dX11_named_49 (by decide) ?_
        refine u_sub (lv' := [(0, .ref (X.1 v0)), (1, .int v1), (3, .int s16.2)]) [0, 1, 3] rfl ?_
        exact wjX11_named_53_16 hC n S v0 v1 s16.2 (1 : Int32)  hTv0 hf hN hO0
theorem wbX11_named_2 {C : CT} {X : XT} (hC : CK C RX11 cX11_named 4 (some .int) 2) (n : Nat) (S : PS) (v0 : Nat) (hTv0 : Ty X.2.1 v0 11) (s2 : Int32) {o : Int32 ⊕ (Unit ⊕ (Int32))} (hf : bX11_named_2 X.2.1 n S v0 s2 = some o) (hN : ∀ s', o = .inl s' → UW C X S 2 [(0, .ref (X.1 v0)), (1, .int s')] []) (hO0 : ∀ p', o = .inr (.inl p') → UW C X S 72 [] []) (hR : ∀ q', o = .inr (.inr q') → Rt C X cX11_named (some .int) (some (.int q')) S) : UW C X S 2 [(0, .ref (X.1 v0)), (1, .int s2)] [] := by
  unfold bX11_named_2 at hf
  refine u_iload_n hC dX11_named_2 1 rfl rfl ?_
  refine u_aload_n hC dX11_named_3 0 rfl rfl ?_
  refine u_gr hC lf_X11_13 rfl hTv0 dX11_named_4 hf (fun b4 hTb4 hf => ?_)
  refine u_iconst (v := (1 : Int32)) hC dX11_named_7 (by decide) ?_
  refine u_ai hC hTb4 dX11_named_8 hf (fun x8 hf => ?_)
  refine u_icmp_ge (tgt := 72) hC dX11_named_9 (by decide) hf (fun h9 hf => ?_) (fun h9 hf => ?_)
  · refine u_sub (lv' := []) [] rfl ?_
    exact hO0 _ (Option.some.inj hf).symm
  · refine u_iconst (v := (1 : Int32)) hC dX11_named_12 (by decide) ?_
    refine u_istore_n (lv' := [(2, .int (1 : Int32)), (0, .ref (X.1 v0)), (1, .int s2)]) hC dX11_named_13 rfl (by decide) rfl ?_
    refine u_iconst (v := (0 : Int32)) hC dX11_named_14 (by decide) ?_
    refine u_istore_n (lv' := [(3, .int (0 : Int32)), (2, .int (1 : Int32)), (0, .ref (X.1 v0)), (1, .int s2)]) hC dX11_named_15 rfl (by decide) rfl ?_
    obtain ⟨r16, hr16, hf⟩ := kc_some hf
    have hk16 : UW C X S 60 [(0, .ref (X.1 v0)), (1, .int s2), (2, .int r16)] [] := by
      refine u_iload_n hC dX11_named_60 2 rfl rfl ?_
      refine u_if_eq (tgt := 66) hC dX11_named_61 (by decide) hf (fun h61 hf => ?_) (fun h61 hf => ?_)
      · refine u_iinc (v := s2 + (1 : Int32)) (lv' := [(1, .int (s2 + (1 : Int32))), (0, .ref (X.1 v0)), (2, .int r16)]) hC dX11_named_66 1 rfl rfl (by decide) rfl ?_
        refine u_goto (tgt := 2) hC dX11_named_69 (by decide) ?_
        refine u_sub (lv' := [(0, .ref (X.1 v0)), (1, .int (s2 + (1 : Int32)))]) [1, 0] rfl ?_
        exact hN _ (Option.some.inj hf).symm
      · refine u_iload_n hC dX11_named_64 1 rfl rfl ?_
        exact hR _ (Option.some.inj hf).symm _ _ dX11_named_65 trivial
    refine u_sub (lv' := [(0, .ref (X.1 v0)), (1, .int s2), (2, .int (1 : Int32)), (3, .int (0 : Int32))]) [2, 3, 1, 0] rfl ?_
    refine iter_ind (P := fun s16 => UW C X S 16 [(0, .ref (X.1 v0)), (1, .int s2), (2, .int s16.1), (3, .int s16.2)] []) (fun s16 o' hb hin hout => ?_) n ((1 : Int32), (0 : Int32)) hr16
    exact wbX11_named_16 hC n S v0 s2 hTv0 s16 hb hin (fun p e => by rw [hout p e]; exact hk16)
theorem wX11_named {C : CT} {X : XT} (hC : CK C RX11 cX11_named 4 (some .int) 2) (n : Nat) (S : PS) (a0 : Nat) (hTa0 : Ty X.2.1 a0 11) {o : Int32} (hf : fX11_named X.2.1 n S a0 = some o) (hR : Rt C X cX11_named (some .int) (some (.int o)) S) : UW C X S 0 [(0, .ref (X.1 a0))] [] := by
  unfold fX11_named at hf
  refine u_iconst (v := (0 : Int32)) hC dX11_named_0 (by decide) ?_
  refine u_istore_n (lv' := [(1, .int (0 : Int32)), (0, .ref (X.1 a0))]) hC dX11_named_1 rfl (by decide) rfl ?_
  obtain ⟨r2, hr2, hf⟩ := kc_some hf
  have hk2_0 : ∀ p2_0, r2 = (.inl p2_0) → UW C X S 72 [] [] := by
    intro p2_0 he
    subst he
    have hf := ks_l hf
    refine u_iconst (v := (-1 : Int32)) hC dX11_named_72 (by decide) ?_
    cases hf
    exact hR _ _ dX11_named_73 trivial
  have hk2_1 : ∀ p2_1, r2 = (.inr p2_1) → Rt C X cX11_named (some .int) (some (.int p2_1)) S := by
    intro p2_1 he
    subst he
    have hf := ks_r hf
    cases hf
    exact hR
  refine u_sub (lv' := [(0, .ref (X.1 a0)), (1, .int (0 : Int32))]) [1, 0] rfl ?_
  refine iter_ind (P := fun s2 => UW C X S 2 [(0, .ref (X.1 a0)), (1, .int s2)] []) (fun s2 o' hb hin hout => ?_) n (0 : Int32) hr2
  exact wbX11_named_2 hC n S a0 hTa0 s2 hb hin (fun p e => hk2_0 p (hout _ e).symm) (fun p e => hk2_1 p (hout _ e).symm)
theorem ctX11_named (l : Launch) (hl : l.stackTraces = false) (G : GT) (ρ : Nat → Nat) (Y : XS) (n : Nat) (S : PS) (a0 : Nat) (hTa0 : Ty Y a0 11) {o : Int32} (hf : fX11_named Y n S a0 = some o) : Mt l G yX11_named cX11_named 4 (some .int) 2 ρ Y [.ref (ρ a0)] S (some (.int o)) S :=
  Mt_of hl (by decide) (Nat.le_of_ble_eq_true rfl) (fun C _ _ hC hR => wX11_named (X := (ρ, Y, 0, 0)) hC n S a0 hTa0 hf hR)
