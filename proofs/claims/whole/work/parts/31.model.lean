-- X11_thrown
theorem dX11_thrown_0 : decode cX11_thrown 0 = .ok (.aload_n 0, 1) := by decide +kernel
theorem dX11_thrown_1 : decode cX11_thrown 1 = .ok (.getfield 70, 3) := by decide +kernel
theorem dX11_thrown_4 : decode cX11_thrown 4 = .ok (.ireturn, 1) := by decide +kernel
def fX11_thrown (Y : XS) (n : Nat) (S : PS) (a0 : Nat) : Option (Int32) :=
  kgi S a0 7 (fun x1 => some x1)
theorem wX11_thrown {C : CT} {X : XT} (hC : CK C RX11 cX11_thrown 1 (some .int) 1) (n : Nat) (S : PS) (a0 : Nat) (hTa0 : Ty X.2.1 a0 11) {o : Int32} (hf : fX11_thrown X.2.1 n S a0 = some o) (hR : Rt C X cX11_thrown (some .int) (some (.int o)) S) : UW C X S 0 [(0, .ref (X.1 a0))] [] := by
  unfold fX11_thrown at hf
  refine u_aload_n hC dX11_thrown_0 0 rfl rfl ?_
  refine u_gi hC lf_X11_70 rfl hTa0 dX11_thrown_1 hf (fun x1 hf => ?_)
  cases hf
  exact hR _ _ dX11_thrown_4 trivial
theorem ctX11_thrown (l : Launch) (hl : l.stackTraces = false) (G : GT) (ρ : Nat → Nat) (Y : XS) (n : Nat) (S : PS) (a0 : Nat) (hTa0 : Ty Y a0 11) {o : Int32} (hf : fX11_thrown Y n S a0 = some o) : Mt l G yX11_thrown cX11_thrown 1 (some .int) 1 ρ Y [.ref (ρ a0)] S (some (.int o)) S :=
  Mt_of hl (by decide) (Nat.le_of_ble_eq_true rfl) (fun C _ _ hC hR => wX11_thrown (X := (ρ, Y, 0, 0)) hC n S a0 hTa0 hf hR)
-- X11_fail
theorem dX11_fail_0 : decode cX11_fail 0 = .ok (.aload_n 0, 1) := by decide +kernel
theorem dX11_fail_1 : decode cX11_fail 1 = .ok (.iload_n 1, 1) := by decide +kernel
theorem dX11_fail_2 : decode cX11_fail 2 = .ok (.putfield 70, 3) := by decide +kernel
theorem dX11_fail_5 : decode cX11_fail 5 = .ok (.iconst 0, 1) := by decide +kernel
theorem dX11_fail_6 : decode cX11_fail 6 = .ok (.ireturn, 1) := by decide +kernel
def fX11_fail (Y : XS) (n : Nat) (S : PS) (a0 : Nat) (x1_ : Int32) : Option (Int32 × PS) :=
  kpi S a0 7 x1_ (fun S2 => some ((0 : Int32), S2))
theorem wX11_fail {C : CT} {X : XT} (hC : CK C RX11 cX11_fail 2 (some .int) 1) (n : Nat) (S : PS) (a0 : Nat) (x1_ : Int32) (hTa0 : Ty X.2.1 a0 11) {o : Int32 × PS} (hf : fX11_fail X.2.1 n S a0 x1_ = some o) (hR : Rt C X cX11_fail (some .int) (some (.int o.1)) o.2) : UW C X S 0 [(0, .ref (X.1 a0)), (1, .int x1_)] [] := by
  unfold fX11_fail at hf
  refine u_aload_n hC dX11_fail_0 0 rfl rfl ?_
  refine u_iload_n hC dX11_fail_1 1 rfl rfl ?_
  refine u_pi hC lf_X11_70 rfl rfl rfl hTa0 dX11_fail_2 hf (fun S2 hf => ?_)
  refine u_iconst (v := (0 : Int32)) hC dX11_fail_5 (by decide) ?_
  cases hf
  exact hR _ _ dX11_fail_6 trivial
theorem ctX11_fail (l : Launch) (hl : l.stackTraces = false) (G : GT) (ρ : Nat → Nat) (Y : XS) (n : Nat) (S : PS) (a0 : Nat) (x1_ : Int32) (hTa0 : Ty Y a0 11) {o : Int32 × PS} (hf : fX11_fail Y n S a0 x1_ = some o) : Mt l G yX11_fail cX11_fail 2 (some .int) 1 ρ Y [.ref (ρ a0), .int x1_] S (some (.int o.1)) o.2 :=
  Mt_of hl (by decide) (Nat.le_of_ble_eq_true rfl) (fun C _ _ hC hR => wX11_fail (X := (ρ, Y, 0, 0)) hC n S a0 x1_ hTa0 hf hR)
-- X11_isIn
theorem dX11_isIn_0 : decode cX11_isIn 0 = .ok (.iload_n 0, 1) := by decide +kernel
theorem dX11_isIn_1 : decode cX11_isIn 1 = .ok (.iload_n 1, 1) := by decide +kernel
theorem dX11_isIn_2 : decode cX11_isIn 2 = .ok (.if_icmp .lt 12, 3) := by decide +kernel
theorem dX11_isIn_5 : decode cX11_isIn 5 = .ok (.iload_n 0, 1) := by decide +kernel
theorem dX11_isIn_6 : decode cX11_isIn 6 = .ok (.iload_n 2, 1) := by decide +kernel
theorem dX11_isIn_7 : decode cX11_isIn 7 = .ok (.if_icmp .gt 7, 3) := by decide +kernel
theorem dX11_isIn_10 : decode cX11_isIn 10 = .ok (.iconst 1, 1) := by decide +kernel
theorem dX11_isIn_11 : decode cX11_isIn 11 = .ok (.goto 4, 3) := by decide +kernel
theorem dX11_isIn_14 : decode cX11_isIn 14 = .ok (.iconst 0, 1) := by decide +kernel
theorem dX11_isIn_15 : decode cX11_isIn 15 = .ok (.ireturn, 1) := by decide +kernel
def jX11_isIn_15 (Y : XS) (n : Nat) (S : PS) (t0 : Int32) : Option (Int32) :=
  kzr t0 (some t0)
def jX11_isIn_14 (Y : XS) (n : Nat) (S : PS)  : Option (Int32) :=
  jX11_isIn_15 Y n S (0 : Int32)
def fX11_isIn (Y : XS) (n : Nat) (S : PS) (x0_ : Int32) (x1_ : Int32) (x2_ : Int32) : Option (Int32) :=
  (if x0_ < x1_ then jX11_isIn_14 Y n S  else (if x2_ < x0_ then jX11_isIn_14 Y n S  else jX11_isIn_15 Y n S (1 : Int32)))
theorem wjX11_isIn_15 {C : CT} {X : XT} (hC : CK C RX11 cX11_isIn 3 (some .boolean) 1) (n : Nat) (S : PS) (t0 : Int32)   {o : Int32} (hf : jX11_isIn_15 X.2.1 n S t0 = some o) (hR : Rt C X cX11_isIn (some .boolean) (some (.int o)) S) : UW C X S 15 [] [.int t0] := by
  unfold jX11_isIn_15 at hf
  obtain ⟨hz, hf⟩ := kzr_some hf
  cases hf
  exact hR _ _ dX11_isIn_15 hz
theorem wjX11_isIn_14 {C : CT} {X : XT} (hC : CK C RX11 cX11_isIn 3 (some .boolean) 1) (n : Nat) (S : PS)    {o : Int32} (hf : jX11_isIn_14 X.2.1 n S  = some o) (hR : Rt C X cX11_isIn (some .boolean) (some (.int o)) S) : UW C X S 14 [] [] := by
  unfold jX11_isIn_14 at hf
  refine u_iconst (v := (0 : Int32)) hC dX11_isIn_14 (by decide) ?_
  exact wjX11_isIn_15 hC n S (0 : Int32)   hf hR
theorem wX11_isIn {C : CT} {X : XT} (hC : CK C RX11 cX11_isIn 3 (some .boolean) 1) (n : Nat) (S : PS) (x0_ : Int32) (x1_ : Int32) (x2_ : Int32)  {o : Int32} (hf : fX11_isIn X.2.1 n S x0_ x1_ x2_ = some o) (hR : Rt C X cX11_isIn (some .boolean) (some (.int o)) S) : UW C X S 0 [(0, .int x0_), (1, .int x1_), (2, .int x2_)] [] := by
  unfold fX11_isIn at hf
  refine u_iload_n hC dX11_isIn_0 0 rfl rfl ?_
  refine u_iload_n hC dX11_isIn_1 1 rfl rfl ?_
  refine u_icmp_lt (tgt := 14) hC dX11_isIn_2 (by decide) hf (fun h2 hf => ?_) (fun h2 hf => ?_)
  · refine u_sub (lv' := []) [] rfl ?_
    exact wjX11_isIn_14 hC n S    hf hR
  · refine u_iload_n hC dX11_isIn_5 0 rfl rfl ?_
    refine u_iload_n hC dX11_isIn_6 2 rfl rfl ?_
    refine u_icmp_gt (tgt := 14) hC dX11_isIn_7 (by decide) hf (fun h7 hf => ?_) (fun h7 hf => ?_)
    · refine u_sub (lv' := []) [] rfl ?_
      exact wjX11_isIn_14 hC n S    hf hR
    · refine u_iconst (v := (1 : Int32)) hC dX11_isIn_10 (by decide) ?_
      refine u_goto (tgt := 15) hC dX11_isIn_11 (by decide) ?_
      refine u_sub (lv' := []) [] rfl ?_
      exact wjX11_isIn_15 hC n S (1 : Int32)   hf hR
theorem ctX11_isIn (l : Launch) (hl : l.stackTraces = false) (G : GT) (ρ : Nat → Nat) (Y : XS) (n : Nat) (S : PS) (x0_ : Int32) (x1_ : Int32) (x2_ : Int32)  {o : Int32} (hf : fX11_isIn Y n S x0_ x1_ x2_ = some o) : Mt l G yX11_isIn cX11_isIn 3 (some .boolean) 1 ρ Y [.int x0_, .int x1_, .int x2_] S (some (.int o)) S :=
  Mt_of hl (by decide) (Nat.le_of_ble_eq_true rfl) (fun C _ _ hC hR => wX11_isIn (X := (ρ, Y, 0, 0)) hC n S x0_ x1_ x2_  hf hR)
-- X11_copy
theorem dX11_copy_0 : decode cX11_copy 0 = .ok (.iconst 0, 1) := by decide +kernel
theorem dX11_copy_1 : decode cX11_copy 1 = .ok (.istore_n 2, 1) := by decide +kernel
theorem dX11_copy_2 : decode cX11_copy 2 = .ok (.iload_n 2, 1) := by decide +kernel
theorem dX11_copy_3 : decode cX11_copy 3 = .ok (.sipush 877, 3) := by decide +kernel
theorem dX11_copy_6 : decode cX11_copy 6 = .ok (.if_icmp .ge 15, 3) := by decide +kernel
theorem dX11_copy_9 : decode cX11_copy 9 = .ok (.aload_n 0, 1) := by decide +kernel
theorem dX11_copy_10 : decode cX11_copy 10 = .ok (.iload_n 2, 1) := by decide +kernel
theorem dX11_copy_11 : decode cX11_copy 11 = .ok (.aload_n 1, 1) := by decide +kernel
theorem dX11_copy_12 : decode cX11_copy 12 = .ok (.iload_n 2, 1) := by decide +kernel
theorem dX11_copy_13 : decode cX11_copy 13 = .ok (.iaload, 1) := by decide +kernel
theorem dX11_copy_14 : decode cX11_copy 14 = .ok (.iastore, 1) := by decide +kernel
theorem dX11_copy_15 : decode cX11_copy 15 = .ok (.iinc 2 1, 3) := by decide +kernel
theorem dX11_copy_18 : decode cX11_copy 18 = .ok (.goto (-16), 3) := by decide +kernel
theorem dX11_copy_21 : decode cX11_copy 21 = .ok (.return_, 1) := by decide +kernel
def bX11_copy_2 (Y : XS) (n : Nat) (v0 : Nat) (v1 : Nat) (s2 : (Int32 × PS)) : Option ((Int32 × PS) ⊕ PS) :=
  (if (877 : Int32) ≤ s2.1 then some (.inr s2.2) else kai Y s2.2 v1 s2.1 (fun x13 => kwi Y s2.2 v0 s2.1 x13 (fun S14 => some (.inl (s2.1 + (1 : Int32), S14)))))
def fX11_copy (Y : XS) (n : Nat) (S : PS) (a0 : Nat) (a1 : Nat) : Option (PS) :=
  kc (iter (bX11_copy_2 Y n a0 a1) n ((0 : Int32), S)) (fun r2 => some r2)
theorem wbX11_copy_2 {C : CT} {X : XT} (hC : CK C RX11 cX11_copy 3 none 1) (n : Nat) (v0 : Nat) (v1 : Nat) (hTv0 : Ty X.2.1 v0 12) (hTv1 : Ty X.2.1 v1 12) (s2 : (Int32 × PS)) {o : (Int32 × PS) ⊕ PS} (hf : bX11_copy_2 X.2.1 n v0 v1 s2 = some o) (hN : ∀ s', o = .inl s' → UW C X s'.2 2 [(0, .ref (X.1 v0)), (1, .ref (X.1 v1)), (2, .int s'.1)] []) (hO0 : ∀ p', o = .inr p' → UW C X p' 21 [] []) : UW C X s2.2 2 [(0, .ref (X.1 v0)), (1, .ref (X.1 v1)), (2, .int s2.1)] [] := by
  unfold bX11_copy_2 at hf
  refine u_iload_n hC dX11_copy_2 2 rfl rfl ?_
  refine u_sipush (v := (877 : Int32)) hC dX11_copy_3 (by decide) ?_
  refine u_icmp_ge (tgt := 21) hC dX11_copy_6 (by decide) hf (fun h6 hf => ?_) (fun h6 hf => ?_)
  · refine u_sub (lv' := []) [] rfl ?_
    exact hO0 _ (Option.some.inj hf).symm
  · refine u_aload_n hC dX11_copy_9 0 rfl rfl ?_
    refine u_iload_n hC dX11_copy_10 2 rfl rfl ?_
    refine u_aload_n hC dX11_copy_11 1 rfl rfl ?_
    refine u_iload_n hC dX11_copy_12 2 rfl rfl ?_
    refine u_ai hC hTv1 dX11_copy_13 hf (fun x13 hf => ?_)
    refine u_wi hC hTv0 dX11_copy_14 hf (fun S14 hf => ?_)
    refine u_iinc (v := s2.1 + (1 : Int32)) (lv' := [(2, .int (s2.1 + (1 : Int32))), (0, .ref (X.1 v0)), (1, .ref (X.1 v1))]) hC dX11_copy_15 2 rfl rfl (by decide) rfl ?_
    refine u_goto (tgt := 2) hC dX11_copy_18 (by decide) ?_
    refine u_sub (lv' := [(0, .ref (X.1 v0)), (1, .ref (X.1 v1)), (2, .int (s2.1 + (1 : Int32)))]) [1, 2, 0] rfl ?_
    exact hN _ (Option.some.inj hf).symm
theorem wX11_copy {C : CT} {X : XT} (hC : CK C RX11 cX11_copy 3 none 1) (n : Nat) (S : PS) (a0 : Nat) (a1 : Nat) (hTa0 : Ty X.2.1 a0 12) (hTa1 : Ty X.2.1 a1 12) {o : PS} (hf : fX11_copy X.2.1 n S a0 a1 = some o) (hR : Rt C X cX11_copy none none o) : UW C X S 0 [(0, .ref (X.1 a0)), (1, .ref (X.1 a1))] [] := by
  unfold fX11_copy at hf
  refine u_iconst (v := (0 : Int32)) hC dX11_copy_0 (by decide) ?_
  refine u_istore_n (lv' := [(2, .int (0 : Int32)), (0, .ref (X.1 a0)), (1, .ref (X.1 a1))]) hC dX11_copy_1 rfl (by decide) rfl ?_
  obtain ⟨r2, hr2, hf⟩ := kc_some hf
  have hk2 : UW C X r2 21 [] [] := by
    cases hf
    exact hR _ _ dX11_copy_21 trivial
  refine u_sub (lv' := [(0, .ref (X.1 a0)), (1, .ref (X.1 a1)), (2, .int (0 : Int32))]) [1, 2, 0] rfl ?_
  refine iter_ind (P := fun s2 => UW C X s2.2 2 [(0, .ref (X.1 a0)), (1, .ref (X.1 a1)), (2, .int s2.1)] []) (fun s2 o' hb hin hout => ?_) n ((0 : Int32), S) hr2
  exact wbX11_copy_2 hC n a0 a1 hTa0 hTa1 s2 hb hin (fun p e => by rw [hout p e]; exact hk2)
theorem ctX11_copy (l : Launch) (hl : l.stackTraces = false) (G : GT) (ρ : Nat → Nat) (Y : XS) (n : Nat) (S : PS) (a0 : Nat) (a1 : Nat) (hTa0 : Ty Y a0 12) (hTa1 : Ty Y a1 12) {o : PS} (hf : fX11_copy Y n S a0 a1 = some o) : Mt l G yX11_copy cX11_copy 3 none 1 ρ Y [.ref (ρ a0), .ref (ρ a1)] S none o :=
  Mt_of hl (by decide) (Nat.le_of_ble_eq_true rfl) (fun C _ _ hC hR => wX11_copy (X := (ρ, Y, 0, 0)) hC n S a0 a1 hTa0 hTa1 hf hR)
-- X11_many
theorem dX11_many_0 : decode cX11_many 0 = .ok (.aload_n 0, 1) := by decide +kernel
theorem dX11_many_1 : decode cX11_many 1 = .ok (.getfield 9, 3) := by decide +kernel
theorem dX11_many_4 : decode cX11_many 4 = .ok (.iconst 1, 1) := by decide +kernel
theorem dX11_many_5 : decode cX11_many 5 = .ok (.iaload, 1) := by decide +kernel
theorem dX11_many_6 : decode cX11_many 6 = .ok (.ireturn, 1) := by decide +kernel
def fX11_many (Y : XS) (n : Nat) (S : PS) (a0 : Nat) : Option (Int32) :=
  kgr S a0 0 (fun b1 => kai Y S b1 (1 : Int32) (fun x5 => some x5))
theorem wX11_many {C : CT} {X : XT} (hC : CK C RX11 cX11_many 1 (some .int) 1) (n : Nat) (S : PS) (a0 : Nat) (hTa0 : Ty X.2.1 a0 11) {o : Int32} (hf : fX11_many X.2.1 n S a0 = some o) (hR : Rt C X cX11_many (some .int) (some (.int o)) S) : UW C X S 0 [(0, .ref (X.1 a0))] [] := by
  unfold fX11_many at hf
  refine u_aload_n hC dX11_many_0 0 rfl rfl ?_
  refine u_gr hC lf_X11_9 rfl hTa0 dX11_many_1 hf (fun b1 hTb1 hf => ?_)
  refine u_iconst (v := (1 : Int32)) hC dX11_many_4 (by decide) ?_
  refine u_ai hC hTb1 dX11_many_5 hf (fun x5 hf => ?_)
  cases hf
  exact hR _ _ dX11_many_6 trivial
theorem ctX11_many (l : Launch) (hl : l.stackTraces = false) (G : GT) (ρ : Nat → Nat) (Y : XS) (n : Nat) (S : PS) (a0 : Nat) (hTa0 : Ty Y a0 11) {o : Int32} (hf : fX11_many Y n S a0 = some o) : Mt l G yX11_many cX11_many 1 (some .int) 1 ρ Y [.ref (ρ a0)] S (some (.int o)) S :=
  Mt_of hl (by decide) (Nat.le_of_ble_eq_true rfl) (fun C _ _ hC hR => wX11_many (X := (ρ, Y, 0, 0)) hC n S a0 hTa0 hf hR)
-- X11_people
theorem dX11_people_0 : decode cX11_people 0 = .ok (.aload_n 0, 1) := by decide +kernel
theorem dX11_people_1 : decode cX11_people 1 = .ok (.getfield 9, 3) := by decide +kernel
theorem dX11_people_4 : decode cX11_people 4 = .ok (.iconst 2, 1) := by decide +kernel
theorem dX11_people_5 : decode cX11_people 5 = .ok (.iaload, 1) := by decide +kernel
theorem dX11_people_6 : decode cX11_people 6 = .ok (.ireturn, 1) := by decide +kernel
def fX11_people (Y : XS) (n : Nat) (S : PS) (a0 : Nat) : Option (Int32) :=
  kgr S a0 0 (fun b1 => kai Y S b1 (2 : Int32) (fun x5 => some x5))
theorem wX11_people {C : CT} {X : XT} (hC : CK C RX11 cX11_people 1 (some .int) 1) (n : Nat) (S : PS) (a0 : Nat) (hTa0 : Ty X.2.1 a0 11) {o : Int32} (hf : fX11_people X.2.1 n S a0 = some o) (hR : Rt C X cX11_people (some .int) (some (.int o)) S) : UW C X S 0 [(0, .ref (X.1 a0))] [] := by
  unfold fX11_people at hf
  refine u_aload_n hC dX11_people_0 0 rfl rfl ?_
  refine u_gr hC lf_X11_9 rfl hTa0 dX11_people_1 hf (fun b1 hTb1 hf => ?_)
  refine u_iconst (v := (2 : Int32)) hC dX11_people_4 (by decide) ?_
  refine u_ai hC hTb1 dX11_people_5 hf (fun x5 hf => ?_)
  cases hf
  exact hR _ _ dX11_people_6 trivial
theorem ctX11_people (l : Launch) (hl : l.stackTraces = false) (G : GT) (ρ : Nat → Nat) (Y : XS) (n : Nat) (S : PS) (a0 : Nat) (hTa0 : Ty Y a0 11) {o : Int32} (hf : fX11_people Y n S a0 = some o) : Mt l G yX11_people cX11_people 1 (some .int) 1 ρ Y [.ref (ρ a0)] S (some (.int o)) S :=
  Mt_of hl (by decide) (Nat.le_of_ble_eq_true rfl) (fun C _ _ hC hR => wX11_people (X := (ρ, Y, 0, 0)) hC n S a0 hTa0 hf hR)
-- X11_costOf
theorem dX11_costOf_0 : decode cX11_costOf 0 = .ok (.aload_n 0, 1) := by decide +kernel
theorem dX11_costOf_1 : decode cX11_costOf 1 = .ok (.getfield 9, 3) := by decide +kernel
theorem dX11_costOf_4 : decode cX11_costOf 4 = .ok (.iconst 3, 1) := by decide +kernel
theorem dX11_costOf_5 : decode cX11_costOf 5 = .ok (.iload_n 1, 1) := by decide +kernel
theorem dX11_costOf_6 : decode cX11_costOf 6 = .ok (.iadd, 1) := by decide +kernel
theorem dX11_costOf_7 : decode cX11_costOf 7 = .ok (.iaload, 1) := by decide +kernel
theorem dX11_costOf_8 : decode cX11_costOf 8 = .ok (.ireturn, 1) := by decide +kernel
def fX11_costOf (Y : XS) (n : Nat) (S : PS) (a0 : Nat) (x1_ : Int32) : Option (Int32) :=
  kgr S a0 0 (fun b1 => kai Y S b1 ((3 : Int32) + x1_) (fun x7 => some x7))
theorem wX11_costOf {C : CT} {X : XT} (hC : CK C RX11 cX11_costOf 2 (some .int) 1) (n : Nat) (S : PS) (a0 : Nat) (x1_ : Int32) (hTa0 : Ty X.2.1 a0 11) {o : Int32} (hf : fX11_costOf X.2.1 n S a0 x1_ = some o) (hR : Rt C X cX11_costOf (some .int) (some (.int o)) S) : UW C X S 0 [(0, .ref (X.1 a0)), (1, .int x1_)] [] := by
  unfold fX11_costOf at hf
  refine u_aload_n hC dX11_costOf_0 0 rfl rfl ?_
  refine u_gr hC lf_X11_9 rfl hTa0 dX11_costOf_1 hf (fun b1 hTb1 hf => ?_)
  refine u_iconst (v := (3 : Int32)) hC dX11_costOf_4 (by decide) ?_
  refine u_iload_n hC dX11_costOf_5 1 rfl rfl ?_
  refine u_iadd hC dX11_costOf_6 ?_
  refine u_ai hC hTb1 dX11_costOf_7 hf (fun x7 hf => ?_)
  cases hf
  exact hR _ _ dX11_costOf_8 trivial
theorem ctX11_costOf (l : Launch) (hl : l.stackTraces = false) (G : GT) (ρ : Nat → Nat) (Y : XS) (n : Nat) (S : PS) (a0 : Nat) (x1_ : Int32) (hTa0 : Ty Y a0 11) {o : Int32} (hf : fX11_costOf Y n S a0 x1_ = some o) : Mt l G yX11_costOf cX11_costOf 2 (some .int) 1 ρ Y [.ref (ρ a0), .int x1_] S (some (.int o)) S :=
  Mt_of hl (by decide) (Nat.le_of_ble_eq_true rfl) (fun C _ _ hC hR => wX11_costOf (X := (ρ, Y, 0, 0)) hC n S a0 x1_ hTa0 hf hR)
-- X11_scoreAt
theorem dX11_scoreAt_0 : decode cX11_scoreAt 0 = .ok (.bipush 87, 2) := by decide +kernel
theorem dX11_scoreAt_2 : decode cX11_scoreAt 2 = .ok (.bipush 12, 2) := by decide +kernel
theorem dX11_scoreAt_4 : decode cX11_scoreAt 4 = .ok (.iload_n 0, 1) := by decide +kernel
theorem dX11_scoreAt_5 : decode cX11_scoreAt 5 = .ok (.imul, 1) := by decide +kernel
theorem dX11_scoreAt_6 : decode cX11_scoreAt 6 = .ok (.iadd, 1) := by decide +kernel
theorem dX11_scoreAt_7 : decode cX11_scoreAt 7 = .ok (.iload_n 1, 1) := by decide +kernel
theorem dX11_scoreAt_8 : decode cX11_scoreAt 8 = .ok (.iadd, 1) := by decide +kernel
theorem dX11_scoreAt_9 : decode cX11_scoreAt 9 = .ok (.ireturn, 1) := by decide +kernel
def fX11_scoreAt (Y : XS) (n : Nat) (S : PS) (x0_ : Int32) (x1_ : Int32) : Option (Int32) :=
  some (((87 : Int32) + ((12 : Int32) * x0_)) + x1_)
theorem wX11_scoreAt {C : CT} {X : XT} (hC : CK C RX11 cX11_scoreAt 2 (some .int) 1) (n : Nat) (S : PS) (x0_ : Int32) (x1_ : Int32)  {o : Int32} (hf : fX11_scoreAt X.2.1 n S x0_ x1_ = some o) (hR : Rt C X cX11_scoreAt (some .int) (some (.int o)) S) : UW C X S 0 [(0, .int x0_), (1, .int x1_)] [] := by
  unfold fX11_scoreAt at hf
  refine u_bipush (v := (87 : Int32)) hC dX11_scoreAt_0 (by decide) ?_
  refine u_bipush (v := (12 : Int32)) hC dX11_scoreAt_2 (by decide) ?_
  refine u_iload_n hC dX11_scoreAt_4 0 rfl rfl ?_
  refine u_imul hC dX11_scoreAt_5 ?_
  refine u_iadd hC dX11_scoreAt_6 ?_
  refine u_iload_n hC dX11_scoreAt_7 1 rfl rfl ?_
  refine u_iadd hC dX11_scoreAt_8 ?_
  cases hf
  exact hR _ _ dX11_scoreAt_9 trivial
theorem ctX11_scoreAt (l : Launch) (hl : l.stackTraces = false) (G : GT) (ρ : Nat → Nat) (Y : XS) (n : Nat) (S : PS) (x0_ : Int32) (x1_ : Int32)  {o : Int32} (hf : fX11_scoreAt Y n S x0_ x1_ = some o) : Mt l G yX11_scoreAt cX11_scoreAt 2 (some .int) 1 ρ Y [.int x0_, .int x1_] S (some (.int o)) S :=
  Mt_of hl (by decide) (Nat.le_of_ble_eq_true rfl) (fun C _ _ hC hR => wX11_scoreAt (X := (ρ, Y, 0, 0)) hC n S x0_ x1_  hf hR)
-- X11_scoreOf
theorem dX11_scoreOf_0 : decode cX11_scoreOf 0 = .ok (.aload_n 0, 1) := by decide +kernel
theorem dX11_scoreOf_1 : decode cX11_scoreOf 1 = .ok (.getfield 9, 3) := by decide +kernel
theorem dX11_scoreOf_4 : decode cX11_scoreOf 4 = .ok (.iload_n 1, 1) := by decide +kernel
theorem dX11_scoreOf_5 : decode cX11_scoreOf 5 = .ok (.iload_n 2, 1) := by decide +kernel
theorem dX11_scoreOf_6 : decode cX11_scoreOf 6 = .ok (.invokestatic 73, 3) := by decide +kernel
theorem dX11_scoreOf_9 : decode cX11_scoreOf 9 = .ok (.iaload, 1) := by decide +kernel
theorem dX11_scoreOf_10 : decode cX11_scoreOf 10 = .ok (.ireturn, 1) := by decide +kernel
def fX11_scoreOf (Y : XS) (n : Nat) (S : PS) (a0 : Nat) (x1_ : Int32) (x2_ : Int32) : Option (Int32) :=
  kgr S a0 0 (fun b1 => kc (fX11_scoreAt Y n S x1_ x2_) (fun q6 => kai Y S b1 q6 (fun x9 => some x9)))
theorem wX11_scoreOf {C : CT} {X : XT} (hC : CK C RX11 cX11_scoreOf 3 (some .int) 2) (n : Nat) (S : PS) (a0 : Nat) (x1_ : Int32) (x2_ : Int32) (hTa0 : Ty X.2.1 a0 11) {o : Int32} (hf : fX11_scoreOf X.2.1 n S a0 x1_ x2_ = some o) (hR : Rt C X cX11_scoreOf (some .int) (some (.int o)) S) : UW C X S 0 [(0, .ref (X.1 a0)), (1, .int x1_), (2, .int x2_)] [] := by
  unfold fX11_scoreOf at hf
  refine u_aload_n hC dX11_scoreOf_0 0 rfl rfl ?_
  refine u_gr hC lf_X11_9 rfl hTa0 dX11_scoreOf_1 hf (fun b1 hTb1 hf => ?_)
  refine u_iload_n hC dX11_scoreOf_4 1 rfl rfl ?_
  refine u_iload_n hC dX11_scoreOf_5 2 rfl rfl ?_
  obtain ⟨q6, hq6, hf⟩ := kc_some hf
  refine u_callS hC (ctX11_scoreAt (cL C) hC.tr (cG C) X.1 X.2.1 n S x1_ x2_  hq6) lk_X11_73 (by decide) (by decide) rfl rfl (Nat.le_of_ble_eq_true rfl) dX11_scoreOf_6 ?_
  refine u_ai hC hTb1 dX11_scoreOf_9 hf (fun x9 hf => ?_)
  cases hf
  exact hR _ _ dX11_scoreOf_10 trivial
theorem ctX11_scoreOf (l : Launch) (hl : l.stackTraces = false) (G : GT) (ρ : Nat → Nat) (Y : XS) (n : Nat) (S : PS) (a0 : Nat) (x1_ : Int32) (x2_ : Int32) (hTa0 : Ty Y a0 11) {o : Int32} (hf : fX11_scoreOf Y n S a0 x1_ x2_ = some o) : Mt l G yX11_scoreOf cX11_scoreOf 3 (some .int) 2 ρ Y [.ref (ρ a0), .int x1_, .int x2_] S (some (.int o)) S :=
  Mt_of hl (by decide) (Nat.le_of_ble_eq_true rfl) (fun C _ _ hC hR => wX11_scoreOf (X := (ρ, Y, 0, 0)) hC n S a0 x1_ x2_ hTa0 hf hR)
-- X11_isProject
theorem dX11_isProject_0 : decode cX11_isProject 0 = .ok (.iload_n 1, 1) := by decide +kernel
theorem dX11_isProject_1 : decode cX11_isProject 1 = .ok (.iconst 0, 1) := by decide +kernel
theorem dX11_isProject_2 : decode cX11_isProject 2 = .ok (.aload_n 0, 1) := by decide +kernel
theorem dX11_isProject_3 : decode cX11_isProject 3 = .ok (.invokevirtual 77, 3) := by decide +kernel
theorem dX11_isProject_6 : decode cX11_isProject 6 = .ok (.iconst 1, 1) := by decide +kernel
theorem dX11_isProject_7 : decode cX11_isProject 7 = .ok (.isub, 1) := by decide +kernel
theorem dX11_isProject_8 : decode cX11_isProject 8 = .ok (.invokestatic 81, 3) := by decide +kernel
theorem dX11_isProject_11 : decode cX11_isProject 11 = .ok (.ireturn, 1) := by decide +kernel
def fX11_isProject (Y : XS) (n : Nat) (S : PS) (a0 : Nat) (x1_ : Int32) : Option (Int32) :=
  kc (fX11_many Y n S a0) (fun q3 => kc (fX11_isIn Y n S x1_ (0 : Int32) (q3 - (1 : Int32))) (fun q8 => kzr q8 (some q8)))
theorem wX11_isProject {C : CT} {X : XT} (hC : CK C RX11 cX11_isProject 2 (some .boolean) 2) (n : Nat) (S : PS) (a0 : Nat) (x1_ : Int32) (hTa0 : Ty X.2.1 a0 11) {o : Int32} (hf : fX11_isProject X.2.1 n S a0 x1_ = some o) (hR : Rt C X cX11_isProject (some .boolean) (some (.int o)) S) : UW C X S 0 [(0, .ref (X.1 a0)), (1, .int x1_)] [] := by
  unfold fX11_isProject at hf
  refine u_iload_n hC dX11_isProject_0 1 rfl rfl ?_
  refine u_iconst (v := (0 : Int32)) hC dX11_isProject_1 (by decide) ?_
  refine u_aload_n hC dX11_isProject_2 0 rfl rfl ?_
  obtain ⟨q3, hq3, hf⟩ := kc_some hf
  refine u_callV hC (ctX11_many (cL C) hC.tr (cG C) X.1 X.2.1 n S a0 hTa0 hq3) lk_X11_77 rfl hTa0 (by decide) rfl (by decide) (by decide) rfl rfl (Nat.le_of_ble_eq_true rfl) dX11_isProject_3 ?_
  refine u_iconst (v := (1 : Int32)) hC dX11_isProject_6 (by decide) ?_
  refine u_isub hC dX11_isProject_7 ?_
  obtain ⟨q8, hq8, hf⟩ := kc_some hf
  refine u_callS hC (ctX11_isIn (cL C) hC.tr (cG C) X.1 X.2.1 n S x1_ (0 : Int32) (q3 - (1 : Int32))  hq8) lk_X11_81 (by decide) (by decide) rfl rfl (Nat.le_of_ble_eq_true rfl) dX11_isProject_8 ?_
  obtain ⟨hz, hf⟩ := kzr_some hf
  cases hf
  exact hR _ _ dX11_isProject_11 hz
theorem ctX11_isProject (l : Launch) (hl : l.stackTraces = false) (G : GT) (ρ : Nat → Nat) (Y : XS) (n : Nat) (S : PS) (a0 : Nat) (x1_ : Int32) (hTa0 : Ty Y a0 11) {o : Int32} (hf : fX11_isProject Y n S a0 x1_ = some o) : Mt l G yX11_isProject cX11_isProject 2 (some .boolean) 2 ρ Y [.ref (ρ a0), .int x1_] S (some (.int o)) S :=
  Mt_of hl (by decide) (Nat.le_of_ble_eq_true rfl) (fun C _ _ hC hR => wX11_isProject (X := (ρ, Y, 0, 0)) hC n S a0 x1_ hTa0 hf hR)
-- X11_isVoter
theorem dX11_isVoter_0 : decode cX11_isVoter 0 = .ok (.iload_n 1, 1) := by decide +kernel
theorem dX11_isVoter_1 : decode cX11_isVoter 1 = .ok (.iconst 0, 1) := by decide +kernel
theorem dX11_isVoter_2 : decode cX11_isVoter 2 = .ok (.aload_n 0, 1) := by decide +kernel
theorem dX11_isVoter_3 : decode cX11_isVoter 3 = .ok (.invokevirtual 85, 3) := by decide +kernel
theorem dX11_isVoter_6 : decode cX11_isVoter 6 = .ok (.iconst 1, 1) := by decide +kernel
theorem dX11_isVoter_7 : decode cX11_isVoter 7 = .ok (.isub, 1) := by decide +kernel
theorem dX11_isVoter_8 : decode cX11_isVoter 8 = .ok (.invokestatic 81, 3) := by decide +kernel
theorem dX11_isVoter_11 : decode cX11_isVoter 11 = .ok (.ireturn, 1) := by decide +kernel
def fX11_isVoter (Y : XS) (n : Nat) (S : PS) (a0 : Nat) (x1_ : Int32) : Option (Int32) :=
  kc (fX11_people Y n S a0) (fun q3 => kc (fX11_isIn Y n S x1_ (0 : Int32) (q3 - (1 : Int32))) (fun q8 => kzr q8 (some q8)))
theorem wX11_isVoter {C : CT} {X : XT} (hC : CK C RX11 cX11_isVoter 2 (some .boolean) 2) (n : Nat) (S : PS) (a0 : Nat) (x1_ : Int32) (hTa0 : Ty X.2.1 a0 11) {o : Int32} (hf : fX11_isVoter X.2.1 n S a0 x1_ = some o) (hR : Rt C X cX11_isVoter (some .boolean) (some (.int o)) S) : UW C X S 0 [(0, .ref (X.1 a0)), (1, .int x1_)] [] := by
  unfold fX11_isVoter at hf
  refine u_iload_n hC dX11_isVoter_0 1 rfl rfl ?_
  refine u_iconst (v := (0 : Int32)) hC dX11_isVoter_1 (by decide) ?_
  refine u_aload_n hC dX11_isVoter_2 0 rfl rfl ?_
  obtain ⟨q3, hq3, hf⟩ := kc_some hf
  refine u_callV hC (ctX11_people (cL C) hC.tr (cG C) X.1 X.2.1 n S a0 hTa0 hq3) lk_X11_85 rfl hTa0 (by decide) rfl (by decide) (by decide) rfl rfl (Nat.le_of_ble_eq_true rfl) dX11_isVoter_3 ?_
  refine u_iconst (v := (1 : Int32)) hC dX11_isVoter_6 (by decide) ?_
  refine u_isub hC dX11_isVoter_7 ?_
  obtain ⟨q8, hq8, hf⟩ := kc_some hf
  refine u_callS hC (ctX11_isIn (cL C) hC.tr (cG C) X.1 X.2.1 n S x1_ (0 : Int32) (q3 - (1 : Int32))  hq8) lk_X11_81 (by decide) (by decide) rfl rfl (Nat.le_of_ble_eq_true rfl) dX11_isVoter_8 ?_
  obtain ⟨hz, hf⟩ := kzr_some hf
  cases hf
  exact hR _ _ dX11_isVoter_11 hz
theorem ctX11_isVoter (l : Launch) (hl : l.stackTraces = false) (G : GT) (ρ : Nat → Nat) (Y : XS) (n : Nat) (S : PS) (a0 : Nat) (x1_ : Int32) (hTa0 : Ty Y a0 11) {o : Int32} (hf : fX11_isVoter Y n S a0 x1_ = some o) : Mt l G yX11_isVoter cX11_isVoter 2 (some .boolean) 2 ρ Y [.ref (ρ a0), .int x1_] S (some (.int o)) S :=
  Mt_of hl (by decide) (Nat.le_of_ble_eq_true rfl) (fun C _ _ hC hR => wX11_isVoter (X := (ρ, Y, 0, 0)) hC n S a0 x1_ hTa0 hf hR)
-- X11_isRule
theorem dX11_isRule_0 : decode cX11_isRule 0 = .ok (.iload_n 0, 1) := by decide +kernel
theorem dX11_isRule_1 : decode cX11_isRule 1 = .ok (.iconst 0, 1) := by decide +kernel
theorem dX11_isRule_2 : decode cX11_isRule 2 = .ok (.bipush 8, 2) := by decide +kernel
theorem dX11_isRule_4 : decode cX11_isRule 4 = .ok (.invokestatic 81, 3) := by decide +kernel
theorem dX11_isRule_7 : decode cX11_isRule 7 = .ok (.ireturn, 1) := by decide +kernel
def fX11_isRule (Y : XS) (n : Nat) (S : PS) (x0_ : Int32) : Option (Int32) :=
  kc (fX11_isIn Y n S x0_ (0 : Int32) (8 : Int32)) (fun q4 => kzr q4 (some q4))
theorem wX11_isRule {C : CT} {X : XT} (hC : CK C RX11 cX11_isRule 1 (some .boolean) 2) (n : Nat) (S : PS) (x0_ : Int32)  {o : Int32} (hf : fX11_isRule X.2.1 n S x0_ = some o) (hR : Rt C X cX11_isRule (some .boolean) (some (.int o)) S) : UW C X S 0 [(0, .int x0_)] [] := by
  unfold fX11_isRule at hf
  refine u_iload_n hC dX11_isRule_0 0 rfl rfl ?_
  refine u_iconst (v := (0 : Int32)) hC dX11_isRule_1 (by decide) ?_
  refine u_bipush (v := (8 : Int32)) hC dX11_isRule_2 (by decide) ?_
  obtain ⟨q4, hq4, hf⟩ := kc_some hf
  refine u_callS hC (ctX11_isIn (cL C) hC.tr (cG C) X.1 X.2.1 n S x0_ (0 : Int32) (8 : Int32)  hq4) lk_X11_81 (by decide) (by decide) rfl rfl (Nat.le_of_ble_eq_true rfl) dX11_isRule_4 ?_
  obtain ⟨hz, hf⟩ := kzr_some hf
  cases hf
  exact hR _ _ dX11_isRule_7 hz
theorem ctX11_isRule (l : Launch) (hl : l.stackTraces = false) (G : GT) (ρ : Nat → Nat) (Y : XS) (n : Nat) (S : PS) (x0_ : Int32)  {o : Int32} (hf : fX11_isRule Y n S x0_ = some o) : Mt l G yX11_isRule cX11_isRule 1 (some .boolean) 2 ρ Y [.int x0_] S (some (.int o)) S :=
  Mt_of hl (by decide) (Nat.le_of_ble_eq_true rfl) (fun C _ _ hC hR => wX11_isRule (X := (ρ, Y, 0, 0)) hC n S x0_  hf hR)
-- X11_isOf
theorem dX11_isOf_0 : decode cX11_isOf 0 = .ok (.iload_n 0, 1) := by decide +kernel
theorem dX11_isOf_1 : decode cX11_isOf 1 = .ok (.iload_n 1, 1) := by decide +kernel
theorem dX11_isOf_2 : decode cX11_isOf 2 = .ok (.ishr, 1) := by decide +kernel
theorem dX11_isOf_3 : decode cX11_isOf 3 = .ok (.iconst 1, 1) := by decide +kernel
theorem dX11_isOf_4 : decode cX11_isOf 4 = .ok (.iand, 1) := by decide +kernel
theorem dX11_isOf_5 : decode cX11_isOf 5 = .ok (.iconst 1, 1) := by decide +kernel
theorem dX11_isOf_6 : decode cX11_isOf 6 = .ok (.if_icmp .ne 7, 3) := by decide +kernel
theorem dX11_isOf_9 : decode cX11_isOf 9 = .ok (.iconst 1, 1) := by decide +kernel
theorem dX11_isOf_10 : decode cX11_isOf 10 = .ok (.goto 4, 3) := by decide +kernel
theorem dX11_isOf_13 : decode cX11_isOf 13 = .ok (.iconst 0, 1) := by decide +kernel
theorem dX11_isOf_14 : decode cX11_isOf 14 = .ok (.ireturn, 1) := by decide +kernel
def jX11_isOf_14 (Y : XS) (n : Nat) (S : PS) (t0 : Int32) : Option (Int32) :=
  kzr t0 (some t0)
def fX11_isOf (Y : XS) (n : Nat) (S : PS) (x0_ : Int32) (x1_ : Int32) : Option (Int32) :=
  (if ((x0_ >>> (x1_ &&& 31)) &&& (1 : Int32)) = (1 : Int32) then jX11_isOf_14 Y n S (1 : Int32) else jX11_isOf_14 Y n S (0 : Int32))
theorem wjX11_isOf_14 {C : CT} {X : XT} (hC : CK C RX11 cX11_isOf 2 (some .boolean) 1) (n : Nat) (S : PS) (t0 : Int32)   {o : Int32} (hf : jX11_isOf_14 X.2.1 n S t0 = some o) (hR : Rt C X cX11_isOf (some .boolean) (some (.int o)) S) : UW C X S 14 [] [.int t0] := by
  unfold jX11_isOf_14 at hf
  obtain ⟨hz, hf⟩ := kzr_some hf
  cases hf
  exact hR _ _ dX11_isOf_14 hz
theorem wX11_isOf {C : CT} {X : XT} (hC : CK C RX11 cX11_isOf 2 (some .boolean) 1) (n : Nat) (S : PS) (x0_ : Int32) (x1_ : Int32)  {o : Int32} (hf : fX11_isOf X.2.1 n S x0_ x1_ = some o) (hR : Rt C X cX11_isOf (some .boolean) (some (.int o)) S) : UW C X S 0 [(0, .int x0_), (1, .int x1_)] [] := by
  unfold fX11_isOf at hf
  refine u_iload_n hC dX11_isOf_0 0 rfl rfl ?_
  refine u_iload_n hC dX11_isOf_1 1 rfl rfl ?_
  refine u_ishr hC dX11_isOf_2 ?_
  refine u_iconst (v := (1 : Int32)) hC dX11_isOf_3 (by decide) ?_
  refine u_iand hC dX11_isOf_4 ?_
  refine u_iconst (v := (1 : Int32)) hC dX11_isOf_5 (by decide) ?_
  refine u_icmp_ne (tgt := 13) hC dX11_isOf_6 (by decide) hf (fun h6 hf => ?_) (fun h6 hf => ?_)
  · refine u_iconst (v := (0 : Int32)) hC dX11_isOf_13 (by decide) ?_
    refine u_sub (lv' := []) [] rfl ?_
    exact wjX11_isOf_14 hC n S (0 : Int32)   hf hR
  · refine u_iconst (v := (1 : Int32)) hC dX11_isOf_9 (by decide) ?_
    refine u_goto (tgt := 14) hC dX11_isOf_10 (by decide) ?_
    refine u_sub (lv' := []) [] rfl ?_
    exact wjX11_isOf_14 hC n S (1 : Int32)   hf hR
theorem ctX11_isOf (l : Launch) (hl : l.stackTraces = false) (G : GT) (ρ : Nat → Nat) (Y : XS) (n : Nat) (S : PS) (x0_ : Int32) (x1_ : Int32)  {o : Int32} (hf : fX11_isOf Y n S x0_ x1_ = some o) : Mt l G yX11_isOf cX11_isOf 2 (some .boolean) 1 ρ Y [.int x0_, .int x1_] S (some (.int o)) S :=
  Mt_of hl (by decide) (Nat.le_of_ble_eq_true rfl) (fun C _ _ hC hR => wX11_isOf (X := (ρ, Y, 0, 0)) hC n S x0_ x1_  hf hR)
-- X11_bitsOf
theorem dX11_bitsOf_0 : decode cX11_bitsOf 0 = .ok (.iconst 0, 1) := by decide +kernel
theorem dX11_bitsOf_1 : decode cX11_bitsOf 1 = .ok (.istore_n 1, 1) := by decide +kernel
theorem dX11_bitsOf_2 : decode cX11_bitsOf 2 = .ok (.iload_n 0, 1) := by decide +kernel
theorem dX11_bitsOf_3 : decode cX11_bitsOf 3 = .ok (.istore_n 2, 1) := by decide +kernel
theorem dX11_bitsOf_4 : decode cX11_bitsOf 4 = .ok (.iload_n 2, 1) := by decide +kernel
theorem dX11_bitsOf_5 : decode cX11_bitsOf 5 = .ok (.ifCond .eq 15, 3) := by decide +kernel
theorem dX11_bitsOf_8 : decode cX11_bitsOf 8 = .ok (.iinc 1 1, 3) := by decide +kernel
theorem dX11_bitsOf_11 : decode cX11_bitsOf 11 = .ok (.iload_n 2, 1) := by decide +kernel
theorem dX11_bitsOf_12 : decode cX11_bitsOf 12 = .ok (.iload_n 2, 1) := by decide +kernel
theorem dX11_bitsOf_13 : decode cX11_bitsOf 13 = .ok (.iconst 1, 1) := by decide +kernel
theorem dX11_bitsOf_14 : decode cX11_bitsOf 14 = .ok (.isub, 1) := by decide +kernel
theorem dX11_bitsOf_15 : decode cX11_bitsOf 15 = .ok (.iand, 1) := by decide +kernel
theorem dX11_bitsOf_16 : decode cX11_bitsOf 16 = .ok (.istore_n 2, 1) := by decide +kernel
theorem dX11_bitsOf_17 : decode cX11_bitsOf 17 = .ok (.goto (-13), 3) := by decide +kernel
theorem dX11_bitsOf_20 : decode cX11_bitsOf 20 = .ok (.iload_n 1, 1) := by decide +kernel
theorem dX11_bitsOf_21 : decode cX11_bitsOf 21 = .ok (.ireturn, 1) := by decide +kernel
def bX11_bitsOf_4 (Y : XS) (n : Nat) (S : PS)  (s4 : (Int32 × Int32)) : Option ((Int32 × Int32) ⊕ Int32) :=
  (if s4.2 = 0 then some (.inr s4.1) else some (.inl (s4.1 + (1 : Int32), s4.2 &&& (s4.2 - (1 : Int32)))))
def fX11_bitsOf (Y : XS) (n : Nat) (S : PS) (x0_ : Int32) : Option (Int32) :=
  kc (iter (bX11_bitsOf_4 Y n S ) n ((0 : Int32), x0_)) (fun r4 => some r4)
theorem wbX11_bitsOf_4 {C : CT} {X : XT} (hC : CK C RX11 cX11_bitsOf 3 (some .int) 1) (n : Nat) (S : PS)   (s4 : (Int32 × Int32)) {o : (Int32 × Int32) ⊕ Int32} (hf : bX11_bitsOf_4 X.2.1 n S  s4 = some o) (hN : ∀ s', o = .inl s' → UW C X S 4 [(1, .int s'.1), (2, .int s'.2)] []) (hO0 : ∀ p', o = .inr p' → UW C X S 20 [(1, .int p')] []) : UW C X S 4 [(1, .int s4.1), (2, .int s4.2)] [] := by
  unfold bX11_bitsOf_4 at hf
  refine u_iload_n hC dX11_bitsOf_4 1 rfl rfl ?_
  refine u_if_eq (tgt := 20) hC dX11_bitsOf_5 (by decide) hf (fun h5 hf => ?_) (fun h5 hf => ?_)
  · refine u_sub (lv' := [(1, .int s4.1)]) [0] rfl ?_
    exact hO0 _ (Option.some.inj hf).symm
  · refine u_iinc (v := s4.1 + (1 : Int32)) (lv' := [(1, .int (s4.1 + (1 : Int32))), (2, .int s4.2)]) hC dX11_bitsOf_8 0 rfl rfl (by decide) rfl ?_
    refine u_iload_n hC dX11_bitsOf_11 1 rfl rfl ?_
    refine u_iload_n hC dX11_bitsOf_12 1 rfl rfl ?_
    refine u_iconst (v := (1 : Int32)) hC dX11_bitsOf_13 (by decide) ?_
    refine u_isub hC dX11_bitsOf_14 ?_
    refine u_iand hC dX11_bitsOf_15 ?_
    refine u_istore_n (lv' := [(2, .int (s4.2 &&& (s4.2 - (1 : Int32)))), (1, .int (s4.1 + (1 : Int32)))]) hC dX11_bitsOf_16 rfl (by decide) rfl ?_
    refine u_goto (tgt := 4) hC dX11_bitsOf_17 (by decide) ?_
    refine u_sub (lv' := [(1, .int (s4.1 + (1 : Int32))), (2, .int (s4.2 &&& (s4.2 - (1 : Int32))))]) [1, 0] rfl ?_
    exact hN _ (Option.some.inj hf).symm
theorem wX11_bitsOf {C : CT} {X : XT} (hC : CK C RX11 cX11_bitsOf 3 (some .int) 1) (n : Nat) (S : PS) (x0_ : Int32)  {o : Int32} (hf : fX11_bitsOf X.2.1 n S x0_ = some o) (hR : Rt C X cX11_bitsOf (some .int) (some (.int o)) S) : UW C X S 0 [(0, .int x0_)] [] := by
  unfold fX11_bitsOf at hf
  refine u_iconst (v := (0 : Int32)) hC dX11_bitsOf_0 (by decide) ?_
  refine u_istore_n (lv' := [(1, .int (0 : Int32)), (0, .int x0_)]) hC dX11_bitsOf_1 rfl (by decide) rfl ?_
  refine u_iload_n hC dX11_bitsOf_2 1 rfl rfl ?_
  refine u_istore_n (lv' := [(2, .int x0_), (1, .int (0 : Int32)), (0, .int x0_)]) hC dX11_bitsOf_3 rfl (by decide) rfl ?_
  obtain ⟨r4, hr4, hf⟩ := kc_some hf
  have hk4 : UW C X S 20 [(1, .int r4)] [] := by
    refine u_iload_n hC dX11_bitsOf_20 0 rfl rfl ?_
    cases hf
    exact hR _ _ dX11_bitsOf_21 trivial
  refine u_sub (lv' := [(1, .int (0 : Int32)), (2, .int x0_)]) [1, 0] rfl ?_
  refine iter_ind (P := fun s4 => UW C X S 4 [(1, .int s4.1), (2, .int s4.2)] []) (fun s4 o' hb hin hout => ?_) n ((0 : Int32), x0_) hr4
  exact wbX11_bitsOf_4 hC n S   s4 hb hin (fun p e => by rw [hout p e]; exact hk4)
theorem ctX11_bitsOf (l : Launch) (hl : l.stackTraces = false) (G : GT) (ρ : Nat → Nat) (Y : XS) (n : Nat) (S : PS) (x0_ : Int32)  {o : Int32} (hf : fX11_bitsOf Y n S x0_ = some o) : Mt l G yX11_bitsOf cX11_bitsOf 3 (some .int) 1 ρ Y [.int x0_] S (some (.int o)) S :=
  Mt_of hl (by decide) (Nat.le_of_ble_eq_true rfl) (fun C _ _ hC hR => wX11_bitsOf (X := (ρ, Y, 0, 0)) hC n S x0_  hf hR)
-- X11_likedOf
theorem dX11_likedOf_0 : decode cX11_likedOf 0 = .ok (.iconst 0, 1) := by decide +kernel
theorem dX11_likedOf_1 : decode cX11_likedOf 1 = .ok (.istore_n 2, 1) := by decide +kernel
theorem dX11_likedOf_2 : decode cX11_likedOf 2 = .ok (.iconst 0, 1) := by decide +kernel
theorem dX11_likedOf_3 : decode cX11_likedOf 3 = .ok (.istore_n 3, 1) := by decide +kernel
theorem dX11_likedOf_4 : decode cX11_likedOf 4 = .ok (.iload_n 3, 1) := by decide +kernel
theorem dX11_likedOf_5 : decode cX11_likedOf 5 = .ok (.aload_n 0, 1) := by decide +kernel
theorem dX11_likedOf_6 : decode cX11_likedOf 6 = .ok (.invokevirtual 85, 3) := by decide +kernel
theorem dX11_likedOf_9 : decode cX11_likedOf 9 = .ok (.if_icmp .ge 26, 3) := by decide +kernel
theorem dX11_likedOf_12 : decode cX11_likedOf 12 = .ok (.iload_n 2, 1) := by decide +kernel
theorem dX11_likedOf_13 : decode cX11_likedOf 13 = .ok (.aload_n 0, 1) := by decide +kernel
theorem dX11_likedOf_14 : decode cX11_likedOf 14 = .ok (.iload_n 3, 1) := by decide +kernel
theorem dX11_likedOf_15 : decode cX11_likedOf 15 = .ok (.iload_n 1, 1) := by decide +kernel
theorem dX11_likedOf_16 : decode cX11_likedOf 16 = .ok (.invokevirtual 88, 3) := by decide +kernel
theorem dX11_likedOf_19 : decode cX11_likedOf 19 = .ok (.ifCond .le 7, 3) := by decide +kernel
theorem dX11_likedOf_22 : decode cX11_likedOf 22 = .ok (.iconst 1, 1) := by decide +kernel
theorem dX11_likedOf_23 : decode cX11_likedOf 23 = .ok (.goto 4, 3) := by decide +kernel
theorem dX11_likedOf_26 : decode cX11_likedOf 26 = .ok (.iconst 0, 1) := by decide +kernel
theorem dX11_likedOf_27 : decode cX11_likedOf 27 = .ok (.iadd, 1) := by decide +kernel
theorem dX11_likedOf_28 : decode cX11_likedOf 28 = .ok (.istore_n 2, 1) := by decide +kernel
theorem dX11_likedOf_29 : decode cX11_likedOf 29 = .ok (.iinc 3 1, 3) := by decide +kernel
theorem dX11_likedOf_32 : decode cX11_likedOf 32 = .ok (.goto (-28), 3) := by decide +kernel
theorem dX11_likedOf_35 : decode cX11_likedOf 35 = .ok (.iload_n 2, 1) := by decide +kernel
theorem dX11_likedOf_36 : decode cX11_likedOf 36 = .ok (.ireturn, 1) := by decide +kernel
def jX11_likedOf_27_4 (Y : XS) (n : Nat) (S : PS) (v0 : Nat) (v1 : Int32) (v3 : Int32) (t0 : Int32) (t1 : Int32) : Option ((Int32 × Int32) ⊕ Int32) :=
  some (.inl (t1 + t0, v3 + (1 : Int32)))
def bX11_likedOf_4 (Y : XS) (n : Nat) (S : PS) (v0 : Nat) (v1 : Int32) (s4 : (Int32 × Int32)) : Option ((Int32 × Int32) ⊕ Int32) :=
  kc (fX11_people Y n S v0) (fun q6 => (if q6 ≤ s4.2 then some (.inr s4.1) else kc (fX11_scoreOf Y n S v0 s4.2 v1) (fun q16 => (if q16 ≤ 0 then jX11_likedOf_27_4 Y n S v0 v1 s4.2 (0 : Int32) s4.1 else jX11_likedOf_27_4 Y n S v0 v1 s4.2 (1 : Int32) s4.1))))
def fX11_likedOf (Y : XS) (n : Nat) (S : PS) (a0 : Nat) (x1_ : Int32) : Option (Int32) :=
  kc (iter (bX11_likedOf_4 Y n S a0 x1_) n ((0 : Int32), (0 : Int32))) (fun r4 => some r4)
theorem wjX11_likedOf_27_4 {C : CT} {X : XT} (hC : CK C RX11 cX11_likedOf 4 (some .int) 3) (n : Nat) (S : PS) (v0 : Nat) (v1 : Int32) (v3 : Int32) (t0 : Int32) (t1 : Int32)  (hTv0 : Ty X.2.1 v0 11) {o : (Int32 × Int32) ⊕ Int32} (hf : jX11_likedOf_27_4 X.2.1 n S v0 v1 v3 t0 t1 = some o) (hN : ∀ s', o = .inl s' → UW C X S 4 [(0, .ref (X.1 v0)), (1, .int v1), (2, .int s'.1), (3, .int s'.2)] []) (hO0 : ∀ p', o = .inr p' → UW C X S 35 [(2, .int p')] []) : UW C X S 27 [(0, .ref (X.1 v0)), (1, .int v1), (3, .int v3)] [.int t0, .int t1] := by
  unfold jX11_likedOf_27_4 at hf
  refine u_iadd hC dX11_likedOf_27 ?_
  refine u_istore_n (lv' := [(2, .int (t1 + t0)), (0, .ref (X.1 v0)), (1, .int v1), (3, .int v3)]) hC dX11_likedOf_28 rfl (by decide) rfl ?_
  refine u_iinc (v := v3 + (1 : Int32)) (lv' := [(3, .int (v3 + (1 : Int32))), (2, .int (t1 + t0)), (0, .ref (X.1 v0)), (1, .int v1)]) hC dX11_likedOf_29 3 rfl rfl (by decide) rfl ?_
  refine u_goto (tgt := 4) hC dX11_likedOf_32 (by decide) ?_
  refine u_sub (lv' := [(0, .ref (X.1 v0)), (1, .int v1), (2, .int (t1 + t0)), (3, .int (v3 + (1 : Int32)))]) [2, 3, 1, 0] rfl ?_
  exact hN _ (Option.some.inj hf).symm
theorem wbX11_likedOf_4 {C : CT} {X : XT} (hC : CK C RX11 cX11_likedOf 4 (some .int) 3) (n : Nat) (S : PS) (v0 : Nat) (v1 : Int32) (hTv0 : Ty X.2.1 v0 11) (s4 : (Int32 × Int32)) {o : (Int32 × Int32) ⊕ Int32} (hf : bX11_likedOf_4 X.2.1 n S v0 v1 s4 = some o) (hN : ∀ s', o = .inl s' → UW C X S 4 [(0, .ref (X.1 v0)), (1, .int v1), (2, .int s'.1), (3, .int s'.2)] []) (hO0 : ∀ p', o = .inr p' → UW C X S 35 [(2, .int p')] []) : UW C X S 4 [(0, .ref (X.1 v0)), (1, .int v1), (2, .int s4.1), (3, .int s4.2)] [] := by
  unfold bX11_likedOf_4 at hf
  refine u_iload_n hC dX11_likedOf_4 3 rfl rfl ?_
  refine u_aload_n hC dX11_likedOf_5 0 rfl rfl ?_
  obtain ⟨q6, hq6, hf⟩ := kc_some hf
  refine u_callV hC (ctX11_people (cL C) hC.tr (cG C) X.1 X.2.1 n S v0 hTv0 hq6) lk_X11_85 rfl hTv0 (by decide) rfl (by decide) (by decide) rfl rfl (Nat.le_of_ble_eq_true rfl) dX11_likedOf_6 ?_
  refine u_icmp_ge (tgt := 35) hC dX11_likedOf_9 (by decide) hf (fun h9 hf => ?_) (fun h9 hf => ?_)
  · refine u_sub (lv' := [(2, .int s4.1)]) [2] rfl ?_
    exact hO0 _ (Option.some.inj hf).symm
  · refine u_iload_n hC dX11_likedOf_12 2 rfl rfl ?_
    refine u_aload_n hC dX11_likedOf_13 0 rfl rfl ?_
    refine u_iload_n hC dX11_likedOf_14 3 rfl rfl ?_
    refine u_iload_n hC dX11_likedOf_15 1 rfl rfl ?_
    obtain ⟨q16, hq16, hf⟩ := kc_some hf
    refine u_callV hC (ctX11_scoreOf (cL C) hC.tr (cG C) X.1 X.2.1 n S v0 s4.2 v1 hTv0 hq16) lk_X11_88 rfl hTv0 (by decide) rfl (by decide) (by decide) rfl rfl (Nat.le_of_ble_eq_true rfl) dX11_likedOf_16 ?_
    refine u_if_le (tgt := 26) hC dX11_likedOf_19 (by decide) hf (fun h19 hf => ?_) (fun h19 hf => ?_)
    · refine u_iconst (v := (0 : Int32)) hC dX11_likedOf_26 (by decide) ?_
      refine u_sub (lv' := [(0, .ref (X.1 v0)), (1, .int v1), (3, .int s4.2)]) [0, 1, 3] rfl ?_
      exact wjX11_likedOf_27_4 hC n S v0 v1 s4.2 (0 : Int32) s4.1  hTv0 hf hN hO0
    · refine u_iconst (v := (1 : Int32)) hC dX11_likedOf_22 (by decide) ?_
      refine u_goto (tgt := 27) hC dX11_likedOf_23 (by decide) ?_
      refine u_sub (lv' := [(0, .ref (X.1 v0)), (1, .int v1), (3, .int s4.2)]) [0, 1, 3] rfl ?_
      exact wjX11_likedOf_27_4 hC n S v0 v1 s4.2 (1 : Int32) s4.1  hTv0 hf hN hO0
theorem wX11_likedOf {C : CT} {X : XT} (hC : CK C RX11 cX11_likedOf 4 (some .int) 3) (n : Nat) (S : PS) (a0 : Nat) (x1_ : Int32) (hTa0 : Ty X.2.1 a0 11) {o : Int32} (hf : fX11_likedOf X.2.1 n S a0 x1_ = some o) (hR : Rt C X cX11_likedOf (some .int) (some (.int o)) S) : UW C X S 0 [(0, .ref (X.1 a0)), (1, .int x1_)] [] := by
  unfold fX11_likedOf at hf
  refine u_iconst (v := (0 : Int32)) hC dX11_likedOf_0 (by decide) ?_
  refine u_istore_n (lv' := [(2, .int (0 : Int32)), (0, .ref (X.1 a0)), (1, .int x1_)]) hC dX11_likedOf_1 rfl (by decide) rfl ?_
  refine u_iconst (v := (0 : Int32)) hC dX11_likedOf_2 (by decide) ?_
  refine u_istore_n (lv' := [(3, .int (0 : Int32)), (2, .int (0 : Int32)), (0, .ref (X.1 a0)), (1, .int x1_)]) hC dX11_likedOf_3 rfl (by decide) rfl ?_
  obtain ⟨r4, hr4, hf⟩ := kc_some hf
  have hk4 : UW C X S 35 [(2, .int r4)] [] := by
    refine u_iload_n hC dX11_likedOf_35 0 rfl rfl ?_
    cases hf
    exact hR _ _ dX11_likedOf_36 trivial
  refine u_sub (lv' := [(0, .ref (X.1 a0)), (1, .int x1_), (2, .int (0 : Int32)), (3, .int (0 : Int32))]) [2, 3, 1, 0] rfl ?_
  refine iter_ind (P := fun s4 => UW C X S 4 [(0, .ref (X.1 a0)), (1, .int x1_), (2, .int s4.1), (3, .int s4.2)] []) (fun s4 o' hb hin hout => ?_) n ((0 : Int32), (0 : Int32)) hr4
  exact wbX11_likedOf_4 hC n S a0 x1_ hTa0 s4 hb hin (fun p e => by rw [hout p e]; exact hk4)
theorem ctX11_likedOf (l : Launch) (hl : l.stackTraces = false) (G : GT) (ρ : Nat → Nat) (Y : XS) (n : Nat) (S : PS) (a0 : Nat) (x1_ : Int32) (hTa0 : Ty Y a0 11) {o : Int32} (hf : fX11_likedOf Y n S a0 x1_ = some o) : Mt l G yX11_likedOf cX11_likedOf 4 (some .int) 3 ρ Y [.ref (ρ a0), .int x1_] S (some (.int o)) S :=
  Mt_of hl (by decide) (Nat.le_of_ble_eq_true rfl) (fun C _ _ hC hR => wX11_likedOf (X := (ρ, Y, 0, 0)) hC n S a0 x1_ hTa0 hf hR)
-- X11_lawByte
theorem dX11_lawByte_0 : decode cX11_lawByte 0 = .ok (.aload_n 0, 1) := by decide +kernel
theorem dX11_lawByte_1 : decode cX11_lawByte 1 = .ok (.getfield 91, 3) := by decide +kernel
theorem dX11_lawByte_4 : decode cX11_lawByte 4 = .ok (.aload_n 0, 1) := by decide +kernel
theorem dX11_lawByte_5 : decode cX11_lawByte 5 = .ok (.getfield 9, 3) := by decide +kernel
theorem dX11_lawByte_8 : decode cX11_lawByte 8 = .ok (.sipush 376, 3) := by decide +kernel
theorem dX11_lawByte_11 : decode cX11_lawByte 11 = .ok (.iaload, 1) := by decide +kernel
theorem dX11_lawByte_12 : decode cX11_lawByte 12 = .ok (.if_icmp .ge 52, 3) := by decide +kernel
theorem dX11_lawByte_15 : decode cX11_lawByte 15 = .ok (.aload_n 0, 1) := by decide +kernel
theorem dX11_lawByte_16 : decode cX11_lawByte 16 = .ok (.getfield 9, 3) := by decide +kernel
theorem dX11_lawByte_19 : decode cX11_lawByte 19 = .ok (.sipush 377, 3) := by decide +kernel
theorem dX11_lawByte_22 : decode cX11_lawByte 22 = .ok (.aload_n 0, 1) := by decide +kernel
theorem dX11_lawByte_23 : decode cX11_lawByte 23 = .ok (.getfield 91, 3) := by decide +kernel
theorem dX11_lawByte_26 : decode cX11_lawByte 26 = .ok (.iadd, 1) := by decide +kernel
theorem dX11_lawByte_27 : decode cX11_lawByte 27 = .ok (.iaload, 1) := by decide +kernel
theorem dX11_lawByte_28 : decode cX11_lawByte 28 = .ok (.bipush 32, 2) := by decide +kernel
theorem dX11_lawByte_30 : decode cX11_lawByte 30 = .ok (.if_icmp .eq 21, 3) := by decide +kernel
theorem dX11_lawByte_33 : decode cX11_lawByte 33 = .ok (.aload_n 0, 1) := by decide +kernel
theorem dX11_lawByte_34 : decode cX11_lawByte 34 = .ok (.getfield 9, 3) := by decide +kernel
theorem dX11_lawByte_37 : decode cX11_lawByte 37 = .ok (.sipush 377, 3) := by decide +kernel
theorem dX11_lawByte_40 : decode cX11_lawByte 40 = .ok (.aload_n 0, 1) := by decide +kernel
theorem dX11_lawByte_41 : decode cX11_lawByte 41 = .ok (.getfield 91, 3) := by decide +kernel
theorem dX11_lawByte_44 : decode cX11_lawByte 44 = .ok (.iadd, 1) := by decide +kernel
theorem dX11_lawByte_45 : decode cX11_lawByte 45 = .ok (.iaload, 1) := by decide +kernel
theorem dX11_lawByte_46 : decode cX11_lawByte 46 = .ok (.bipush 10, 2) := by decide +kernel
theorem dX11_lawByte_48 : decode cX11_lawByte 48 = .ok (.if_icmp .ne 16, 3) := by decide +kernel
theorem dX11_lawByte_51 : decode cX11_lawByte 51 = .ok (.aload_n 0, 1) := by decide +kernel
theorem dX11_lawByte_52 : decode cX11_lawByte 52 = .ok (.dup, 1) := by decide +kernel
theorem dX11_lawByte_53 : decode cX11_lawByte 53 = .ok (.getfield 91, 3) := by decide +kernel
theorem dX11_lawByte_56 : decode cX11_lawByte 56 = .ok (.iconst 1, 1) := by decide +kernel
theorem dX11_lawByte_57 : decode cX11_lawByte 57 = .ok (.iadd, 1) := by decide +kernel
theorem dX11_lawByte_58 : decode cX11_lawByte 58 = .ok (.putfield 91, 3) := by decide +kernel
theorem dX11_lawByte_61 : decode cX11_lawByte 61 = .ok (.goto (-61), 3) := by decide +kernel
theorem dX11_lawByte_64 : decode cX11_lawByte 64 = .ok (.aload_n 0, 1) := by decide +kernel
theorem dX11_lawByte_65 : decode cX11_lawByte 65 = .ok (.getfield 91, 3) := by decide +kernel
theorem dX11_lawByte_68 : decode cX11_lawByte 68 = .ok (.aload_n 0, 1) := by decide +kernel
theorem dX11_lawByte_69 : decode cX11_lawByte 69 = .ok (.getfield 9, 3) := by decide +kernel
theorem dX11_lawByte_72 : decode cX11_lawByte 72 = .ok (.sipush 376, 3) := by decide +kernel
theorem dX11_lawByte_75 : decode cX11_lawByte 75 = .ok (.iaload, 1) := by decide +kernel
theorem dX11_lawByte_76 : decode cX11_lawByte 76 = .ok (.if_icmp .ge 19, 3) := by decide +kernel
theorem dX11_lawByte_79 : decode cX11_lawByte 79 = .ok (.aload_n 0, 1) := by decide +kernel
theorem dX11_lawByte_80 : decode cX11_lawByte 80 = .ok (.getfield 9, 3) := by decide +kernel
theorem dX11_lawByte_83 : decode cX11_lawByte 83 = .ok (.sipush 377, 3) := by decide +kernel
theorem dX11_lawByte_86 : decode cX11_lawByte 86 = .ok (.aload_n 0, 1) := by decide +kernel
theorem dX11_lawByte_87 : decode cX11_lawByte 87 = .ok (.getfield 91, 3) := by decide +kernel
theorem dX11_lawByte_90 : decode cX11_lawByte 90 = .ok (.iadd, 1) := by decide +kernel
theorem dX11_lawByte_91 : decode cX11_lawByte 91 = .ok (.iaload, 1) := by decide +kernel
theorem dX11_lawByte_92 : decode cX11_lawByte 92 = .ok (.goto 4, 3) := by decide +kernel
theorem dX11_lawByte_95 : decode cX11_lawByte 95 = .ok (.iconst (-1), 1) := by decide +kernel
theorem dX11_lawByte_96 : decode cX11_lawByte 96 = .ok (.ireturn, 1) := by decide +kernel
def jX11_lawByte_51_0 (Y : XS) (n : Nat) (S : PS) (v0 : Nat) : Option (PS ⊕ PS) :=
  kgi S v0 8 (fun x53 => kpi S v0 8 (x53 + (1 : Int32)) (fun S58 => some (.inl S58)))
def bX11_lawByte_0 (Y : XS) (n : Nat) (v0 : Nat) (s0 : PS) : Option (PS ⊕ PS) :=
  kgi s0 v0 8 (fun x1 => kgr s0 v0 0 (fun b5 => kai Y s0 b5 (376 : Int32) (fun x11 => (if x11 ≤ x1 then some (.inr s0) else kgr s0 v0 0 (fun b16 => kgi s0 v0 8 (fun x23 => kai Y s0 b16 ((377 : Int32) + x23) (fun x27 => (if x27 = (32 : Int32) then jX11_lawByte_51_0 Y n s0 v0 else kgr s0 v0 0 (fun b34 => kgi s0 v0 8 (fun x41 => kai Y s0 b34 ((377 : Int32) + x41) (fun x45 => (if x45 = (10 : Int32) then jX11_lawByte_51_0 Y n s0 v0 else some (.inr s0)))))))))))))
def jX11_lawByte_96 (Y : XS) (n : Nat) (S : PS) (t0 : Int32) : Option (Int32 × PS) :=
  some (t0, S)
def jX11_lawByte_64 (Y : XS) (n : Nat) (S : PS) (v0 : Nat) : Option (Int32 × PS) :=
  kgi S v0 8 (fun x65 => kgr S v0 0 (fun b69 => kai Y S b69 (376 : Int32) (fun x75 => (if x75 ≤ x65 then jX11_lawByte_96 Y n S (-1 : Int32) else kgr S v0 0 (fun b80 => kgi S v0 8 (fun x87 => kai Y S b80 ((377 : Int32) + x87) (fun x91 => jX11_lawByte_96 Y n S x91)))))))
def fX11_lawByte (Y : XS) (n : Nat) (S : PS) (a0 : Nat) : Option (Int32 × PS) :=
  kc (iter (bX11_lawByte_0 Y n a0) n S) (fun r0 => jX11_lawByte_64 Y n r0 a0)
theorem wjX11_lawByte_51_0 {C : CT} {X : XT} (hC : CK C RX11 cX11_lawByte 1 (some .int) 1) (n : Nat) (S : PS) (v0 : Nat)  (hTv0 : Ty X.2.1 v0 11) {o : PS ⊕ PS} (hf : jX11_lawByte_51_0 X.2.1 n S v0 = some o) (hN : ∀ s', o = .inl s' → UW C X s' 0 [(0, .ref (X.1 v0))] []) (hO0 : ∀ p', o = .inr p' → UW C X p' 64 [(0, .ref (X.1 v0))] []) : UW C X S 51 [(0, .ref (X.1 v0))] [] := by
  unfold jX11_lawByte_51_0 at hf
  refine u_aload_n hC dX11_lawByte_51 0 rfl rfl ?_
  refine u_dup hC dX11_lawByte_52 rfl ?_
  refine u_gi hC lf_X11_91 rfl hTv0 dX11_lawByte_53 hf (fun x53 hf => ?_)
  refine u_iconst (v := (1 : Int32)) hC dX11_lawByte_56 (by decide) ?_
  refine u_iadd hC dX11_lawByte_57 ?_
  refine u_pi hC lf_X11_91 rfl rfl rfl hTv0 dX11_lawByte_58 hf (fun S58 hf => ?_)
  refine u_goto (tgt := 0) hC dX11_lawByte_61 (by decide) ?_
  exact hN _ (Option.some.inj hf).symm
theorem wbX11_lawByte_0 {C : CT} {X : XT} (hC : CK C RX11 cX11_lawByte 1 (some .int) 1) (n : Nat) (v0 : Nat) (hTv0 : Ty X.2.1 v0 11) (s0 : PS) {o : PS ⊕ PS} (hf : bX11_lawByte_0 X.2.1 n v0 s0 = some o) (hN : ∀ s', o = .inl s' → UW C X s' 0 [(0, .ref (X.1 v0))] []) (hO0 : ∀ p', o = .inr p' → UW C X p' 64 [(0, .ref (X.1 v0))] []) : UW C X s0 0 [(0, .ref (X.1 v0))] [] := by
  unfold bX11_lawByte_0 at hf
  refine u_aload_n hC dX11_lawByte_0 0 rfl rfl ?_
  refine u_gi hC lf_X11_91 rfl hTv0 dX11_lawByte_1 hf (fun x1 hf => ?_)
  refine u_aload_n hC dX11_lawByte_4 0 rfl rfl ?_
  refine u_gr hC lf_X11_9 rfl hTv0 dX11_lawByte_5 hf (fun b5 hTb5 hf => ?_)
  refine u_sipush (v := (376 : Int32)) hC dX11_lawByte_8 (by decide) ?_
  refine u_ai hC hTb5 dX11_lawByte_11 hf (fun x11 hf => ?_)
  refine u_icmp_ge (tgt := 64) hC dX11_lawByte_12 (by decide) hf (fun h12 hf => ?_) (fun h12 hf => ?_)
  · exact hO0 _ (Option.some.inj hf).symm
  · refine u_aload_n hC dX11_lawByte_15 0 rfl rfl ?_
    refine u_gr hC lf_X11_9 rfl hTv0 dX11_lawByte_16 hf (fun b16 hTb16 hf => ?_)
    refine u_sipush (v := (377 : Int32)) hC dX11_lawByte_19 (by decide) ?_
    refine u_aload_n hC dX11_lawByte_22 0 rfl rfl ?_
    refine u_gi hC lf_X11_91 rfl hTv0 dX11_lawByte_23 hf (fun x23 hf => ?_)
    refine u_iadd hC dX11_lawByte_26 ?_
    refine u_ai hC hTb16 dX11_lawByte_27 hf (fun x27 hf => ?_)
    refine u_bipush (v := (32 : Int32)) hC dX11_lawByte_28 (by decide) ?_
    refine u_icmp_eq (tgt := 51) hC dX11_lawByte_30 (by decide) hf (fun h30 hf => ?_) (fun h30 hf => ?_)
    · exact wjX11_lawByte_51_0 hC n s0 v0  hTv0 hf hN hO0
    · refine u_aload_n hC dX11_lawByte_33 0 rfl rfl ?_
      refine u_gr hC lf_X11_9 rfl hTv0 dX11_lawByte_34 hf (fun b34 hTb34 hf => ?_)
      refine u_sipush (v := (377 : Int32)) hC dX11_lawByte_37 (by decide) ?_
      refine u_aload_n hC dX11_lawByte_40 0 rfl rfl ?_
      refine u_gi hC lf_X11_91 rfl hTv0 dX11_lawByte_41 hf (fun x41 hf => ?_)
      refine u_iadd hC dX11_lawByte_44 ?_
      refine u_ai hC hTb34 dX11_lawByte_45 hf (fun x45 hf => ?_)
      refine u_bipush (v := (10 : Int32)) hC dX11_lawByte_46 (by decide) ?_
      refine u_icmp_ne (tgt := 64) hC dX11_lawByte_48 (by decide) hf (fun h48 hf => ?_) (fun h48 hf => ?_)
      · exact hO0 _ (Option.some.inj hf).symm
      · exact wjX11_lawByte_51_0 hC n s0 v0  hTv0 hf hN hO0
theorem wjX11_lawByte_96 {C : CT} {X : XT} (hC : CK C RX11 cX11_lawByte 1 (some .int) 1) (n : Nat) (S : PS) (t0 : Int32)   {o : Int32 × PS} (hf : jX11_lawByte_96 X.2.1 n S t0 = some o) (hR : Rt C X cX11_lawByte (some .int) (some (.int o.1)) o.2) : UW C X S 96 [] [.int t0] := by
  unfold jX11_lawByte_96 at hf
  cases hf
  exact hR _ _ dX11_lawByte_96 trivial
theorem wjX11_lawByte_64 {C : CT} {X : XT} (hC : CK C RX11 cX11_lawByte 1 (some .int) 1) (n : Nat) (S : PS) (v0 : Nat)  (hTv0 : Ty X.2.1 v0 11) {o : Int32 × PS} (hf : jX11_lawByte_64 X.2.1 n S v0 = some o) (hR : Rt C X cX11_lawByte (some .int) (some (.int o.1)) o.2) : UW C X S 64 [(0, .ref (X.1 v0))] [] := by
  unfold jX11_lawByte_64 at hf
  refine u_aload_n hC dX11_lawByte_64 0 rfl rfl ?_
  refine u_gi hC lf_X11_91 rfl hTv0 dX11_lawByte_65 hf (fun x65 hf => ?_)
  refine u_aload_n hC dX11_lawByte_68 0 rfl rfl ?_
  refine u_gr hC lf_X11_9 rfl hTv0 dX11_lawByte_69 hf (fun b69 hTb69 hf => ?_)
  refine u_sipush (v := (376 : Int32)) hC dX11_lawByte_72 (by decide) ?_
  refine u_ai hC hTb69 dX11_lawByte_75 hf (fun x75 hf => ?_)
  refine u_icmp_ge (tgt := 95) hC dX11_lawByte_76 (by decide) hf (fun h76 hf => ?_) (fun h76 hf => ?_)
  · refine u_iconst (v := (-1 : Int32)) hC dX11_lawByte_95 (by decide) ?_
    refine u_sub (lv' := []) [] rfl ?_
    exact wjX11_lawByte_96 hC n S (-1 : Int32)   hf hR
  · refine u_aload_n hC dX11_lawByte_79 0 rfl rfl ?_
    refine u_gr hC lf_X11_9 rfl hTv0 dX11_lawByte_80 hf (fun b80 hTb80 hf => ?_)
    refine u_sipush (v := (377 : Int32)) hC dX11_lawByte_83 (by decide) ?_
    refine u_aload_n hC dX11_lawByte_86 0 rfl rfl ?_
    refine u_gi hC lf_X11_91 rfl hTv0 dX11_lawByte_87 hf (fun x87 hf => ?_)
    refine u_iadd hC dX11_lawByte_90 ?_
    refine u_ai hC hTb80 dX11_lawByte_91 hf (fun x91 hf => ?_)
    refine u_goto (tgt := 96) hC dX11_lawByte_92 (by decide) ?_
    refine u_sub (lv' := []) [] rfl ?_
    exact wjX11_lawByte_96 hC n S x91   hf hR
theorem wX11_lawByte {C : CT} {X : XT} (hC : CK C RX11 cX11_lawByte 1 (some .int) 1) (n : Nat) (S : PS) (a0 : Nat) (hTa0 : Ty X.2.1 a0 11) {o : Int32 × PS} (hf : fX11_lawByte X.2.1 n S a0 = some o) (hR : Rt C X cX11_lawByte (some .int) (some (.int o.1)) o.2) : UW C X S 0 [(0, .ref (X.1 a0))] [] := by
  unfold fX11_lawByte at hf
  obtain ⟨r0, hr0, hf⟩ := kc_some hf
  have hk0 : UW C X r0 64 [(0, .ref (X.1 a0))] [] := by
    exact wjX11_lawByte_64 hC n r0 a0  hTa0 hf hR
  refine iter_ind (P := fun s0 => UW C X s0 0 [(0, .ref (X.1 a0))] []) (fun s0 o' hb hin hout => ?_) n S hr0
  exact wbX11_lawByte_0 hC n a0 hTa0 s0 hb hin (fun p e => by rw [hout p e]; exact hk0)
theorem ctX11_lawByte (l : Launch) (hl : l.stackTraces = false) (G : GT) (ρ : Nat → Nat) (Y : XS) (n : Nat) (S : PS) (a0 : Nat) (hTa0 : Ty Y a0 11) {o : Int32 × PS} (hf : fX11_lawByte Y n S a0 = some o) : Mt l G yX11_lawByte cX11_lawByte 1 (some .int) 1 ρ Y [.ref (ρ a0)] S (some (.int o.1)) o.2 :=
  Mt_of hl (by decide) (Nat.le_of_ble_eq_true rfl) (fun C _ _ hC hR => wX11_lawByte (X := (ρ, Y, 0, 0)) hC n S a0 hTa0 hf hR)
-- X11_isFigure
theorem dX11_isFigure_0 : decode cX11_isFigure 0 = .ok (.iload_n 0, 1) := by decide +kernel
theorem dX11_isFigure_1 : decode cX11_isFigure 1 = .ok (.bipush 48, 2) := by decide +kernel
theorem dX11_isFigure_3 : decode cX11_isFigure 3 = .ok (.if_icmp .lt 13, 3) := by decide +kernel
theorem dX11_isFigure_6 : decode cX11_isFigure 6 = .ok (.iload_n 0, 1) := by decide +kernel
theorem dX11_isFigure_7 : decode cX11_isFigure 7 = .ok (.bipush 57, 2) := by decide +kernel
theorem dX11_isFigure_9 : decode cX11_isFigure 9 = .ok (.if_icmp .gt 7, 3) := by decide +kernel
theorem dX11_isFigure_12 : decode cX11_isFigure 12 = .ok (.iconst 1, 1) := by decide +kernel
theorem dX11_isFigure_13 : decode cX11_isFigure 13 = .ok (.goto 4, 3) := by decide +kernel
theorem dX11_isFigure_16 : decode cX11_isFigure 16 = .ok (.iconst 0, 1) := by decide +kernel
theorem dX11_isFigure_17 : decode cX11_isFigure 17 = .ok (.ireturn, 1) := by decide +kernel
def jX11_isFigure_17 (Y : XS) (n : Nat) (S : PS) (t0 : Int32) : Option (Int32) :=
  kzr t0 (some t0)
def jX11_isFigure_16 (Y : XS) (n : Nat) (S : PS)  : Option (Int32) :=
  jX11_isFigure_17 Y n S (0 : Int32)
def fX11_isFigure (Y : XS) (n : Nat) (S : PS) (x0_ : Int32) : Option (Int32) :=
  (if x0_ < (48 : Int32) then jX11_isFigure_16 Y n S  else (if (57 : Int32) < x0_ then jX11_isFigure_16 Y n S  else jX11_isFigure_17 Y n S (1 : Int32)))
theorem wjX11_isFigure_17 {C : CT} {X : XT} (hC : CK C RX11 cX11_isFigure 1 (some .boolean) 1) (n : Nat) (S : PS) (t0 : Int32)   {o : Int32} (hf : jX11_isFigure_17 X.2.1 n S t0 = some o) (hR : Rt C X cX11_isFigure (some .boolean) (some (.int o)) S) : UW C X S 17 [] [.int t0] := by
  unfold jX11_isFigure_17 at hf
  obtain ⟨hz, hf⟩ := kzr_some hf
  cases hf
  exact hR _ _ dX11_isFigure_17 hz
theorem wjX11_isFigure_16 {C : CT} {X : XT} (hC : CK C RX11 cX11_isFigure 1 (some .boolean) 1) (n : Nat) (S : PS)    {o : Int32} (hf : jX11_isFigure_16 X.2.1 n S  = some o) (hR : Rt C X cX11_isFigure (some .boolean) (some (.int o)) S) : UW C X S 16 [] [] := by
  unfold jX11_isFigure_16 at hf
  refine u_iconst (v := (0 : Int32)) hC dX11_isFigure_16 (by decide) ?_
  exact wjX11_isFigure_17 hC n S (0 : Int32)   hf hR
theorem wX11_isFigure {C : CT} {X : XT} (hC : CK C RX11 cX11_isFigure 1 (some .boolean) 1) (n : Nat) (S : PS) (x0_ : Int32)  {o : Int32} (hf : fX11_isFigure X.2.1 n S x0_ = some o) (hR : Rt C X cX11_isFigure (some .boolean) (some (.int o)) S) : UW C X S 0 [(0, .int x0_)] [] := by
  unfold fX11_isFigure at hf
  refine u_iload_n hC dX11_isFigure_0 0 rfl rfl ?_
  refine u_bipush (v := (48 : Int32)) hC dX11_isFigure_1 (by decide) ?_
  refine u_icmp_lt (tgt := 16) hC dX11_isFigure_3 (by decide) hf (fun h3 hf => ?_) (fun h3 hf => ?_)
  · refine u_sub (lv' := []) [] rfl ?_
    exact wjX11_isFigure_16 hC n S    hf hR
  · refine u_iload_n hC dX11_isFigure_6 0 rfl rfl ?_
    refine u_bipush (v := (57 : Int32)) hC dX11_isFigure_7 (by decide) ?_
    refine u_icmp_gt (tgt := 16) hC dX11_isFigure_9 (by decide) hf (fun h9 hf => ?_) (fun h9 hf => ?_)
    · refine u_sub (lv' := []) [] rfl ?_
      exact wjX11_isFigure_16 hC n S    hf hR
    · refine u_iconst (v := (1 : Int32)) hC dX11_isFigure_12 (by decide) ?_
      refine u_goto (tgt := 17) hC dX11_isFigure_13 (by decide) ?_
      refine u_sub (lv' := []) [] rfl ?_
      exact wjX11_isFigure_17 hC n S (1 : Int32)   hf hR
theorem ctX11_isFigure (l : Launch) (hl : l.stackTraces = false) (G : GT) (ρ : Nat → Nat) (Y : XS) (n : Nat) (S : PS) (x0_ : Int32)  {o : Int32} (hf : fX11_isFigure Y n S x0_ = some o) : Mt l G yX11_isFigure cX11_isFigure 1 (some .boolean) 1 ρ Y [.int x0_] S (some (.int o)) S :=
  Mt_of hl (by decide) (Nat.le_of_ble_eq_true rfl) (fun C _ _ hC hR => wX11_isFigure (X := (ρ, Y, 0, 0)) hC n S x0_  hf hR)
-- X11_lawNumber
theorem dX11_lawNumber_0 : decode cX11_lawNumber 0 = .ok (.iconst 0, 1) := by decide +kernel
theorem dX11_lawNumber_1 : decode cX11_lawNumber 1 = .ok (.istore_n 1, 1) := by decide +kernel
theorem dX11_lawNumber_2 : decode cX11_lawNumber 2 = .ok (.aload_n 0, 1) := by decide +kernel
theorem dX11_lawNumber_3 : decode cX11_lawNumber 3 = .ok (.getfield 91, 3) := by decide +kernel
theorem dX11_lawNumber_6 : decode cX11_lawNumber 6 = .ok (.aload_n 0, 1) := by decide +kernel
theorem dX11_lawNumber_7 : decode cX11_lawNumber 7 = .ok (.getfield 9, 3) := by decide +kernel
theorem dX11_lawNumber_10 : decode cX11_lawNumber 10 = .ok (.sipush 376, 3) := by decide +kernel
theorem dX11_lawNumber_13 : decode cX11_lawNumber 13 = .ok (.iaload, 1) := by decide +kernel
theorem dX11_lawNumber_14 : decode cX11_lawNumber 14 = .ok (.if_icmp .ge 63, 3) := by decide +kernel
theorem dX11_lawNumber_17 : decode cX11_lawNumber 17 = .ok (.aload_n 0, 1) := by decide +kernel
theorem dX11_lawNumber_18 : decode cX11_lawNumber 18 = .ok (.getfield 9, 3) := by decide +kernel
theorem dX11_lawNumber_21 : decode cX11_lawNumber 21 = .ok (.sipush 377, 3) := by decide +kernel
theorem dX11_lawNumber_24 : decode cX11_lawNumber 24 = .ok (.aload_n 0, 1) := by decide +kernel
theorem dX11_lawNumber_25 : decode cX11_lawNumber 25 = .ok (.getfield 91, 3) := by decide +kernel
theorem dX11_lawNumber_28 : decode cX11_lawNumber 28 = .ok (.iadd, 1) := by decide +kernel
theorem dX11_lawNumber_29 : decode cX11_lawNumber 29 = .ok (.iaload, 1) := by decide +kernel
theorem dX11_lawNumber_30 : decode cX11_lawNumber 30 = .ok (.invokestatic 100, 3) := by decide +kernel
theorem dX11_lawNumber_33 : decode cX11_lawNumber 33 = .ok (.ifCond .eq 44, 3) := by decide +kernel
theorem dX11_lawNumber_36 : decode cX11_lawNumber 36 = .ok (.sipush 9999, 3) := by decide +kernel
theorem dX11_lawNumber_39 : decode cX11_lawNumber 39 = .ok (.bipush 10, 2) := by decide +kernel
theorem dX11_lawNumber_41 : decode cX11_lawNumber 41 = .ok (.iload_n 1, 1) := by decide +kernel
theorem dX11_lawNumber_42 : decode cX11_lawNumber 42 = .ok (.imul, 1) := by decide +kernel
theorem dX11_lawNumber_43 : decode cX11_lawNumber 43 = .ok (.aload_n 0, 1) := by decide +kernel
theorem dX11_lawNumber_44 : decode cX11_lawNumber 44 = .ok (.getfield 9, 3) := by decide +kernel
theorem dX11_lawNumber_47 : decode cX11_lawNumber 47 = .ok (.sipush 377, 3) := by decide +kernel
theorem dX11_lawNumber_50 : decode cX11_lawNumber 50 = .ok (.aload_n 0, 1) := by decide +kernel
theorem dX11_lawNumber_51 : decode cX11_lawNumber 51 = .ok (.getfield 91, 3) := by decide +kernel
theorem dX11_lawNumber_54 : decode cX11_lawNumber 54 = .ok (.iadd, 1) := by decide +kernel
theorem dX11_lawNumber_55 : decode cX11_lawNumber 55 = .ok (.iaload, 1) := by decide +kernel
theorem dX11_lawNumber_56 : decode cX11_lawNumber 56 = .ok (.iadd, 1) := by decide +kernel
theorem dX11_lawNumber_57 : decode cX11_lawNumber 57 = .ok (.bipush 48, 2) := by decide +kernel
theorem dX11_lawNumber_59 : decode cX11_lawNumber 59 = .ok (.isub, 1) := by decide +kernel
theorem dX11_lawNumber_60 : decode cX11_lawNumber 60 = .ok (.invokestatic 111, 3) := by decide +kernel
theorem dX11_lawNumber_63 : decode cX11_lawNumber 63 = .ok (.istore_n 1, 1) := by decide +kernel
theorem dX11_lawNumber_64 : decode cX11_lawNumber 64 = .ok (.aload_n 0, 1) := by decide +kernel
theorem dX11_lawNumber_65 : decode cX11_lawNumber 65 = .ok (.dup, 1) := by decide +kernel
theorem dX11_lawNumber_66 : decode cX11_lawNumber 66 = .ok (.getfield 91, 3) := by decide +kernel
theorem dX11_lawNumber_69 : decode cX11_lawNumber 69 = .ok (.iconst 1, 1) := by decide +kernel
theorem dX11_lawNumber_70 : decode cX11_lawNumber 70 = .ok (.iadd, 1) := by decide +kernel
theorem dX11_lawNumber_71 : decode cX11_lawNumber 71 = .ok (.putfield 91, 3) := by decide +kernel
theorem dX11_lawNumber_74 : decode cX11_lawNumber 74 = .ok (.goto (-72), 3) := by decide +kernel
theorem dX11_lawNumber_77 : decode cX11_lawNumber 77 = .ok (.iload_n 1, 1) := by decide +kernel
theorem dX11_lawNumber_78 : decode cX11_lawNumber 78 = .ok (.ireturn, 1) := by decide +kernel
def bX11_lawNumber_2 (Y : XS) (n : Nat) (v0 : Nat) (s2 : (Int32 × PS)) : Option ((Int32 × PS) ⊕ (Int32 × PS)) :=
  kgi s2.2 v0 8 (fun x3 => kgr s2.2 v0 0 (fun b7 => kai Y s2.2 b7 (376 : Int32) (fun x13 => (if x13 ≤ x3 then some (.inr (s2.1, s2.2)) else kgr s2.2 v0 0 (fun b18 => kgi s2.2 v0 8 (fun x25 => kai Y s2.2 b18 ((377 : Int32) + x25) (fun x29 => kc (fX11_isFigure Y n s2.2 x29) (fun q30 => (if q30 = 0 then some (.inr (s2.1, s2.2)) else kgr s2.2 v0 0 (fun b44 => kgi s2.2 v0 8 (fun x51 => kai Y s2.2 b44 ((377 : Int32) + x51) (fun x55 => kgi s2.2 v0 8 (fun x66 => kpi s2.2 v0 8 (x66 + (1 : Int32)) (fun S71 => some (.inl (imin (9999 : Int32) ((((10 : Int32) * s2.1) + x55) - (48 : Int32)), S71))))))))))))))))
def jX11_lawNumber_77 (Y : XS) (n : Nat) (S : PS) (v1 : Int32) : Option (Int32 × PS) :=
  some (v1, S)
def fX11_lawNumber (Y : XS) (n : Nat) (S : PS) (a0 : Nat) : Option (Int32 × PS) :=
  kc (iter (bX11_lawNumber_2 Y n a0) n ((0 : Int32), S)) (fun r2 => jX11_lawNumber_77 Y n r2.2 r2.1)
theorem wbX11_lawNumber_2 {C : CT} {X : XT} (hC : CK C RX11 cX11_lawNumber 2 (some .int) 2) (n : Nat) (v0 : Nat) (hTv0 : Ty X.2.1 v0 11) (s2 : (Int32 × PS)) {o : (Int32 × PS) ⊕ (Int32 × PS)} (hf : bX11_lawNumber_2 X.2.1 n v0 s2 = some o) (hN : ∀ s', o = .inl s' → UW C X s'.2 2 [(0, .ref (X.1 v0)), (1, .int s'.1)] []) (hO0 : ∀ p', o = .inr p' → UW C X p'.2 77 [(1, .int p'.1)] []) : UW C X s2.2 2 [(0, .ref (X.1 v0)), (1, .int s2.1)] [] := by
  unfold bX11_lawNumber_2 at hf
  refine u_aload_n hC dX11_lawNumber_2 0 rfl rfl ?_
  refine u_gi hC lf_X11_91 rfl hTv0 dX11_lawNumber_3 hf (fun x3 hf => ?_)
  refine u_aload_n hC dX11_lawNumber_6 0 rfl rfl ?_
  refine u_gr hC lf_X11_9 rfl hTv0 dX11_lawNumber_7 hf (fun b7 hTb7 hf => ?_)
  refine u_sipush (v := (376 : Int32)) hC dX11_lawNumber_10 (by decide) ?_
  refine u_ai hC hTb7 dX11_lawNumber_13 hf (fun x13 hf => ?_)
  refine u_icmp_ge (tgt := 77) hC dX11_lawNumber_14 (by decide) hf (fun h14 hf => ?_) (fun h14 hf => ?_)
  · refine u_sub (lv' := [(1, .int s2.1)]) [1] rfl ?_
    exact hO0 _ (Option.some.inj hf).symm
  · refine u_aload_n hC dX11_lawNumber_17 0 rfl rfl ?_
    refine u_gr hC lf_X11_9 rfl hTv0 dX11_lawNumber_18 hf (fun b18 hTb18 hf => ?_)
    refine u_sipush (v := (377 : Int32)) hC dX11_lawNumber_21 (by decide) ?_
    refine u_aload_n hC dX11_lawNumber_24 0 rfl rfl ?_
    refine u_gi hC lf_X11_91 rfl hTv0 dX11_lawNumber_25 hf (fun x25 hf => ?_)
    refine u_iadd hC dX11_lawNumber_28 ?_
    refine u_ai hC hTb18 dX11_lawNumber_29 hf (fun x29 hf => ?_)
    obtain ⟨q30, hq30, hf⟩ := kc_some hf
    refine u_callS hC (ctX11_isFigure (cL C) hC.tr (cG C) X.1 X.2.1 n s2.2 x29  hq30) lk_X11_100 (by decide) (by decide) rfl rfl (Nat.le_of_ble_eq_true rfl) dX11_lawNumber_30 ?_
    refine u_if_eq (tgt := 77) hC dX11_lawNumber_33 (by decide) hf (fun h33 hf => ?_) (fun h33 hf => ?_)
    · refine u_sub (lv' := [(1, .int s2.1)]) [1] rfl ?_
      exact hO0 _ (Option.some.inj hf).symm
    · refine u_sipush (v := (9999 : Int32)) hC dX11_lawNumber_36 (by decide) ?_
      refine u_bipush (v := (10 : Int32)) hC dX11_lawNumber_39 (by decide) ?_
      refine u_iload_n hC dX11_lawNumber_41 1 rfl rfl ?_
      refine u_imul hC dX11_lawNumber_42 ?_
      refine u_aload_n hC dX11_lawNumber_43 0 rfl rfl ?_
      refine u_gr hC lf_X11_9 rfl hTv0 dX11_lawNumber_44 hf (fun b44 hTb44 hf => ?_)
      refine u_sipush (v := (377 : Int32)) hC dX11_lawNumber_47 (by decide) ?_
      refine u_aload_n hC dX11_lawNumber_50 0 rfl rfl ?_
      refine u_gi hC lf_X11_91 rfl hTv0 dX11_lawNumber_51 hf (fun x51 hf => ?_)
      refine u_iadd hC dX11_lawNumber_54 ?_
      refine u_ai hC hTb44 dX11_lawNumber_55 hf (fun x55 hf => ?_)
      refine u_iadd hC dX11_lawNumber_56 ?_
      refine u_bipush (v := (48 : Int32)) hC dX11_lawNumber_57 (by decide) ?_
      refine u_isub hC dX11_lawNumber_59 ?_
      refine u_mmin hC (tb_6 226 rfl rfl) (by decide) (Nat.le_of_ble_eq_true rfl) dX11_lawNumber_60 ?_
      refine u_istore_n (lv' := [(1, .int (imin (9999 : Int32) ((((10 : Int32) * s2.1) + x55) - (48 : Int32)))), (0, .ref (X.1 v0))]) hC dX11_lawNumber_63 rfl (by decide) rfl ?_
      refine u_aload_n hC dX11_lawNumber_64 1 rfl rfl ?_
      refine u_dup hC dX11_lawNumber_65 rfl ?_
      refine u_gi hC lf_X11_91 rfl hTv0 dX11_lawNumber_66 hf (fun x66 hf => ?_)
      refine u_iconst (v := (1 : Int32)) hC dX11_lawNumber_69 (by decide) ?_
      refine u_iadd hC dX11_lawNumber_70 ?_
      refine u_pi hC lf_X11_91 rfl rfl rfl hTv0 dX11_lawNumber_71 hf (fun S71 hf => ?_)
      refine u_goto (tgt := 2) hC dX11_lawNumber_74 (by decide) ?_
      refine u_sub (lv' := [(0, .ref (X.1 v0)), (1, .int (imin (9999 : Int32) ((((10 : Int32) * s2.1) + x55) - (48 : Int32))))]) [1, 0] rfl ?_
      exact hN _ (Option.some.inj hf).symm
theorem wjX11_lawNumber_77 {C : CT} {X : XT} (hC : CK C RX11 cX11_lawNumber 2 (some .int) 2) (n : Nat) (S : PS) (v1 : Int32)   {o : Int32 × PS} (hf : jX11_lawNumber_77 X.2.1 n S v1 = some o) (hR : Rt C X cX11_lawNumber (some .int) (some (.int o.1)) o.2) : UW C X S 77 [(1, .int v1)] [] := by
  unfold jX11_lawNumber_77 at hf
  refine u_iload_n hC dX11_lawNumber_77 0 rfl rfl ?_
  cases hf
  exact hR _ _ dX11_lawNumber_78 trivial
theorem wX11_lawNumber {C : CT} {X : XT} (hC : CK C RX11 cX11_lawNumber 2 (some .int) 2) (n : Nat) (S : PS) (a0 : Nat) (hTa0 : Ty X.2.1 a0 11) {o : Int32 × PS} (hf : fX11_lawNumber X.2.1 n S a0 = some o) (hR : Rt C X cX11_lawNumber (some .int) (some (.int o.1)) o.2) : UW C X S 0 [(0, .ref (X.1 a0))] [] := by
  unfold fX11_lawNumber at hf
  refine u_iconst (v := (0 : Int32)) hC dX11_lawNumber_0 (by decide) ?_
  refine u_istore_n (lv' := [(1, .int (0 : Int32)), (0, .ref (X.1 a0))]) hC dX11_lawNumber_1 rfl (by decide) rfl ?_
  obtain ⟨r2, hr2, hf⟩ := kc_some hf
  have hk2 : UW C X r2.2 77 [(1, .int r2.1)] [] := by
    exact wjX11_lawNumber_77 hC n r2.2 r2.1   hf hR
  refine u_sub (lv' := [(0, .ref (X.1 a0)), (1, .int (0 : Int32))]) [1, 0] rfl ?_
  refine iter_ind (P := fun s2 => UW C X s2.2 2 [(0, .ref (X.1 a0)), (1, .int s2.1)] []) (fun s2 o' hb hin hout => ?_) n ((0 : Int32), S) hr2
  exact wbX11_lawNumber_2 hC n a0 hTa0 s2 hb hin (fun p e => by rw [hout p e]; exact hk2)
theorem ctX11_lawNumber (l : Launch) (hl : l.stackTraces = false) (G : GT) (ρ : Nat → Nat) (Y : XS) (n : Nat) (S : PS) (a0 : Nat) (hTa0 : Ty Y a0 11) {o : Int32 × PS} (hf : fX11_lawNumber Y n S a0 = some o) : Mt l G yX11_lawNumber cX11_lawNumber 2 (some .int) 2 ρ Y [.ref (ρ a0)] S (some (.int o.1)) o.2 :=
  Mt_of hl (by decide) (Nat.le_of_ble_eq_true rfl) (fun C _ _ hC hR => wX11_lawNumber (X := (ρ, Y, 0, 0)) hC n S a0 hTa0 hf hR)
-- X11_isSmall
theorem dX11_isSmall_0 : decode cX11_isSmall 0 = .ok (.iload_n 0, 1) := by decide +kernel
theorem dX11_isSmall_1 : decode cX11_isSmall 1 = .ok (.bipush 97, 2) := by decide +kernel
theorem dX11_isSmall_3 : decode cX11_isSmall 3 = .ok (.if_icmp .lt 13, 3) := by decide +kernel
theorem dX11_isSmall_6 : decode cX11_isSmall 6 = .ok (.iload_n 0, 1) := by decide +kernel
theorem dX11_isSmall_7 : decode cX11_isSmall 7 = .ok (.bipush 122, 2) := by decide +kernel
theorem dX11_isSmall_9 : decode cX11_isSmall 9 = .ok (.if_icmp .gt 7, 3) := by decide +kernel
theorem dX11_isSmall_12 : decode cX11_isSmall 12 = .ok (.iconst 1, 1) := by decide +kernel
theorem dX11_isSmall_13 : decode cX11_isSmall 13 = .ok (.goto 4, 3) := by decide +kernel
theorem dX11_isSmall_16 : decode cX11_isSmall 16 = .ok (.iconst 0, 1) := by decide +kernel
theorem dX11_isSmall_17 : decode cX11_isSmall 17 = .ok (.ireturn, 1) := by decide +kernel
def jX11_isSmall_17 (Y : XS) (n : Nat) (S : PS) (t0 : Int32) : Option (Int32) :=
  kzr t0 (some t0)
def jX11_isSmall_16 (Y : XS) (n : Nat) (S : PS)  : Option (Int32) :=
  jX11_isSmall_17 Y n S (0 : Int32)
def fX11_isSmall (Y : XS) (n : Nat) (S : PS) (x0_ : Int32) : Option (Int32) :=
  (if x0_ < (97 : Int32) then jX11_isSmall_16 Y n S  else (if (122 : Int32) < x0_ then jX11_isSmall_16 Y n S  else jX11_isSmall_17 Y n S (1 : Int32)))
theorem wjX11_isSmall_17 {C : CT} {X : XT} (hC : CK C RX11 cX11_isSmall 1 (some .boolean) 1) (n : Nat) (S : PS) (t0 : Int32)   {o : Int32} (hf : jX11_isSmall_17 X.2.1 n S t0 = some o) (hR : Rt C X cX11_isSmall (some .boolean) (some (.int o)) S) : UW C X S 17 [] [.int t0] := by
  unfold jX11_isSmall_17 at hf
  obtain ⟨hz, hf⟩ := kzr_some hf
  cases hf
  exact hR _ _ dX11_isSmall_17 hz
theorem wjX11_isSmall_16 {C : CT} {X : XT} (hC : CK C RX11 cX11_isSmall 1 (some .boolean) 1) (n : Nat) (S : PS)    {o : Int32} (hf : jX11_isSmall_16 X.2.1 n S  = some o) (hR : Rt C X cX11_isSmall (some .boolean) (some (.int o)) S) : UW C X S 16 [] [] := by
  unfold jX11_isSmall_16 at hf
  refine u_iconst (v := (0 : Int32)) hC dX11_isSmall_16 (by decide) ?_
  exact wjX11_isSmall_17 hC n S (0 : Int32)   hf hR
theorem wX11_isSmall {C : CT} {X : XT} (hC : CK C RX11 cX11_isSmall 1 (some .boolean) 1) (n : Nat) (S : PS) (x0_ : Int32)  {o : Int32} (hf : fX11_isSmall X.2.1 n S x0_ = some o) (hR : Rt C X cX11_isSmall (some .boolean) (some (.int o)) S) : UW C X S 0 [(0, .int x0_)] [] := by
  unfold fX11_isSmall at hf
  refine u_iload_n hC dX11_isSmall_0 0 rfl rfl ?_
  refine u_bipush (v := (97 : Int32)) hC dX11_isSmall_1 (by decide) ?_
  refine u_icmp_lt (tgt := 16) hC dX11_isSmall_3 (by decide) hf (fun h3 hf => ?_) (fun h3 hf => ?_)
  · refine u_sub (lv' := []) [] rfl ?_
    exact wjX11_isSmall_16 hC n S    hf hR
  · refine u_iload_n hC dX11_isSmall_6 0 rfl rfl ?_
    refine u_bipush (v := (122 : Int32)) hC dX11_isSmall_7 (by decide) ?_
    refine u_icmp_gt (tgt := 16) hC dX11_isSmall_9 (by decide) hf (fun h9 hf => ?_) (fun h9 hf => ?_)
    · refine u_sub (lv' := []) [] rfl ?_
      exact wjX11_isSmall_16 hC n S    hf hR
    · refine u_iconst (v := (1 : Int32)) hC dX11_isSmall_12 (by decide) ?_
      refine u_goto (tgt := 17) hC dX11_isSmall_13 (by decide) ?_
      refine u_sub (lv' := []) [] rfl ?_
      exact wjX11_isSmall_17 hC n S (1 : Int32)   hf hR
theorem ctX11_isSmall (l : Launch) (hl : l.stackTraces = false) (G : GT) (ρ : Nat → Nat) (Y : XS) (n : Nat) (S : PS) (x0_ : Int32)  {o : Int32} (hf : fX11_isSmall Y n S x0_ = some o) : Mt l G yX11_isSmall cX11_isSmall 1 (some .boolean) 1 ρ Y [.int x0_] S (some (.int o)) S :=
  Mt_of hl (by decide) (Nat.le_of_ble_eq_true rfl) (fun C _ _ hC hR => wX11_isSmall (X := (ρ, Y, 0, 0)) hC n S x0_  hf hR)
-- X11_lawWord
theorem dX11_lawWord_0 : decode cX11_lawWord 0 = .ok (.aload_n 0, 1) := by decide +kernel
theorem dX11_lawWord_1 : decode cX11_lawWord 1 = .ok (.getfield 91, 3) := by decide +kernel
theorem dX11_lawWord_4 : decode cX11_lawWord 4 = .ok (.aload_n 0, 1) := by decide +kernel
theorem dX11_lawWord_5 : decode cX11_lawWord 5 = .ok (.getfield 9, 3) := by decide +kernel
theorem dX11_lawWord_8 : decode cX11_lawWord 8 = .ok (.sipush 376, 3) := by decide +kernel
theorem dX11_lawWord_11 : decode cX11_lawWord 11 = .ok (.iaload, 1) := by decide +kernel
theorem dX11_lawWord_12 : decode cX11_lawWord 12 = .ok (.if_icmp .ge 35, 3) := by decide +kernel
theorem dX11_lawWord_15 : decode cX11_lawWord 15 = .ok (.aload_n 0, 1) := by decide +kernel
theorem dX11_lawWord_16 : decode cX11_lawWord 16 = .ok (.getfield 9, 3) := by decide +kernel
theorem dX11_lawWord_19 : decode cX11_lawWord 19 = .ok (.sipush 377, 3) := by decide +kernel
theorem dX11_lawWord_22 : decode cX11_lawWord 22 = .ok (.aload_n 0, 1) := by decide +kernel
theorem dX11_lawWord_23 : decode cX11_lawWord 23 = .ok (.getfield 91, 3) := by decide +kernel
theorem dX11_lawWord_26 : decode cX11_lawWord 26 = .ok (.iadd, 1) := by decide +kernel
theorem dX11_lawWord_27 : decode cX11_lawWord 27 = .ok (.iaload, 1) := by decide +kernel
theorem dX11_lawWord_28 : decode cX11_lawWord 28 = .ok (.invokestatic 116, 3) := by decide +kernel
theorem dX11_lawWord_31 : decode cX11_lawWord 31 = .ok (.ifCond .eq 16, 3) := by decide +kernel
theorem dX11_lawWord_34 : decode cX11_lawWord 34 = .ok (.aload_n 0, 1) := by decide +kernel
theorem dX11_lawWord_35 : decode cX11_lawWord 35 = .ok (.dup, 1) := by decide +kernel
theorem dX11_lawWord_36 : decode cX11_lawWord 36 = .ok (.getfield 91, 3) := by decide +kernel
theorem dX11_lawWord_39 : decode cX11_lawWord 39 = .ok (.iconst 1, 1) := by decide +kernel
theorem dX11_lawWord_40 : decode cX11_lawWord 40 = .ok (.iadd, 1) := by decide +kernel
theorem dX11_lawWord_41 : decode cX11_lawWord 41 = .ok (.putfield 91, 3) := by decide +kernel
theorem dX11_lawWord_44 : decode cX11_lawWord 44 = .ok (.goto (-44), 3) := by decide +kernel
theorem dX11_lawWord_47 : decode cX11_lawWord 47 = .ok (.iload_n 1, 1) := by decide +kernel
theorem dX11_lawWord_48 : decode cX11_lawWord 48 = .ok (.lookupswitch 51 #[(99, 41), (108, 46), (115, 36)], 36) := by decide +kernel
theorem dX11_lawWord_84 : decode cX11_lawWord 84 = .ok (.aload_n 0, 1) := by decide +kernel
theorem dX11_lawWord_85 : decode cX11_lawWord 85 = .ok (.getfield 119, 3) := by decide +kernel
theorem dX11_lawWord_88 : decode cX11_lawWord 88 = .ok (.ireturn, 1) := by decide +kernel
theorem dX11_lawWord_89 : decode cX11_lawWord 89 = .ok (.aload_n 0, 1) := by decide +kernel
theorem dX11_lawWord_90 : decode cX11_lawWord 90 = .ok (.getfield 122, 3) := by decide +kernel
theorem dX11_lawWord_93 : decode cX11_lawWord 93 = .ok (.ireturn, 1) := by decide +kernel
theorem dX11_lawWord_94 : decode cX11_lawWord 94 = .ok (.aload_n 0, 1) := by decide +kernel
theorem dX11_lawWord_95 : decode cX11_lawWord 95 = .ok (.getfield 125, 3) := by decide +kernel
theorem dX11_lawWord_98 : decode cX11_lawWord 98 = .ok (.ireturn, 1) := by decide +kernel
theorem dX11_lawWord_99 : decode cX11_lawWord 99 = .ok (.aload_n 0, 1) := by decide +kernel
theorem dX11_lawWord_100 : decode cX11_lawWord 100 = .ok (.invokevirtual 85, 3) := by decide +kernel
theorem dX11_lawWord_103 : decode cX11_lawWord 103 = .ok (.ireturn, 1) := by decide +kernel
def bX11_lawWord_0 (Y : XS) (n : Nat) (v0 : Nat) (v1 : Int32) (s0 : PS) : Option (PS ⊕ PS) :=
  kgi s0 v0 8 (fun x1 => kgr s0 v0 0 (fun b5 => kai Y s0 b5 (376 : Int32) (fun x11 => (if x11 ≤ x1 then some (.inr s0) else kgr s0 v0 0 (fun b16 => kgi s0 v0 8 (fun x23 => kai Y s0 b16 ((377 : Int32) + x23) (fun x27 => kc (fX11_isSmall Y n s0 x27) (fun q28 => (if q28 = 0 then some (.inr s0) else kgi s0 v0 8 (fun x36 => kpi s0 v0 8 (x36 + (1 : Int32)) (fun S41 => some (.inl S41))))))))))))
def jX11_lawWord_47 (Y : XS) (n : Nat) (S : PS) (v0 : Nat) (v1 : Int32) : Option (Int32 × PS) :=
  (if v1 = (99 : Int32) then kgi S v0 10 (fun x90 => some (x90, S)) else (if v1 = (108 : Int32) then kgi S v0 11 (fun x95 => some (x95, S)) else (if v1 = (115 : Int32) then kgi S v0 9 (fun x85 => some (x85, S)) else kc (fX11_people Y n S v0) (fun q100 => some (q100, S)))))
def fX11_lawWord (Y : XS) (n : Nat) (S : PS) (a0 : Nat) (x1_ : Int32) : Option (Int32 × PS) :=
  kc (iter (bX11_lawWord_0 Y n a0 x1_) n S) (fun r0 => jX11_lawWord_47 Y n r0 a0 x1_)
theorem wbX11_lawWord_0 {C : CT} {X : XT} (hC : CK C RX11 cX11_lawWord 2 (some .int) 2) (n : Nat) (v0 : Nat) (v1 : Int32) (hTv0 : Ty X.2.1 v0 11) (s0 : PS) {o : PS ⊕ PS} (hf : bX11_lawWord_0 X.2.1 n v0 v1 s0 = some o) (hN : ∀ s', o = .inl s' → UW C X s' 0 [(0, .ref (X.1 v0)), (1, .int v1)] []) (hO0 : ∀ p', o = .inr p' → UW C X p' 47 [(0, .ref (X.1 v0)), (1, .int v1)] []) : UW C X s0 0 [(0, .ref (X.1 v0)), (1, .int v1)] [] := by
  unfold bX11_lawWord_0 at hf
  refine u_aload_n hC dX11_lawWord_0 0 rfl rfl ?_
  refine u_gi hC lf_X11_91 rfl hTv0 dX11_lawWord_1 hf (fun x1 hf => ?_)
  refine u_aload_n hC dX11_lawWord_4 0 rfl rfl ?_
  refine u_gr hC lf_X11_9 rfl hTv0 dX11_lawWord_5 hf (fun b5 hTb5 hf => ?_)
  refine u_sipush (v := (376 : Int32)) hC dX11_lawWord_8 (by decide) ?_
  refine u_ai hC hTb5 dX11_lawWord_11 hf (fun x11 hf => ?_)
  refine u_icmp_ge (tgt := 47) hC dX11_lawWord_12 (by decide) hf (fun h12 hf => ?_) (fun h12 hf => ?_)
  · exact hO0 _ (Option.some.inj hf).symm
  · refine u_aload_n hC dX11_lawWord_15 0 rfl rfl ?_
    refine u_gr hC lf_X11_9 rfl hTv0 dX11_lawWord_16 hf (fun b16 hTb16 hf => ?_)
    refine u_sipush (v := (377 : Int32)) hC dX11_lawWord_19 (by decide) ?_
    refine u_aload_n hC dX11_lawWord_22 0 rfl rfl ?_
    refine u_gi hC lf_X11_91 rfl hTv0 dX11_lawWord_23 hf (fun x23 hf => ?_)
    refine u_iadd hC dX11_lawWord_26 ?_
    refine u_ai hC hTb16 dX11_lawWord_27 hf (fun x27 hf => ?_)
    obtain ⟨q28, hq28, hf⟩ := kc_some hf
    refine u_callS hC (ctX11_isSmall (cL C) hC.tr (cG C) X.1 X.2.1 n s0 x27  hq28) lk_X11_116 (by decide) (by decide) rfl rfl (Nat.le_of_ble_eq_true rfl) dX11_lawWord_28 ?_
    refine u_if_eq (tgt := 47) hC dX11_lawWord_31 (by decide) hf (fun h31 hf => ?_) (fun h31 hf => ?_)
    · exact hO0 _ (Option.some.inj hf).symm
    · refine u_aload_n hC dX11_lawWord_34 0 rfl rfl ?_
      refine u_dup hC dX11_lawWord_35 rfl ?_
      refine u_gi hC lf_X11_91 rfl hTv0 dX11_lawWord_36 hf (fun x36 hf => ?_)
      refine u_iconst (v := (1 : Int32)) hC dX11_lawWord_39 (by decide) ?_
      refine u_iadd hC dX11_lawWord_40 ?_
      refine u_pi hC lf_X11_91 rfl rfl rfl hTv0 dX11_lawWord_41 hf (fun S41 hf => ?_)
      refine u_goto (tgt := 0) hC dX11_lawWord_44 (by decide) ?_
      exact hN _ (Option.some.inj hf).symm
theorem wjX11_lawWord_47 {C : CT} {X : XT} (hC : CK C RX11 cX11_lawWord 2 (some .int) 2) (n : Nat) (S : PS) (v0 : Nat) (v1 : Int32)  (hTv0 : Ty X.2.1 v0 11) {o : Int32 × PS} (hf : jX11_lawWord_47 X.2.1 n S v0 v1 = some o) (hR : Rt C X cX11_lawWord (some .int) (some (.int o.1)) o.2) : UW C X S 47 [(0, .ref (X.1 v0)), (1, .int v1)] [] := by
  unfold jX11_lawWord_47 at hf
  refine u_iload_n hC dX11_lawWord_47 1 rfl rfl ?_
  by_cases hs48_0 : v1 = (99 : Int32)
  · rw [if_pos hs48_0] at hf
    refine u_look (off := 41) (tgt := 89) hC dX11_lawWord_48 (by decide) (by rw [hs48_0]; try rfl) (by decide) ?_
    refine u_aload_n hC dX11_lawWord_89 0 rfl rfl ?_
    refine u_gi hC lf_X11_122 rfl hTv0 dX11_lawWord_90 hf (fun x90 hf => ?_)
    cases hf
    exact hR _ _ dX11_lawWord_93 trivial
  rw [if_neg hs48_0] at hf
  by_cases hs48_1 : v1 = (108 : Int32)
  · rw [if_pos hs48_1] at hf
    refine u_look (off := 46) (tgt := 94) hC dX11_lawWord_48 (by decide) (by rw [hs48_1]; try rfl) (by decide) ?_
    refine u_aload_n hC dX11_lawWord_94 0 rfl rfl ?_
    refine u_gi hC lf_X11_125 rfl hTv0 dX11_lawWord_95 hf (fun x95 hf => ?_)
    cases hf
    exact hR _ _ dX11_lawWord_98 trivial
  rw [if_neg hs48_1] at hf
  by_cases hs48_2 : v1 = (115 : Int32)
  · rw [if_pos hs48_2] at hf
    refine u_look (off := 36) (tgt := 84) hC dX11_lawWord_48 (by decide) (by rw [hs48_2]; try rfl) (by decide) ?_
    refine u_aload_n hC dX11_lawWord_84 0 rfl rfl ?_
    refine u_gi hC lf_X11_119 rfl hTv0 dX11_lawWord_85 hf (fun x85 hf => ?_)
    cases hf
    exact hR _ _ dX11_lawWord_88 trivial
  rw [if_neg hs48_2] at hf
  refine u_look (off := 51) (tgt := 99) hC dX11_lawWord_48 (by decide) (by show Op.lookupswitch.offset [(99, 41), (108, 46), (115, 36)] 51 (Int32.toInt v1) = 51; rw [lv_osw hs48_0 (by decide), lv_osw hs48_1 (by decide), lv_osw hs48_2 (by decide)]; rfl) (by decide) ?_
  refine u_aload_n hC dX11_lawWord_99 0 rfl rfl ?_
  obtain ⟨q100, hq100, hf⟩ := kc_some hf
  refine u_callV hC (ctX11_people (cL C) hC.tr (cG C) X.1 X.2.1 n S v0 hTv0 hq100) lk_X11_85 rfl hTv0 (by decide) rfl (by decide) (by decide) rfl rfl (Nat.le_of_ble_eq_true rfl) dX11_lawWord_100 ?_
  cases hf
  exact hR _ _ dX11_lawWord_103 trivial
theorem wX11_lawWord {C : CT} {X : XT} (hC : CK C RX11 cX11_lawWord 2 (some .int) 2) (n : Nat) (S : PS) (a0 : Nat) (x1_ : Int32) (hTa0 : Ty X.2.1 a0 11) {o : Int32 × PS} (hf : fX11_lawWord X.2.1 n S a0 x1_ = some o) (hR : Rt C X cX11_lawWord (some .int) (some (.int o.1)) o.2) : UW C X S 0 [(0, .ref (X.1 a0)), (1, .int x1_)] [] := by
  unfold fX11_lawWord at hf
  obtain ⟨r0, hr0, hf⟩ := kc_some hf
  have hk0 : UW C X r0 47 [(0, .ref (X.1 a0)), (1, .int x1_)] [] := by
    exact wjX11_lawWord_47 hC n r0 a0 x1_  hTa0 hf hR
  refine iter_ind (P := fun s0 => UW C X s0 0 [(0, .ref (X.1 a0)), (1, .int x1_)] []) (fun s0 o' hb hin hout => ?_) n S hr0
  exact wbX11_lawWord_0 hC n a0 x1_ hTa0 s0 hb hin (fun p e => by rw [hout p e]; exact hk0)
theorem ctX11_lawWord (l : Launch) (hl : l.stackTraces = false) (G : GT) (ρ : Nat → Nat) (Y : XS) (n : Nat) (S : PS) (a0 : Nat) (x1_ : Int32) (hTa0 : Ty Y a0 11) {o : Int32 × PS} (hf : fX11_lawWord Y n S a0 x1_ = some o) : Mt l G yX11_lawWord cX11_lawWord 2 (some .int) 2 ρ Y [.ref (ρ a0), .int x1_] S (some (.int o.1)) o.2 :=
  Mt_of hl (by decide) (Nat.le_of_ble_eq_true rfl) (fun C _ _ hC hR => wX11_lawWord (X := (ρ, Y, 0, 0)) hC n S a0 x1_ hTa0 hf hR)
-- X11_lawPart
theorem dX11_lawPart_0 : decode cX11_lawPart 0 = .ok (.aload_n 0, 1) := by decide +kernel
theorem dX11_lawPart_1 : decode cX11_lawPart 1 = .ok (.invokevirtual 94, 3) := by decide +kernel
theorem dX11_lawPart_4 : decode cX11_lawPart 4 = .ok (.istore_n 1, 1) := by decide +kernel
theorem dX11_lawPart_5 : decode cX11_lawPart 5 = .ok (.iload_n 1, 1) := by decide +kernel
theorem dX11_lawPart_6 : decode cX11_lawPart 6 = .ok (.bipush 40, 2) := by decide +kernel
theorem dX11_lawPart_8 : decode cX11_lawPart 8 = .ok (.if_icmp .ne 35, 3) := by decide +kernel
theorem dX11_lawPart_11 : decode cX11_lawPart 11 = .ok (.aload_n 0, 1) := by decide +kernel
theorem dX11_lawPart_12 : decode cX11_lawPart 12 = .ok (.dup, 1) := by decide +kernel
theorem dX11_lawPart_13 : decode cX11_lawPart 13 = .ok (.getfield 91, 3) := by decide +kernel
theorem dX11_lawPart_16 : decode cX11_lawPart 16 = .ok (.iconst 1, 1) := by decide +kernel
theorem dX11_lawPart_17 : decode cX11_lawPart 17 = .ok (.iadd, 1) := by decide +kernel
theorem dX11_lawPart_18 : decode cX11_lawPart 18 = .ok (.putfield 91, 3) := by decide +kernel
theorem dX11_lawPart_21 : decode cX11_lawPart 21 = .ok (.aload_n 0, 1) := by decide +kernel
theorem dX11_lawPart_22 : decode cX11_lawPart 22 = .ok (.invokevirtual 97, 3) := by decide +kernel
theorem dX11_lawPart_25 : decode cX11_lawPart 25 = .ok (.istore_n 2, 1) := by decide +kernel
theorem dX11_lawPart_26 : decode cX11_lawPart 26 = .ok (.aload_n 0, 1) := by decide +kernel
theorem dX11_lawPart_27 : decode cX11_lawPart 27 = .ok (.invokevirtual 94, 3) := by decide +kernel
theorem dX11_lawPart_30 : decode cX11_lawPart 30 = .ok (.istore_n 1, 1) := by decide +kernel
theorem dX11_lawPart_31 : decode cX11_lawPart 31 = .ok (.aload_n 0, 1) := by decide +kernel
theorem dX11_lawPart_32 : decode cX11_lawPart 32 = .ok (.dup, 1) := by decide +kernel
theorem dX11_lawPart_33 : decode cX11_lawPart 33 = .ok (.getfield 91, 3) := by decide +kernel
theorem dX11_lawPart_36 : decode cX11_lawPart 36 = .ok (.iconst 1, 1) := by decide +kernel
theorem dX11_lawPart_37 : decode cX11_lawPart 37 = .ok (.iadd, 1) := by decide +kernel
theorem dX11_lawPart_38 : decode cX11_lawPart 38 = .ok (.putfield 91, 3) := by decide +kernel
theorem dX11_lawPart_41 : decode cX11_lawPart 41 = .ok (.iload_n 2, 1) := by decide +kernel
theorem dX11_lawPart_42 : decode cX11_lawPart 42 = .ok (.ireturn, 1) := by decide +kernel
theorem dX11_lawPart_43 : decode cX11_lawPart 43 = .ok (.iload_n 1, 1) := by decide +kernel
theorem dX11_lawPart_44 : decode cX11_lawPart 44 = .ok (.invokestatic 100, 3) := by decide +kernel
theorem dX11_lawPart_47 : decode cX11_lawPart 47 = .ok (.ifCond .eq 10, 3) := by decide +kernel
theorem dX11_lawPart_50 : decode cX11_lawPart 50 = .ok (.aload_n 0, 1) := by decide +kernel
theorem dX11_lawPart_51 : decode cX11_lawPart 51 = .ok (.invokevirtual 104, 3) := by decide +kernel
theorem dX11_lawPart_54 : decode cX11_lawPart 54 = .ok (.goto 8, 3) := by decide +kernel
theorem dX11_lawPart_57 : decode cX11_lawPart 57 = .ok (.aload_n 0, 1) := by decide +kernel
theorem dX11_lawPart_58 : decode cX11_lawPart 58 = .ok (.iload_n 1, 1) := by decide +kernel
theorem dX11_lawPart_59 : decode cX11_lawPart 59 = .ok (.invokevirtual 107, 3) := by decide +kernel
theorem dX11_lawPart_62 : decode cX11_lawPart 62 = .ok (.ireturn, 1) := by decide +kernel
def jX11_lawPart_62 (Y : XS) (n : Nat) (rc : PS → Nat → Option (Int32 × PS)) (S : PS) (t0 : Int32) : Option (Int32 × PS) :=
  some (t0, S)
def fX11_lawPart (Y : XS) (n : Nat) (rc : PS → Nat → Option (Int32 × PS)) (S : PS) (a0 : Nat) : Option (Int32 × PS) :=
  kc (fX11_lawByte Y n S a0) (fun q1 => (if q1.1 = (40 : Int32) then kgi q1.2 a0 8 (fun x13 => kpi q1.2 a0 8 (x13 + (1 : Int32)) (fun S18 => kc (rc S18 a0) (fun q22 => kc (fX11_lawByte Y n q22.2 a0) (fun q27 => kgi q27.2 a0 8 (fun x33 => kpi q27.2 a0 8 (x33 + (1 : Int32)) (fun S38 => some (q22.1, S38))))))) else kc (fX11_isFigure Y n q1.2 q1.1) (fun q44 => (if q44 = 0 then kc (fX11_lawWord Y n q1.2 a0 q1.1) (fun q59 => jX11_lawPart_62 Y n rc q59.2 q59.1) else kc (fX11_lawNumber Y n q1.2 a0) (fun q51 => jX11_lawPart_62 Y n rc q51.2 q51.1)))))
theorem wjX11_lawPart_62 {C : CT} {X : XT} {dr : Nat} (hC : CK C RX11 cX11_lawPart 3 (some .int) (dr + 3)) (n : Nat) (rc : PS → Nat → Option (Int32 × PS)) (hrc : ∀ (S : PS) (a : Nat) (o : Int32 × PS), Ty X.2.1 a 11 → rc S a = some o → Mt (cL C) (cG C) yX11_lawSum cX11_lawSum 4 (some .int) dr X.1 X.2.1 [.ref (X.1 a)] S (some (.int o.1)) o.2) (S : PS) (t0 : Int32)   {o : Int32 × PS} (hf : jX11_lawPart_62 X.2.1 n rc S t0 = some o) (hR : Rt C X cX11_lawPart (some .int) (some (.int o.1)) o.2) : UW C X S 62 [] [.int t0] := by
  unfold jX11_lawPart_62 at hf
  cases hf
  exact hR _ _ dX11_lawPart_62 trivial
theorem wX11_lawPart {C : CT} {X : XT} {dr : Nat} (hC : CK C RX11 cX11_lawPart 3 (some .int) (dr + 3)) (n : Nat) (rc : PS → Nat → Option (Int32 × PS)) (hrc : ∀ (S : PS) (a : Nat) (o : Int32 × PS), Ty X.2.1 a 11 → rc S a = some o → Mt (cL C) (cG C) yX11_lawSum cX11_lawSum 4 (some .int) dr X.1 X.2.1 [.ref (X.1 a)] S (some (.int o.1)) o.2) (S : PS) (a0 : Nat) (hTa0 : Ty X.2.1 a0 11) {o : Int32 × PS} (hf : fX11_lawPart X.2.1 n rc S a0 = some o) (hR : Rt C X cX11_lawPart (some .int) (some (.int o.1)) o.2) : UW C X S 0 [(0, .ref (X.1 a0))] [] := by
  unfold fX11_lawPart at hf
  refine u_aload_n hC dX11_lawPart_0 0 rfl rfl ?_
  obtain ⟨q1, hq1, hf⟩ := kc_some hf
  refine u_callV hC (ctX11_lawByte (cL C) hC.tr (cG C) X.1 X.2.1 n S a0 hTa0 hq1) lk_X11_94 rfl hTa0 (by decide) rfl (by omega) (by decide) rfl rfl (Nat.le_of_ble_eq_true rfl) dX11_lawPart_1 ?_
  refine u_istore_n (lv' := [(1, .int q1.1), (0, .ref (X.1 a0))]) hC dX11_lawPart_4 rfl (by decide) rfl ?_
  refine u_iload_n hC dX11_lawPart_5 0 rfl rfl ?_
  refine u_bipush (v := (40 : Int32)) hC dX11_lawPart_6 (by decide) ?_
  refine u_icmp_ne (tgt := 43) hC dX11_lawPart_8 (by decide) hf (fun h8 hf => ?_) (fun h8 hf => ?_)
  · refine u_iload_n hC dX11_lawPart_43 0 rfl rfl ?_
    obtain ⟨q44, hq44, hf⟩ := kc_some hf
    refine u_callS hC (ctX11_isFigure (cL C) hC.tr (cG C) X.1 X.2.1 n q1.2 q1.1  hq44) lk_X11_100 (by omega) (by decide) rfl rfl (Nat.le_of_ble_eq_true rfl) dX11_lawPart_44 ?_
    refine u_if_eq (tgt := 57) hC dX11_lawPart_47 (by decide) hf (fun h47 hf => ?_) (fun h47 hf => ?_)
    · refine u_aload_n hC dX11_lawPart_57 1 rfl rfl ?_
      refine u_iload_n hC dX11_lawPart_58 0 rfl rfl ?_
      obtain ⟨q59, hq59, hf⟩ := kc_some hf
      refine u_callV hC (ctX11_lawWord (cL C) hC.tr (cG C) X.1 X.2.1 n q1.2 a0 q1.1 hTa0 hq59) lk_X11_107 rfl hTa0 (by decide) rfl (by omega) (by decide) rfl rfl (Nat.le_of_ble_eq_true rfl) dX11_lawPart_59 ?_
      refine u_sub (lv' := []) [] rfl ?_
      exact wjX11_lawPart_62 hC n rc hrc q59.2 q59.1   hf hR
    · refine u_aload_n hC dX11_lawPart_50 1 rfl rfl ?_
      obtain ⟨q51, hq51, hf⟩ := kc_some hf
      refine u_callV hC (ctX11_lawNumber (cL C) hC.tr (cG C) X.1 X.2.1 n q1.2 a0 hTa0 hq51) lk_X11_104 rfl hTa0 (by decide) rfl (by omega) (by decide) rfl rfl (Nat.le_of_ble_eq_true rfl) dX11_lawPart_51 ?_
      refine u_goto (tgt := 62) hC dX11_lawPart_54 (by decide) ?_
      refine u_sub (lv' := []) [] rfl ?_
      exact wjX11_lawPart_62 hC n rc hrc q51.2 q51.1   hf hR
  · refine u_aload_n hC dX11_lawPart_11 1 rfl rfl ?_
    refine u_dup hC dX11_lawPart_12 rfl ?_
    refine u_gi hC lf_X11_91 rfl hTa0 dX11_lawPart_13 hf (fun x13 hf => ?_)
    refine u_iconst (v := (1 : Int32)) hC dX11_lawPart_16 (by decide) ?_
    refine u_iadd hC dX11_lawPart_17 ?_
    refine u_pi hC lf_X11_91 rfl rfl rfl hTa0 dX11_lawPart_18 hf (fun S18 hf => ?_)
    refine u_aload_n hC dX11_lawPart_21 1 rfl rfl ?_
    obtain ⟨q22, hq22, hf⟩ := kc_some hf
    refine u_callV hC (hrc S18 a0 q22 hTa0 hq22) lk_X11_97 rfl hTa0 (by decide) rfl (by omega) (by decide) rfl rfl (Nat.le_of_ble_eq_true rfl) dX11_lawPart_22 ?_
    refine u_istore_n (lv' := [(2, .int q22.1), (1, .int q1.1), (0, .ref (X.1 a0))]) hC dX11_lawPart_25 rfl (by decide) rfl ?_
    refine u_aload_n hC dX11_lawPart_26 2 rfl rfl ?_
    obtain ⟨q27, hq27, hf⟩ := kc_some hf
    refine u_callV hC (ctX11_lawByte (cL C) hC.tr (cG C) X.1 X.2.1 n q22.2 a0 hTa0 hq27) lk_X11_94 rfl hTa0 (by decide) rfl (by omega) (by decide) rfl rfl (Nat.le_of_ble_eq_true rfl) dX11_lawPart_27 ?_
    refine u_istore_n (lv' := [(1, .int q27.1), (2, .int q22.1), (0, .ref (X.1 a0))]) hC dX11_lawPart_30 rfl (by decide) rfl ?_
    refine u_aload_n hC dX11_lawPart_31 2 rfl rfl ?_
    refine u_dup hC dX11_lawPart_32 rfl ?_
    refine u_gi hC lf_X11_91 rfl hTa0 dX11_lawPart_33 hf (fun x33 hf => ?_)
    refine u_iconst (v := (1 : Int32)) hC dX11_lawPart_36 (by decide) ?_
    refine u_iadd hC dX11_lawPart_37 ?_
    refine u_pi hC lf_X11_91 rfl rfl rfl hTa0 dX11_lawPart_38 hf (fun S38 hf => ?_)
    refine u_iload_n hC dX11_lawPart_41 1 rfl rfl ?_
    cases hf
    exact hR _ _ dX11_lawPart_42 trivial
theorem ctX11_lawPart (l : Launch) (hl : l.stackTraces = false) (G : GT) (ρ : Nat → Nat) (Y : XS) (n : Nat) (rc : PS → Nat → Option (Int32 × PS)) (dr : Nat) (hrc : ∀ (S : PS) (a : Nat) (o : Int32 × PS), Ty Y a 11 → rc S a = some o → Mt l G yX11_lawSum cX11_lawSum 4 (some .int) dr ρ Y [.ref (ρ a)] S (some (.int o.1)) o.2) (S : PS) (a0 : Nat) (hTa0 : Ty Y a0 11) {o : Int32 × PS} (hf : fX11_lawPart Y n rc S a0 = some o) : Mt l G yX11_lawPart cX11_lawPart 3 (some .int) (dr + 3) ρ Y [.ref (ρ a0)] S (some (.int o.1)) o.2 :=
  Mt_of hl (by decide) (Nat.le_of_ble_eq_true rfl) (fun C h1 h2 hC hR => by
    subst h1; subst h2
    exact wX11_lawPart (X := (ρ, Y, 0, 0)) hC n rc hrc S a0 hTa0 hf hR)
-- X11_lawTerm
theorem dX11_lawTerm_0 : decode cX11_lawTerm 0 = .ok (.aload_n 0, 1) := by decide +kernel
theorem dX11_lawTerm_1 : decode cX11_lawTerm 1 = .ok (.invokevirtual 128, 3) := by decide +kernel
theorem dX11_lawTerm_4 : decode cX11_lawTerm 4 = .ok (.istore_n 1, 1) := by decide +kernel
theorem dX11_lawTerm_5 : decode cX11_lawTerm 5 = .ok (.aload_n 0, 1) := by decide +kernel
theorem dX11_lawTerm_6 : decode cX11_lawTerm 6 = .ok (.invokevirtual 94, 3) := by decide +kernel
theorem dX11_lawTerm_9 : decode cX11_lawTerm 9 = .ok (.istore_n 2, 1) := by decide +kernel
theorem dX11_lawTerm_10 : decode cX11_lawTerm 10 = .ok (.iload_n 2, 1) := by decide +kernel
theorem dX11_lawTerm_11 : decode cX11_lawTerm 11 = .ok (.bipush 42, 2) := by decide +kernel
theorem dX11_lawTerm_13 : decode cX11_lawTerm 13 = .ok (.if_icmp .eq 9, 3) := by decide +kernel
theorem dX11_lawTerm_16 : decode cX11_lawTerm 16 = .ok (.iload_n 2, 1) := by decide +kernel
theorem dX11_lawTerm_17 : decode cX11_lawTerm 17 = .ok (.bipush 47, 2) := by decide +kernel
theorem dX11_lawTerm_19 : decode cX11_lawTerm 19 = .ok (.if_icmp .ne 50, 3) := by decide +kernel
theorem dX11_lawTerm_22 : decode cX11_lawTerm 22 = .ok (.aload_n 0, 1) := by decide +kernel
theorem dX11_lawTerm_23 : decode cX11_lawTerm 23 = .ok (.dup, 1) := by decide +kernel
theorem dX11_lawTerm_24 : decode cX11_lawTerm 24 = .ok (.getfield 91, 3) := by decide +kernel
theorem dX11_lawTerm_27 : decode cX11_lawTerm 27 = .ok (.iconst 1, 1) := by decide +kernel
theorem dX11_lawTerm_28 : decode cX11_lawTerm 28 = .ok (.iadd, 1) := by decide +kernel
theorem dX11_lawTerm_29 : decode cX11_lawTerm 29 = .ok (.putfield 91, 3) := by decide +kernel
theorem dX11_lawTerm_32 : decode cX11_lawTerm 32 = .ok (.aload_n 0, 1) := by decide +kernel
theorem dX11_lawTerm_33 : decode cX11_lawTerm 33 = .ok (.invokevirtual 128, 3) := by decide +kernel
theorem dX11_lawTerm_36 : decode cX11_lawTerm 36 = .ok (.istore_n 3, 1) := by decide +kernel
theorem dX11_lawTerm_37 : decode cX11_lawTerm 37 = .ok (.iload_n 2, 1) := by decide +kernel
theorem dX11_lawTerm_38 : decode cX11_lawTerm 38 = .ok (.bipush 42, 2) := by decide +kernel
theorem dX11_lawTerm_40 : decode cX11_lawTerm 40 = .ok (.if_icmp .ne 9, 3) := by decide +kernel
theorem dX11_lawTerm_43 : decode cX11_lawTerm 43 = .ok (.iload_n 1, 1) := by decide +kernel
theorem dX11_lawTerm_44 : decode cX11_lawTerm 44 = .ok (.iload_n 3, 1) := by decide +kernel
theorem dX11_lawTerm_45 : decode cX11_lawTerm 45 = .ok (.imul, 1) := by decide +kernel
theorem dX11_lawTerm_46 : decode cX11_lawTerm 46 = .ok (.goto 14, 3) := by decide +kernel
theorem dX11_lawTerm_49 : decode cX11_lawTerm 49 = .ok (.iload_n 3, 1) := by decide +kernel
theorem dX11_lawTerm_50 : decode cX11_lawTerm 50 = .ok (.ifCond .ne 7, 3) := by decide +kernel
theorem dX11_lawTerm_53 : decode cX11_lawTerm 53 = .ok (.iconst 0, 1) := by decide +kernel
theorem dX11_lawTerm_54 : decode cX11_lawTerm 54 = .ok (.goto 6, 3) := by decide +kernel
theorem dX11_lawTerm_57 : decode cX11_lawTerm 57 = .ok (.iload_n 1, 1) := by decide +kernel
theorem dX11_lawTerm_58 : decode cX11_lawTerm 58 = .ok (.iload_n 3, 1) := by decide +kernel
theorem dX11_lawTerm_59 : decode cX11_lawTerm 59 = .ok (.idiv, 1) := by decide +kernel
theorem dX11_lawTerm_60 : decode cX11_lawTerm 60 = .ok (.istore_n 1, 1) := by decide +kernel
theorem dX11_lawTerm_61 : decode cX11_lawTerm 61 = .ok (.aload_n 0, 1) := by decide +kernel
theorem dX11_lawTerm_62 : decode cX11_lawTerm 62 = .ok (.invokevirtual 94, 3) := by decide +kernel
theorem dX11_lawTerm_65 : decode cX11_lawTerm 65 = .ok (.istore_n 2, 1) := by decide +kernel
theorem dX11_lawTerm_66 : decode cX11_lawTerm 66 = .ok (.goto (-56), 3) := by decide +kernel
theorem dX11_lawTerm_69 : decode cX11_lawTerm 69 = .ok (.iload_n 1, 1) := by decide +kernel
theorem dX11_lawTerm_70 : decode cX11_lawTerm 70 = .ok (.ireturn, 1) := by decide +kernel
def jX11_lawTerm_60_10 (Y : XS) (n : Nat) (rc : PS → Nat → Option (Int32 × PS)) (S : PS) (v0 : Nat) (t0 : Int32) : Option ((Int32 × Int32 × PS) ⊕ (Int32 × PS)) :=
  kc (fX11_lawByte Y n S v0) (fun q62 => some (.inl (t0, q62.1, q62.2)))
def jX11_lawTerm_22_10 (Y : XS) (n : Nat) (rc : PS → Nat → Option (Int32 × PS)) (S : PS) (v0 : Nat) (v1 : Int32) (v2 : Int32) : Option ((Int32 × Int32 × PS) ⊕ (Int32 × PS)) :=
  kgi S v0 8 (fun x24 => kpi S v0 8 (x24 + (1 : Int32)) (fun S29 => kc (fX11_lawPart Y n rc S29 v0) (fun q33 => (if v2 = (42 : Int32) then jX11_lawTerm_60_10 Y n rc q33.2 v0 (v1 * q33.1) else (if q33.1 = 0 then jX11_lawTerm_60_10 Y n rc q33.2 v0 (0 : Int32) else kidiv v1 q33.1 (fun z59 => jX11_lawTerm_60_10 Y n rc q33.2 v0 z59))))))
def bX11_lawTerm_10 (Y : XS) (n : Nat) (rc : PS → Nat → Option (Int32 × PS)) (v0 : Nat) (s10 : (Int32 × Int32 × PS)) : Option ((Int32 × Int32 × PS) ⊕ (Int32 × PS)) :=
  (if s10.2.1 = (42 : Int32) then jX11_lawTerm_22_10 Y n rc s10.2.2 v0 s10.1 s10.2.1 else (if s10.2.1 = (47 : Int32) then jX11_lawTerm_22_10 Y n rc s10.2.2 v0 s10.1 s10.2.1 else some (.inr (s10.1, s10.2.2))))
def fX11_lawTerm (Y : XS) (n : Nat) (rc : PS → Nat → Option (Int32 × PS)) (S : PS) (a0 : Nat) : Option (Int32 × PS) :=
  kc (fX11_lawPart Y n rc S a0) (fun q1 => kc (fX11_lawByte Y n q1.2 a0) (fun q6 => kc (iter (bX11_lawTerm_10 Y n rc a0) n (q1.1, q6.1, q6.2)) (fun r10 => some r10)))
theorem wjX11_lawTerm_60_10 {C : CT} {X : XT} {dr : Nat} (hC : CK C RX11 cX11_lawTerm 4 (some .int) (dr + 4)) (n : Nat) (rc : PS → Nat → Option (Int32 × PS)) (hrc : ∀ (S : PS) (a : Nat) (o : Int32 × PS), Ty X.2.1 a 11 → rc S a = some o → Mt (cL C) (cG C) yX11_lawSum cX11_lawSum 4 (some .int) dr X.1 X.2.1 [.ref (X.1 a)] S (some (.int o.1)) o.2) (S : PS) (v0 : Nat) (t0 : Int32)  (hTv0 : Ty X.2.1 v0 11) {o : (Int32 × Int32 × PS) ⊕ (Int32 × PS)} (hf : jX11_lawTerm_60_10 X.2.1 n rc S v0 t0 = some o) (hN : ∀ s', o = .inl s' → UW C X s'.2.2 10 [(0, .ref (X.1 v0)), (1, .int s'.1), (2, .int s'.2.1)] []) (hR : ∀ q', o = .inr q' → Rt C X cX11_lawTerm (some .int) (some (.int q'.1)) q'.2) : UW C X S 60 [(0, .ref (X.1 v0))] [.int t0] := by
  unfold jX11_lawTerm_60_10 at hf
  refine u_istore_n (lv' := [(1, .int t0), (0, .ref (X.1 v0))]) hC dX11_lawTerm_60 rfl (by decide) rfl ?_
  refine u_aload_n hC dX11_lawTerm_61 1 rfl rfl ?_
  obtain ⟨q62, hq62, hf⟩ := kc_some hf
  refine u_callV hC (ctX11_lawByte (cL C) hC.tr (cG C) X.1 X.2.1 n S v0 hTv0 hq62) lk_X11_94 rfl hTv0 (by decide) rfl (by omega) (by decide) rfl rfl (Nat.le_of_ble_eq_true rfl) dX11_lawTerm_62 ?_
  refine u_istore_n (lv' := [(2, .int q62.1), (1, .int t0), (0, .ref (X.1 v0))]) hC dX11_lawTerm_65 rfl (by decide) rfl ?_
  refine u_goto (tgt := 10) hC dX11_lawTerm_66 (by decide) ?_
  refine u_sub (lv' := [(0, .ref (X.1 v0)), (1, .int t0), (2, .int q62.1)]) [2, 1, 0] rfl ?_
  exact hN _ (Option.some.inj hf).symm
theorem wjX11_lawTerm_22_10 {C : CT} {X : XT} {dr : Nat} (hC : CK C RX11 cX11_lawTerm 4 (some .int) (dr + 4)) (n : Nat) (rc : PS → Nat → Option (Int32 × PS)) (hrc : ∀ (S : PS) (a : Nat) (o : Int32 × PS), Ty X.2.1 a 11 → rc S a = some o → Mt (cL C) (cG C) yX11_lawSum cX11_lawSum 4 (some .int) dr X.1 X.2.1 [.ref (X.1 a)] S (some (.int o.1)) o.2) (S : PS) (v0 : Nat) (v1 : Int32) (v2 : Int32)  (hTv0 : Ty X.2.1 v0 11) {o : (Int32 × Int32 × PS) ⊕ (Int32 × PS)} (hf : jX11_lawTerm_22_10 X.2.1 n rc S v0 v1 v2 = some o) (hN : ∀ s', o = .inl s' → UW C X s'.2.2 10 [(0, .ref (X.1 v0)), (1, .int s'.1), (2, .int s'.2.1)] []) (hR : ∀ q', o = .inr q' → Rt C X cX11_lawTerm (some .int) (some (.int q'.1)) q'.2) : UW C X S 22 [(0, .ref (X.1 v0)), (1, .int v1), (2, .int v2)] [] := by
  unfold jX11_lawTerm_22_10 at hf
  refine u_aload_n hC dX11_lawTerm_22 0 rfl rfl ?_
  refine u_dup hC dX11_lawTerm_23 rfl ?_
  refine u_gi hC lf_X11_91 rfl hTv0 dX11_lawTerm_24 hf (fun x24 hf => ?_)
  refine u_iconst (v := (1 : Int32)) hC dX11_lawTerm_27 (by decide) ?_
  refine u_iadd hC dX11_lawTerm_28 ?_
  refine u_pi hC lf_X11_91 rfl rfl rfl hTv0 dX11_lawTerm_29 hf (fun S29 hf => ?_)
  refine u_aload_n hC dX11_lawTerm_32 0 rfl rfl ?_
  obtain ⟨q33, hq33, hf⟩ := kc_some hf
  refine u_callV hC (ctX11_lawPart (cL C) hC.tr (cG C) X.1 X.2.1 n rc dr hrc S29 v0 hTv0 hq33) lk_X11_128 rfl hTv0 (by decide) rfl (by omega) (by decide) rfl rfl (Nat.le_of_ble_eq_true rfl) dX11_lawTerm_33 ?_
  refine u_istore_n (lv' := [(3, .int q33.1), (0, .ref (X.1 v0)), (1, .int v1), (2, .int v2)]) hC dX11_lawTerm_36 rfl (by decide) rfl ?_
  refine u_iload_n hC dX11_lawTerm_37 3 rfl rfl ?_
  refine u_bipush (v := (42 : Int32)) hC dX11_lawTerm_38 (by decide) ?_
  refine u_icmp_ne (tgt := 49) hC dX11_lawTerm_40 (by decide) hf (fun h40 hf => ?_) (fun h40 hf => ?_)
  · refine u_iload_n hC dX11_lawTerm_49 0 rfl rfl ?_
    refine u_if_ne (tgt := 57) hC dX11_lawTerm_50 (by decide) hf (fun h50 hf => ?_) (fun h50 hf => ?_)
    · refine u_iload_n hC dX11_lawTerm_57 2 rfl rfl ?_
      refine u_iload_n hC dX11_lawTerm_58 0 rfl rfl ?_
      refine u_idiv hC dX11_lawTerm_59 hf (fun z59 hf => ?_)
      refine u_sub (lv' := [(0, .ref (X.1 v0))]) [1] rfl ?_
      exact wjX11_lawTerm_60_10 hC n rc hrc q33.2 v0 z59  hTv0 hf hN hR
    · refine u_iconst (v := (0 : Int32)) hC dX11_lawTerm_53 (by decide) ?_
      refine u_goto (tgt := 60) hC dX11_lawTerm_54 (by decide) ?_
      refine u_sub (lv' := [(0, .ref (X.1 v0))]) [1] rfl ?_
      exact wjX11_lawTerm_60_10 hC n rc hrc q33.2 v0 (0 : Int32)  hTv0 hf hN hR
  · refine u_iload_n hC dX11_lawTerm_43 2 rfl rfl ?_
    refine u_iload_n hC dX11_lawTerm_44 0 rfl rfl ?_
    refine u_imul hC dX11_lawTerm_45 ?_
    refine u_goto (tgt := 60) hC dX11_lawTerm_46 (by decide) ?_
    refine u_sub (lv' := [(0, .ref (X.1 v0))]) [1] rfl ?_
    exact wjX11_lawTerm_60_10 hC n rc hrc q33.2 v0 (v1 * q33.1)  hTv0 hf hN hR
theorem wbX11_lawTerm_10 {C : CT} {X : XT} {dr : Nat} (hC : CK C RX11 cX11_lawTerm 4 (some .int) (dr + 4)) (n : Nat) (rc : PS → Nat → Option (Int32 × PS)) (hrc : ∀ (S : PS) (a : Nat) (o : Int32 × PS), Ty X.2.1 a 11 → rc S a = some o → Mt (cL C) (cG C) yX11_lawSum cX11_lawSum 4 (some .int) dr X.1 X.2.1 [.ref (X.1 a)] S (some (.int o.1)) o.2) (v0 : Nat) (hTv0 : Ty X.2.1 v0 11) (s10 : (Int32 × Int32 × PS)) {o : (Int32 × Int32 × PS) ⊕ (Int32 × PS)} (hf : bX11_lawTerm_10 X.2.1 n rc v0 s10 = some o) (hN : ∀ s', o = .inl s' → UW C X s'.2.2 10 [(0, .ref (X.1 v0)), (1, .int s'.1), (2, .int s'.2.1)] []) (hR : ∀ q', o = .inr q' → Rt C X cX11_lawTerm (some .int) (some (.int q'.1)) q'.2) : UW C X s10.2.2 10 [(0, .ref (X.1 v0)), (1, .int s10.1), (2, .int s10.2.1)] [] := by
  unfold bX11_lawTerm_10 at hf
  refine u_iload_n hC dX11_lawTerm_10 2 rfl rfl ?_
  refine u_bipush (v := (42 : Int32)) hC dX11_lawTerm_11 (by decide) ?_
  refine u_icmp_eq (tgt := 22) hC dX11_lawTerm_13 (by decide) hf (fun h13 hf => ?_) (fun h13 hf => ?_)
  · exact wjX11_lawTerm_22_10 hC n rc hrc s10.2.2 v0 s10.1 s10.2.1  hTv0 hf hN hR
  · refine u_iload_n hC dX11_lawTerm_16 2 rfl rfl ?_
    refine u_bipush (v := (47 : Int32)) hC dX11_lawTerm_17 (by decide) ?_
    refine u_icmp_ne (tgt := 69) hC dX11_lawTerm_19 (by decide) hf (fun h19 hf => ?_) (fun h19 hf => ?_)
    · refine u_iload_n hC dX11_lawTerm_69 1 rfl rfl ?_
      exact hR _ (Option.some.inj hf).symm _ _ dX11_lawTerm_70 trivial
    · exact wjX11_lawTerm_22_10 hC n rc hrc s10.2.2 v0 s10.1 s10.2.1  hTv0 hf hN hR
theorem wX11_lawTerm {C : CT} {X : XT} {dr : Nat} (hC : CK C RX11 cX11_lawTerm 4 (some .int) (dr + 4)) (n : Nat) (rc : PS → Nat → Option (Int32 × PS)) (hrc : ∀ (S : PS) (a : Nat) (o : Int32 × PS), Ty X.2.1 a 11 → rc S a = some o → Mt (cL C) (cG C) yX11_lawSum cX11_lawSum 4 (some .int) dr X.1 X.2.1 [.ref (X.1 a)] S (some (.int o.1)) o.2) (S : PS) (a0 : Nat) (hTa0 : Ty X.2.1 a0 11) {o : Int32 × PS} (hf : fX11_lawTerm X.2.1 n rc S a0 = some o) (hR : Rt C X cX11_lawTerm (some .int) (some (.int o.1)) o.2) : UW C X S 0 [(0, .ref (X.1 a0))] [] := by
  unfold fX11_lawTerm at hf
  refine u_aload_n hC dX11_lawTerm_0 0 rfl rfl ?_
  obtain ⟨q1, hq1, hf⟩ := kc_some hf
  refine u_callV hC (ctX11_lawPart (cL C) hC.tr (cG C) X.1 X.2.1 n rc dr hrc S a0 hTa0 hq1) lk_X11_128 rfl hTa0 (by decide) rfl (by omega) (by decide) rfl rfl (Nat.le_of_ble_eq_true rfl) dX11_lawTerm_1 ?_
  refine u_istore_n (lv' := [(1, .int q1.1), (0, .ref (X.1 a0))]) hC dX11_lawTerm_4 rfl (by decide) rfl ?_
  refine u_aload_n hC dX11_lawTerm_5 1 rfl rfl ?_
  obtain ⟨q6, hq6, hf⟩ := kc_some hf
  refine u_callV hC (ctX11_lawByte (cL C) hC.tr (cG C) X.1 X.2.1 n q1.2 a0 hTa0 hq6) lk_X11_94 rfl hTa0 (by decide) rfl (by omega) (by decide) rfl rfl (Nat.le_of_ble_eq_true rfl) dX11_lawTerm_6 ?_
  refine u_istore_n (lv' := [(2, .int q6.1), (1, .int q1.1), (0, .ref (X.1 a0))]) hC dX11_lawTerm_9 rfl (by decide) rfl ?_
  obtain ⟨r10, hr10, hf⟩ := kc_some hf
  have hk10 : Rt C X cX11_lawTerm (some .int) (some (.int r10.1)) r10.2 := by
    cases hf
    exact hR
  refine u_sub (lv' := [(0, .ref (X.1 a0)), (1, .int q1.1), (2, .int q6.1)]) [2, 1, 0] rfl ?_
  refine iter_ind (P := fun s10 => UW C X s10.2.2 10 [(0, .ref (X.1 a0)), (1, .int s10.1), (2, .int s10.2.1)] []) (fun s10 o' hb hin hout => ?_) n (q1.1, q6.1, q6.2) hr10
  exact wbX11_lawTerm_10 hC n rc hrc a0 hTa0 s10 hb hin (fun p e => by rw [hout p e]; exact hk10)
theorem ctX11_lawTerm (l : Launch) (hl : l.stackTraces = false) (G : GT) (ρ : Nat → Nat) (Y : XS) (n : Nat) (rc : PS → Nat → Option (Int32 × PS)) (dr : Nat) (hrc : ∀ (S : PS) (a : Nat) (o : Int32 × PS), Ty Y a 11 → rc S a = some o → Mt l G yX11_lawSum cX11_lawSum 4 (some .int) dr ρ Y [.ref (ρ a)] S (some (.int o.1)) o.2) (S : PS) (a0 : Nat) (hTa0 : Ty Y a0 11) {o : Int32 × PS} (hf : fX11_lawTerm Y n rc S a0 = some o) : Mt l G yX11_lawTerm cX11_lawTerm 4 (some .int) (dr + 4) ρ Y [.ref (ρ a0)] S (some (.int o.1)) o.2 :=
  Mt_of hl (by decide) (Nat.le_of_ble_eq_true rfl) (fun C h1 h2 hC hR => by
    subst h1; subst h2
    exact wX11_lawTerm (X := (ρ, Y, 0, 0)) hC n rc hrc S a0 hTa0 hf hR)
-- X11_lawSum
theorem dX11_lawSum_0 : decode cX11_lawSum 0 = .ok (.aload_n 0, 1) := by decide +kernel
theorem dX11_lawSum_1 : decode cX11_lawSum 1 = .ok (.invokevirtual 131, 3) := by decide +kernel
theorem dX11_lawSum_4 : decode cX11_lawSum 4 = .ok (.istore_n 1, 1) := by decide +kernel
theorem dX11_lawSum_5 : decode cX11_lawSum 5 = .ok (.aload_n 0, 1) := by decide +kernel
theorem dX11_lawSum_6 : decode cX11_lawSum 6 = .ok (.invokevirtual 94, 3) := by decide +kernel
theorem dX11_lawSum_9 : decode cX11_lawSum 9 = .ok (.istore_n 2, 1) := by decide +kernel
theorem dX11_lawSum_10 : decode cX11_lawSum 10 = .ok (.iload_n 2, 1) := by decide +kernel
theorem dX11_lawSum_11 : decode cX11_lawSum 11 = .ok (.bipush 43, 2) := by decide +kernel
theorem dX11_lawSum_13 : decode cX11_lawSum 13 = .ok (.if_icmp .eq 9, 3) := by decide +kernel
theorem dX11_lawSum_16 : decode cX11_lawSum 16 = .ok (.iload_n 2, 1) := by decide +kernel
theorem dX11_lawSum_17 : decode cX11_lawSum 17 = .ok (.bipush 45, 2) := by decide +kernel
theorem dX11_lawSum_19 : decode cX11_lawSum 19 = .ok (.if_icmp .ne 42, 3) := by decide +kernel
theorem dX11_lawSum_22 : decode cX11_lawSum 22 = .ok (.aload_n 0, 1) := by decide +kernel
theorem dX11_lawSum_23 : decode cX11_lawSum 23 = .ok (.dup, 1) := by decide +kernel
theorem dX11_lawSum_24 : decode cX11_lawSum 24 = .ok (.getfield 91, 3) := by decide +kernel
theorem dX11_lawSum_27 : decode cX11_lawSum 27 = .ok (.iconst 1, 1) := by decide +kernel
theorem dX11_lawSum_28 : decode cX11_lawSum 28 = .ok (.iadd, 1) := by decide +kernel
theorem dX11_lawSum_29 : decode cX11_lawSum 29 = .ok (.putfield 91, 3) := by decide +kernel
theorem dX11_lawSum_32 : decode cX11_lawSum 32 = .ok (.aload_n 0, 1) := by decide +kernel
theorem dX11_lawSum_33 : decode cX11_lawSum 33 = .ok (.invokevirtual 131, 3) := by decide +kernel
theorem dX11_lawSum_36 : decode cX11_lawSum 36 = .ok (.istore_n 3, 1) := by decide +kernel
theorem dX11_lawSum_37 : decode cX11_lawSum 37 = .ok (.iload_n 2, 1) := by decide +kernel
theorem dX11_lawSum_38 : decode cX11_lawSum 38 = .ok (.bipush 43, 2) := by decide +kernel
theorem dX11_lawSum_40 : decode cX11_lawSum 40 = .ok (.if_icmp .ne 9, 3) := by decide +kernel
theorem dX11_lawSum_43 : decode cX11_lawSum 43 = .ok (.iload_n 1, 1) := by decide +kernel
theorem dX11_lawSum_44 : decode cX11_lawSum 44 = .ok (.iload_n 3, 1) := by decide +kernel
theorem dX11_lawSum_45 : decode cX11_lawSum 45 = .ok (.iadd, 1) := by decide +kernel
theorem dX11_lawSum_46 : decode cX11_lawSum 46 = .ok (.goto 6, 3) := by decide +kernel
theorem dX11_lawSum_49 : decode cX11_lawSum 49 = .ok (.iload_n 1, 1) := by decide +kernel
theorem dX11_lawSum_50 : decode cX11_lawSum 50 = .ok (.iload_n 3, 1) := by decide +kernel
theorem dX11_lawSum_51 : decode cX11_lawSum 51 = .ok (.isub, 1) := by decide +kernel
theorem dX11_lawSum_52 : decode cX11_lawSum 52 = .ok (.istore_n 1, 1) := by decide +kernel
theorem dX11_lawSum_53 : decode cX11_lawSum 53 = .ok (.aload_n 0, 1) := by decide +kernel
theorem dX11_lawSum_54 : decode cX11_lawSum 54 = .ok (.invokevirtual 94, 3) := by decide +kernel
theorem dX11_lawSum_57 : decode cX11_lawSum 57 = .ok (.istore_n 2, 1) := by decide +kernel
theorem dX11_lawSum_58 : decode cX11_lawSum 58 = .ok (.goto (-48), 3) := by decide +kernel
theorem dX11_lawSum_61 : decode cX11_lawSum 61 = .ok (.iload_n 1, 1) := by decide +kernel
theorem dX11_lawSum_62 : decode cX11_lawSum 62 = .ok (.ireturn, 1) := by decide +kernel
def jX11_lawSum_52_10 (Y : XS) (n : Nat) (rc : PS → Nat → Option (Int32 × PS)) (S : PS) (v0 : Nat) (t0 : Int32) : Option ((Int32 × Int32 × PS) ⊕ (Int32 × PS)) :=
  kc (fX11_lawByte Y n S v0) (fun q54 => some (.inl (t0, q54.1, q54.2)))
def jX11_lawSum_22_10 (Y : XS) (n : Nat) (rc : PS → Nat → Option (Int32 × PS)) (S : PS) (v0 : Nat) (v1 : Int32) (v2 : Int32) : Option ((Int32 × Int32 × PS) ⊕ (Int32 × PS)) :=
  kgi S v0 8 (fun x24 => kpi S v0 8 (x24 + (1 : Int32)) (fun S29 => kc (fX11_lawTerm Y n rc S29 v0) (fun q33 => (if v2 = (43 : Int32) then jX11_lawSum_52_10 Y n rc q33.2 v0 (v1 + q33.1) else jX11_lawSum_52_10 Y n rc q33.2 v0 (v1 - q33.1)))))
def bX11_lawSum_10 (Y : XS) (n : Nat) (rc : PS → Nat → Option (Int32 × PS)) (v0 : Nat) (s10 : (Int32 × Int32 × PS)) : Option ((Int32 × Int32 × PS) ⊕ (Int32 × PS)) :=
  (if s10.2.1 = (43 : Int32) then jX11_lawSum_22_10 Y n rc s10.2.2 v0 s10.1 s10.2.1 else (if s10.2.1 = (45 : Int32) then jX11_lawSum_22_10 Y n rc s10.2.2 v0 s10.1 s10.2.1 else some (.inr (s10.1, s10.2.2))))
def fX11_lawSum (Y : XS) (n : Nat) (rc : PS → Nat → Option (Int32 × PS)) (S : PS) (a0 : Nat) : Option (Int32 × PS) :=
  kc (fX11_lawTerm Y n rc S a0) (fun q1 => kc (fX11_lawByte Y n q1.2 a0) (fun q6 => kc (iter (bX11_lawSum_10 Y n rc a0) n (q1.1, q6.1, q6.2)) (fun r10 => some r10)))
theorem wjX11_lawSum_52_10 {C : CT} {X : XT} {dr : Nat} (hC : CK C RX11 cX11_lawSum 4 (some .int) (dr + 5)) (n : Nat) (rc : PS → Nat → Option (Int32 × PS)) (hrc : ∀ (S : PS) (a : Nat) (o : Int32 × PS), Ty X.2.1 a 11 → rc S a = some o → Mt (cL C) (cG C) yX11_lawSum cX11_lawSum 4 (some .int) dr X.1 X.2.1 [.ref (X.1 a)] S (some (.int o.1)) o.2) (S : PS) (v0 : Nat) (t0 : Int32)  (hTv0 : Ty X.2.1 v0 11) {o : (Int32 × Int32 × PS) ⊕ (Int32 × PS)} (hf : jX11_lawSum_52_10 X.2.1 n rc S v0 t0 = some o) (hN : ∀ s', o = .inl s' → UW C X s'.2.2 10 [(0, .ref (X.1 v0)), (1, .int s'.1), (2, .int s'.2.1)] []) (hR : ∀ q', o = .inr q' → Rt C X cX11_lawSum (some .int) (some (.int q'.1)) q'.2) : UW C X S 52 [(0, .ref (X.1 v0))] [.int t0] := by
  unfold jX11_lawSum_52_10 at hf
  refine u_istore_n (lv' := [(1, .int t0), (0, .ref (X.1 v0))]) hC dX11_lawSum_52 rfl (by decide) rfl ?_
  refine u_aload_n hC dX11_lawSum_53 1 rfl rfl ?_
  obtain ⟨q54, hq54, hf⟩ := kc_some hf
  refine u_callV hC (ctX11_lawByte (cL C) hC.tr (cG C) X.1 X.2.1 n S v0 hTv0 hq54) lk_X11_94 rfl hTv0 (by decide) rfl (by omega) (by decide) rfl rfl (Nat.le_of_ble_eq_true rfl) dX11_lawSum_54 ?_
  refine u_istore_n (lv' := [(2, .int q54.1), (1, .int t0), (0, .ref (X.1 v0))]) hC dX11_lawSum_57 rfl (by decide) rfl ?_
  refine u_goto (tgt := 10) hC dX11_lawSum_58 (by decide) ?_
  refine u_sub (lv' := [(0, .ref (X.1 v0)), (1, .int t0), (2, .int q54.1)]) [2, 1, 0] rfl ?_
  exact hN _ (Option.some.inj hf).symm
theorem wjX11_lawSum_22_10 {C : CT} {X : XT} {dr : Nat} (hC : CK C RX11 cX11_lawSum 4 (some .int) (dr + 5)) (n : Nat) (rc : PS → Nat → Option (Int32 × PS)) (hrc : ∀ (S : PS) (a : Nat) (o : Int32 × PS), Ty X.2.1 a 11 → rc S a = some o → Mt (cL C) (cG C) yX11_lawSum cX11_lawSum 4 (some .int) dr X.1 X.2.1 [.ref (X.1 a)] S (some (.int o.1)) o.2) (S : PS) (v0 : Nat) (v1 : Int32) (v2 : Int32)  (hTv0 : Ty X.2.1 v0 11) {o : (Int32 × Int32 × PS) ⊕ (Int32 × PS)} (hf : jX11_lawSum_22_10 X.2.1 n rc S v0 v1 v2 = some o) (hN : ∀ s', o = .inl s' → UW C X s'.2.2 10 [(0, .ref (X.1 v0)), (1, .int s'.1), (2, .int s'.2.1)] []) (hR : ∀ q', o = .inr q' → Rt C X cX11_lawSum (some .int) (some (.int q'.1)) q'.2) : UW C X S 22 [(0, .ref (X.1 v0)), (1, .int v1), (2, .int v2)] [] := by
  unfold jX11_lawSum_22_10 at hf
  refine u_aload_n hC dX11_lawSum_22 0 rfl rfl ?_
  refine u_dup hC dX11_lawSum_23 rfl ?_
  refine u_gi hC lf_X11_91 rfl hTv0 dX11_lawSum_24 hf (fun x24 hf => ?_)
  refine u_iconst (v := (1 : Int32)) hC dX11_lawSum_27 (by decide) ?_
  refine u_iadd hC dX11_lawSum_28 ?_
  refine u_pi hC lf_X11_91 rfl rfl rfl hTv0 dX11_lawSum_29 hf (fun S29 hf => ?_)
  refine u_aload_n hC dX11_lawSum_32 0 rfl rfl ?_
  obtain ⟨q33, hq33, hf⟩ := kc_some hf
  refine u_callV hC (ctX11_lawTerm (cL C) hC.tr (cG C) X.1 X.2.1 n rc dr hrc S29 v0 hTv0 hq33) lk_X11_131 rfl hTv0 (by decide) rfl (by omega) (by decide) rfl rfl (Nat.le_of_ble_eq_true rfl) dX11_lawSum_33 ?_
  refine u_istore_n (lv' := [(3, .int q33.1), (0, .ref (X.1 v0)), (1, .int v1), (2, .int v2)]) hC dX11_lawSum_36 rfl (by decide) rfl ?_
  refine u_iload_n hC dX11_lawSum_37 3 rfl rfl ?_
  refine u_bipush (v := (43 : Int32)) hC dX11_lawSum_38 (by decide) ?_
  refine u_icmp_ne (tgt := 49) hC dX11_lawSum_40 (by decide) hf (fun h40 hf => ?_) (fun h40 hf => ?_)
  · refine u_iload_n hC dX11_lawSum_49 2 rfl rfl ?_
    refine u_iload_n hC dX11_lawSum_50 0 rfl rfl ?_
    refine u_isub hC dX11_lawSum_51 ?_
    refine u_sub (lv' := [(0, .ref (X.1 v0))]) [1] rfl ?_
    exact wjX11_lawSum_52_10 hC n rc hrc q33.2 v0 (v1 - q33.1)  hTv0 hf hN hR
  · refine u_iload_n hC dX11_lawSum_43 2 rfl rfl ?_
    refine u_iload_n hC dX11_lawSum_44 0 rfl rfl ?_
    refine u_iadd hC dX11_lawSum_45 ?_
    refine u_goto (tgt := 52) hC dX11_lawSum_46 (by decide) ?_
    refine u_sub (lv' := [(0, .ref (X.1 v0))]) [1] rfl ?_
    exact wjX11_lawSum_52_10 hC n rc hrc q33.2 v0 (v1 + q33.1)  hTv0 hf hN hR
theorem wbX11_lawSum_10 {C : CT} {X : XT} {dr : Nat} (hC : CK C RX11 cX11_lawSum 4 (some .int) (dr + 5)) (n : Nat) (rc : PS → Nat → Option (Int32 × PS)) (hrc : ∀ (S : PS) (a : Nat) (o : Int32 × PS), Ty X.2.1 a 11 → rc S a = some o → Mt (cL C) (cG C) yX11_lawSum cX11_lawSum 4 (some .int) dr X.1 X.2.1 [.ref (X.1 a)] S (some (.int o.1)) o.2) (v0 : Nat) (hTv0 : Ty X.2.1 v0 11) (s10 : (Int32 × Int32 × PS)) {o : (Int32 × Int32 × PS) ⊕ (Int32 × PS)} (hf : bX11_lawSum_10 X.2.1 n rc v0 s10 = some o) (hN : ∀ s', o = .inl s' → UW C X s'.2.2 10 [(0, .ref (X.1 v0)), (1, .int s'.1), (2, .int s'.2.1)] []) (hR : ∀ q', o = .inr q' → Rt C X cX11_lawSum (some .int) (some (.int q'.1)) q'.2) : UW C X s10.2.2 10 [(0, .ref (X.1 v0)), (1, .int s10.1), (2, .int s10.2.1)] [] := by
  unfold bX11_lawSum_10 at hf
  refine u_iload_n hC dX11_lawSum_10 2 rfl rfl ?_
  refine u_bipush (v := (43 : Int32)) hC dX11_lawSum_11 (by decide) ?_
  refine u_icmp_eq (tgt := 22) hC dX11_lawSum_13 (by decide) hf (fun h13 hf => ?_) (fun h13 hf => ?_)
  · exact wjX11_lawSum_22_10 hC n rc hrc s10.2.2 v0 s10.1 s10.2.1  hTv0 hf hN hR
  · refine u_iload_n hC dX11_lawSum_16 2 rfl rfl ?_
    refine u_bipush (v := (45 : Int32)) hC dX11_lawSum_17 (by decide) ?_
    refine u_icmp_ne (tgt := 61) hC dX11_lawSum_19 (by decide) hf (fun h19 hf => ?_) (fun h19 hf => ?_)
    · refine u_iload_n hC dX11_lawSum_61 1 rfl rfl ?_
      exact hR _ (Option.some.inj hf).symm _ _ dX11_lawSum_62 trivial
    · exact wjX11_lawSum_22_10 hC n rc hrc s10.2.2 v0 s10.1 s10.2.1  hTv0 hf hN hR
theorem wX11_lawSum {C : CT} {X : XT} {dr : Nat} (hC : CK C RX11 cX11_lawSum 4 (some .int) (dr + 5)) (n : Nat) (rc : PS → Nat → Option (Int32 × PS)) (hrc : ∀ (S : PS) (a : Nat) (o : Int32 × PS), Ty X.2.1 a 11 → rc S a = some o → Mt (cL C) (cG C) yX11_lawSum cX11_lawSum 4 (some .int) dr X.1 X.2.1 [.ref (X.1 a)] S (some (.int o.1)) o.2) (S : PS) (a0 : Nat) (hTa0 : Ty X.2.1 a0 11) {o : Int32 × PS} (hf : fX11_lawSum X.2.1 n rc S a0 = some o) (hR : Rt C X cX11_lawSum (some .int) (some (.int o.1)) o.2) : UW C X S 0 [(0, .ref (X.1 a0))] [] := by
  unfold fX11_lawSum at hf
  refine u_aload_n hC dX11_lawSum_0 0 rfl rfl ?_
  obtain ⟨q1, hq1, hf⟩ := kc_some hf
  refine u_callV hC (ctX11_lawTerm (cL C) hC.tr (cG C) X.1 X.2.1 n rc dr hrc S a0 hTa0 hq1) lk_X11_131 rfl hTa0 (by decide) rfl (by omega) (by decide) rfl rfl (Nat.le_of_ble_eq_true rfl) dX11_lawSum_1 ?_
  refine u_istore_n (lv' := [(1, .int q1.1), (0, .ref (X.1 a0))]) hC dX11_lawSum_4 rfl (by decide) rfl ?_
  refine u_aload_n hC dX11_lawSum_5 1 rfl rfl ?_
  obtain ⟨q6, hq6, hf⟩ := kc_some hf
  refine u_callV hC (ctX11_lawByte (cL C) hC.tr (cG C) X.1 X.2.1 n q1.2 a0 hTa0 hq6) lk_X11_94 rfl hTa0 (by decide) rfl (by omega) (by decide) rfl rfl (Nat.le_of_ble_eq_true rfl) dX11_lawSum_6 ?_
  refine u_istore_n (lv' := [(2, .int q6.1), (1, .int q1.1), (0, .ref (X.1 a0))]) hC dX11_lawSum_9 rfl (by decide) rfl ?_
  obtain ⟨r10, hr10, hf⟩ := kc_some hf
  have hk10 : Rt C X cX11_lawSum (some .int) (some (.int r10.1)) r10.2 := by
    cases hf
    exact hR
  refine u_sub (lv' := [(0, .ref (X.1 a0)), (1, .int q1.1), (2, .int q6.1)]) [2, 1, 0] rfl ?_
  refine iter_ind (P := fun s10 => UW C X s10.2.2 10 [(0, .ref (X.1 a0)), (1, .int s10.1), (2, .int s10.2.1)] []) (fun s10 o' hb hin hout => ?_) n (q1.1, q6.1, q6.2) hr10
  exact wbX11_lawSum_10 hC n rc hrc a0 hTa0 s10 hb hin (fun p e => by rw [hout p e]; exact hk10)
theorem ctX11_lawSum (l : Launch) (hl : l.stackTraces = false) (G : GT) (ρ : Nat → Nat) (Y : XS) (n : Nat) (rc : PS → Nat → Option (Int32 × PS)) (dr : Nat) (hrc : ∀ (S : PS) (a : Nat) (o : Int32 × PS), Ty Y a 11 → rc S a = some o → Mt l G yX11_lawSum cX11_lawSum 4 (some .int) dr ρ Y [.ref (ρ a)] S (some (.int o.1)) o.2) (S : PS) (a0 : Nat) (hTa0 : Ty Y a0 11) {o : Int32 × PS} (hf : fX11_lawSum Y n rc S a0 = some o) : Mt l G yX11_lawSum cX11_lawSum 4 (some .int) (dr + 5) ρ Y [.ref (ρ a0)] S (some (.int o.1)) o.2 :=
  Mt_of hl (by decide) (Nat.le_of_ble_eq_true rfl) (fun C h1 h2 hC hR => by
    subst h1; subst h2
    exact wX11_lawSum (X := (ρ, Y, 0, 0)) hC n rc hrc S a0 hTa0 hf hR)
def fX11_lawSumR (Y : XS) (n : Nat) : Nat → PS → Nat → Option (Int32 × PS)
  | 0, _, _ => none
  | m + 1, S, a => fX11_lawSum Y n (fX11_lawSumR Y n m) S a
theorem ctX11_lawSumR (l : Launch) (hl : l.stackTraces = false) (G : GT) (ρ : Nat → Nat) (Y : XS) (n : Nat) : ∀ (m : Nat) (S : PS) (a0 : Nat) (hTa0 : Ty Y a0 11) {o : Int32 × PS} (hf : fX11_lawSumR Y n m S a0 = some o), Mt l G yX11_lawSum cX11_lawSum 4 (some .int) (5 * m) ρ Y [.ref (ρ a0)] S (some (.int o.1)) o.2
  | 0, _, _, _, _, hf => by cases hf
  | m + 1, S, a0, hTa0, o, hf => by
    have h := ctX11_lawSum l hl G ρ Y n (fX11_lawSumR Y n m) (5 * m) (fun S a o h1 h2 => ctX11_lawSumR l hl G ρ Y n m S a h1 h2) S a0 hTa0 hf
    rw [Nat.mul_succ]
    exact h
-- X11_worthOf
theorem dX11_worthOf_0 : decode cX11_worthOf 0 = .ok (.aload_n 0, 1) := by decide +kernel
theorem dX11_worthOf_1 : decode cX11_worthOf 1 = .ok (.iload_n 1, 1) := by decide +kernel
theorem dX11_worthOf_2 : decode cX11_worthOf 2 = .ok (.iload_n 2, 1) := by decide +kernel
theorem dX11_worthOf_3 : decode cX11_worthOf 3 = .ok (.invokevirtual 88, 3) := by decide +kernel
theorem dX11_worthOf_6 : decode cX11_worthOf 6 = .ok (.ifCond .ne 5, 3) := by decide +kernel
theorem dX11_worthOf_9 : decode cX11_worthOf 9 = .ok (.iconst 0, 1) := by decide +kernel
theorem dX11_worthOf_10 : decode cX11_worthOf 10 = .ok (.ireturn, 1) := by decide +kernel
theorem dX11_worthOf_11 : decode cX11_worthOf 11 = .ok (.aload_n 0, 1) := by decide +kernel
theorem dX11_worthOf_12 : decode cX11_worthOf 12 = .ok (.getfield 9, 3) := by decide +kernel
theorem dX11_worthOf_15 : decode cX11_worthOf 15 = .ok (.sipush 375, 3) := by decide +kernel
theorem dX11_worthOf_18 : decode cX11_worthOf 18 = .ok (.iaload, 1) := by decide +kernel
theorem dX11_worthOf_19 : decode cX11_worthOf 19 = .ok (.ifCond .ne 5, 3) := by decide +kernel
theorem dX11_worthOf_22 : decode cX11_worthOf 22 = .ok (.iconst 1, 1) := by decide +kernel
theorem dX11_worthOf_23 : decode cX11_worthOf 23 = .ok (.ireturn, 1) := by decide +kernel
theorem dX11_worthOf_24 : decode cX11_worthOf 24 = .ok (.aload_n 0, 1) := by decide +kernel
theorem dX11_worthOf_25 : decode cX11_worthOf 25 = .ok (.iconst 0, 1) := by decide +kernel
theorem dX11_worthOf_26 : decode cX11_worthOf 26 = .ok (.putfield 91, 3) := by decide +kernel
theorem dX11_worthOf_29 : decode cX11_worthOf 29 = .ok (.aload_n 0, 1) := by decide +kernel
theorem dX11_worthOf_30 : decode cX11_worthOf 30 = .ok (.aload_n 0, 1) := by decide +kernel
theorem dX11_worthOf_31 : decode cX11_worthOf 31 = .ok (.iload_n 1, 1) := by decide +kernel
theorem dX11_worthOf_32 : decode cX11_worthOf 32 = .ok (.iload_n 2, 1) := by decide +kernel
theorem dX11_worthOf_33 : decode cX11_worthOf 33 = .ok (.invokevirtual 88, 3) := by decide +kernel
theorem dX11_worthOf_36 : decode cX11_worthOf 36 = .ok (.putfield 119, 3) := by decide +kernel
theorem dX11_worthOf_39 : decode cX11_worthOf 39 = .ok (.aload_n 0, 1) := by decide +kernel
theorem dX11_worthOf_40 : decode cX11_worthOf 40 = .ok (.aload_n 0, 1) := by decide +kernel
theorem dX11_worthOf_41 : decode cX11_worthOf 41 = .ok (.iload_n 2, 1) := by decide +kernel
theorem dX11_worthOf_42 : decode cX11_worthOf 42 = .ok (.invokevirtual 134, 3) := by decide +kernel
theorem dX11_worthOf_45 : decode cX11_worthOf 45 = .ok (.putfield 122, 3) := by decide +kernel
theorem dX11_worthOf_48 : decode cX11_worthOf 48 = .ok (.aload_n 0, 1) := by decide +kernel
theorem dX11_worthOf_49 : decode cX11_worthOf 49 = .ok (.iload_n 3, 1) := by decide +kernel
theorem dX11_worthOf_50 : decode cX11_worthOf 50 = .ok (.putfield 125, 3) := by decide +kernel
theorem dX11_worthOf_53 : decode cX11_worthOf 53 = .ok (.iconst 0, 1) := by decide +kernel
theorem dX11_worthOf_54 : decode cX11_worthOf 54 = .ok (.sipush 9999, 3) := by decide +kernel
theorem dX11_worthOf_57 : decode cX11_worthOf 57 = .ok (.aload_n 0, 1) := by decide +kernel
theorem dX11_worthOf_58 : decode cX11_worthOf 58 = .ok (.invokevirtual 97, 3) := by decide +kernel
theorem dX11_worthOf_61 : decode cX11_worthOf 61 = .ok (.invokestatic 111, 3) := by decide +kernel
theorem dX11_worthOf_64 : decode cX11_worthOf 64 = .ok (.invokestatic 137, 3) := by decide +kernel
theorem dX11_worthOf_67 : decode cX11_worthOf 67 = .ok (.ireturn, 1) := by decide +kernel
def fX11_worthOf (Y : XS) (n : Nat) (S : PS) (a0 : Nat) (x1_ : Int32) (x2_ : Int32) (x3_ : Int32) : Option (Int32 × PS) :=
  kc (fX11_scoreOf Y n S a0 x1_ x2_) (fun q3 => (if q3 = 0 then some ((0 : Int32), S) else kgr S a0 0 (fun b12 => kai Y S b12 (375 : Int32) (fun x18 => (if x18 = 0 then some ((1 : Int32), S) else kpi S a0 8 (0 : Int32) (fun S26 => kc (fX11_scoreOf Y n S26 a0 x1_ x2_) (fun q33 => kpi S26 a0 9 q33 (fun S36 => kc (fX11_costOf Y n S36 a0 x2_) (fun q42 => kpi S36 a0 10 q42 (fun S45 => kpi S45 a0 11 x3_ (fun S50 => kc (fX11_lawSumR Y n 10 S50 a0) (fun q58 => some (imax (0 : Int32) (imin (9999 : Int32) q58.1), q58.2)))))))))))))
theorem wX11_worthOf {C : CT} {X : XT} (hC : CK C RX11 cX11_worthOf 4 (some .int) 51) (n : Nat) (S : PS) (a0 : Nat) (x1_ : Int32) (x2_ : Int32) (x3_ : Int32) (hTa0 : Ty X.2.1 a0 11) {o : Int32 × PS} (hf : fX11_worthOf X.2.1 n S a0 x1_ x2_ x3_ = some o) (hR : Rt C X cX11_worthOf (some .int) (some (.int o.1)) o.2) : UW C X S 0 [(0, .ref (X.1 a0)), (1, .int x1_), (2, .int x2_), (3, .int x3_)] [] := by
  unfold fX11_worthOf at hf
  refine u_aload_n hC dX11_worthOf_0 0 rfl rfl ?_
  refine u_iload_n hC dX11_worthOf_1 1 rfl rfl ?_
  refine u_iload_n hC dX11_worthOf_2 2 rfl rfl ?_
  obtain ⟨q3, hq3, hf⟩ := kc_some hf
  refine u_callV hC (ctX11_scoreOf (cL C) hC.tr (cG C) X.1 X.2.1 n S a0 x1_ x2_ hTa0 hq3) lk_X11_88 rfl hTa0 (by decide) rfl (by decide) (by decide) rfl rfl (Nat.le_of_ble_eq_true rfl) dX11_worthOf_3 ?_
  refine u_if_ne (tgt := 11) hC dX11_worthOf_6 (by decide) hf (fun h6 hf => ?_) (fun h6 hf => ?_)
  · refine u_aload_n hC dX11_worthOf_11 0 rfl rfl ?_
    refine u_gr hC lf_X11_9 rfl hTa0 dX11_worthOf_12 hf (fun b12 hTb12 hf => ?_)
    refine u_sipush (v := (375 : Int32)) hC dX11_worthOf_15 (by decide) ?_
    refine u_ai hC hTb12 dX11_worthOf_18 hf (fun x18 hf => ?_)
    refine u_if_ne (tgt := 24) hC dX11_worthOf_19 (by decide) hf (fun h19 hf => ?_) (fun h19 hf => ?_)
    · refine u_aload_n hC dX11_worthOf_24 0 rfl rfl ?_
      refine u_iconst (v := (0 : Int32)) hC dX11_worthOf_25 (by decide) ?_
      refine u_pi hC lf_X11_91 rfl rfl rfl hTa0 dX11_worthOf_26 hf (fun S26 hf => ?_)
      refine u_aload_n hC dX11_worthOf_29 0 rfl rfl ?_
      refine u_aload_n hC dX11_worthOf_30 0 rfl rfl ?_
      refine u_iload_n hC dX11_worthOf_31 1 rfl rfl ?_
      refine u_iload_n hC dX11_worthOf_32 2 rfl rfl ?_
      obtain ⟨q33, hq33, hf⟩ := kc_some hf
      refine u_callV hC (ctX11_scoreOf (cL C) hC.tr (cG C) X.1 X.2.1 n S26 a0 x1_ x2_ hTa0 hq33) lk_X11_88 rfl hTa0 (by decide) rfl (by decide) (by decide) rfl rfl (Nat.le_of_ble_eq_true rfl) dX11_worthOf_33 ?_
      refine u_pi hC lf_X11_119 rfl rfl rfl hTa0 dX11_worthOf_36 hf (fun S36 hf => ?_)
      refine u_aload_n hC dX11_worthOf_39 0 rfl rfl ?_
      refine u_aload_n hC dX11_worthOf_40 0 rfl rfl ?_
      refine u_iload_n hC dX11_worthOf_41 2 rfl rfl ?_
      obtain ⟨q42, hq42, hf⟩ := kc_some hf
      refine u_callV hC (ctX11_costOf (cL C) hC.tr (cG C) X.1 X.2.1 n S36 a0 x2_ hTa0 hq42) lk_X11_134 rfl hTa0 (by decide) rfl (by decide) (by decide) rfl rfl (Nat.le_of_ble_eq_true rfl) dX11_worthOf_42 ?_
      refine u_pi hC lf_X11_122 rfl rfl rfl hTa0 dX11_worthOf_45 hf (fun S45 hf => ?_)
      refine u_aload_n hC dX11_worthOf_48 0 rfl rfl ?_
      refine u_iload_n hC dX11_worthOf_49 3 rfl rfl ?_
      refine u_pi hC lf_X11_125 rfl rfl rfl hTa0 dX11_worthOf_50 hf (fun S50 hf => ?_)
      refine u_iconst (v := (0 : Int32)) hC dX11_worthOf_53 (by decide) ?_
      refine u_sipush (v := (9999 : Int32)) hC dX11_worthOf_54 (by decide) ?_
      refine u_aload_n hC dX11_worthOf_57 0 rfl rfl ?_
      obtain ⟨q58, hq58, hf⟩ := kc_some hf
      refine u_callV hC (ctX11_lawSumR (cL C) hC.tr (cG C) X.1 X.2.1 n 10 S50 a0 hTa0 hq58) lk_X11_97 rfl hTa0 (by decide) rfl (by decide) (by decide) rfl rfl (Nat.le_of_ble_eq_true rfl) dX11_worthOf_58 ?_
      refine u_mmin hC (tb_6 226 rfl rfl) (by decide) (Nat.le_of_ble_eq_true rfl) dX11_worthOf_61 ?_
      refine u_mmax hC (tb_6 234 rfl rfl) (by decide) (Nat.le_of_ble_eq_true rfl) dX11_worthOf_64 ?_
      cases hf
      exact hR _ _ dX11_worthOf_67 trivial
    · refine u_iconst (v := (1 : Int32)) hC dX11_worthOf_22 (by decide) ?_
      cases hf
      exact hR _ _ dX11_worthOf_23 trivial
  · refine u_iconst (v := (0 : Int32)) hC dX11_worthOf_9 (by decide) ?_
    cases hf
    exact hR _ _ dX11_worthOf_10 trivial
theorem ctX11_worthOf (l : Launch) (hl : l.stackTraces = false) (G : GT) (ρ : Nat → Nat) (Y : XS) (n : Nat) (S : PS) (a0 : Nat) (x1_ : Int32) (x2_ : Int32) (x3_ : Int32) (hTa0 : Ty Y a0 11) {o : Int32 × PS} (hf : fX11_worthOf Y n S a0 x1_ x2_ x3_ = some o) : Mt l G yX11_worthOf cX11_worthOf 4 (some .int) 51 ρ Y [.ref (ρ a0), .int x1_, .int x2_, .int x3_] S (some (.int o.1)) o.2 :=
  Mt_of hl (by decide) (Nat.le_of_ble_eq_true rfl) (fun C _ _ hC hR => wX11_worthOf (X := (ρ, Y, 0, 0)) hC n S a0 x1_ x2_ x3_ hTa0 hf hR)
-- X11_layWorths
theorem dX11_layWorths_0 : decode cX11_layWorths 0 = .ok (.iconst 0, 1) := by decide +kernel
theorem dX11_layWorths_1 : decode cX11_layWorths 1 = .ok (.istore_n 1, 1) := by decide +kernel
theorem dX11_layWorths_2 : decode cX11_layWorths 2 = .ok (.iload_n 1, 1) := by decide +kernel
theorem dX11_layWorths_3 : decode cX11_layWorths 3 = .ok (.aload_n 0, 1) := by decide +kernel
theorem dX11_layWorths_4 : decode cX11_layWorths 4 = .ok (.invokevirtual 77, 3) := by decide +kernel
theorem dX11_layWorths_7 : decode cX11_layWorths 7 = .ok (.if_icmp .ge 86, 3) := by decide +kernel
theorem dX11_layWorths_10 : decode cX11_layWorths 10 = .ok (.aload_n 0, 1) := by decide +kernel
theorem dX11_layWorths_11 : decode cX11_layWorths 11 = .ok (.getfield 28, 3) := by decide +kernel
theorem dX11_layWorths_14 : decode cX11_layWorths 14 = .ok (.iload_n 1, 1) := by decide +kernel
theorem dX11_layWorths_15 : decode cX11_layWorths 15 = .ok (.aload_n 0, 1) := by decide +kernel
theorem dX11_layWorths_16 : decode cX11_layWorths 16 = .ok (.iload_n 1, 1) := by decide +kernel
theorem dX11_layWorths_17 : decode cX11_layWorths 17 = .ok (.invokevirtual 140, 3) := by decide +kernel
theorem dX11_layWorths_20 : decode cX11_layWorths 20 = .ok (.iastore, 1) := by decide +kernel
theorem dX11_layWorths_21 : decode cX11_layWorths 21 = .ok (.aload_n 0, 1) := by decide +kernel
theorem dX11_layWorths_22 : decode cX11_layWorths 22 = .ok (.getfield 31, 3) := by decide +kernel
theorem dX11_layWorths_25 : decode cX11_layWorths 25 = .ok (.iload_n 1, 1) := by decide +kernel
theorem dX11_layWorths_26 : decode cX11_layWorths 26 = .ok (.iconst 0, 1) := by decide +kernel
theorem dX11_layWorths_27 : decode cX11_layWorths 27 = .ok (.iastore, 1) := by decide +kernel
theorem dX11_layWorths_28 : decode cX11_layWorths 28 = .ok (.iconst 0, 1) := by decide +kernel
theorem dX11_layWorths_29 : decode cX11_layWorths 29 = .ok (.istore_n 2, 1) := by decide +kernel
theorem dX11_layWorths_30 : decode cX11_layWorths 30 = .ok (.iload_n 2, 1) := by decide +kernel
theorem dX11_layWorths_31 : decode cX11_layWorths 31 = .ok (.aload_n 0, 1) := by decide +kernel
theorem dX11_layWorths_32 : decode cX11_layWorths 32 = .ok (.invokevirtual 85, 3) := by decide +kernel
theorem dX11_layWorths_35 : decode cX11_layWorths 35 = .ok (.if_icmp .ge 52, 3) := by decide +kernel
theorem dX11_layWorths_38 : decode cX11_layWorths 38 = .ok (.aload_n 0, 1) := by decide +kernel
theorem dX11_layWorths_39 : decode cX11_layWorths 39 = .ok (.getfield 25, 3) := by decide +kernel
theorem dX11_layWorths_42 : decode cX11_layWorths 42 = .ok (.bipush 12, 2) := by decide +kernel
theorem dX11_layWorths_44 : decode cX11_layWorths 44 = .ok (.iload_n 2, 1) := by decide +kernel
theorem dX11_layWorths_45 : decode cX11_layWorths 45 = .ok (.imul, 1) := by decide +kernel
theorem dX11_layWorths_46 : decode cX11_layWorths 46 = .ok (.iload_n 1, 1) := by decide +kernel
theorem dX11_layWorths_47 : decode cX11_layWorths 47 = .ok (.iadd, 1) := by decide +kernel
theorem dX11_layWorths_48 : decode cX11_layWorths 48 = .ok (.aload_n 0, 1) := by decide +kernel
theorem dX11_layWorths_49 : decode cX11_layWorths 49 = .ok (.iload_n 2, 1) := by decide +kernel
theorem dX11_layWorths_50 : decode cX11_layWorths 50 = .ok (.iload_n 1, 1) := by decide +kernel
theorem dX11_layWorths_51 : decode cX11_layWorths 51 = .ok (.aload_n 0, 1) := by decide +kernel
theorem dX11_layWorths_52 : decode cX11_layWorths 52 = .ok (.getfield 28, 3) := by decide +kernel
theorem dX11_layWorths_55 : decode cX11_layWorths 55 = .ok (.iload_n 1, 1) := by decide +kernel
theorem dX11_layWorths_56 : decode cX11_layWorths 56 = .ok (.iaload, 1) := by decide +kernel
theorem dX11_layWorths_57 : decode cX11_layWorths 57 = .ok (.invokevirtual 143, 3) := by decide +kernel
theorem dX11_layWorths_60 : decode cX11_layWorths 60 = .ok (.iastore, 1) := by decide +kernel
theorem dX11_layWorths_61 : decode cX11_layWorths 61 = .ok (.aload_n 0, 1) := by decide +kernel
theorem dX11_layWorths_62 : decode cX11_layWorths 62 = .ok (.getfield 31, 3) := by decide +kernel
theorem dX11_layWorths_65 : decode cX11_layWorths 65 = .ok (.iload_n 1, 1) := by decide +kernel
theorem dX11_layWorths_66 : decode cX11_layWorths 66 = .ok (.dup2, 1) := by decide +kernel
theorem dX11_layWorths_67 : decode cX11_layWorths 67 = .ok (.iaload, 1) := by decide +kernel
theorem dX11_layWorths_68 : decode cX11_layWorths 68 = .ok (.aload_n 0, 1) := by decide +kernel
theorem dX11_layWorths_69 : decode cX11_layWorths 69 = .ok (.getfield 25, 3) := by decide +kernel
theorem dX11_layWorths_72 : decode cX11_layWorths 72 = .ok (.bipush 12, 2) := by decide +kernel
theorem dX11_layWorths_74 : decode cX11_layWorths 74 = .ok (.iload_n 2, 1) := by decide +kernel
theorem dX11_layWorths_75 : decode cX11_layWorths 75 = .ok (.imul, 1) := by decide +kernel
theorem dX11_layWorths_76 : decode cX11_layWorths 76 = .ok (.iload_n 1, 1) := by decide +kernel
theorem dX11_layWorths_77 : decode cX11_layWorths 77 = .ok (.iadd, 1) := by decide +kernel
theorem dX11_layWorths_78 : decode cX11_layWorths 78 = .ok (.iaload, 1) := by decide +kernel
theorem dX11_layWorths_79 : decode cX11_layWorths 79 = .ok (.iadd, 1) := by decide +kernel
theorem dX11_layWorths_80 : decode cX11_layWorths 80 = .ok (.iastore, 1) := by decide +kernel
theorem dX11_layWorths_81 : decode cX11_layWorths 81 = .ok (.iinc 2 1, 3) := by decide +kernel
theorem dX11_layWorths_84 : decode cX11_layWorths 84 = .ok (.goto (-54), 3) := by decide +kernel
theorem dX11_layWorths_87 : decode cX11_layWorths 87 = .ok (.iinc 1 1, 3) := by decide +kernel
theorem dX11_layWorths_90 : decode cX11_layWorths 90 = .ok (.goto (-88), 3) := by decide +kernel
theorem dX11_layWorths_93 : decode cX11_layWorths 93 = .ok (.return_, 1) := by decide +kernel
def bX11_layWorths_30 (Y : XS) (n : Nat) (v0 : Nat) (v1 : Int32) (s30 : (Int32 × PS)) : Option ((Int32 × PS) ⊕ PS) :=
  kc (fX11_people Y n s30.2 v0) (fun q32 => (if q32 ≤ s30.1 then some (.inr s30.2) else kgr s30.2 v0 12 (fun b39 => kgr s30.2 v0 13 (fun b52 => kai Y s30.2 b52 v1 (fun x56 => kc (fX11_worthOf Y n s30.2 v0 s30.1 v1 x56) (fun q57 => kwi Y q57.2 b39 (((12 : Int32) * s30.1) + v1) q57.1 (fun S60 => kgr S60 v0 14 (fun b62 => kai Y S60 b62 v1 (fun x67 => kgr S60 v0 12 (fun b69 => kai Y S60 b69 (((12 : Int32) * s30.1) + v1) (fun x78 => kwi Y S60 b62 v1 (x67 + x78) (fun S80 => some (.inl (s30.1 + (1 : Int32), S80))))))))))))))
def bX11_layWorths_2 (Y : XS) (n : Nat) (v0 : Nat) (s2 : (Int32 × PS)) : Option ((Int32 × PS) ⊕ PS) :=
  kc (fX11_many Y n s2.2 v0) (fun q4 => (if q4 ≤ s2.1 then some (.inr s2.2) else kgr s2.2 v0 13 (fun b11 => kc (fX11_likedOf Y n s2.2 v0 s2.1) (fun q17 => kwi Y s2.2 b11 s2.1 q17 (fun S20 => kgr S20 v0 14 (fun b22 => kwi Y S20 b22 s2.1 (0 : Int32) (fun S27 => kc (iter (bX11_layWorths_30 Y n v0 s2.1) n ((0 : Int32), S27)) (fun r30 => some (.inl (s2.1 + (1 : Int32), r30))))))))))
def fX11_layWorths (Y : XS) (n : Nat) (S : PS) (a0 : Nat) : Option (PS) :=
  kc (iter (bX11_layWorths_2 Y n a0) n ((0 : Int32), S)) (fun r2 => some r2)
theorem wbX11_layWorths_30 {C : CT} {X : XT} (hC : CK C RX11 cX11_layWorths 3 none 52) (n : Nat) (v0 : Nat) (v1 : Int32) (hTv0 : Ty X.2.1 v0 11) (s30 : (Int32 × PS)) {o : (Int32 × PS) ⊕ PS} (hf : bX11_layWorths_30 X.2.1 n v0 v1 s30 = some o) (hN : ∀ s', o = .inl s' → UW C X s'.2 30 [(0, .ref (X.1 v0)), (1, .int v1), (2, .int s'.1)] []) (hO0 : ∀ p', o = .inr p' → UW C X p' 87 [(0, .ref (X.1 v0)), (1, .int v1)] []) : UW C X s30.2 30 [(0, .ref (X.1 v0)), (1, .int v1), (2, .int s30.1)] [] := by
  unfold bX11_layWorths_30 at hf
  refine u_iload_n hC dX11_layWorths_30 2 rfl rfl ?_
  refine u_aload_n hC dX11_layWorths_31 0 rfl rfl ?_
  obtain ⟨q32, hq32, hf⟩ := kc_some hf
  refine u_callV hC (ctX11_people (cL C) hC.tr (cG C) X.1 X.2.1 n s30.2 v0 hTv0 hq32) lk_X11_85 rfl hTv0 (by decide) rfl (by decide) (by decide) rfl rfl (Nat.le_of_ble_eq_true rfl) dX11_layWorths_32 ?_
  refine u_icmp_ge (tgt := 87) hC dX11_layWorths_35 (by decide) hf (fun h35 hf => ?_) (fun h35 hf => ?_)
  · refine u_sub (lv' := [(0, .ref (X.1 v0)), (1, .int v1)]) [0, 1] rfl ?_
    exact hO0 _ (Option.some.inj hf).symm
  · refine u_aload_n hC dX11_layWorths_38 0 rfl rfl ?_
    refine u_gr hC lf_X11_25 rfl hTv0 dX11_layWorths_39 hf (fun b39 hTb39 hf => ?_)
    refine u_bipush (v := (12 : Int32)) hC dX11_layWorths_42 (by decide) ?_
    refine u_iload_n hC dX11_layWorths_44 2 rfl rfl ?_
    refine u_imul hC dX11_layWorths_45 ?_
    refine u_iload_n hC dX11_layWorths_46 1 rfl rfl ?_
    refine u_iadd hC dX11_layWorths_47 ?_
    refine u_aload_n hC dX11_layWorths_48 0 rfl rfl ?_
    refine u_iload_n hC dX11_layWorths_49 2 rfl rfl ?_
    refine u_iload_n hC dX11_layWorths_50 1 rfl rfl ?_
    refine u_aload_n hC dX11_layWorths_51 0 rfl rfl ?_
    refine u_gr hC lf_X11_28 rfl hTv0 dX11_layWorths_52 hf (fun b52 hTb52 hf => ?_)
    refine u_iload_n hC dX11_layWorths_55 1 rfl rfl ?_
    refine u_ai hC hTb52 dX11_layWorths_56 hf (fun x56 hf => ?_)
    obtain ⟨q57, hq57, hf⟩ := kc_some hf
    refine u_callV hC (ctX11_worthOf (cL C) hC.tr (cG C) X.1 X.2.1 n s30.2 v0 s30.1 v1 x56 hTv0 hq57) lk_X11_143 rfl hTv0 (by decide) rfl (by decide) (by decide) rfl rfl (Nat.le_of_ble_eq_true rfl) dX11_layWorths_57 ?_
    refine u_wi hC hTb39 dX11_layWorths_60 hf (fun S60 hf => ?_)
    refine u_aload_n hC dX11_layWorths_61 0 rfl rfl ?_
    refine u_gr hC lf_X11_31 rfl hTv0 dX11_layWorths_62 hf (fun b62 hTb62 hf => ?_)
    refine u_iload_n hC dX11_layWorths_65 1 rfl rfl ?_
    refine u_dup2 hC dX11_layWorths_66 rfl rfl ?_
    refine u_ai hC hTb62 dX11_layWorths_67 hf (fun x67 hf => ?_)
    refine u_aload_n hC dX11_layWorths_68 0 rfl rfl ?_
    refine u_gr hC lf_X11_25 rfl hTv0 dX11_layWorths_69 hf (fun b69 hTb69 hf => ?_)
    refine u_bipush (v := (12 : Int32)) hC dX11_layWorths_72 (by decide) ?_
    refine u_iload_n hC dX11_layWorths_74 2 rfl rfl ?_
    refine u_imul hC dX11_layWorths_75 ?_
    refine u_iload_n hC dX11_layWorths_76 1 rfl rfl ?_
    refine u_iadd hC dX11_layWorths_77 ?_
    refine u_ai hC hTb69 dX11_layWorths_78 hf (fun x78 hf => ?_)
    refine u_iadd hC dX11_layWorths_79 ?_
    refine u_wi hC hTb62 dX11_layWorths_80 hf (fun S80 hf => ?_)
    refine u_iinc (v := s30.1 + (1 : Int32)) (lv' := [(2, .int (s30.1 + (1 : Int32))), (0, .ref (X.1 v0)), (1, .int v1)]) hC dX11_layWorths_81 2 rfl rfl (by decide) rfl ?_
    refine u_goto (tgt := 30) hC dX11_layWorths_84 (by decide) ?_
    refine u_sub (lv' := [(0, .ref (X.1 v0)), (1, .int v1), (2, .int (s30.1 + (1 : Int32)))]) [1, 2, 0] rfl ?_
    exact hN _ (Option.some.inj hf).symm
theorem wbX11_layWorths_2 {C : CT} {X : XT} (hC : CK C RX11 cX11_layWorths 3 none 52) (n : Nat) (v0 : Nat) (hTv0 : Ty X.2.1 v0 11) (s2 : (Int32 × PS)) {o : (Int32 × PS) ⊕ PS} (hf : bX11_layWorths_2 X.2.1 n v0 s2 = some o) (hN : ∀ s', o = .inl s' → UW C X s'.2 2 [(0, .ref (X.1 v0)), (1, .int s'.1)] []) (hO0 : ∀ p', o = .inr p' → UW C X p' 93 [] []) : UW C X s2.2 2 [(0, .ref (X.1 v0)), (1, .int s2.1)] [] := by
  unfold bX11_layWorths_2 at hf
  refine u_iload_n hC dX11_layWorths_2 1 rfl rfl ?_
  refine u_aload_n hC dX11_layWorths_3 0 rfl rfl ?_
  obtain ⟨q4, hq4, hf⟩ := kc_some hf
  refine u_callV hC (ctX11_many (cL C) hC.tr (cG C) X.1 X.2.1 n s2.2 v0 hTv0 hq4) lk_X11_77 rfl hTv0 (by decide) rfl (by decide) (by decide) rfl rfl (Nat.le_of_ble_eq_true rfl) dX11_layWorths_4 ?_
  refine u_icmp_ge (tgt := 93) hC dX11_layWorths_7 (by decide) hf (fun h7 hf => ?_) (fun h7 hf => ?_)
  · refine u_sub (lv' := []) [] rfl ?_
    exact hO0 _ (Option.some.inj hf).symm
  · refine u_aload_n hC dX11_layWorths_10 0 rfl rfl ?_
    refine u_gr hC lf_X11_28 rfl hTv0 dX11_layWorths_11 hf (fun b11 hTb11 hf => ?_)
    refine u_iload_n hC dX11_layWorths_14 1 rfl rfl ?_
    refine u_aload_n hC dX11_layWorths_15 0 rfl rfl ?_
    refine u_iload_n hC dX11_layWorths_16 1 rfl rfl ?_
    obtain ⟨q17, hq17, hf⟩ := kc_some hf
    refine u_callV hC (ctX11_likedOf (cL C) hC.tr (cG C) X.1 X.2.1 n s2.2 v0 s2.1 hTv0 hq17) lk_X11_140 rfl hTv0 (by decide) rfl (by decide) (by decide) rfl rfl (Nat.le_of_ble_eq_true rfl) dX11_layWorths_17 ?_
    refine u_wi hC hTb11 dX11_layWorths_20 hf (fun S20 hf => ?_)
    refine u_aload_n hC dX11_layWorths_21 0 rfl rfl ?_
    refine u_gr hC lf_X11_31 rfl hTv0 dX11_layWorths_22 hf (fun b22 hTb22 hf => ?_)
    refine u_iload_n hC dX11_layWorths_25 1 rfl rfl ?_
    refine u_iconst (v := (0 : Int32)) hC dX11_layWorths_26 (by decide) ?_
    refine u_wi hC hTb22 dX11_layWorths_27 hf (fun S27 hf => ?_)
    refine u_iconst (v := (0 : Int32)) hC dX11_layWorths_28 (by decide) ?_
    refine u_istore_n (lv' := [(2, .int (0 : Int32)), (0, .ref (X.1 v0)), (1, .int s2.1)]) hC dX11_layWorths_29 rfl (by decide) rfl ?_
    obtain ⟨r30, hr30, hf⟩ := kc_some hf
    have hk30 : UW C X r30 87 [(0, .ref (X.1 v0)), (1, .int s2.1)] [] := by
      refine u_iinc (v := s2.1 + (1 : Int32)) (lv' := [(1, .int (s2.1 + (1 : Int32))), (0, .ref (X.1 v0))]) hC dX11_layWorths_87 1 rfl rfl (by decide) rfl ?_
      refine u_goto (tgt := 2) hC dX11_layWorths_90 (by decide) ?_
      refine u_sub (lv' := [(0, .ref (X.1 v0)), (1, .int (s2.1 + (1 : Int32)))]) [1, 0] rfl ?_
      exact hN _ (Option.some.inj hf).symm
    refine u_sub (lv' := [(0, .ref (X.1 v0)), (1, .int s2.1), (2, .int (0 : Int32))]) [1, 2, 0] rfl ?_
    refine iter_ind (P := fun s30 => UW C X s30.2 30 [(0, .ref (X.1 v0)), (1, .int s2.1), (2, .int s30.1)] []) (fun s30 o' hb hin hout => ?_) n ((0 : Int32), S27) hr30
    exact wbX11_layWorths_30 hC n v0 s2.1 hTv0 s30 hb hin (fun p e => by rw [hout p e]; exact hk30)
theorem wX11_layWorths {C : CT} {X : XT} (hC : CK C RX11 cX11_layWorths 3 none 52) (n : Nat) (S : PS) (a0 : Nat) (hTa0 : Ty X.2.1 a0 11) {o : PS} (hf : fX11_layWorths X.2.1 n S a0 = some o) (hR : Rt C X cX11_layWorths none none o) : UW C X S 0 [(0, .ref (X.1 a0))] [] := by
  unfold fX11_layWorths at hf
  refine u_iconst (v := (0 : Int32)) hC dX11_layWorths_0 (by decide) ?_
  refine u_istore_n (lv' := [(1, .int (0 : Int32)), (0, .ref (X.1 a0))]) hC dX11_layWorths_1 rfl (by decide) rfl ?_
  obtain ⟨r2, hr2, hf⟩ := kc_some hf
  have hk2 : UW C X r2 93 [] [] := by
    cases hf
    exact hR _ _ dX11_layWorths_93 trivial
  refine u_sub (lv' := [(0, .ref (X.1 a0)), (1, .int (0 : Int32))]) [1, 0] rfl ?_
  refine iter_ind (P := fun s2 => UW C X s2.2 2 [(0, .ref (X.1 a0)), (1, .int s2.1)] []) (fun s2 o' hb hin hout => ?_) n ((0 : Int32), S) hr2
  exact wbX11_layWorths_2 hC n a0 hTa0 s2 hb hin (fun p e => by rw [hout p e]; exact hk2)
theorem ctX11_layWorths (l : Launch) (hl : l.stackTraces = false) (G : GT) (ρ : Nat → Nat) (Y : XS) (n : Nat) (S : PS) (a0 : Nat) (hTa0 : Ty Y a0 11) {o : PS} (hf : fX11_layWorths Y n S a0 = some o) : Mt l G yX11_layWorths cX11_layWorths 3 none 52 ρ Y [.ref (ρ a0)] S none o :=
  Mt_of hl (by decide) (Nat.le_of_ble_eq_true rfl) (fun C _ _ hC hR => wX11_layWorths (X := (ρ, Y, 0, 0)) hC n S a0 hTa0 hf hR)
-- X11_worthTo
theorem dX11_worthTo_0 : decode cX11_worthTo 0 = .ok (.iconst 0, 1) := by decide +kernel
theorem dX11_worthTo_1 : decode cX11_worthTo 1 = .ok (.istore_n 3, 1) := by decide +kernel
theorem dX11_worthTo_2 : decode cX11_worthTo 2 = .ok (.iconst 0, 1) := by decide +kernel
theorem dX11_worthTo_3 : decode cX11_worthTo 3 = .ok (.istore 4, 2) := by decide +kernel
theorem dX11_worthTo_5 : decode cX11_worthTo 5 = .ok (.iload 4, 2) := by decide +kernel
theorem dX11_worthTo_7 : decode cX11_worthTo 7 = .ok (.aload_n 0, 1) := by decide +kernel
theorem dX11_worthTo_8 : decode cX11_worthTo 8 = .ok (.invokevirtual 77, 3) := by decide +kernel
theorem dX11_worthTo_11 : decode cX11_worthTo 11 = .ok (.if_icmp .ge 37, 3) := by decide +kernel
theorem dX11_worthTo_14 : decode cX11_worthTo 14 = .ok (.iload_n 3, 1) := by decide +kernel
theorem dX11_worthTo_15 : decode cX11_worthTo 15 = .ok (.iload_n 2, 1) := by decide +kernel
theorem dX11_worthTo_16 : decode cX11_worthTo 16 = .ok (.iload 4, 2) := by decide +kernel
theorem dX11_worthTo_18 : decode cX11_worthTo 18 = .ok (.invokestatic 147, 3) := by decide +kernel
theorem dX11_worthTo_21 : decode cX11_worthTo 21 = .ok (.ifCond .eq 18, 3) := by decide +kernel
theorem dX11_worthTo_24 : decode cX11_worthTo 24 = .ok (.aload_n 0, 1) := by decide +kernel
theorem dX11_worthTo_25 : decode cX11_worthTo 25 = .ok (.getfield 25, 3) := by decide +kernel
theorem dX11_worthTo_28 : decode cX11_worthTo 28 = .ok (.bipush 12, 2) := by decide +kernel
theorem dX11_worthTo_30 : decode cX11_worthTo 30 = .ok (.iload_n 1, 1) := by decide +kernel
theorem dX11_worthTo_31 : decode cX11_worthTo 31 = .ok (.imul, 1) := by decide +kernel
theorem dX11_worthTo_32 : decode cX11_worthTo 32 = .ok (.iload 4, 2) := by decide +kernel
theorem dX11_worthTo_34 : decode cX11_worthTo 34 = .ok (.iadd, 1) := by decide +kernel
theorem dX11_worthTo_35 : decode cX11_worthTo 35 = .ok (.iaload, 1) := by decide +kernel
theorem dX11_worthTo_36 : decode cX11_worthTo 36 = .ok (.goto 4, 3) := by decide +kernel
theorem dX11_worthTo_39 : decode cX11_worthTo 39 = .ok (.iconst 0, 1) := by decide +kernel
theorem dX11_worthTo_40 : decode cX11_worthTo 40 = .ok (.iadd, 1) := by decide +kernel
theorem dX11_worthTo_41 : decode cX11_worthTo 41 = .ok (.istore_n 3, 1) := by decide +kernel
theorem dX11_worthTo_42 : decode cX11_worthTo 42 = .ok (.iinc 4 1, 3) := by decide +kernel
theorem dX11_worthTo_45 : decode cX11_worthTo 45 = .ok (.goto (-40), 3) := by decide +kernel
theorem dX11_worthTo_48 : decode cX11_worthTo 48 = .ok (.iload_n 3, 1) := by decide +kernel
theorem dX11_worthTo_49 : decode cX11_worthTo 49 = .ok (.ireturn, 1) := by decide +kernel
def jX11_worthTo_40_5 (Y : XS) (n : Nat) (S : PS) (v0 : Nat) (v1 : Int32) (v2 : Int32) (v4 : Int32) (t0 : Int32) (t1 : Int32) : Option ((Int32 × Int32) ⊕ Int32) :=
  some (.inl (t1 + t0, v4 + (1 : Int32)))
def bX11_worthTo_5 (Y : XS) (n : Nat) (S : PS) (v0 : Nat) (v1 : Int32) (v2 : Int32) (s5 : (Int32 × Int32)) : Option ((Int32 × Int32) ⊕ Int32) :=
  kc (fX11_many Y n S v0) (fun q8 => (if q8 ≤ s5.2 then some (.inr s5.1) else kc (fX11_isOf Y n S v2 s5.2) (fun q18 => (if q18 = 0 then jX11_worthTo_40_5 Y n S v0 v1 v2 s5.2 (0 : Int32) s5.1 else kgr S v0 12 (fun b25 => kai Y S b25 (((12 : Int32) * v1) + s5.2) (fun x35 => jX11_worthTo_40_5 Y n S v0 v1 v2 s5.2 x35 s5.1))))))
def fX11_worthTo (Y : XS) (n : Nat) (S : PS) (a0 : Nat) (x1_ : Int32) (x2_ : Int32) : Option (Int32) :=
  kc (iter (bX11_worthTo_5 Y n S a0 x1_ x2_) n ((0 : Int32), (0 : Int32))) (fun r5 => some r5)
theorem wjX11_worthTo_40_5 {C : CT} {X : XT} (hC : CK C RX11 cX11_worthTo 5 (some .int) 2) (n : Nat) (S : PS) (v0 : Nat) (v1 : Int32) (v2 : Int32) (v4 : Int32) (t0 : Int32) (t1 : Int32)  (hTv0 : Ty X.2.1 v0 11) {o : (Int32 × Int32) ⊕ Int32} (hf : jX11_worthTo_40_5 X.2.1 n S v0 v1 v2 v4 t0 t1 = some o) (hN : ∀ s', o = .inl s' → UW C X S 5 [(0, .ref (X.1 v0)), (1, .int v1), (2, .int v2), (3, .int s'.1), (4, .int s'.2)] []) (hO0 : ∀ p', o = .inr p' → UW C X S 48 [(3, .int p')] []) : UW C X S 40 [(0, .ref (X.1 v0)), (1, .int v1), (2, .int v2), (4, .int v4)] [.int t0, .int t1] := by
  unfold jX11_worthTo_40_5 at hf
  refine u_iadd hC dX11_worthTo_40 ?_
  refine u_istore_n (lv' := [(3, .int (t1 + t0)), (0, .ref (X.1 v0)), (1, .int v1), (2, .int v2), (4, .int v4)]) hC dX11_worthTo_41 rfl (by decide) rfl ?_
  refine u_iinc (v := v4 + (1 : Int32)) (lv' := [(4, .int (v4 + (1 : Int32))), (3, .int (t1 + t0)), (0, .ref (X.1 v0)), (1, .int v1), (2, .int v2)]) hC dX11_worthTo_42 4 rfl rfl (by decide) rfl ?_
  refine u_goto (tgt := 5) hC dX11_worthTo_45 (by decide) ?_
  refine u_sub (lv' := [(0, .ref (X.1 v0)), (1, .int v1), (2, .int v2), (3, .int (t1 + t0)), (4, .int (v4 + (1 : Int32)))]) [2, 3, 4, 1, 0] rfl ?_
  exact hN _ (Option.some.inj hf).symm
theorem wbX11_worthTo_5 {C : CT} {X : XT} (hC : CK C RX11 cX11_worthTo 5 (some .int) 2) (n : Nat) (S : PS) (v0 : Nat) (v1 : Int32) (v2 : Int32) (hTv0 : Ty X.2.1 v0 11) (s5 : (Int32 × Int32)) {o : (Int32 × Int32) ⊕ Int32} (hf : bX11_worthTo_5 X.2.1 n S v0 v1 v2 s5 = some o) (hN : ∀ s', o = .inl s' → UW C X S 5 [(0, .ref (X.1 v0)), (1, .int v1), (2, .int v2), (3, .int s'.1), (4, .int s'.2)] []) (hO0 : ∀ p', o = .inr p' → UW C X S 48 [(3, .int p')] []) : UW C X S 5 [(0, .ref (X.1 v0)), (1, .int v1), (2, .int v2), (3, .int s5.1), (4, .int s5.2)] [] := by
  unfold bX11_worthTo_5 at hf
  refine u_iload hC dX11_worthTo_5 4 rfl ?_
  refine u_aload_n hC dX11_worthTo_7 0 rfl rfl ?_
  obtain ⟨q8, hq8, hf⟩ := kc_some hf
  refine u_callV hC (ctX11_many (cL C) hC.tr (cG C) X.1 X.2.1 n S v0 hTv0 hq8) lk_X11_77 rfl hTv0 (by decide) rfl (by decide) (by decide) rfl rfl (Nat.le_of_ble_eq_true rfl) dX11_worthTo_8 ?_
  refine u_icmp_ge (tgt := 48) hC dX11_worthTo_11 (by decide) hf (fun h11 hf => ?_) (fun h11 hf => ?_)
  · refine u_sub (lv' := [(3, .int s5.1)]) [3] rfl ?_
    exact hO0 _ (Option.some.inj hf).symm
  · refine u_iload_n hC dX11_worthTo_14 3 rfl rfl ?_
    refine u_iload_n hC dX11_worthTo_15 2 rfl rfl ?_
    refine u_iload hC dX11_worthTo_16 4 rfl ?_
    obtain ⟨q18, hq18, hf⟩ := kc_some hf
    refine u_callS hC (ctX11_isOf (cL C) hC.tr (cG C) X.1 X.2.1 n S v2 s5.2  hq18) lk_X11_147 (by decide) (by decide) rfl rfl (Nat.le_of_ble_eq_true rfl) dX11_worthTo_18 ?_
    refine u_if_eq (tgt := 39) hC dX11_worthTo_21 (by decide) hf (fun h21 hf => ?_) (fun h21 hf => ?_)
    · refine u_iconst (v := (0 : Int32)) hC dX11_worthTo_39 (by decide) ?_
      refine u_sub (lv' := [(0, .ref (X.1 v0)), (1, .int v1), (2, .int v2), (4, .int s5.2)]) [0, 1, 2, 4] rfl ?_
      exact wjX11_worthTo_40_5 hC n S v0 v1 v2 s5.2 (0 : Int32) s5.1  hTv0 hf hN hO0
    · refine u_aload_n hC dX11_worthTo_24 0 rfl rfl ?_
      refine u_gr hC lf_X11_25 rfl hTv0 dX11_worthTo_25 hf (fun b25 hTb25 hf => ?_)
      refine u_bipush (v := (12 : Int32)) hC dX11_worthTo_28 (by decide) ?_
      refine u_iload_n hC dX11_worthTo_30 1 rfl rfl ?_
      refine u_imul hC dX11_worthTo_31 ?_
      refine u_iload hC dX11_worthTo_32 4 rfl ?_
      refine u_iadd hC dX11_worthTo_34 ?_
      refine u_ai hC hTb25 dX11_worthTo_35 hf (fun x35 hf => ?_)
      refine u_goto (tgt := 40) hC dX11_worthTo_36 (by decide) ?_
      refine u_sub (lv' := [(0, .ref (X.1 v0)), (1, .int v1), (2, .int v2), (4, .int s5.2)]) [0, 1, 2, 4] rfl ?_
      exact wjX11_worthTo_40_5 hC n S v0 v1 v2 s5.2 x35 s5.1  hTv0 hf hN hO0
theorem wX11_worthTo {C : CT} {X : XT} (hC : CK C RX11 cX11_worthTo 5 (some .int) 2) (n : Nat) (S : PS) (a0 : Nat) (x1_ : Int32) (x2_ : Int32) (hTa0 : Ty X.2.1 a0 11) {o : Int32} (hf : fX11_worthTo X.2.1 n S a0 x1_ x2_ = some o) (hR : Rt C X cX11_worthTo (some .int) (some (.int o)) S) : UW C X S 0 [(0, .ref (X.1 a0)), (1, .int x1_), (2, .int x2_)] [] := by
  unfold fX11_worthTo at hf
  refine u_iconst (v := (0 : Int32)) hC dX11_worthTo_0 (by decide) ?_
  refine u_istore_n (lv' := [(3, .int (0 : Int32)), (0, .ref (X.1 a0)), (1, .int x1_), (2, .int x2_)]) hC dX11_worthTo_1 rfl (by decide) rfl ?_
  refine u_iconst (v := (0 : Int32)) hC dX11_worthTo_2 (by decide) ?_
  refine u_istore (lv' := [(4, .int (0 : Int32)), (3, .int (0 : Int32)), (0, .ref (X.1 a0)), (1, .int x1_), (2, .int x2_)]) hC dX11_worthTo_3 (by decide) rfl ?_
  obtain ⟨r5, hr5, hf⟩ := kc_some hf
  have hk5 : UW C X S 48 [(3, .int r5)] [] := by
    refine u_iload_n hC dX11_worthTo_48 0 rfl rfl ?_
    cases hf
    exact hR _ _ dX11_worthTo_49 trivial
  refine u_sub (lv' := [(0, .ref (X.1 a0)), (1, .int x1_), (2, .int x2_), (3, .int (0 : Int32)), (4, .int (0 : Int32))]) [2, 3, 4, 1, 0] rfl ?_
  refine iter_ind (P := fun s5 => UW C X S 5 [(0, .ref (X.1 a0)), (1, .int x1_), (2, .int x2_), (3, .int s5.1), (4, .int s5.2)] []) (fun s5 o' hb hin hout => ?_) n ((0 : Int32), (0 : Int32)) hr5
  exact wbX11_worthTo_5 hC n S a0 x1_ x2_ hTa0 s5 hb hin (fun p e => by rw [hout p e]; exact hk5)
theorem ctX11_worthTo (l : Launch) (hl : l.stackTraces = false) (G : GT) (ρ : Nat → Nat) (Y : XS) (n : Nat) (S : PS) (a0 : Nat) (x1_ : Int32) (x2_ : Int32) (hTa0 : Ty Y a0 11) {o : Int32} (hf : fX11_worthTo Y n S a0 x1_ x2_ = some o) : Mt l G yX11_worthTo cX11_worthTo 5 (some .int) 2 ρ Y [.ref (ρ a0), .int x1_, .int x2_] S (some (.int o)) S :=
  Mt_of hl (by decide) (Nat.le_of_ble_eq_true rfl) (fun C _ _ hC hR => wX11_worthTo (X := (ρ, Y, 0, 0)) hC n S a0 x1_ x2_ hTa0 hf hR)
-- X11_worthToAll
theorem dX11_worthToAll_0 : decode cX11_worthToAll 0 = .ok (.iconst 0, 1) := by decide +kernel
theorem dX11_worthToAll_1 : decode cX11_worthToAll 1 = .ok (.istore_n 2, 1) := by decide +kernel
theorem dX11_worthToAll_2 : decode cX11_worthToAll 2 = .ok (.iconst 0, 1) := by decide +kernel
theorem dX11_worthToAll_3 : decode cX11_worthToAll 3 = .ok (.istore_n 3, 1) := by decide +kernel
theorem dX11_worthToAll_4 : decode cX11_worthToAll 4 = .ok (.iload_n 3, 1) := by decide +kernel
theorem dX11_worthToAll_5 : decode cX11_worthToAll 5 = .ok (.aload_n 0, 1) := by decide +kernel
theorem dX11_worthToAll_6 : decode cX11_worthToAll 6 = .ok (.invokevirtual 77, 3) := by decide +kernel
theorem dX11_worthToAll_9 : decode cX11_worthToAll 9 = .ok (.if_icmp .ge 30, 3) := by decide +kernel
theorem dX11_worthToAll_12 : decode cX11_worthToAll 12 = .ok (.iload_n 2, 1) := by decide +kernel
theorem dX11_worthToAll_13 : decode cX11_worthToAll 13 = .ok (.iload_n 1, 1) := by decide +kernel
theorem dX11_worthToAll_14 : decode cX11_worthToAll 14 = .ok (.iload_n 3, 1) := by decide +kernel
theorem dX11_worthToAll_15 : decode cX11_worthToAll 15 = .ok (.invokestatic 147, 3) := by decide +kernel
theorem dX11_worthToAll_18 : decode cX11_worthToAll 18 = .ok (.ifCond .eq 12, 3) := by decide +kernel
theorem dX11_worthToAll_21 : decode cX11_worthToAll 21 = .ok (.aload_n 0, 1) := by decide +kernel
theorem dX11_worthToAll_22 : decode cX11_worthToAll 22 = .ok (.getfield 31, 3) := by decide +kernel
theorem dX11_worthToAll_25 : decode cX11_worthToAll 25 = .ok (.iload_n 3, 1) := by decide +kernel
theorem dX11_worthToAll_26 : decode cX11_worthToAll 26 = .ok (.iaload, 1) := by decide +kernel
theorem dX11_worthToAll_27 : decode cX11_worthToAll 27 = .ok (.goto 4, 3) := by decide +kernel
theorem dX11_worthToAll_30 : decode cX11_worthToAll 30 = .ok (.iconst 0, 1) := by decide +kernel
theorem dX11_worthToAll_31 : decode cX11_worthToAll 31 = .ok (.iadd, 1) := by decide +kernel
theorem dX11_worthToAll_32 : decode cX11_worthToAll 32 = .ok (.istore_n 2, 1) := by decide +kernel
theorem dX11_worthToAll_33 : decode cX11_worthToAll 33 = .ok (.iinc 3 1, 3) := by decide +kernel
theorem dX11_worthToAll_36 : decode cX11_worthToAll 36 = .ok (.goto (-32), 3) := by decide +kernel
theorem dX11_worthToAll_39 : decode cX11_worthToAll 39 = .ok (.iload_n 2, 1) := by decide +kernel
theorem dX11_worthToAll_40 : decode cX11_worthToAll 40 = .ok (.ireturn, 1) := by decide +kernel
def jX11_worthToAll_31_4 (Y : XS) (n : Nat) (S : PS) (v0 : Nat) (v1 : Int32) (v3 : Int32) (t0 : Int32) (t1 : Int32) : Option ((Int32 × Int32) ⊕ Int32) :=
  some (.inl (t1 + t0, v3 + (1 : Int32)))
def bX11_worthToAll_4 (Y : XS) (n : Nat) (S : PS) (v0 : Nat) (v1 : Int32) (s4 : (Int32 × Int32)) : Option ((Int32 × Int32) ⊕ Int32) :=
  kc (fX11_many Y n S v0) (fun q6 => (if q6 ≤ s4.2 then some (.inr s4.1) else kc (fX11_isOf Y n S v1 s4.2) (fun q15 => (if q15 = 0 then jX11_worthToAll_31_4 Y n S v0 v1 s4.2 (0 : Int32) s4.1 else kgr S v0 14 (fun b22 => kai Y S b22 s4.2 (fun x26 => jX11_worthToAll_31_4 Y n S v0 v1 s4.2 x26 s4.1))))))
def fX11_worthToAll (Y : XS) (n : Nat) (S : PS) (a0 : Nat) (x1_ : Int32) : Option (Int32) :=
  kc (iter (bX11_worthToAll_4 Y n S a0 x1_) n ((0 : Int32), (0 : Int32))) (fun r4 => some r4)
theorem wjX11_worthToAll_31_4 {C : CT} {X : XT} (hC : CK C RX11 cX11_worthToAll 4 (some .int) 2) (n : Nat) (S : PS) (v0 : Nat) (v1 : Int32) (v3 : Int32) (t0 : Int32) (t1 : Int32)  (hTv0 : Ty X.2.1 v0 11) {o : (Int32 × Int32) ⊕ Int32} (hf : jX11_worthToAll_31_4 X.2.1 n S v0 v1 v3 t0 t1 = some o) (hN : ∀ s', o = .inl s' → UW C X S 4 [(0, .ref (X.1 v0)), (1, .int v1), (2, .int s'.1), (3, .int s'.2)] []) (hO0 : ∀ p', o = .inr p' → UW C X S 39 [(2, .int p')] []) : UW C X S 31 [(0, .ref (X.1 v0)), (1, .int v1), (3, .int v3)] [.int t0, .int t1] := by
  unfold jX11_worthToAll_31_4 at hf
  refine u_iadd hC dX11_worthToAll_31 ?_
  refine u_istore_n (lv' := [(2, .int (t1 + t0)), (0, .ref (X.1 v0)), (1, .int v1), (3, .int v3)]) hC dX11_worthToAll_32 rfl (by decide) rfl ?_
  refine u_iinc (v := v3 + (1 : Int32)) (lv' := [(3, .int (v3 + (1 : Int32))), (2, .int (t1 + t0)), (0, .ref (X.1 v0)), (1, .int v1)]) hC dX11_worthToAll_33 3 rfl rfl (by decide) rfl ?_
  refine u_goto (tgt := 4) hC dX11_worthToAll_36 (by decide) ?_
  refine u_sub (lv' := [(0, .ref (X.1 v0)), (1, .int v1), (2, .int (t1 + t0)), (3, .int (v3 + (1 : Int32)))]) [2, 3, 1, 0] rfl ?_
  exact hN _ (Option.some.inj hf).symm
theorem wbX11_worthToAll_4 {C : CT} {X : XT} (hC : CK C RX11 cX11_worthToAll 4 (some .int) 2) (n : Nat) (S : PS) (v0 : Nat) (v1 : Int32) (hTv0 : Ty X.2.1 v0 11) (s4 : (Int32 × Int32)) {o : (Int32 × Int32) ⊕ Int32} (hf : bX11_worthToAll_4 X.2.1 n S v0 v1 s4 = some o) (hN : ∀ s', o = .inl s' → UW C X S 4 [(0, .ref (X.1 v0)), (1, .int v1), (2, .int s'.1), (3, .int s'.2)] []) (hO0 : ∀ p', o = .inr p' → UW C X S 39 [(2, .int p')] []) : UW C X S 4 [(0, .ref (X.1 v0)), (1, .int v1), (2, .int s4.1), (3, .int s4.2)] [] := by
  unfold bX11_worthToAll_4 at hf
  refine u_iload_n hC dX11_worthToAll_4 3 rfl rfl ?_
  refine u_aload_n hC dX11_worthToAll_5 0 rfl rfl ?_
  obtain ⟨q6, hq6, hf⟩ := kc_some hf
  refine u_callV hC (ctX11_many (cL C) hC.tr (cG C) X.1 X.2.1 n S v0 hTv0 hq6) lk_X11_77 rfl hTv0 (by decide) rfl (by decide) (by decide) rfl rfl (Nat.le_of_ble_eq_true rfl) dX11_worthToAll_6 ?_
  refine u_icmp_ge (tgt := 39) hC dX11_worthToAll_9 (by decide) hf (fun h9 hf => ?_) (fun h9 hf => ?_)
  · refine u_sub (lv' := [(2, .int s4.1)]) [2] rfl ?_
    exact hO0 _ (Option.some.inj hf).symm
  · refine u_iload_n hC dX11_worthToAll_12 2 rfl rfl ?_
    refine u_iload_n hC dX11_worthToAll_13 1 rfl rfl ?_
    refine u_iload_n hC dX11_worthToAll_14 3 rfl rfl ?_
    obtain ⟨q15, hq15, hf⟩ := kc_some hf
    refine u_callS hC (ctX11_isOf (cL C) hC.tr (cG C) X.1 X.2.1 n S v1 s4.2  hq15) lk_X11_147 (by decide) (by decide) rfl rfl (Nat.le_of_ble_eq_true rfl) dX11_worthToAll_15 ?_
    refine u_if_eq (tgt := 30) hC dX11_worthToAll_18 (by decide) hf (fun h18 hf => ?_) (fun h18 hf => ?_)
    · refine u_iconst (v := (0 : Int32)) hC dX11_worthToAll_30 (by decide) ?_
      refine u_sub (lv' := [(0, .ref (X.1 v0)), (1, .int v1), (3, .int s4.2)]) [0, 1, 3] rfl ?_
      exact wjX11_worthToAll_31_4 hC n S v0 v1 s4.2 (0 : Int32) s4.1  hTv0 hf hN hO0
    · refine u_aload_n hC dX11_worthToAll_21 0 rfl rfl ?_
      refine u_gr hC lf_X11_31 rfl hTv0 dX11_worthToAll_22 hf (fun b22 hTb22 hf => ?_)
      refine u_iload_n hC dX11_worthToAll_25 3 rfl rfl ?_
      refine u_ai hC hTb22 dX11_worthToAll_26 hf (fun x26 hf => ?_)
      refine u_goto (tgt := 31) hC dX11_worthToAll_27 (by decide) ?_
      refine u_sub (lv' := [(0, .ref (X.1 v0)), (1, .int v1), (3, .int s4.2)]) [0, 1, 3] rfl ?_
      exact wjX11_worthToAll_31_4 hC n S v0 v1 s4.2 x26 s4.1  hTv0 hf hN hO0
theorem wX11_worthToAll {C : CT} {X : XT} (hC : CK C RX11 cX11_worthToAll 4 (some .int) 2) (n : Nat) (S : PS) (a0 : Nat) (x1_ : Int32) (hTa0 : Ty X.2.1 a0 11) {o : Int32} (hf : fX11_worthToAll X.2.1 n S a0 x1_ = some o) (hR : Rt C X cX11_worthToAll (some .int) (some (.int o)) S) : UW C X S 0 [(0, .ref (X.1 a0)), (1, .int x1_)] [] := by
  unfold fX11_worthToAll at hf
  refine u_iconst (v := (0 : Int32)) hC dX11_worthToAll_0 (by decide) ?_
  refine u_istore_n (lv' := [(2, .int (0 : Int32)), (0, .ref (X.1 a0)), (1, .int x1_)]) hC dX11_worthToAll_1 rfl (by decide) rfl ?_
  refine u_iconst (v := (0 : Int32)) hC dX11_worthToAll_2 (by decide) ?_
  refine u_istore_n (lv' := [(3, .int (0 : Int32)), (2, .int (0 : Int32)), (0, .ref (X.1 a0)), (1, .int x1_)]) hC dX11_worthToAll_3 rfl (by decide) rfl ?_
  obtain ⟨r4, hr4, hf⟩ := kc_some hf
  have hk4 : UW C X S 39 [(2, .int r4)] [] := by
    refine u_iload_n hC dX11_worthToAll_39 0 rfl rfl ?_
    cases hf
    exact hR _ _ dX11_worthToAll_40 trivial
  refine u_sub (lv' := [(0, .ref (X.1 a0)), (1, .int x1_), (2, .int (0 : Int32)), (3, .int (0 : Int32))]) [2, 3, 1, 0] rfl ?_
  refine iter_ind (P := fun s4 => UW C X S 4 [(0, .ref (X.1 a0)), (1, .int x1_), (2, .int s4.1), (3, .int s4.2)] []) (fun s4 o' hb hin hout => ?_) n ((0 : Int32), (0 : Int32)) hr4
  exact wbX11_worthToAll_4 hC n S a0 x1_ hTa0 s4 hb hin (fun p e => by rw [hout p e]; exact hk4)
theorem ctX11_worthToAll (l : Launch) (hl : l.stackTraces = false) (G : GT) (ρ : Nat → Nat) (Y : XS) (n : Nat) (S : PS) (a0 : Nat) (x1_ : Int32) (hTa0 : Ty Y a0 11) {o : Int32} (hf : fX11_worthToAll Y n S a0 x1_ = some o) : Mt l G yX11_worthToAll cX11_worthToAll 4 (some .int) 2 ρ Y [.ref (ρ a0), .int x1_] S (some (.int o)) S :=
  Mt_of hl (by decide) (Nat.le_of_ble_eq_true rfl) (fun C _ _ hC hR => wX11_worthToAll (X := (ρ, Y, 0, 0)) hC n S a0 x1_ hTa0 hf hR)
-- X11_leastWorth
theorem dX11_leastWorth_0 : decode cX11_leastWorth 0 = .ok (.aload_n 0, 1) := by decide +kernel
theorem dX11_leastWorth_1 : decode cX11_leastWorth 1 = .ok (.invokevirtual 85, 3) := by decide +kernel
theorem dX11_leastWorth_4 : decode cX11_leastWorth 4 = .ok (.ifCond .ne 7, 3) := by decide +kernel
theorem dX11_leastWorth_7 : decode cX11_leastWorth 7 = .ok (.iconst 0, 1) := by decide +kernel
theorem dX11_leastWorth_8 : decode cX11_leastWorth 8 = .ok (.goto 9, 3) := by decide +kernel
theorem dX11_leastWorth_11 : decode cX11_leastWorth 11 = .ok (.aload_n 0, 1) := by decide +kernel
theorem dX11_leastWorth_12 : decode cX11_leastWorth 12 = .ok (.iconst 0, 1) := by decide +kernel
theorem dX11_leastWorth_13 : decode cX11_leastWorth 13 = .ok (.iload_n 1, 1) := by decide +kernel
theorem dX11_leastWorth_14 : decode cX11_leastWorth 14 = .ok (.invokevirtual 151, 3) := by decide +kernel
theorem dX11_leastWorth_17 : decode cX11_leastWorth 17 = .ok (.istore_n 2, 1) := by decide +kernel
theorem dX11_leastWorth_18 : decode cX11_leastWorth 18 = .ok (.iconst 1, 1) := by decide +kernel
theorem dX11_leastWorth_19 : decode cX11_leastWorth 19 = .ok (.istore_n 3, 1) := by decide +kernel
theorem dX11_leastWorth_20 : decode cX11_leastWorth 20 = .ok (.iload_n 3, 1) := by decide +kernel
theorem dX11_leastWorth_21 : decode cX11_leastWorth 21 = .ok (.aload_n 0, 1) := by decide +kernel
theorem dX11_leastWorth_22 : decode cX11_leastWorth 22 = .ok (.invokevirtual 85, 3) := by decide +kernel
theorem dX11_leastWorth_25 : decode cX11_leastWorth 25 = .ok (.if_icmp .ge 20, 3) := by decide +kernel
theorem dX11_leastWorth_28 : decode cX11_leastWorth 28 = .ok (.iload_n 2, 1) := by decide +kernel
theorem dX11_leastWorth_29 : decode cX11_leastWorth 29 = .ok (.aload_n 0, 1) := by decide +kernel
theorem dX11_leastWorth_30 : decode cX11_leastWorth 30 = .ok (.iload_n 3, 1) := by decide +kernel
theorem dX11_leastWorth_31 : decode cX11_leastWorth 31 = .ok (.iload_n 1, 1) := by decide +kernel
theorem dX11_leastWorth_32 : decode cX11_leastWorth 32 = .ok (.invokevirtual 151, 3) := by decide +kernel
theorem dX11_leastWorth_35 : decode cX11_leastWorth 35 = .ok (.invokestatic 111, 3) := by decide +kernel
theorem dX11_leastWorth_38 : decode cX11_leastWorth 38 = .ok (.istore_n 2, 1) := by decide +kernel
theorem dX11_leastWorth_39 : decode cX11_leastWorth 39 = .ok (.iinc 3 1, 3) := by decide +kernel
theorem dX11_leastWorth_42 : decode cX11_leastWorth 42 = .ok (.goto (-22), 3) := by decide +kernel
theorem dX11_leastWorth_45 : decode cX11_leastWorth 45 = .ok (.iload_n 2, 1) := by decide +kernel
theorem dX11_leastWorth_46 : decode cX11_leastWorth 46 = .ok (.ireturn, 1) := by decide +kernel
def bX11_leastWorth_20 (Y : XS) (n : Nat) (S : PS) (v0 : Nat) (v1 : Int32) (s20 : (Int32 × Int32)) : Option ((Int32 × Int32) ⊕ Int32) :=
  kc (fX11_people Y n S v0) (fun q22 => (if q22 ≤ s20.2 then some (.inr s20.1) else kc (fX11_worthTo Y n S v0 s20.2 v1) (fun q32 => some (.inl (imin s20.1 q32, s20.2 + (1 : Int32))))))
def jX11_leastWorth_17 (Y : XS) (n : Nat) (S : PS) (v0 : Nat) (v1 : Int32) (t0 : Int32) : Option (Int32) :=
  kc (iter (bX11_leastWorth_20 Y n S v0 v1) n (t0, (1 : Int32))) (fun r20 => some r20)
def fX11_leastWorth (Y : XS) (n : Nat) (S : PS) (a0 : Nat) (x1_ : Int32) : Option (Int32) :=
  kc (fX11_people Y n S a0) (fun q1 => (if q1 = 0 then jX11_leastWorth_17 Y n S a0 x1_ (0 : Int32) else kc (fX11_worthTo Y n S a0 (0 : Int32) x1_) (fun q14 => jX11_leastWorth_17 Y n S a0 x1_ q14)))
theorem wbX11_leastWorth_20 {C : CT} {X : XT} (hC : CK C RX11 cX11_leastWorth 4 (some .int) 3) (n : Nat) (S : PS) (v0 : Nat) (v1 : Int32) (hTv0 : Ty X.2.1 v0 11) (s20 : (Int32 × Int32)) {o : (Int32 × Int32) ⊕ Int32} (hf : bX11_leastWorth_20 X.2.1 n S v0 v1 s20 = some o) (hN : ∀ s', o = .inl s' → UW C X S 20 [(0, .ref (X.1 v0)), (1, .int v1), (2, .int s'.1), (3, .int s'.2)] []) (hO0 : ∀ p', o = .inr p' → UW C X S 45 [(2, .int p')] []) : UW C X S 20 [(0, .ref (X.1 v0)), (1, .int v1), (2, .int s20.1), (3, .int s20.2)] [] := by
  unfold bX11_leastWorth_20 at hf
  refine u_iload_n hC dX11_leastWorth_20 3 rfl rfl ?_
  refine u_aload_n hC dX11_leastWorth_21 0 rfl rfl ?_
  obtain ⟨q22, hq22, hf⟩ := kc_some hf
  refine u_callV hC (ctX11_people (cL C) hC.tr (cG C) X.1 X.2.1 n S v0 hTv0 hq22) lk_X11_85 rfl hTv0 (by decide) rfl (by decide) (by decide) rfl rfl (Nat.le_of_ble_eq_true rfl) dX11_leastWorth_22 ?_
  refine u_icmp_ge (tgt := 45) hC dX11_leastWorth_25 (by decide) hf (fun h25 hf => ?_) (fun h25 hf => ?_)
  · refine u_sub (lv' := [(2, .int s20.1)]) [2] rfl ?_
    exact hO0 _ (Option.some.inj hf).symm
  · refine u_iload_n hC dX11_leastWorth_28 2 rfl rfl ?_
    refine u_aload_n hC dX11_leastWorth_29 0 rfl rfl ?_
    refine u_iload_n hC dX11_leastWorth_30 3 rfl rfl ?_
    refine u_iload_n hC dX11_leastWorth_31 1 rfl rfl ?_
    obtain ⟨q32, hq32, hf⟩ := kc_some hf
    refine u_callV hC (ctX11_worthTo (cL C) hC.tr (cG C) X.1 X.2.1 n S v0 s20.2 v1 hTv0 hq32) lk_X11_151 rfl hTv0 (by decide) rfl (by decide) (by decide) rfl rfl (Nat.le_of_ble_eq_true rfl) dX11_leastWorth_32 ?_
    refine u_mmin hC (tb_6 226 rfl rfl) (by decide) (Nat.le_of_ble_eq_true rfl) dX11_leastWorth_35 ?_
    refine u_istore_n (lv' := [(2, .int (imin s20.1 q32)), (0, .ref (X.1 v0)), (1, .int v1), (3, .int s20.2)]) hC dX11_leastWorth_38 rfl (by decide) rfl ?_
    refine u_iinc (v := s20.2 + (1 : Int32)) (lv' := [(3, .int (s20.2 + (1 : Int32))), (2, .int (imin s20.1 q32)), (0, .ref (X.1 v0)), (1, .int v1)]) hC dX11_leastWorth_39 3 rfl rfl (by decide) rfl ?_
    refine u_goto (tgt := 20) hC dX11_leastWorth_42 (by decide) ?_
    refine u_sub (lv' := [(0, .ref (X.1 v0)), (1, .int v1), (2, .int (imin s20.1 q32)), (3, .int (s20.2 + (1 : Int32)))]) [2, 3, 1, 0] rfl ?_
    exact hN _ (Option.some.inj hf).symm
theorem wjX11_leastWorth_17 {C : CT} {X : XT} (hC : CK C RX11 cX11_leastWorth 4 (some .int) 3) (n : Nat) (S : PS) (v0 : Nat) (v1 : Int32) (t0 : Int32)  (hTv0 : Ty X.2.1 v0 11) {o : Int32} (hf : jX11_leastWorth_17 X.2.1 n S v0 v1 t0 = some o) (hR : Rt C X cX11_leastWorth (some .int) (some (.int o)) S) : UW C X S 17 [(0, .ref (X.1 v0)), (1, .int v1)] [.int t0] := by
  unfold jX11_leastWorth_17 at hf
  refine u_istore_n (lv' := [(2, .int t0), (0, .ref (X.1 v0)), (1, .int v1)]) hC dX11_leastWorth_17 rfl (by decide) rfl ?_
  refine u_iconst (v := (1 : Int32)) hC dX11_leastWorth_18 (by decide) ?_
  refine u_istore_n (lv' := [(3, .int (1 : Int32)), (2, .int t0), (0, .ref (X.1 v0)), (1, .int v1)]) hC dX11_leastWorth_19 rfl (by decide) rfl ?_
  obtain ⟨r20, hr20, hf⟩ := kc_some hf
  have hk20 : UW C X S 45 [(2, .int r20)] [] := by
    refine u_iload_n hC dX11_leastWorth_45 0 rfl rfl ?_
    cases hf
    exact hR _ _ dX11_leastWorth_46 trivial
  refine u_sub (lv' := [(0, .ref (X.1 v0)), (1, .int v1), (2, .int t0), (3, .int (1 : Int32))]) [2, 3, 1, 0] rfl ?_
  refine iter_ind (P := fun s20 => UW C X S 20 [(0, .ref (X.1 v0)), (1, .int v1), (2, .int s20.1), (3, .int s20.2)] []) (fun s20 o' hb hin hout => ?_) n (t0, (1 : Int32)) hr20
  exact wbX11_leastWorth_20 hC n S v0 v1 hTv0 s20 hb hin (fun p e => by rw [hout p e]; exact hk20)
theorem wX11_leastWorth {C : CT} {X : XT} (hC : CK C RX11 cX11_leastWorth 4 (some .int) 3) (n : Nat) (S : PS) (a0 : Nat) (x1_ : Int32) (hTa0 : Ty X.2.1 a0 11) {o : Int32} (hf : fX11_leastWorth X.2.1 n S a0 x1_ = some o) (hR : Rt C X cX11_leastWorth (some .int) (some (.int o)) S) : UW C X S 0 [(0, .ref (X.1 a0)), (1, .int x1_)] [] := by
  unfold fX11_leastWorth at hf
  refine u_aload_n hC dX11_leastWorth_0 0 rfl rfl ?_
  obtain ⟨q1, hq1, hf⟩ := kc_some hf
  refine u_callV hC (ctX11_people (cL C) hC.tr (cG C) X.1 X.2.1 n S a0 hTa0 hq1) lk_X11_85 rfl hTa0 (by decide) rfl (by decide) (by decide) rfl rfl (Nat.le_of_ble_eq_true rfl) dX11_leastWorth_1 ?_
  refine u_if_ne (tgt := 11) hC dX11_leastWorth_4 (by decide) hf (fun h4 hf => ?_) (fun h4 hf => ?_)
  · refine u_aload_n hC dX11_leastWorth_11 0 rfl rfl ?_
    refine u_iconst (v := (0 : Int32)) hC dX11_leastWorth_12 (by decide) ?_
    refine u_iload_n hC dX11_leastWorth_13 1 rfl rfl ?_
    obtain ⟨q14, hq14, hf⟩ := kc_some hf
    refine u_callV hC (ctX11_worthTo (cL C) hC.tr (cG C) X.1 X.2.1 n S a0 (0 : Int32) x1_ hTa0 hq14) lk_X11_151 rfl hTa0 (by decide) rfl (by decide) (by decide) rfl rfl (Nat.le_of_ble_eq_true rfl) dX11_leastWorth_14 ?_
    exact wjX11_leastWorth_17 hC n S a0 x1_ q14  hTa0 hf hR
  · refine u_iconst (v := (0 : Int32)) hC dX11_leastWorth_7 (by decide) ?_
    refine u_goto (tgt := 17) hC dX11_leastWorth_8 (by decide) ?_
    exact wjX11_leastWorth_17 hC n S a0 x1_ (0 : Int32)  hTa0 hf hR
theorem ctX11_leastWorth (l : Launch) (hl : l.stackTraces = false) (G : GT) (ρ : Nat → Nat) (Y : XS) (n : Nat) (S : PS) (a0 : Nat) (x1_ : Int32) (hTa0 : Ty Y a0 11) {o : Int32} (hf : fX11_leastWorth Y n S a0 x1_ = some o) : Mt l G yX11_leastWorth cX11_leastWorth 4 (some .int) 3 ρ Y [.ref (ρ a0), .int x1_] S (some (.int o)) S :=
  Mt_of hl (by decide) (Nat.le_of_ble_eq_true rfl) (fun C _ _ hC hR => wX11_leastWorth (X := (ρ, Y, 0, 0)) hC n S a0 x1_ hTa0 hf hR)
-- X11_costsOf
theorem dX11_costsOf_0 : decode cX11_costsOf 0 = .ok (.iconst 0, 1) := by decide +kernel
theorem dX11_costsOf_1 : decode cX11_costsOf 1 = .ok (.istore_n 2, 1) := by decide +kernel
theorem dX11_costsOf_2 : decode cX11_costsOf 2 = .ok (.iconst 0, 1) := by decide +kernel
theorem dX11_costsOf_3 : decode cX11_costsOf 3 = .ok (.istore_n 3, 1) := by decide +kernel
theorem dX11_costsOf_4 : decode cX11_costsOf 4 = .ok (.iload_n 3, 1) := by decide +kernel
theorem dX11_costsOf_5 : decode cX11_costsOf 5 = .ok (.aload_n 0, 1) := by decide +kernel
theorem dX11_costsOf_6 : decode cX11_costsOf 6 = .ok (.invokevirtual 77, 3) := by decide +kernel
theorem dX11_costsOf_9 : decode cX11_costsOf 9 = .ok (.if_icmp .ge 29, 3) := by decide +kernel
theorem dX11_costsOf_12 : decode cX11_costsOf 12 = .ok (.iload_n 2, 1) := by decide +kernel
theorem dX11_costsOf_13 : decode cX11_costsOf 13 = .ok (.iload_n 1, 1) := by decide +kernel
theorem dX11_costsOf_14 : decode cX11_costsOf 14 = .ok (.iload_n 3, 1) := by decide +kernel
theorem dX11_costsOf_15 : decode cX11_costsOf 15 = .ok (.invokestatic 147, 3) := by decide +kernel
theorem dX11_costsOf_18 : decode cX11_costsOf 18 = .ok (.ifCond .eq 11, 3) := by decide +kernel
theorem dX11_costsOf_21 : decode cX11_costsOf 21 = .ok (.aload_n 0, 1) := by decide +kernel
theorem dX11_costsOf_22 : decode cX11_costsOf 22 = .ok (.iload_n 3, 1) := by decide +kernel
theorem dX11_costsOf_23 : decode cX11_costsOf 23 = .ok (.invokevirtual 134, 3) := by decide +kernel
theorem dX11_costsOf_26 : decode cX11_costsOf 26 = .ok (.goto 4, 3) := by decide +kernel
theorem dX11_costsOf_29 : decode cX11_costsOf 29 = .ok (.iconst 0, 1) := by decide +kernel
theorem dX11_costsOf_30 : decode cX11_costsOf 30 = .ok (.iadd, 1) := by decide +kernel
theorem dX11_costsOf_31 : decode cX11_costsOf 31 = .ok (.istore_n 2, 1) := by decide +kernel
theorem dX11_costsOf_32 : decode cX11_costsOf 32 = .ok (.iinc 3 1, 3) := by decide +kernel
theorem dX11_costsOf_35 : decode cX11_costsOf 35 = .ok (.goto (-31), 3) := by decide +kernel
theorem dX11_costsOf_38 : decode cX11_costsOf 38 = .ok (.iload_n 2, 1) := by decide +kernel
theorem dX11_costsOf_39 : decode cX11_costsOf 39 = .ok (.ireturn, 1) := by decide +kernel
def jX11_costsOf_30_4 (Y : XS) (n : Nat) (S : PS) (v0 : Nat) (v1 : Int32) (v3 : Int32) (t0 : Int32) (t1 : Int32) : Option ((Int32 × Int32) ⊕ Int32) :=
  some (.inl (t1 + t0, v3 + (1 : Int32)))
def bX11_costsOf_4 (Y : XS) (n : Nat) (S : PS) (v0 : Nat) (v1 : Int32) (s4 : (Int32 × Int32)) : Option ((Int32 × Int32) ⊕ Int32) :=
  kc (fX11_many Y n S v0) (fun q6 => (if q6 ≤ s4.2 then some (.inr s4.1) else kc (fX11_isOf Y n S v1 s4.2) (fun q15 => (if q15 = 0 then jX11_costsOf_30_4 Y n S v0 v1 s4.2 (0 : Int32) s4.1 else kc (fX11_costOf Y n S v0 s4.2) (fun q23 => jX11_costsOf_30_4 Y n S v0 v1 s4.2 q23 s4.1)))))
def fX11_costsOf (Y : XS) (n : Nat) (S : PS) (a0 : Nat) (x1_ : Int32) : Option (Int32) :=
  kc (iter (bX11_costsOf_4 Y n S a0 x1_) n ((0 : Int32), (0 : Int32))) (fun r4 => some r4)
theorem wjX11_costsOf_30_4 {C : CT} {X : XT} (hC : CK C RX11 cX11_costsOf 4 (some .int) 2) (n : Nat) (S : PS) (v0 : Nat) (v1 : Int32) (v3 : Int32) (t0 : Int32) (t1 : Int32)  (hTv0 : Ty X.2.1 v0 11) {o : (Int32 × Int32) ⊕ Int32} (hf : jX11_costsOf_30_4 X.2.1 n S v0 v1 v3 t0 t1 = some o) (hN : ∀ s', o = .inl s' → UW C X S 4 [(0, .ref (X.1 v0)), (1, .int v1), (2, .int s'.1), (3, .int s'.2)] []) (hO0 : ∀ p', o = .inr p' → UW C X S 38 [(2, .int p')] []) : UW C X S 30 [(0, .ref (X.1 v0)), (1, .int v1), (3, .int v3)] [.int t0, .int t1] := by
  unfold jX11_costsOf_30_4 at hf
  refine u_iadd hC dX11_costsOf_30 ?_
  refine u_istore_n (lv' := [(2, .int (t1 + t0)), (0, .ref (X.1 v0)), (1, .int v1), (3, .int v3)]) hC dX11_costsOf_31 rfl (by decide) rfl ?_
  refine u_iinc (v := v3 + (1 : Int32)) (lv' := [(3, .int (v3 + (1 : Int32))), (2, .int (t1 + t0)), (0, .ref (X.1 v0)), (1, .int v1)]) hC dX11_costsOf_32 3 rfl rfl (by decide) rfl ?_
  refine u_goto (tgt := 4) hC dX11_costsOf_35 (by decide) ?_
  refine u_sub (lv' := [(0, .ref (X.1 v0)), (1, .int v1), (2, .int (t1 + t0)), (3, .int (v3 + (1 : Int32)))]) [2, 3, 1, 0] rfl ?_
  exact hN _ (Option.some.inj hf).symm
theorem wbX11_costsOf_4 {C : CT} {X : XT} (hC : CK C RX11 cX11_costsOf 4 (some .int) 2) (n : Nat) (S : PS) (v0 : Nat) (v1 : Int32) (hTv0 : Ty X.2.1 v0 11) (s4 : (Int32 × Int32)) {o : (Int32 × Int32) ⊕ Int32} (hf : bX11_costsOf_4 X.2.1 n S v0 v1 s4 = some o) (hN : ∀ s', o = .inl s' → UW C X S 4 [(0, .ref (X.1 v0)), (1, .int v1), (2, .int s'.1), (3, .int s'.2)] []) (hO0 : ∀ p', o = .inr p' → UW C X S 38 [(2, .int p')] []) : UW C X S 4 [(0, .ref (X.1 v0)), (1, .int v1), (2, .int s4.1), (3, .int s4.2)] [] := by
  unfold bX11_costsOf_4 at hf
  refine u_iload_n hC dX11_costsOf_4 3 rfl rfl ?_
  refine u_aload_n hC dX11_costsOf_5 0 rfl rfl ?_
  obtain ⟨q6, hq6, hf⟩ := kc_some hf
  refine u_callV hC (ctX11_many (cL C) hC.tr (cG C) X.1 X.2.1 n S v0 hTv0 hq6) lk_X11_77 rfl hTv0 (by decide) rfl (by decide) (by decide) rfl rfl (Nat.le_of_ble_eq_true rfl) dX11_costsOf_6 ?_
  refine u_icmp_ge (tgt := 38) hC dX11_costsOf_9 (by decide) hf (fun h9 hf => ?_) (fun h9 hf => ?_)
  · refine u_sub (lv' := [(2, .int s4.1)]) [2] rfl ?_
    exact hO0 _ (Option.some.inj hf).symm
  · refine u_iload_n hC dX11_costsOf_12 2 rfl rfl ?_
    refine u_iload_n hC dX11_costsOf_13 1 rfl rfl ?_
    refine u_iload_n hC dX11_costsOf_14 3 rfl rfl ?_
    obtain ⟨q15, hq15, hf⟩ := kc_some hf
    refine u_callS hC (ctX11_isOf (cL C) hC.tr (cG C) X.1 X.2.1 n S v1 s4.2  hq15) lk_X11_147 (by decide) (by decide) rfl rfl (Nat.le_of_ble_eq_true rfl) dX11_costsOf_15 ?_
    refine u_if_eq (tgt := 29) hC dX11_costsOf_18 (by decide) hf (fun h18 hf => ?_) (fun h18 hf => ?_)
    · refine u_iconst (v := (0 : Int32)) hC dX11_costsOf_29 (by decide) ?_
      refine u_sub (lv' := [(0, .ref (X.1 v0)), (1, .int v1), (3, .int s4.2)]) [0, 1, 3] rfl ?_
      exact wjX11_costsOf_30_4 hC n S v0 v1 s4.2 (0 : Int32) s4.1  hTv0 hf hN hO0
    · refine u_aload_n hC dX11_costsOf_21 0 rfl rfl ?_
      refine u_iload_n hC dX11_costsOf_22 3 rfl rfl ?_
      obtain ⟨q23, hq23, hf⟩ := kc_some hf
      refine u_callV hC (ctX11_costOf (cL C) hC.tr (cG C) X.1 X.2.1 n S v0 s4.2 hTv0 hq23) lk_X11_134 rfl hTv0 (by decide) rfl (by decide) (by decide) rfl rfl (Nat.le_of_ble_eq_true rfl) dX11_costsOf_23 ?_
      refine u_goto (tgt := 30) hC dX11_costsOf_26 (by decide) ?_
      refine u_sub (lv' := [(0, .ref (X.1 v0)), (1, .int v1), (3, .int s4.2)]) [0, 1, 3] rfl ?_
      exact wjX11_costsOf_30_4 hC n S v0 v1 s4.2 q23 s4.1  hTv0 hf hN hO0
theorem wX11_costsOf {C : CT} {X : XT} (hC : CK C RX11 cX11_costsOf 4 (some .int) 2) (n : Nat) (S : PS) (a0 : Nat) (x1_ : Int32) (hTa0 : Ty X.2.1 a0 11) {o : Int32} (hf : fX11_costsOf X.2.1 n S a0 x1_ = some o) (hR : Rt C X cX11_costsOf (some .int) (some (.int o)) S) : UW C X S 0 [(0, .ref (X.1 a0)), (1, .int x1_)] [] := by
  unfold fX11_costsOf at hf
  refine u_iconst (v := (0 : Int32)) hC dX11_costsOf_0 (by decide) ?_
  refine u_istore_n (lv' := [(2, .int (0 : Int32)), (0, .ref (X.1 a0)), (1, .int x1_)]) hC dX11_costsOf_1 rfl (by decide) rfl ?_
  refine u_iconst (v := (0 : Int32)) hC dX11_costsOf_2 (by decide) ?_
  refine u_istore_n (lv' := [(3, .int (0 : Int32)), (2, .int (0 : Int32)), (0, .ref (X.1 a0)), (1, .int x1_)]) hC dX11_costsOf_3 rfl (by decide) rfl ?_
  obtain ⟨r4, hr4, hf⟩ := kc_some hf
  have hk4 : UW C X S 38 [(2, .int r4)] [] := by
    refine u_iload_n hC dX11_costsOf_38 0 rfl rfl ?_
    cases hf
    exact hR _ _ dX11_costsOf_39 trivial
  refine u_sub (lv' := [(0, .ref (X.1 a0)), (1, .int x1_), (2, .int (0 : Int32)), (3, .int (0 : Int32))]) [2, 3, 1, 0] rfl ?_
  refine iter_ind (P := fun s4 => UW C X S 4 [(0, .ref (X.1 a0)), (1, .int x1_), (2, .int s4.1), (3, .int s4.2)] []) (fun s4 o' hb hin hout => ?_) n ((0 : Int32), (0 : Int32)) hr4
  exact wbX11_costsOf_4 hC n S a0 x1_ hTa0 s4 hb hin (fun p e => by rw [hout p e]; exact hk4)
theorem ctX11_costsOf (l : Launch) (hl : l.stackTraces = false) (G : GT) (ρ : Nat → Nat) (Y : XS) (n : Nat) (S : PS) (a0 : Nat) (x1_ : Int32) (hTa0 : Ty Y a0 11) {o : Int32} (hf : fX11_costsOf Y n S a0 x1_ = some o) : Mt l G yX11_costsOf cX11_costsOf 4 (some .int) 2 ρ Y [.ref (ρ a0), .int x1_] S (some (.int o)) S :=
  Mt_of hl (by decide) (Nat.le_of_ble_eq_true rfl) (fun C _ _ hC hR => wX11_costsOf (X := (ρ, Y, 0, 0)) hC n S a0 x1_ hTa0 hf hR)
-- X11_clear
theorem dX11_clear_0 : decode cX11_clear 0 = .ok (.aload_n 0, 1) := by decide +kernel
theorem dX11_clear_1 : decode cX11_clear 1 = .ok (.iconst 0, 1) := by decide +kernel
theorem dX11_clear_2 : decode cX11_clear 2 = .ok (.putfield 154, 3) := by decide +kernel
theorem dX11_clear_5 : decode cX11_clear 5 = .ok (.aload_n 0, 1) := by decide +kernel
theorem dX11_clear_6 : decode cX11_clear 6 = .ok (.iconst 0, 1) := by decide +kernel
theorem dX11_clear_7 : decode cX11_clear 7 = .ok (.putfield 157, 3) := by decide +kernel
theorem dX11_clear_10 : decode cX11_clear 10 = .ok (.iconst 0, 1) := by decide +kernel
theorem dX11_clear_11 : decode cX11_clear 11 = .ok (.istore_n 1, 1) := by decide +kernel
theorem dX11_clear_12 : decode cX11_clear 12 = .ok (.iload_n 1, 1) := by decide +kernel
theorem dX11_clear_13 : decode cX11_clear 13 = .ok (.aload_n 0, 1) := by decide +kernel
theorem dX11_clear_14 : decode cX11_clear 14 = .ok (.getfield 40, 3) := by decide +kernel
theorem dX11_clear_17 : decode cX11_clear 17 = .ok (.arraylength, 1) := by decide +kernel
theorem dX11_clear_18 : decode cX11_clear 18 = .ok (.if_icmp .ge 16, 3) := by decide +kernel
theorem dX11_clear_21 : decode cX11_clear 21 = .ok (.aload_n 0, 1) := by decide +kernel
theorem dX11_clear_22 : decode cX11_clear 22 = .ok (.getfield 40, 3) := by decide +kernel
theorem dX11_clear_25 : decode cX11_clear 25 = .ok (.iload_n 1, 1) := by decide +kernel
theorem dX11_clear_26 : decode cX11_clear 26 = .ok (.iconst 0, 1) := by decide +kernel
theorem dX11_clear_27 : decode cX11_clear 27 = .ok (.iastore, 1) := by decide +kernel
theorem dX11_clear_28 : decode cX11_clear 28 = .ok (.iinc 1 1, 3) := by decide +kernel
theorem dX11_clear_31 : decode cX11_clear 31 = .ok (.goto (-19), 3) := by decide +kernel
theorem dX11_clear_34 : decode cX11_clear 34 = .ok (.return_, 1) := by decide +kernel
def bX11_clear_12 (Y : XS) (n : Nat) (v0 : Nat) (s12 : (Int32 × PS)) : Option ((Int32 × PS) ⊕ PS) :=
  kgr s12.2 v0 17 (fun b14 => kln Y b14 (fun x17 => (if x17 ≤ s12.1 then some (.inr s12.2) else kgr s12.2 v0 17 (fun b22 => kwi Y s12.2 b22 s12.1 (0 : Int32) (fun S27 => some (.inl (s12.1 + (1 : Int32), S27)))))))
def fX11_clear (Y : XS) (n : Nat) (S : PS) (a0 : Nat) : Option (PS) :=
  kpi S a0 21 (0 : Int32) (fun S2 => kpi S2 a0 22 (0 : Int32) (fun S7 => kc (iter (bX11_clear_12 Y n a0) n ((0 : Int32), S7)) (fun r12 => some r12)))
theorem wbX11_clear_12 {C : CT} {X : XT} (hC : CK C RX11 cX11_clear 2 none 1) (n : Nat) (v0 : Nat) (hTv0 : Ty X.2.1 v0 11) (s12 : (Int32 × PS)) {o : (Int32 × PS) ⊕ PS} (hf : bX11_clear_12 X.2.1 n v0 s12 = some o) (hN : ∀ s', o = .inl s' → UW C X s'.2 12 [(0, .ref (X.1 v0)), (1, .int s'.1)] []) (hO0 : ∀ p', o = .inr p' → UW C X p' 34 [] []) : UW C X s12.2 12 [(0, .ref (X.1 v0)), (1, .int s12.1)] [] := by
  unfold bX11_clear_12 at hf
  refine u_iload_n hC dX11_clear_12 1 rfl rfl ?_
  refine u_aload_n hC dX11_clear_13 0 rfl rfl ?_
  refine u_gr hC lf_X11_40 rfl hTv0 dX11_clear_14 hf (fun b14 hTb14 hf => ?_)
  refine u_ln hC hTb14 dX11_clear_17 hf (fun x17 hf => ?_)
  refine u_icmp_ge (tgt := 34) hC dX11_clear_18 (by decide) hf (fun h18 hf => ?_) (fun h18 hf => ?_)
  · refine u_sub (lv' := []) [] rfl ?_
    exact hO0 _ (Option.some.inj hf).symm
  · refine u_aload_n hC dX11_clear_21 0 rfl rfl ?_
    refine u_gr hC lf_X11_40 rfl hTv0 dX11_clear_22 hf (fun b22 hTb22 hf => ?_)
    refine u_iload_n hC dX11_clear_25 1 rfl rfl ?_
    refine u_iconst (v := (0 : Int32)) hC dX11_clear_26 (by decide) ?_
    refine u_wi hC hTb22 dX11_clear_27 hf (fun S27 hf => ?_)
    refine u_iinc (v := s12.1 + (1 : Int32)) (lv' := [(1, .int (s12.1 + (1 : Int32))), (0, .ref (X.1 v0))]) hC dX11_clear_28 1 rfl rfl (by decide) rfl ?_
    refine u_goto (tgt := 12) hC dX11_clear_31 (by decide) ?_
    refine u_sub (lv' := [(0, .ref (X.1 v0)), (1, .int (s12.1 + (1 : Int32)))]) [1, 0] rfl ?_
    exact hN _ (Option.some.inj hf).symm
theorem wX11_clear {C : CT} {X : XT} (hC : CK C RX11 cX11_clear 2 none 1) (n : Nat) (S : PS) (a0 : Nat) (hTa0 : Ty X.2.1 a0 11) {o : PS} (hf : fX11_clear X.2.1 n S a0 = some o) (hR : Rt C X cX11_clear none none o) : UW C X S 0 [(0, .ref (X.1 a0))] [] := by
  unfold fX11_clear at hf
  refine u_aload_n hC dX11_clear_0 0 rfl rfl ?_
  refine u_iconst (v := (0 : Int32)) hC dX11_clear_1 (by decide) ?_
  refine u_pi hC lf_X11_154 rfl rfl rfl hTa0 dX11_clear_2 hf (fun S2 hf => ?_)
  refine u_aload_n hC dX11_clear_5 0 rfl rfl ?_
  refine u_iconst (v := (0 : Int32)) hC dX11_clear_6 (by decide) ?_
  refine u_pi hC lf_X11_157 rfl rfl rfl hTa0 dX11_clear_7 hf (fun S7 hf => ?_)
  refine u_iconst (v := (0 : Int32)) hC dX11_clear_10 (by decide) ?_
  refine u_istore_n (lv' := [(1, .int (0 : Int32)), (0, .ref (X.1 a0))]) hC dX11_clear_11 rfl (by decide) rfl ?_
  obtain ⟨r12, hr12, hf⟩ := kc_some hf
  have hk12 : UW C X r12 34 [] [] := by
    cases hf
    exact hR _ _ dX11_clear_34 trivial
  refine u_sub (lv' := [(0, .ref (X.1 a0)), (1, .int (0 : Int32))]) [1, 0] rfl ?_
  refine iter_ind (P := fun s12 => UW C X s12.2 12 [(0, .ref (X.1 a0)), (1, .int s12.1)] []) (fun s12 o' hb hin hout => ?_) n ((0 : Int32), S7) hr12
  exact wbX11_clear_12 hC n a0 hTa0 s12 hb hin (fun p e => by rw [hout p e]; exact hk12)
theorem ctX11_clear (l : Launch) (hl : l.stackTraces = false) (G : GT) (ρ : Nat → Nat) (Y : XS) (n : Nat) (S : PS) (a0 : Nat) (hTa0 : Ty Y a0 11) {o : PS} (hf : fX11_clear Y n S a0 = some o) : Mt l G yX11_clear cX11_clear 2 none 1 ρ Y [.ref (ρ a0)] S none o :=
  Mt_of hl (by decide) (Nat.le_of_ble_eq_true rfl) (fun C _ _ hC hR => wX11_clear (X := (ρ, Y, 0, 0)) hC n S a0 hTa0 hf hR)
-- X11_choose
theorem dX11_choose_0 : decode cX11_choose 0 = .ok (.aload_n 0, 1) := by decide +kernel
theorem dX11_choose_1 : decode cX11_choose 1 = .ok (.getfield 34, 3) := by decide +kernel
theorem dX11_choose_4 : decode cX11_choose 4 = .ok (.aload_n 0, 1) := by decide +kernel
theorem dX11_choose_5 : decode cX11_choose 5 = .ok (.getfield 157, 3) := by decide +kernel
theorem dX11_choose_8 : decode cX11_choose 8 = .ok (.iload_n 1, 1) := by decide +kernel
theorem dX11_choose_9 : decode cX11_choose 9 = .ok (.iastore, 1) := by decide +kernel
theorem dX11_choose_10 : decode cX11_choose 10 = .ok (.aload_n 0, 1) := by decide +kernel
theorem dX11_choose_11 : decode cX11_choose 11 = .ok (.dup, 1) := by decide +kernel
theorem dX11_choose_12 : decode cX11_choose 12 = .ok (.getfield 157, 3) := by decide +kernel
theorem dX11_choose_15 : decode cX11_choose 15 = .ok (.iconst 1, 1) := by decide +kernel
theorem dX11_choose_16 : decode cX11_choose 16 = .ok (.iadd, 1) := by decide +kernel
theorem dX11_choose_17 : decode cX11_choose 17 = .ok (.putfield 157, 3) := by decide +kernel
theorem dX11_choose_20 : decode cX11_choose 20 = .ok (.aload_n 0, 1) := by decide +kernel
theorem dX11_choose_21 : decode cX11_choose 21 = .ok (.dup, 1) := by decide +kernel
theorem dX11_choose_22 : decode cX11_choose 22 = .ok (.getfield 154, 3) := by decide +kernel
theorem dX11_choose_25 : decode cX11_choose 25 = .ok (.iconst 1, 1) := by decide +kernel
theorem dX11_choose_26 : decode cX11_choose 26 = .ok (.iload_n 1, 1) := by decide +kernel
theorem dX11_choose_27 : decode cX11_choose 27 = .ok (.ishl, 1) := by decide +kernel
theorem dX11_choose_28 : decode cX11_choose 28 = .ok (.ior, 1) := by decide +kernel
theorem dX11_choose_29 : decode cX11_choose 29 = .ok (.putfield 154, 3) := by decide +kernel
theorem dX11_choose_32 : decode cX11_choose 32 = .ok (.return_, 1) := by decide +kernel
def fX11_choose (Y : XS) (n : Nat) (S : PS) (a0 : Nat) (x1_ : Int32) : Option (PS) :=
  kgr S a0 15 (fun b1 => kgi S a0 22 (fun x5 => kwi Y S b1 x5 x1_ (fun S9 => kgi S9 a0 22 (fun x12 => kpi S9 a0 22 (x12 + (1 : Int32)) (fun S17 => kgi S17 a0 21 (fun x22 => kpi S17 a0 21 (x22 ||| ((1 : Int32) <<< (x1_ &&& 31))) (fun S29 => some S29)))))))
theorem wX11_choose {C : CT} {X : XT} (hC : CK C RX11 cX11_choose 2 none 1) (n : Nat) (S : PS) (a0 : Nat) (x1_ : Int32) (hTa0 : Ty X.2.1 a0 11) {o : PS} (hf : fX11_choose X.2.1 n S a0 x1_ = some o) (hR : Rt C X cX11_choose none none o) : UW C X S 0 [(0, .ref (X.1 a0)), (1, .int x1_)] [] := by
  unfold fX11_choose at hf
  refine u_aload_n hC dX11_choose_0 0 rfl rfl ?_
  refine u_gr hC lf_X11_34 rfl hTa0 dX11_choose_1 hf (fun b1 hTb1 hf => ?_)
  refine u_aload_n hC dX11_choose_4 0 rfl rfl ?_
  refine u_gi hC lf_X11_157 rfl hTa0 dX11_choose_5 hf (fun x5 hf => ?_)
  refine u_iload_n hC dX11_choose_8 1 rfl rfl ?_
  refine u_wi hC hTb1 dX11_choose_9 hf (fun S9 hf => ?_)
  refine u_aload_n hC dX11_choose_10 0 rfl rfl ?_
  refine u_dup hC dX11_choose_11 rfl ?_
  refine u_gi hC lf_X11_157 rfl hTa0 dX11_choose_12 hf (fun x12 hf => ?_)
  refine u_iconst (v := (1 : Int32)) hC dX11_choose_15 (by decide) ?_
  refine u_iadd hC dX11_choose_16 ?_
  refine u_pi hC lf_X11_157 rfl rfl rfl hTa0 dX11_choose_17 hf (fun S17 hf => ?_)
  refine u_aload_n hC dX11_choose_20 0 rfl rfl ?_
  refine u_dup hC dX11_choose_21 rfl ?_
  refine u_gi hC lf_X11_154 rfl hTa0 dX11_choose_22 hf (fun x22 hf => ?_)
  refine u_iconst (v := (1 : Int32)) hC dX11_choose_25 (by decide) ?_
  refine u_iload_n hC dX11_choose_26 1 rfl rfl ?_
  refine u_ishl hC dX11_choose_27 ?_
  refine u_ior hC dX11_choose_28 ?_
  refine u_pi hC lf_X11_154 rfl rfl rfl hTa0 dX11_choose_29 hf (fun S29 hf => ?_)
  cases hf
  exact hR _ _ dX11_choose_32 trivial
theorem ctX11_choose (l : Launch) (hl : l.stackTraces = false) (G : GT) (ρ : Nat → Nat) (Y : XS) (n : Nat) (S : PS) (a0 : Nat) (x1_ : Int32) (hTa0 : Ty Y a0 11) {o : PS} (hf : fX11_choose Y n S a0 x1_ = some o) : Mt l G yX11_choose cX11_choose 2 none 1 ρ Y [.ref (ρ a0), .int x1_] S none o :=
  Mt_of hl (by decide) (Nat.le_of_ble_eq_true rfl) (fun C _ _ hC hR => wX11_choose (X := (ρ, Y, 0, 0)) hC n S a0 x1_ hTa0 hf hR)
-- X11_layPurses
theorem dX11_layPurses_0 : decode cX11_layPurses 0 = .ok (.iconst 0, 1) := by decide +kernel
theorem dX11_layPurses_1 : decode cX11_layPurses 1 = .ok (.istore_n 2, 1) := by decide +kernel
theorem dX11_layPurses_2 : decode cX11_layPurses 2 = .ok (.iload_n 2, 1) := by decide +kernel
theorem dX11_layPurses_3 : decode cX11_layPurses 3 = .ok (.aload_n 0, 1) := by decide +kernel
theorem dX11_layPurses_4 : decode cX11_layPurses 4 = .ok (.invokevirtual 85, 3) := by decide +kernel
theorem dX11_layPurses_7 : decode cX11_layPurses 7 = .ok (.if_icmp .ge 32, 3) := by decide +kernel
theorem dX11_layPurses_10 : decode cX11_layPurses 10 = .ok (.aload_n 0, 1) := by decide +kernel
theorem dX11_layPurses_11 : decode cX11_layPurses 11 = .ok (.getfield 37, 3) := by decide +kernel
theorem dX11_layPurses_14 : decode cX11_layPurses 14 = .ok (.iload_n 2, 1) := by decide +kernel
theorem dX11_layPurses_15 : decode cX11_layPurses 15 = .ok (.aload_n 0, 1) := by decide +kernel
theorem dX11_layPurses_16 : decode cX11_layPurses 16 = .ok (.getfield 9, 3) := by decide +kernel
theorem dX11_layPurses_19 : decode cX11_layPurses 19 = .ok (.iconst 0, 1) := by decide +kernel
theorem dX11_layPurses_20 : decode cX11_layPurses 20 = .ok (.iaload, 1) := by decide +kernel
theorem dX11_layPurses_21 : decode cX11_layPurses 21 = .ok (.sipush 1000, 3) := by decide +kernel
theorem dX11_layPurses_24 : decode cX11_layPurses 24 = .ok (.imul, 1) := by decide +kernel
theorem dX11_layPurses_25 : decode cX11_layPurses 25 = .ok (.aload_n 0, 1) := by decide +kernel
theorem dX11_layPurses_26 : decode cX11_layPurses 26 = .ok (.invokevirtual 85, 3) := by decide +kernel
theorem dX11_layPurses_29 : decode cX11_layPurses 29 = .ok (.idiv, 1) := by decide +kernel
theorem dX11_layPurses_30 : decode cX11_layPurses 30 = .ok (.iload_n 1, 1) := by decide +kernel
theorem dX11_layPurses_31 : decode cX11_layPurses 31 = .ok (.iadd, 1) := by decide +kernel
theorem dX11_layPurses_32 : decode cX11_layPurses 32 = .ok (.iastore, 1) := by decide +kernel
theorem dX11_layPurses_33 : decode cX11_layPurses 33 = .ok (.iinc 2 1, 3) := by decide +kernel
theorem dX11_layPurses_36 : decode cX11_layPurses 36 = .ok (.goto (-34), 3) := by decide +kernel
theorem dX11_layPurses_39 : decode cX11_layPurses 39 = .ok (.return_, 1) := by decide +kernel
def bX11_layPurses_2 (Y : XS) (n : Nat) (v0 : Nat) (v1 : Int32) (s2 : (Int32 × PS)) : Option ((Int32 × PS) ⊕ PS) :=
  kc (fX11_people Y n s2.2 v0) (fun q4 => (if q4 ≤ s2.1 then some (.inr s2.2) else kgr s2.2 v0 16 (fun b11 => kgr s2.2 v0 0 (fun b16 => kai Y s2.2 b16 (0 : Int32) (fun x20 => kc (fX11_people Y n s2.2 v0) (fun q26 => kidiv (x20 * (1000 : Int32)) q26 (fun z29 => kwi Y s2.2 b11 s2.1 (z29 + v1) (fun S32 => some (.inl (s2.1 + (1 : Int32), S32))))))))))
def fX11_layPurses (Y : XS) (n : Nat) (S : PS) (a0 : Nat) (x1_ : Int32) : Option (PS) :=
  kc (iter (bX11_layPurses_2 Y n a0 x1_) n ((0 : Int32), S)) (fun r2 => some r2)
theorem wbX11_layPurses_2 {C : CT} {X : XT} (hC : CK C RX11 cX11_layPurses 3 none 2) (n : Nat) (v0 : Nat) (v1 : Int32) (hTv0 : Ty X.2.1 v0 11) (s2 : (Int32 × PS)) {o : (Int32 × PS) ⊕ PS} (hf : bX11_layPurses_2 X.2.1 n v0 v1 s2 = some o) (hN : ∀ s', o = .inl s' → UW C X s'.2 2 [(0, .ref (X.1 v0)), (1, .int v1), (2, .int s'.1)] []) (hO0 : ∀ p', o = .inr p' → UW C X p' 39 [] []) : UW C X s2.2 2 [(0, .ref (X.1 v0)), (1, .int v1), (2, .int s2.1)] [] := by
  unfold bX11_layPurses_2 at hf
  refine u_iload_n hC dX11_layPurses_2 2 rfl rfl ?_
  refine u_aload_n hC dX11_layPurses_3 0 rfl rfl ?_
  obtain ⟨q4, hq4, hf⟩ := kc_some hf
  refine u_callV hC (ctX11_people (cL C) hC.tr (cG C) X.1 X.2.1 n s2.2 v0 hTv0 hq4) lk_X11_85 rfl hTv0 (by decide) rfl (by decide) (by decide) rfl rfl (Nat.le_of_ble_eq_true rfl) dX11_layPurses_4 ?_
  refine u_icmp_ge (tgt := 39) hC dX11_layPurses_7 (by decide) hf (fun h7 hf => ?_) (fun h7 hf => ?_)
  · refine u_sub (lv' := []) [] rfl ?_
    exact hO0 _ (Option.some.inj hf).symm
  · refine u_aload_n hC dX11_layPurses_10 0 rfl rfl ?_
    refine u_gr hC lf_X11_37 rfl hTv0 dX11_layPurses_11 hf (fun b11 hTb11 hf => ?_)
    refine u_iload_n hC dX11_layPurses_14 2 rfl rfl ?_
    refine u_aload_n hC dX11_layPurses_15 0 rfl rfl ?_
    refine u_gr hC lf_X11_9 rfl hTv0 dX11_layPurses_16 hf (fun b16 hTb16 hf => ?_)
    refine u_iconst (v := (0 : Int32)) hC dX11_layPurses_19 (by decide) ?_
    refine u_ai hC hTb16 dX11_layPurses_20 hf (fun x20 hf => ?_)
    refine u_sipush (v := (1000 : Int32)) hC dX11_layPurses_21 (by decide) ?_
    refine u_imul hC dX11_layPurses_24 ?_
    refine u_aload_n hC dX11_layPurses_25 0 rfl rfl ?_
    obtain ⟨q26, hq26, hf⟩ := kc_some hf
    refine u_callV hC (ctX11_people (cL C) hC.tr (cG C) X.1 X.2.1 n s2.2 v0 hTv0 hq26) lk_X11_85 rfl hTv0 (by decide) rfl (by decide) (by decide) rfl rfl (Nat.le_of_ble_eq_true rfl) dX11_layPurses_26 ?_
    refine u_idiv hC dX11_layPurses_29 hf (fun z29 hf => ?_)
    refine u_iload_n hC dX11_layPurses_30 1 rfl rfl ?_
    refine u_iadd hC dX11_layPurses_31 ?_
    refine u_wi hC hTb11 dX11_layPurses_32 hf (fun S32 hf => ?_)
    refine u_iinc (v := s2.1 + (1 : Int32)) (lv' := [(2, .int (s2.1 + (1 : Int32))), (0, .ref (X.1 v0)), (1, .int v1)]) hC dX11_layPurses_33 2 rfl rfl (by decide) rfl ?_
    refine u_goto (tgt := 2) hC dX11_layPurses_36 (by decide) ?_
    refine u_sub (lv' := [(0, .ref (X.1 v0)), (1, .int v1), (2, .int (s2.1 + (1 : Int32)))]) [1, 2, 0] rfl ?_
    exact hN _ (Option.some.inj hf).symm
theorem wX11_layPurses {C : CT} {X : XT} (hC : CK C RX11 cX11_layPurses 3 none 2) (n : Nat) (S : PS) (a0 : Nat) (x1_ : Int32) (hTa0 : Ty X.2.1 a0 11) {o : PS} (hf : fX11_layPurses X.2.1 n S a0 x1_ = some o) (hR : Rt C X cX11_layPurses none none o) : UW C X S 0 [(0, .ref (X.1 a0)), (1, .int x1_)] [] := by
  unfold fX11_layPurses at hf
  refine u_iconst (v := (0 : Int32)) hC dX11_layPurses_0 (by decide) ?_
  refine u_istore_n (lv' := [(2, .int (0 : Int32)), (0, .ref (X.1 a0)), (1, .int x1_)]) hC dX11_layPurses_1 rfl (by decide) rfl ?_
  obtain ⟨r2, hr2, hf⟩ := kc_some hf
  have hk2 : UW C X r2 39 [] [] := by
    cases hf
    exact hR _ _ dX11_layPurses_39 trivial
  refine u_sub (lv' := [(0, .ref (X.1 a0)), (1, .int x1_), (2, .int (0 : Int32))]) [1, 2, 0] rfl ?_
  refine iter_ind (P := fun s2 => UW C X s2.2 2 [(0, .ref (X.1 a0)), (1, .int x1_), (2, .int s2.1)] []) (fun s2 o' hb hin hout => ?_) n ((0 : Int32), S) hr2
  exact wbX11_layPurses_2 hC n a0 x1_ hTa0 s2 hb hin (fun p e => by rw [hout p e]; exact hk2)
theorem ctX11_layPurses (l : Launch) (hl : l.stackTraces = false) (G : GT) (ρ : Nat → Nat) (Y : XS) (n : Nat) (S : PS) (a0 : Nat) (x1_ : Int32) (hTa0 : Ty Y a0 11) {o : PS} (hf : fX11_layPurses Y n S a0 x1_ = some o) : Mt l G yX11_layPurses cX11_layPurses 3 none 2 ρ Y [.ref (ρ a0), .int x1_] S none o :=
  Mt_of hl (by decide) (Nat.le_of_ble_eq_true rfl) (fun C _ _ hC hR => wX11_layPurses (X := (ρ, Y, 0, 0)) hC n S a0 x1_ hTa0 hf hR)
-- X11_givenBy
theorem dX11_givenBy_0 : decode cX11_givenBy 0 = .ok (.lconst 0, 1) := by decide +kernel
theorem dX11_givenBy_1 : decode cX11_givenBy 1 = .ok (.lstore 4, 2) := by decide +kernel
theorem dX11_givenBy_3 : decode cX11_givenBy 3 = .ok (.iconst 0, 1) := by decide +kernel
theorem dX11_givenBy_4 : decode cX11_givenBy 4 = .ok (.istore 6, 2) := by decide +kernel
theorem dX11_givenBy_6 : decode cX11_givenBy 6 = .ok (.iload 6, 2) := by decide +kernel
theorem dX11_givenBy_8 : decode cX11_givenBy 8 = .ok (.aload_n 0, 1) := by decide +kernel
theorem dX11_givenBy_9 : decode cX11_givenBy 9 = .ok (.invokevirtual 85, 3) := by decide +kernel
theorem dX11_givenBy_12 : decode cX11_givenBy 12 = .ok (.if_icmp .ge 40, 3) := by decide +kernel
theorem dX11_givenBy_15 : decode cX11_givenBy 15 = .ok (.lload 4, 2) := by decide +kernel
theorem dX11_givenBy_17 : decode cX11_givenBy 17 = .ok (.aload_n 0, 1) := by decide +kernel
theorem dX11_givenBy_18 : decode cX11_givenBy 18 = .ok (.getfield 37, 3) := by decide +kernel
theorem dX11_givenBy_21 : decode cX11_givenBy 21 = .ok (.iload 6, 2) := by decide +kernel
theorem dX11_givenBy_23 : decode cX11_givenBy 23 = .ok (.iaload, 1) := by decide +kernel
theorem dX11_givenBy_24 : decode cX11_givenBy 24 = .ok (.i2l, 1) := by decide +kernel
theorem dX11_givenBy_25 : decode cX11_givenBy 25 = .ok (.lload_n 2, 1) := by decide +kernel
theorem dX11_givenBy_26 : decode cX11_givenBy 26 = .ok (.aload_n 0, 1) := by decide +kernel
theorem dX11_givenBy_27 : decode cX11_givenBy 27 = .ok (.getfield 25, 3) := by decide +kernel
theorem dX11_givenBy_30 : decode cX11_givenBy 30 = .ok (.bipush 12, 2) := by decide +kernel
theorem dX11_givenBy_32 : decode cX11_givenBy 32 = .ok (.iload 6, 2) := by decide +kernel
theorem dX11_givenBy_34 : decode cX11_givenBy 34 = .ok (.imul, 1) := by decide +kernel
theorem dX11_givenBy_35 : decode cX11_givenBy 35 = .ok (.iload_n 1, 1) := by decide +kernel
theorem dX11_givenBy_36 : decode cX11_givenBy 36 = .ok (.iadd, 1) := by decide +kernel
theorem dX11_givenBy_37 : decode cX11_givenBy 37 = .ok (.iaload, 1) := by decide +kernel
theorem dX11_givenBy_38 : decode cX11_givenBy 38 = .ok (.i2l, 1) := by decide +kernel
theorem dX11_givenBy_39 : decode cX11_givenBy 39 = .ok (.lmul, 1) := by decide +kernel
theorem dX11_givenBy_40 : decode cX11_givenBy 40 = .ok (.invokestatic 166, 3) := by decide +kernel
theorem dX11_givenBy_43 : decode cX11_givenBy 43 = .ok (.ladd, 1) := by decide +kernel
theorem dX11_givenBy_44 : decode cX11_givenBy 44 = .ok (.lstore 4, 2) := by decide +kernel
theorem dX11_givenBy_46 : decode cX11_givenBy 46 = .ok (.iinc 6 1, 3) := by decide +kernel
theorem dX11_givenBy_49 : decode cX11_givenBy 49 = .ok (.goto (-43), 3) := by decide +kernel
theorem dX11_givenBy_52 : decode cX11_givenBy 52 = .ok (.lload 4, 2) := by decide +kernel
theorem dX11_givenBy_54 : decode cX11_givenBy 54 = .ok (.lreturn, 1) := by decide +kernel
def bX11_givenBy_6 (Y : XS) (n : Nat) (S : PS) (v0 : Nat) (v1 : Int32) (v2 : Int64) (s6 : (Int64 × Int32)) : Option ((Int64 × Int32) ⊕ Int64) :=
  kc (fX11_people Y n S v0) (fun q9 => (if q9 ≤ s6.2 then some (.inr s6.1) else kgr S v0 16 (fun b18 => kai Y S b18 s6.2 (fun x23 => kgr S v0 12 (fun b27 => kai Y S b27 (((12 : Int32) * s6.2) + v1) (fun x37 => some (.inl (s6.1 + (lmin (Int32.toInt64 x23) (v2 * (Int32.toInt64 x37))), s6.2 + (1 : Int32)))))))))
def fX11_givenBy (Y : XS) (n : Nat) (S : PS) (a0 : Nat) (x1_ : Int32) (x2_ : Int64) : Option (Int64) :=
  kc (iter (bX11_givenBy_6 Y n S a0 x1_ x2_) n ((0 : Int64), (0 : Int32))) (fun r6 => some r6)
theorem wbX11_givenBy_6 {C : CT} {X : XT} (hC : CK C RX11 cX11_givenBy 7 (some .long) 2) (n : Nat) (S : PS) (v0 : Nat) (v1 : Int32) (v2 : Int64) (hTv0 : Ty X.2.1 v0 11) (s6 : (Int64 × Int32)) {o : (Int64 × Int32) ⊕ Int64} (hf : bX11_givenBy_6 X.2.1 n S v0 v1 v2 s6 = some o) (hN : ∀ s', o = .inl s' → UW C X S 6 [(0, .ref (X.1 v0)), (1, .int v1), (2, .long v2), (4, .long s'.1), (6, .int s'.2)] []) (hO0 : ∀ p', o = .inr p' → UW C X S 52 [(4, .long p')] []) : UW C X S 6 [(0, .ref (X.1 v0)), (1, .int v1), (2, .long v2), (4, .long s6.1), (6, .int s6.2)] [] := by
  unfold bX11_givenBy_6 at hf
  refine u_iload hC dX11_givenBy_6 4 rfl ?_
  refine u_aload_n hC dX11_givenBy_8 0 rfl rfl ?_
  obtain ⟨q9, hq9, hf⟩ := kc_some hf
  refine u_callV hC (ctX11_people (cL C) hC.tr (cG C) X.1 X.2.1 n S v0 hTv0 hq9) lk_X11_85 rfl hTv0 (by decide) rfl (by decide) (by decide) rfl rfl (Nat.le_of_ble_eq_true rfl) dX11_givenBy_9 ?_
  refine u_icmp_ge (tgt := 52) hC dX11_givenBy_12 (by decide) hf (fun h12 hf => ?_) (fun h12 hf => ?_)
  · refine u_sub (lv' := [(4, .long s6.1)]) [3] rfl ?_
    exact hO0 _ (Option.some.inj hf).symm
  · refine u_lload hC dX11_givenBy_15 3 rfl ?_
    refine u_aload_n hC dX11_givenBy_17 0 rfl rfl ?_
    refine u_gr hC lf_X11_37 rfl hTv0 dX11_givenBy_18 hf (fun b18 hTb18 hf => ?_)
    refine u_iload hC dX11_givenBy_21 4 rfl ?_
    refine u_ai hC hTb18 dX11_givenBy_23 hf (fun x23 hf => ?_)
    refine u_i2l hC dX11_givenBy_24 ?_
    refine u_lload_n hC dX11_givenBy_25 2 rfl rfl ?_
    refine u_aload_n hC dX11_givenBy_26 0 rfl rfl ?_
    refine u_gr hC lf_X11_25 rfl hTv0 dX11_givenBy_27 hf (fun b27 hTb27 hf => ?_)
    refine u_bipush (v := (12 : Int32)) hC dX11_givenBy_30 (by decide) ?_
    refine u_iload hC dX11_givenBy_32 4 rfl ?_
    refine u_imul hC dX11_givenBy_34 ?_
    refine u_iload_n hC dX11_givenBy_35 1 rfl rfl ?_
    refine u_iadd hC dX11_givenBy_36 ?_
    refine u_ai hC hTb27 dX11_givenBy_37 hf (fun x37 hf => ?_)
    refine u_i2l hC dX11_givenBy_38 ?_
    refine u_lmul hC dX11_givenBy_39 ?_
    refine u_mminl hC (tb_7 35 rfl rfl) (by decide) (Nat.le_of_ble_eq_true rfl) dX11_givenBy_40 ?_
    refine u_ladd hC dX11_givenBy_43 ?_
    refine u_lstore (lv' := [(4, .long (s6.1 + (lmin (Int32.toInt64 x23) (v2 * (Int32.toInt64 x37))))), (0, .ref (X.1 v0)), (1, .int v1), (2, .long v2), (6, .int s6.2)]) hC dX11_givenBy_44 (by decide) rfl ?_
    refine u_iinc (v := s6.2 + (1 : Int32)) (lv' := [(6, .int (s6.2 + (1 : Int32))), (4, .long (s6.1 + (lmin (Int32.toInt64 x23) (v2 * (Int32.toInt64 x37))))), (0, .ref (X.1 v0)), (1, .int v1), (2, .long v2)]) hC dX11_givenBy_46 4 rfl rfl (by decide) rfl ?_
    refine u_goto (tgt := 6) hC dX11_givenBy_49 (by decide) ?_
    refine u_sub (lv' := [(0, .ref (X.1 v0)), (1, .int v1), (2, .long v2), (4, .long (s6.1 + (lmin (Int32.toInt64 x23) (v2 * (Int32.toInt64 x37))))), (6, .int (s6.2 + (1 : Int32)))]) [2, 3, 4, 1, 0] rfl ?_
    exact hN _ (Option.some.inj hf).symm
theorem wX11_givenBy {C : CT} {X : XT} (hC : CK C RX11 cX11_givenBy 7 (some .long) 2) (n : Nat) (S : PS) (a0 : Nat) (x1_ : Int32) (x2_ : Int64) (hTa0 : Ty X.2.1 a0 11) {o : Int64} (hf : fX11_givenBy X.2.1 n S a0 x1_ x2_ = some o) (hR : Rt C X cX11_givenBy (some .long) (some (.long o)) S) : UW C X S 0 [(0, .ref (X.1 a0)), (1, .int x1_), (2, .long x2_)] [] := by
  unfold fX11_givenBy at hf
  refine u_lconst (v := (0 : Int64)) hC dX11_givenBy_0 (by decide) ?_
  refine u_lstore (lv' := [(4, .long (0 : Int64)), (0, .ref (X.1 a0)), (1, .int x1_), (2, .long x2_)]) hC dX11_givenBy_1 (by decide) rfl ?_
  refine u_iconst (v := (0 : Int32)) hC dX11_givenBy_3 (by decide) ?_
  refine u_istore (lv' := [(6, .int (0 : Int32)), (4, .long (0 : Int64)), (0, .ref (X.1 a0)), (1, .int x1_), (2, .long x2_)]) hC dX11_givenBy_4 (by decide) rfl ?_
  obtain ⟨r6, hr6, hf⟩ := kc_some hf
  have hk6 : UW C X S 52 [(4, .long r6)] [] := by
    refine u_lload hC dX11_givenBy_52 0 rfl ?_
    cases hf
    exact hR _ _ dX11_givenBy_54 trivial
  refine u_sub (lv' := [(0, .ref (X.1 a0)), (1, .int x1_), (2, .long x2_), (4, .long (0 : Int64)), (6, .int (0 : Int32))]) [2, 3, 4, 1, 0] rfl ?_
  refine iter_ind (P := fun s6 => UW C X S 6 [(0, .ref (X.1 a0)), (1, .int x1_), (2, .long x2_), (4, .long s6.1), (6, .int s6.2)] []) (fun s6 o' hb hin hout => ?_) n ((0 : Int64), (0 : Int32)) hr6
  exact wbX11_givenBy_6 hC n S a0 x1_ x2_ hTa0 s6 hb hin (fun p e => by rw [hout p e]; exact hk6)
theorem ctX11_givenBy (l : Launch) (hl : l.stackTraces = false) (G : GT) (ρ : Nat → Nat) (Y : XS) (n : Nat) (S : PS) (a0 : Nat) (x1_ : Int32) (x2_ : Int64) (hTa0 : Ty Y a0 11) {o : Int64} (hf : fX11_givenBy Y n S a0 x1_ x2_ = some o) : Mt l G yX11_givenBy cX11_givenBy 7 (some .long) 2 ρ Y [.ref (ρ a0), .int x1_, .long x2_] S (some (.long o)) S :=
  Mt_of hl (by decide) (Nat.le_of_ble_eq_true rfl) (fun C _ _ hC hR => wX11_givenBy (X := (ρ, Y, 0, 0)) hC n S a0 x1_ x2_ hTa0 hf hR)
-- X11_priceOf
theorem dX11_priceOf_0 : decode cX11_priceOf 0 = .ok (.ldc2_w 160, 3) := by decide +kernel
theorem dX11_priceOf_3 : decode cX11_priceOf 3 = .ok (.aload_n 0, 1) := by decide +kernel
theorem dX11_priceOf_4 : decode cX11_priceOf 4 = .ok (.iload_n 1, 1) := by decide +kernel
theorem dX11_priceOf_5 : decode cX11_priceOf 5 = .ok (.invokevirtual 134, 3) := by decide +kernel
theorem dX11_priceOf_8 : decode cX11_priceOf 8 = .ok (.i2l, 1) := by decide +kernel
theorem dX11_priceOf_9 : decode cX11_priceOf 9 = .ok (.lmul, 1) := by decide +kernel
theorem dX11_priceOf_10 : decode cX11_priceOf 10 = .ok (.lstore_n 2, 1) := by decide +kernel
theorem dX11_priceOf_11 : decode cX11_priceOf 11 = .ok (.lconst 0, 1) := by decide +kernel
theorem dX11_priceOf_12 : decode cX11_priceOf 12 = .ok (.lstore 4, 2) := by decide +kernel
theorem dX11_priceOf_14 : decode cX11_priceOf 14 = .ok (.iconst 0, 1) := by decide +kernel
theorem dX11_priceOf_15 : decode cX11_priceOf 15 = .ok (.istore 6, 2) := by decide +kernel
theorem dX11_priceOf_17 : decode cX11_priceOf 17 = .ok (.iload 6, 2) := by decide +kernel
theorem dX11_priceOf_19 : decode cX11_priceOf 19 = .ok (.aload_n 0, 1) := by decide +kernel
theorem dX11_priceOf_20 : decode cX11_priceOf 20 = .ok (.invokevirtual 85, 3) := by decide +kernel
theorem dX11_priceOf_23 : decode cX11_priceOf 23 = .ok (.if_icmp .ge 68, 3) := by decide +kernel
theorem dX11_priceOf_26 : decode cX11_priceOf 26 = .ok (.aload_n 0, 1) := by decide +kernel
theorem dX11_priceOf_27 : decode cX11_priceOf 27 = .ok (.getfield 52, 3) := by decide +kernel
theorem dX11_priceOf_30 : decode cX11_priceOf 30 = .ok (.iload 6, 2) := by decide +kernel
theorem dX11_priceOf_32 : decode cX11_priceOf 32 = .ok (.aload_n 0, 1) := by decide +kernel
theorem dX11_priceOf_33 : decode cX11_priceOf 33 = .ok (.getfield 25, 3) := by decide +kernel
theorem dX11_priceOf_36 : decode cX11_priceOf 36 = .ok (.bipush 12, 2) := by decide +kernel
theorem dX11_priceOf_38 : decode cX11_priceOf 38 = .ok (.iload 6, 2) := by decide +kernel
theorem dX11_priceOf_40 : decode cX11_priceOf 40 = .ok (.imul, 1) := by decide +kernel
theorem dX11_priceOf_41 : decode cX11_priceOf 41 = .ok (.iload_n 1, 1) := by decide +kernel
theorem dX11_priceOf_42 : decode cX11_priceOf 42 = .ok (.iadd, 1) := by decide +kernel
theorem dX11_priceOf_43 : decode cX11_priceOf 43 = .ok (.iaload, 1) := by decide +kernel
theorem dX11_priceOf_44 : decode cX11_priceOf 44 = .ok (.ifCond .ne 7, 3) := by decide +kernel
theorem dX11_priceOf_47 : decode cX11_priceOf 47 = .ok (.iconst 1, 1) := by decide +kernel
theorem dX11_priceOf_48 : decode cX11_priceOf 48 = .ok (.goto 4, 3) := by decide +kernel
theorem dX11_priceOf_51 : decode cX11_priceOf 51 = .ok (.iconst 0, 1) := by decide +kernel
theorem dX11_priceOf_52 : decode cX11_priceOf 52 = .ok (.bastore, 1) := by decide +kernel
theorem dX11_priceOf_53 : decode cX11_priceOf 53 = .ok (.lload 4, 2) := by decide +kernel
theorem dX11_priceOf_55 : decode cX11_priceOf 55 = .ok (.aload_n 0, 1) := by decide +kernel
theorem dX11_priceOf_56 : decode cX11_priceOf 56 = .ok (.getfield 52, 3) := by decide +kernel
theorem dX11_priceOf_59 : decode cX11_priceOf 59 = .ok (.iload 6, 2) := by decide +kernel
theorem dX11_priceOf_61 : decode cX11_priceOf 61 = .ok (.baload, 1) := by decide +kernel
theorem dX11_priceOf_62 : decode cX11_priceOf 62 = .ok (.ifCond .eq 7, 3) := by decide +kernel
theorem dX11_priceOf_65 : decode cX11_priceOf 65 = .ok (.lconst 0, 1) := by decide +kernel
theorem dX11_priceOf_66 : decode cX11_priceOf 66 = .ok (.goto 16, 3) := by decide +kernel
theorem dX11_priceOf_69 : decode cX11_priceOf 69 = .ok (.aload_n 0, 1) := by decide +kernel
theorem dX11_priceOf_70 : decode cX11_priceOf 70 = .ok (.getfield 25, 3) := by decide +kernel
theorem dX11_priceOf_73 : decode cX11_priceOf 73 = .ok (.bipush 12, 2) := by decide +kernel
theorem dX11_priceOf_75 : decode cX11_priceOf 75 = .ok (.iload 6, 2) := by decide +kernel
theorem dX11_priceOf_77 : decode cX11_priceOf 77 = .ok (.imul, 1) := by decide +kernel
theorem dX11_priceOf_78 : decode cX11_priceOf 78 = .ok (.iload_n 1, 1) := by decide +kernel
theorem dX11_priceOf_79 : decode cX11_priceOf 79 = .ok (.iadd, 1) := by decide +kernel
theorem dX11_priceOf_80 : decode cX11_priceOf 80 = .ok (.iaload, 1) := by decide +kernel
theorem dX11_priceOf_81 : decode cX11_priceOf 81 = .ok (.i2l, 1) := by decide +kernel
theorem dX11_priceOf_82 : decode cX11_priceOf 82 = .ok (.ladd, 1) := by decide +kernel
theorem dX11_priceOf_83 : decode cX11_priceOf 83 = .ok (.lstore 4, 2) := by decide +kernel
theorem dX11_priceOf_85 : decode cX11_priceOf 85 = .ok (.iinc 6 1, 3) := by decide +kernel
theorem dX11_priceOf_88 : decode cX11_priceOf 88 = .ok (.goto (-71), 3) := by decide +kernel
theorem dX11_priceOf_91 : decode cX11_priceOf 91 = .ok (.lload 4, 2) := by decide +kernel
theorem dX11_priceOf_93 : decode cX11_priceOf 93 = .ok (.lconst 0, 1) := by decide +kernel
theorem dX11_priceOf_94 : decode cX11_priceOf 94 = .ok (.lcmp, 1) := by decide +kernel
theorem dX11_priceOf_95 : decode cX11_priceOf 95 = .ok (.ifCond .le 138, 3) := by decide +kernel
theorem dX11_priceOf_98 : decode cX11_priceOf 98 = .ok (.lload_n 2, 1) := by decide +kernel
theorem dX11_priceOf_99 : decode cX11_priceOf 99 = .ok (.lload 4, 2) := by decide +kernel
theorem dX11_priceOf_101 : decode cX11_priceOf 101 = .ok (.ladd, 1) := by decide +kernel
theorem dX11_priceOf_102 : decode cX11_priceOf 102 = .ok (.lconst 1, 1) := by decide +kernel
theorem dX11_priceOf_103 : decode cX11_priceOf 103 = .ok (.lsub, 1) := by decide +kernel
theorem dX11_priceOf_104 : decode cX11_priceOf 104 = .ok (.lload 4, 2) := by decide +kernel
theorem dX11_priceOf_106 : decode cX11_priceOf 106 = .ok (.ldiv, 1) := by decide +kernel
theorem dX11_priceOf_107 : decode cX11_priceOf 107 = .ok (.lstore 6, 2) := by decide +kernel
theorem dX11_priceOf_109 : decode cX11_priceOf 109 = .ok (.aload_n 0, 1) := by decide +kernel
theorem dX11_priceOf_110 : decode cX11_priceOf 110 = .ok (.iload_n 1, 1) := by decide +kernel
theorem dX11_priceOf_111 : decode cX11_priceOf 111 = .ok (.lload 6, 2) := by decide +kernel
theorem dX11_priceOf_113 : decode cX11_priceOf 113 = .ok (.invokevirtual 162, 3) := by decide +kernel
theorem dX11_priceOf_116 : decode cX11_priceOf 116 = .ok (.ldc2_w 160, 3) := by decide +kernel
theorem dX11_priceOf_119 : decode cX11_priceOf 119 = .ok (.aload_n 0, 1) := by decide +kernel
theorem dX11_priceOf_120 : decode cX11_priceOf 120 = .ok (.iload_n 1, 1) := by decide +kernel
theorem dX11_priceOf_121 : decode cX11_priceOf 121 = .ok (.invokevirtual 134, 3) := by decide +kernel
theorem dX11_priceOf_124 : decode cX11_priceOf 124 = .ok (.i2l, 1) := by decide +kernel
theorem dX11_priceOf_125 : decode cX11_priceOf 125 = .ok (.lmul, 1) := by decide +kernel
theorem dX11_priceOf_126 : decode cX11_priceOf 126 = .ok (.lcmp, 1) := by decide +kernel
theorem dX11_priceOf_127 : decode cX11_priceOf 127 = .ok (.ifCond .lt 7, 3) := by decide +kernel
theorem dX11_priceOf_130 : decode cX11_priceOf 130 = .ok (.lload 6, 2) := by decide +kernel
theorem dX11_priceOf_132 : decode cX11_priceOf 132 = .ok (.l2i, 1) := by decide +kernel
theorem dX11_priceOf_133 : decode cX11_priceOf 133 = .ok (.ireturn, 1) := by decide +kernel
theorem dX11_priceOf_134 : decode cX11_priceOf 134 = .ok (.iconst 0, 1) := by decide +kernel
theorem dX11_priceOf_135 : decode cX11_priceOf 135 = .ok (.istore 8, 2) := by decide +kernel
theorem dX11_priceOf_137 : decode cX11_priceOf 137 = .ok (.iload 8, 2) := by decide +kernel
theorem dX11_priceOf_139 : decode cX11_priceOf 139 = .ok (.aload_n 0, 1) := by decide +kernel
theorem dX11_priceOf_140 : decode cX11_priceOf 140 = .ok (.invokevirtual 85, 3) := by decide +kernel
theorem dX11_priceOf_143 : decode cX11_priceOf 143 = .ok (.if_icmp .ge 87, 3) := by decide +kernel
theorem dX11_priceOf_146 : decode cX11_priceOf 146 = .ok (.aload_n 0, 1) := by decide +kernel
theorem dX11_priceOf_147 : decode cX11_priceOf 147 = .ok (.getfield 52, 3) := by decide +kernel
theorem dX11_priceOf_150 : decode cX11_priceOf 150 = .ok (.iload 8, 2) := by decide +kernel
theorem dX11_priceOf_152 : decode cX11_priceOf 152 = .ok (.baload, 1) := by decide +kernel
theorem dX11_priceOf_153 : decode cX11_priceOf 153 = .ok (.ifCond .ne 71, 3) := by decide +kernel
theorem dX11_priceOf_156 : decode cX11_priceOf 156 = .ok (.aload_n 0, 1) := by decide +kernel
theorem dX11_priceOf_157 : decode cX11_priceOf 157 = .ok (.getfield 37, 3) := by decide +kernel
theorem dX11_priceOf_160 : decode cX11_priceOf 160 = .ok (.iload 8, 2) := by decide +kernel
theorem dX11_priceOf_162 : decode cX11_priceOf 162 = .ok (.iaload, 1) := by decide +kernel
theorem dX11_priceOf_163 : decode cX11_priceOf 163 = .ok (.i2l, 1) := by decide +kernel
theorem dX11_priceOf_164 : decode cX11_priceOf 164 = .ok (.lload 6, 2) := by decide +kernel
theorem dX11_priceOf_166 : decode cX11_priceOf 166 = .ok (.aload_n 0, 1) := by decide +kernel
theorem dX11_priceOf_167 : decode cX11_priceOf 167 = .ok (.getfield 25, 3) := by decide +kernel
theorem dX11_priceOf_170 : decode cX11_priceOf 170 = .ok (.bipush 12, 2) := by decide +kernel
theorem dX11_priceOf_172 : decode cX11_priceOf 172 = .ok (.iload 8, 2) := by decide +kernel
theorem dX11_priceOf_174 : decode cX11_priceOf 174 = .ok (.imul, 1) := by decide +kernel
theorem dX11_priceOf_175 : decode cX11_priceOf 175 = .ok (.iload_n 1, 1) := by decide +kernel
theorem dX11_priceOf_176 : decode cX11_priceOf 176 = .ok (.iadd, 1) := by decide +kernel
theorem dX11_priceOf_177 : decode cX11_priceOf 177 = .ok (.iaload, 1) := by decide +kernel
theorem dX11_priceOf_178 : decode cX11_priceOf 178 = .ok (.i2l, 1) := by decide +kernel
theorem dX11_priceOf_179 : decode cX11_priceOf 179 = .ok (.lmul, 1) := by decide +kernel
theorem dX11_priceOf_180 : decode cX11_priceOf 180 = .ok (.lcmp, 1) := by decide +kernel
theorem dX11_priceOf_181 : decode cX11_priceOf 181 = .ok (.ifCond .lt 6, 3) := by decide +kernel
theorem dX11_priceOf_184 : decode cX11_priceOf 184 = .ok (.goto 40, 3) := by decide +kernel
theorem dX11_priceOf_187 : decode cX11_priceOf 187 = .ok (.aload_n 0, 1) := by decide +kernel
theorem dX11_priceOf_188 : decode cX11_priceOf 188 = .ok (.getfield 52, 3) := by decide +kernel
theorem dX11_priceOf_191 : decode cX11_priceOf 191 = .ok (.iload 8, 2) := by decide +kernel
theorem dX11_priceOf_193 : decode cX11_priceOf 193 = .ok (.iconst 1, 1) := by decide +kernel
theorem dX11_priceOf_194 : decode cX11_priceOf 194 = .ok (.bastore, 1) := by decide +kernel
theorem dX11_priceOf_195 : decode cX11_priceOf 195 = .ok (.lload_n 2, 1) := by decide +kernel
theorem dX11_priceOf_196 : decode cX11_priceOf 196 = .ok (.aload_n 0, 1) := by decide +kernel
theorem dX11_priceOf_197 : decode cX11_priceOf 197 = .ok (.getfield 37, 3) := by decide +kernel
theorem dX11_priceOf_200 : decode cX11_priceOf 200 = .ok (.iload 8, 2) := by decide +kernel
theorem dX11_priceOf_202 : decode cX11_priceOf 202 = .ok (.iaload, 1) := by decide +kernel
theorem dX11_priceOf_203 : decode cX11_priceOf 203 = .ok (.i2l, 1) := by decide +kernel
theorem dX11_priceOf_204 : decode cX11_priceOf 204 = .ok (.lsub, 1) := by decide +kernel
theorem dX11_priceOf_205 : decode cX11_priceOf 205 = .ok (.lstore_n 2, 1) := by decide +kernel
theorem dX11_priceOf_206 : decode cX11_priceOf 206 = .ok (.lload 4, 2) := by decide +kernel
theorem dX11_priceOf_208 : decode cX11_priceOf 208 = .ok (.aload_n 0, 1) := by decide +kernel
theorem dX11_priceOf_209 : decode cX11_priceOf 209 = .ok (.getfield 25, 3) := by decide +kernel
theorem dX11_priceOf_212 : decode cX11_priceOf 212 = .ok (.bipush 12, 2) := by decide +kernel
theorem dX11_priceOf_214 : decode cX11_priceOf 214 = .ok (.iload 8, 2) := by decide +kernel
theorem dX11_priceOf_216 : decode cX11_priceOf 216 = .ok (.imul, 1) := by decide +kernel
theorem dX11_priceOf_217 : decode cX11_priceOf 217 = .ok (.iload_n 1, 1) := by decide +kernel
theorem dX11_priceOf_218 : decode cX11_priceOf 218 = .ok (.iadd, 1) := by decide +kernel
theorem dX11_priceOf_219 : decode cX11_priceOf 219 = .ok (.iaload, 1) := by decide +kernel
theorem dX11_priceOf_220 : decode cX11_priceOf 220 = .ok (.i2l, 1) := by decide +kernel
theorem dX11_priceOf_221 : decode cX11_priceOf 221 = .ok (.lsub, 1) := by decide +kernel
theorem dX11_priceOf_222 : decode cX11_priceOf 222 = .ok (.lstore 4, 2) := by decide +kernel
theorem dX11_priceOf_224 : decode cX11_priceOf 224 = .ok (.iinc 8 1, 3) := by decide +kernel
theorem dX11_priceOf_227 : decode cX11_priceOf 227 = .ok (.goto (-90), 3) := by decide +kernel
theorem dX11_priceOf_230 : decode cX11_priceOf 230 = .ok (.goto (-139), 3) := by decide +kernel
theorem dX11_priceOf_233 : decode cX11_priceOf 233 = .ok (.iconst (-1), 1) := by decide +kernel
theorem dX11_priceOf_234 : decode cX11_priceOf 234 = .ok (.ireturn, 1) := by decide +kernel
def jX11_priceOf_82_17 (Y : XS) (n : Nat) (S : PS) (v0 : Nat) (v1 : Int32) (v2 : Int64) (v6 : Int32) (t0 : Int64) (t1 : Int64) : Option ((Int64 × Int32 × PS) ⊕ (Int64 × PS)) :=
  some (.inl (t1 + t0, v6 + (1 : Int32), S))
def jX11_priceOf_52_17 (Y : XS) (n : Nat) (S : PS) (v0 : Nat) (v1 : Int32) (v2 : Int64) (v4 : Int64) (v6 : Int32) (t0 : Int32) (t1 : Int32) (t2 : Nat) : Option ((Int64 × Int32 × PS) ⊕ (Int64 × PS)) :=
  kwz Y S t2 t1 t0 (fun S52 => kgr S52 v0 24 (fun b56 => kai Y S52 b56 v6 (fun x61 => (if x61 = 0 then kgr S52 v0 12 (fun b70 => kai Y S52 b70 (((12 : Int32) * v6) + v1) (fun x80 => jX11_priceOf_82_17 Y n S52 v0 v1 v2 v6 (Int32.toInt64 x80) v4)) else jX11_priceOf_82_17 Y n S52 v0 v1 v2 v6 (0 : Int64) v4))))
def bX11_priceOf_17 (Y : XS) (n : Nat) (v0 : Nat) (v1 : Int32) (v2 : Int64) (s17 : (Int64 × Int32 × PS)) : Option ((Int64 × Int32 × PS) ⊕ (Int64 × PS)) :=
  kc (fX11_people Y n s17.2.2 v0) (fun q20 => (if q20 ≤ s17.2.1 then some (.inr (s17.1, s17.2.2)) else kgr s17.2.2 v0 24 (fun b27 => kgr s17.2.2 v0 12 (fun b33 => kai Y s17.2.2 b33 (((12 : Int32) * s17.2.1) + v1) (fun x43 => (if x43 = 0 then jX11_priceOf_52_17 Y n s17.2.2 v0 v1 v2 s17.1 s17.2.1 (1 : Int32) s17.2.1 b27 else jX11_priceOf_52_17 Y n s17.2.2 v0 v1 v2 s17.1 s17.2.1 (0 : Int32) s17.2.1 b27))))))
def jX11_priceOf_224_137 (Y : XS) (n : Nat) (S : PS) (v0 : Nat) (v1 : Int32) (v2 : Int64) (v4 : Int64) (v6 : Int64) (v8 : Int32) : Option ((Int64 × Int64 × Int32 × PS) ⊕ (Int64 × Int64 × PS)) :=
  some (.inl (v2, v4, v8 + (1 : Int32), S))
def bX11_priceOf_137 (Y : XS) (n : Nat) (v0 : Nat) (v1 : Int32) (v6 : Int64) (s137 : (Int64 × Int64 × Int32 × PS)) : Option ((Int64 × Int64 × Int32 × PS) ⊕ (Int64 × Int64 × PS)) :=
  kc (fX11_people Y n s137.2.2.2 v0) (fun q140 => (if q140 ≤ s137.2.2.1 then some (.inr (s137.1, s137.2.1, s137.2.2.2)) else kgr s137.2.2.2 v0 24 (fun b147 => kai Y s137.2.2.2 b147 s137.2.2.1 (fun x152 => (if x152 = 0 then kgr s137.2.2.2 v0 16 (fun b157 => kai Y s137.2.2.2 b157 s137.2.2.1 (fun x162 => kgr s137.2.2.2 v0 12 (fun b167 => kai Y s137.2.2.2 b167 (((12 : Int32) * s137.2.2.1) + v1) (fun x177 => (if (lg_cmp (Int32.toInt64 x162) (v6 * (Int32.toInt64 x177))) < 0 then kgr s137.2.2.2 v0 24 (fun b188 => kwz Y s137.2.2.2 b188 s137.2.2.1 (1 : Int32) (fun S194 => kgr S194 v0 16 (fun b197 => kai Y S194 b197 s137.2.2.1 (fun x202 => kgr S194 v0 12 (fun b209 => kai Y S194 b209 (((12 : Int32) * s137.2.2.1) + v1) (fun x219 => jX11_priceOf_224_137 Y n S194 v0 v1 (s137.1 - (Int32.toInt64 x202)) (s137.2.1 - (Int32.toInt64 x219)) v6 s137.2.2.1)))))) else jX11_priceOf_224_137 Y n s137.2.2.2 v0 v1 s137.1 s137.2.1 v6 s137.2.2.1))))) else jX11_priceOf_224_137 Y n s137.2.2.2 v0 v1 s137.1 s137.2.1 v6 s137.2.2.1)))))
def bX11_priceOf_91 (Y : XS) (n : Nat) (v0 : Nat) (v1 : Int32) (s91 : (Int64 × Int64 × PS)) : Option ((Int64 × Int64 × PS) ⊕ (PS ⊕ (Int32 × PS))) :=
  (if (lg_cmp s91.2.1 (0 : Int64)) ≤ 0 then some (.inr (.inl s91.2.2)) else kldiv ((s91.1 + s91.2.1) - (1 : Int64)) s91.2.1 (fun z106 => kc (fX11_givenBy Y n s91.2.2 v0 v1 z106) (fun q113 => kc (fX11_costOf Y n s91.2.2 v0 v1) (fun q121 => (if (lg_cmp q113 ((1000 : Int64) * (Int32.toInt64 q121))) < 0 then kc (iter (bX11_priceOf_137 Y n v0 v1 z106) n (s91.1, s91.2.1, (0 : Int32), s91.2.2)) (fun r137 => some (.inl (r137.1, r137.2.1, r137.2.2))) else some (.inr (.inr (Int64.toInt32 z106, s91.2.2))))))))
def fX11_priceOf (Y : XS) (n : Nat) (S : PS) (a0 : Nat) (x1_ : Int32) : Option (Int32 × PS) :=
  kc (fX11_costOf Y n S a0 x1_) (fun q5 => kc (iter (bX11_priceOf_17 Y n a0 x1_ ((1000 : Int64) * (Int32.toInt64 q5))) n ((0 : Int64), (0 : Int32), S)) (fun r17 => kc (iter (bX11_priceOf_91 Y n a0 x1_) n ((1000 : Int64) * (Int32.toInt64 q5), r17.1, r17.2)) (fun r91 => ks r91 (fun p91_0 => some ((-1 : Int32), p91_0)) (fun p91_1 => some p91_1))))
theorem wjX11_priceOf_82_17 {C : CT} {X : XT} (hC : CK C RX11 cX11_priceOf 9 (some .int) 3) (n : Nat) (S : PS) (v0 : Nat) (v1 : Int32) (v2 : Int64) (v6 : Int32) (t0 : Int64) (t1 : Int64)  (hTv0 : Ty X.2.1 v0 11) {o : (Int64 × Int32 × PS) ⊕ (Int64 × PS)} (hf : jX11_priceOf_82_17 X.2.1 n S v0 v1 v2 v6 t0 t1 = some o) (hN : ∀ s', o = .inl s' → UW C X s'.2.2 17 [(0, .ref (X.1 v0)), (1, .int v1), (2, .long v2), (4, .long s'.1), (6, .int s'.2.1)] []) (hO0 : ∀ p', o = .inr p' → UW C X p'.2 91 [(0, .ref (X.1 v0)), (1, .int v1), (2, .long v2), (4, .long p'.1)] []) : UW C X S 82 [(0, .ref (X.1 v0)), (1, .int v1), (2, .long v2), (6, .int v6)] [.long t0, .long t1] := by
  unfold jX11_priceOf_82_17 at hf
  refine u_ladd hC dX11_priceOf_82 ?_
  refine u_lstore (lv' := [(4, .long (t1 + t0)), (0, .ref (X.1 v0)), (1, .int v1), (2, .long v2), (6, .int v6)]) hC dX11_priceOf_83 (by decide) rfl ?_
  refine u_iinc (v := v6 + (1 : Int32)) (lv' := [(6, .int (v6 + (1 : Int32))), (4, .long (t1 + t0)), (0, .ref (X.1 v0)), (1, .int v1), (2, .long v2)]) hC dX11_priceOf_85 4 rfl rfl (by decide) rfl ?_
  refine u_goto (tgt := 17) hC dX11_priceOf_88 (by decide) ?_
  refine u_sub (lv' := [(0, .ref (X.1 v0)), (1, .int v1), (2, .long v2), (4, .long (t1 + t0)), (6, .int (v6 + (1 : Int32)))]) [2, 3, 4, 1, 0] rfl ?_
  exact hN _ (Option.some.inj hf).symm
theorem wjX11_priceOf_52_17 {C : CT} {X : XT} (hC : CK C RX11 cX11_priceOf 9 (some .int) 3) (n : Nat) (S : PS) (v0 : Nat) (v1 : Int32) (v2 : Int64) (v4 : Int64) (v6 : Int32) (t0 : Int32) (t1 : Int32) (t2 : Nat)  (hTv0 : Ty X.2.1 v0 11) (hTt2 : Ty X.2.1 t2 14) {o : (Int64 × Int32 × PS) ⊕ (Int64 × PS)} (hf : jX11_priceOf_52_17 X.2.1 n S v0 v1 v2 v4 v6 t0 t1 t2 = some o) (hN : ∀ s', o = .inl s' → UW C X s'.2.2 17 [(0, .ref (X.1 v0)), (1, .int v1), (2, .long v2), (4, .long s'.1), (6, .int s'.2.1)] []) (hO0 : ∀ p', o = .inr p' → UW C X p'.2 91 [(0, .ref (X.1 v0)), (1, .int v1), (2, .long v2), (4, .long p'.1)] []) : UW C X S 52 [(0, .ref (X.1 v0)), (1, .int v1), (2, .long v2), (4, .long v4), (6, .int v6)] [.int t0, .int t1, .ref (X.1 t2)] := by
  unfold jX11_priceOf_52_17 at hf
  refine u_wz hC hTt2 dX11_priceOf_52 hf (fun S52 hf => ?_)
  refine u_lload hC dX11_priceOf_53 3 rfl ?_
  refine u_aload_n hC dX11_priceOf_55 0 rfl rfl ?_
  refine u_gr hC lf_X11_52 rfl hTv0 dX11_priceOf_56 hf (fun b56 hTb56 hf => ?_)
  refine u_iload hC dX11_priceOf_59 4 rfl ?_
  refine u_az hC hTb56 dX11_priceOf_61 hf (fun x61 hf => ?_)
  refine u_if_eq (tgt := 69) hC dX11_priceOf_62 (by decide) hf (fun h62 hf => ?_) (fun h62 hf => ?_)
  · refine u_aload_n hC dX11_priceOf_69 0 rfl rfl ?_
    refine u_gr hC lf_X11_25 rfl hTv0 dX11_priceOf_70 hf (fun b70 hTb70 hf => ?_)
    refine u_bipush (v := (12 : Int32)) hC dX11_priceOf_73 (by decide) ?_
    refine u_iload hC dX11_priceOf_75 4 rfl ?_
    refine u_imul hC dX11_priceOf_77 ?_
    refine u_iload_n hC dX11_priceOf_78 1 rfl rfl ?_
    refine u_iadd hC dX11_priceOf_79 ?_
    refine u_ai hC hTb70 dX11_priceOf_80 hf (fun x80 hf => ?_)
    refine u_i2l hC dX11_priceOf_81 ?_
    refine u_sub (lv' := [(0, .ref (X.1 v0)), (1, .int v1), (2, .long v2), (6, .int v6)]) [0, 1, 2, 4] rfl ?_
    exact wjX11_priceOf_82_17 hC n S52 v0 v1 v2 v6 (Int32.toInt64 x80) v4  hTv0 hf hN hO0
  · refine u_lconst (v := (0 : Int64)) hC dX11_priceOf_65 (by decide) ?_
    refine u_goto (tgt := 82) hC dX11_priceOf_66 (by decide) ?_
    refine u_sub (lv' := [(0, .ref (X.1 v0)), (1, .int v1), (2, .long v2), (6, .int v6)]) [0, 1, 2, 4] rfl ?_
    exact wjX11_priceOf_82_17 hC n S52 v0 v1 v2 v6 (0 : Int64) v4  hTv0 hf hN hO0
theorem wbX11_priceOf_17 {C : CT} {X : XT} (hC : CK C RX11 cX11_priceOf 9 (some .int) 3) (n : Nat) (v0 : Nat) (v1 : Int32) (v2 : Int64) (hTv0 : Ty X.2.1 v0 11) (s17 : (Int64 × Int32 × PS)) {o : (Int64 × Int32 × PS) ⊕ (Int64 × PS)} (hf : bX11_priceOf_17 X.2.1 n v0 v1 v2 s17 = some o) (hN : ∀ s', o = .inl s' → UW C X s'.2.2 17 [(0, .ref (X.1 v0)), (1, .int v1), (2, .long v2), (4, .long s'.1), (6, .int s'.2.1)] []) (hO0 : ∀ p', o = .inr p' → UW C X p'.2 91 [(0, .ref (X.1 v0)), (1, .int v1), (2, .long v2), (4, .long p'.1)] []) : UW C X s17.2.2 17 [(0, .ref (X.1 v0)), (1, .int v1), (2, .long v2), (4, .long s17.1), (6, .int s17.2.1)] [] := by
  unfold bX11_priceOf_17 at hf
  refine u_iload hC dX11_priceOf_17 4 rfl ?_
  refine u_aload_n hC dX11_priceOf_19 0 rfl rfl ?_
  obtain ⟨q20, hq20, hf⟩ := kc_some hf
  refine u_callV hC (ctX11_people (cL C) hC.tr (cG C) X.1 X.2.1 n s17.2.2 v0 hTv0 hq20) lk_X11_85 rfl hTv0 (by decide) rfl (by decide) (by decide) rfl rfl (Nat.le_of_ble_eq_true rfl) dX11_priceOf_20 ?_
  refine u_icmp_ge (tgt := 91) hC dX11_priceOf_23 (by decide) hf (fun h23 hf => ?_) (fun h23 hf => ?_)
  · refine u_sub (lv' := [(0, .ref (X.1 v0)), (1, .int v1), (2, .long v2), (4, .long s17.1)]) [0, 1, 2, 3] rfl ?_
    exact hO0 _ (Option.some.inj hf).symm
  · refine u_aload_n hC dX11_priceOf_26 0 rfl rfl ?_
    refine u_gr hC lf_X11_52 rfl hTv0 dX11_priceOf_27 hf (fun b27 hTb27 hf => ?_)
    refine u_iload hC dX11_priceOf_30 4 rfl ?_
    refine u_aload_n hC dX11_priceOf_32 0 rfl rfl ?_
    refine u_gr hC lf_X11_25 rfl hTv0 dX11_priceOf_33 hf (fun b33 hTb33 hf => ?_)
    refine u_bipush (v := (12 : Int32)) hC dX11_priceOf_36 (by decide) ?_
    refine u_iload hC dX11_priceOf_38 4 rfl ?_
    refine u_imul hC dX11_priceOf_40 ?_
    refine u_iload_n hC dX11_priceOf_41 1 rfl rfl ?_
    refine u_iadd hC dX11_priceOf_42 ?_
    refine u_ai hC hTb33 dX11_priceOf_43 hf (fun x43 hf => ?_)
    refine u_if_ne (tgt := 51) hC dX11_priceOf_44 (by decide) hf (fun h44 hf => ?_) (fun h44 hf => ?_)
    · refine u_iconst (v := (0 : Int32)) hC dX11_priceOf_51 (by decide) ?_
      exact wjX11_priceOf_52_17 hC n s17.2.2 v0 v1 v2 s17.1 s17.2.1 (0 : Int32) s17.2.1 b27  hTv0 hTb27 hf hN hO0
    · refine u_iconst (v := (1 : Int32)) hC dX11_priceOf_47 (by decide) ?_
      refine u_goto (tgt := 52) hC dX11_priceOf_48 (by decide) ?_
      exact wjX11_priceOf_52_17 hC n s17.2.2 v0 v1 v2 s17.1 s17.2.1 (1 : Int32) s17.2.1 b27  hTv0 hTb27 hf hN hO0
theorem wjX11_priceOf_224_137 {C : CT} {X : XT} (hC : CK C RX11 cX11_priceOf 9 (some .int) 3) (n : Nat) (S : PS) (v0 : Nat) (v1 : Int32) (v2 : Int64) (v4 : Int64) (v6 : Int64) (v8 : Int32)  (hTv0 : Ty X.2.1 v0 11) {o : (Int64 × Int64 × Int32 × PS) ⊕ (Int64 × Int64 × PS)} (hf : jX11_priceOf_224_137 X.2.1 n S v0 v1 v2 v4 v6 v8 = some o) (hN : ∀ s', o = .inl s' → UW C X s'.2.2.2 137 [(0, .ref (X.1 v0)), (1, .int v1), (2, .long s'.1), (4, .long s'.2.1), (6, .long v6), (8, .int s'.2.2.1)] []) (hO0 : ∀ p', o = .inr p' → UW C X p'.2.2 230 [(0, .ref (X.1 v0)), (1, .int v1), (2, .long p'.1), (4, .long p'.2.1)] []) : UW C X S 224 [(0, .ref (X.1 v0)), (1, .int v1), (2, .long v2), (4, .long v4), (6, .long v6), (8, .int v8)] [] := by
  unfold jX11_priceOf_224_137 at hf
  refine u_iinc (v := v8 + (1 : Int32)) (lv' := [(8, .int (v8 + (1 : Int32))), (0, .ref (X.1 v0)), (1, .int v1), (2, .long v2), (4, .long v4), (6, .long v6)]) hC dX11_priceOf_224 5 rfl rfl (by decide) rfl ?_
  refine u_goto (tgt := 137) hC dX11_priceOf_227 (by decide) ?_
  refine u_sub (lv' := [(0, .ref (X.1 v0)), (1, .int v1), (2, .long v2), (4, .long v4), (6, .long v6), (8, .int (v8 + (1 : Int32)))]) [1, 2, 3, 4, 5, 0] rfl ?_
  exact hN _ (Option.some.inj hf).symm
theorem wbX11_priceOf_137 {C : CT} {X : XT} (hC : CK C RX11 cX11_priceOf 9 (some .int) 3) (n : Nat) (v0 : Nat) (v1 : Int32) (v6 : Int64) (hTv0 : Ty X.2.1 v0 11) (s137 : (Int64 × Int64 × Int32 × PS)) {o : (Int64 × Int64 × Int32 × PS) ⊕ (Int64 × Int64 × PS)} (hf : bX11_priceOf_137 X.2.1 n v0 v1 v6 s137 = some o) (hN : ∀ s', o = .inl s' → UW C X s'.2.2.2 137 [(0, .ref (X.1 v0)), (1, .int v1), (2, .long s'.1), (4, .long s'.2.1), (6, .long v6), (8, .int s'.2.2.1)] []) (hO0 : ∀ p', o = .inr p' → UW C X p'.2.2 230 [(0, .ref (X.1 v0)), (1, .int v1), (2, .long p'.1), (4, .long p'.2.1)] []) : UW C X s137.2.2.2 137 [(0, .ref (X.1 v0)), (1, .int v1), (2, .long s137.1), (4, .long s137.2.1), (6, .long v6), (8, .int s137.2.2.1)] [] := by
  unfold bX11_priceOf_137 at hf
  refine u_iload hC dX11_priceOf_137 5 rfl ?_
  refine u_aload_n hC dX11_priceOf_139 0 rfl rfl ?_
  obtain ⟨q140, hq140, hf⟩ := kc_some hf
  refine u_callV hC (ctX11_people (cL C) hC.tr (cG C) X.1 X.2.1 n s137.2.2.2 v0 hTv0 hq140) lk_X11_85 rfl hTv0 (by decide) rfl (by decide) (by decide) rfl rfl (Nat.le_of_ble_eq_true rfl) dX11_priceOf_140 ?_
  refine u_icmp_ge (tgt := 230) hC dX11_priceOf_143 (by decide) hf (fun h143 hf => ?_) (fun h143 hf => ?_)
  · refine u_sub (lv' := [(0, .ref (X.1 v0)), (1, .int v1), (2, .long s137.1), (4, .long s137.2.1)]) [0, 1, 2, 3] rfl ?_
    exact hO0 _ (Option.some.inj hf).symm
  · refine u_aload_n hC dX11_priceOf_146 0 rfl rfl ?_
    refine u_gr hC lf_X11_52 rfl hTv0 dX11_priceOf_147 hf (fun b147 hTb147 hf => ?_)
    refine u_iload hC dX11_priceOf_150 5 rfl ?_
    refine u_az hC hTb147 dX11_priceOf_152 hf (fun x152 hf => ?_)
    refine u_if_ne (tgt := 224) hC dX11_priceOf_153 (by decide) hf (fun h153 hf => ?_) (fun h153 hf => ?_)
    · exact wjX11_priceOf_224_137 hC n s137.2.2.2 v0 v1 s137.1 s137.2.1 v6 s137.2.2.1  hTv0 hf hN hO0
    · refine u_aload_n hC dX11_priceOf_156 0 rfl rfl ?_
      refine u_gr hC lf_X11_37 rfl hTv0 dX11_priceOf_157 hf (fun b157 hTb157 hf => ?_)
      refine u_iload hC dX11_priceOf_160 5 rfl ?_
      refine u_ai hC hTb157 dX11_priceOf_162 hf (fun x162 hf => ?_)
      refine u_i2l hC dX11_priceOf_163 ?_
      refine u_lload hC dX11_priceOf_164 4 rfl ?_
      refine u_aload_n hC dX11_priceOf_166 0 rfl rfl ?_
      refine u_gr hC lf_X11_25 rfl hTv0 dX11_priceOf_167 hf (fun b167 hTb167 hf => ?_)
      refine u_bipush (v := (12 : Int32)) hC dX11_priceOf_170 (by decide) ?_
      refine u_iload hC dX11_priceOf_172 5 rfl ?_
      refine u_imul hC dX11_priceOf_174 ?_
      refine u_iload_n hC dX11_priceOf_175 1 rfl rfl ?_
      refine u_iadd hC dX11_priceOf_176 ?_
      refine u_ai hC hTb167 dX11_priceOf_177 hf (fun x177 hf => ?_)
      refine u_i2l hC dX11_priceOf_178 ?_
      refine u_lmul hC dX11_priceOf_179 ?_
      refine u_lcmp hC dX11_priceOf_180 ?_
      refine u_if_lt (tgt := 187) hC dX11_priceOf_181 (by decide) hf (fun h181 hf => ?_) (fun h181 hf => ?_)
      · refine u_aload_n hC dX11_priceOf_187 0 rfl rfl ?_
        refine u_gr hC lf_X11_52 rfl hTv0 dX11_priceOf_188 hf (fun b188 hTb188 hf => ?_)
        refine u_iload hC dX11_priceOf_191 5 rfl ?_
        refine u_iconst (v := (1 : Int32)) hC dX11_priceOf_193 (by decide) ?_
        refine u_wz hC hTb188 dX11_priceOf_194 hf (fun S194 hf => ?_)
        refine u_lload_n hC dX11_priceOf_195 2 rfl rfl ?_
        refine u_aload_n hC dX11_priceOf_196 0 rfl rfl ?_
        refine u_gr hC lf_X11_37 rfl hTv0 dX11_priceOf_197 hf (fun b197 hTb197 hf => ?_)
        refine u_iload hC dX11_priceOf_200 5 rfl ?_
        refine u_ai hC hTb197 dX11_priceOf_202 hf (fun x202 hf => ?_)
        refine u_i2l hC dX11_priceOf_203 ?_
        refine u_lsub hC dX11_priceOf_204 ?_
        refine u_lstore_n (lv' := [(2, .long (s137.1 - (Int32.toInt64 x202))), (0, .ref (X.1 v0)), (1, .int v1), (4, .long s137.2.1), (6, .long v6), (8, .int s137.2.2.1)]) hC dX11_priceOf_205 rfl (by decide) rfl ?_
        refine u_lload hC dX11_priceOf_206 3 rfl ?_
        refine u_aload_n hC dX11_priceOf_208 1 rfl rfl ?_
        refine u_gr hC lf_X11_25 rfl hTv0 dX11_priceOf_209 hf (fun b209 hTb209 hf => ?_)
        refine u_bipush (v := (12 : Int32)) hC dX11_priceOf_212 (by decide) ?_
        refine u_iload hC dX11_priceOf_214 5 rfl ?_
        refine u_imul hC dX11_priceOf_216 ?_
        refine u_iload_n hC dX11_priceOf_217 2 rfl rfl ?_
        refine u_iadd hC dX11_priceOf_218 ?_
        refine u_ai hC hTb209 dX11_priceOf_219 hf (fun x219 hf => ?_)
        refine u_i2l hC dX11_priceOf_220 ?_
        refine u_lsub hC dX11_priceOf_221 ?_
        refine u_lstore (lv' := [(4, .long (s137.2.1 - (Int32.toInt64 x219))), (2, .long (s137.1 - (Int32.toInt64 x202))), (0, .ref (X.1 v0)), (1, .int v1), (6, .long v6), (8, .int s137.2.2.1)]) hC dX11_priceOf_222 (by decide) rfl ?_
        refine u_sub (lv' := [(0, .ref (X.1 v0)), (1, .int v1), (2, .long (s137.1 - (Int32.toInt64 x202))), (4, .long (s137.2.1 - (Int32.toInt64 x219))), (6, .long v6), (8, .int s137.2.2.1)]) [2, 3, 1, 0, 4, 5] rfl ?_
        exact wjX11_priceOf_224_137 hC n S194 v0 v1 (s137.1 - (Int32.toInt64 x202)) (s137.2.1 - (Int32.toInt64 x219)) v6 s137.2.2.1  hTv0 hf hN hO0
      · refine u_goto (tgt := 224) hC dX11_priceOf_184 (by decide) ?_
        exact wjX11_priceOf_224_137 hC n s137.2.2.2 v0 v1 s137.1 s137.2.1 v6 s137.2.2.1  hTv0 hf hN hO0
theorem wbX11_priceOf_91 {C : CT} {X : XT} (hC : CK C RX11 cX11_priceOf 9 (some .int) 3) (n : Nat) (v0 : Nat) (v1 : Int32) (hTv0 : Ty X.2.1 v0 11) (s91 : (Int64 × Int64 × PS)) {o : (Int64 × Int64 × PS) ⊕ (PS ⊕ (Int32 × PS))} (hf : bX11_priceOf_91 X.2.1 n v0 v1 s91 = some o) (hN : ∀ s', o = .inl s' → UW C X s'.2.2 91 [(0, .ref (X.1 v0)), (1, .int v1), (2, .long s'.1), (4, .long s'.2.1)] []) (hO0 : ∀ p', o = .inr (.inl p') → UW C X p' 233 [] []) (hR : ∀ q', o = .inr (.inr q') → Rt C X cX11_priceOf (some .int) (some (.int q'.1)) q'.2) : UW C X s91.2.2 91 [(0, .ref (X.1 v0)), (1, .int v1), (2, .long s91.1), (4, .long s91.2.1)] [] := by
  unfold bX11_priceOf_91 at hf
  refine u_lload hC dX11_priceOf_91 3 rfl ?_
  refine u_lconst (v := (0 : Int64)) hC dX11_priceOf_93 (by decide) ?_
  refine u_lcmp hC dX11_priceOf_94 ?_
  refine u_if_le (tgt := 233) hC dX11_priceOf_95 (by decide) hf (fun h95 hf => ?_) (fun h95 hf => ?_)
  · refine u_sub (lv' := []) [] rfl ?_
    exact hO0 _ (Option.some.inj hf).symm
  · refine u_lload_n hC dX11_priceOf_98 2 rfl rfl ?_
    refine u_lload hC dX11_priceOf_99 3 rfl ?_
    refine u_ladd hC dX11_priceOf_101 ?_
    refine u_lconst (v := (1 : Int64)) hC dX11_priceOf_102 (by decide) ?_
    refine u_lsub hC dX11_priceOf_103 ?_
    refine u_lload hC dX11_priceOf_104 3 rfl ?_
    refine u_ldiv hC dX11_priceOf_106 hf (fun z106 hf => ?_)
    refine u_lstore (lv' := [(6, .long z106), (0, .ref (X.1 v0)), (1, .int v1), (2, .long s91.1), (4, .long s91.2.1)]) hC dX11_priceOf_107 (by decide) rfl ?_
    refine u_aload_n hC dX11_priceOf_109 1 rfl rfl ?_
    refine u_iload_n hC dX11_priceOf_110 2 rfl rfl ?_
    refine u_lload hC dX11_priceOf_111 0 rfl ?_
    obtain ⟨q113, hq113, hf⟩ := kc_some hf
    refine u_callV hC (ctX11_givenBy (cL C) hC.tr (cG C) X.1 X.2.1 n s91.2.2 v0 v1 z106 hTv0 hq113) lk_X11_162 rfl hTv0 (by decide) rfl (by decide) (by decide) rfl rfl (Nat.le_of_ble_eq_true rfl) dX11_priceOf_113 ?_
    refine u_ldc2 (v := (1000 : Int64)) hC dX11_priceOf_116 (tb_7 30 rfl rfl) ?_
    refine u_aload_n hC dX11_priceOf_119 1 rfl rfl ?_
    refine u_iload_n hC dX11_priceOf_120 2 rfl rfl ?_
    obtain ⟨q121, hq121, hf⟩ := kc_some hf
    refine u_callV hC (ctX11_costOf (cL C) hC.tr (cG C) X.1 X.2.1 n s91.2.2 v0 v1 hTv0 hq121) lk_X11_134 rfl hTv0 (by decide) rfl (by decide) (by decide) rfl rfl (Nat.le_of_ble_eq_true rfl) dX11_priceOf_121 ?_
    refine u_i2l hC dX11_priceOf_124 ?_
    refine u_lmul hC dX11_priceOf_125 ?_
    refine u_lcmp hC dX11_priceOf_126 ?_
    refine u_if_lt (tgt := 134) hC dX11_priceOf_127 (by decide) hf (fun h127 hf => ?_) (fun h127 hf => ?_)
    · refine u_iconst (v := (0 : Int32)) hC dX11_priceOf_134 (by decide) ?_
      refine u_istore (lv' := [(8, .int (0 : Int32)), (6, .long z106), (0, .ref (X.1 v0)), (1, .int v1), (2, .long s91.1), (4, .long s91.2.1)]) hC dX11_priceOf_135 (by decide) rfl ?_
      obtain ⟨r137, hr137, hf⟩ := kc_some hf
      have hk137 : UW C X r137.2.2 230 [(0, .ref (X.1 v0)), (1, .int v1), (2, .long r137.1), (4, .long r137.2.1)] [] := by
        refine u_goto (tgt := 91) hC dX11_priceOf_230 (by decide) ?_
        exact hN _ (Option.some.inj hf).symm
      refine u_sub (lv' := [(0, .ref (X.1 v0)), (1, .int v1), (2, .long s91.1), (4, .long s91.2.1), (6, .long z106), (8, .int (0 : Int32))]) [2, 3, 4, 5, 1, 0] rfl ?_
      refine iter_ind (P := fun s137 => UW C X s137.2.2.2 137 [(0, .ref (X.1 v0)), (1, .int v1), (2, .long s137.1), (4, .long s137.2.1), (6, .long z106), (8, .int s137.2.2.1)] []) (fun s137 o' hb hin hout => ?_) n (s91.1, s91.2.1, (0 : Int32), s91.2.2) hr137
      exact wbX11_priceOf_137 hC n v0 v1 z106 hTv0 s137 hb hin (fun p e => by rw [hout p e]; exact hk137)
    · refine u_lload hC dX11_priceOf_130 0 rfl ?_
      refine u_l2i hC dX11_priceOf_132 ?_
      exact hR _ (Option.some.inj hf).symm _ _ dX11_priceOf_133 trivial
theorem wX11_priceOf {C : CT} {X : XT} (hC : CK C RX11 cX11_priceOf 9 (some .int) 3) (n : Nat) (S : PS) (a0 : Nat) (x1_ : Int32) (hTa0 : Ty X.2.1 a0 11) {o : Int32 × PS} (hf : fX11_priceOf X.2.1 n S a0 x1_ = some o) (hR : Rt C X cX11_priceOf (some .int) (some (.int o.1)) o.2) : UW C X S 0 [(0, .ref (X.1 a0)), (1, .int x1_)] [] := by
  unfold fX11_priceOf at hf
  refine u_ldc2 (v := (1000 : Int64)) hC dX11_priceOf_0 (tb_7 30 rfl rfl) ?_
  refine u_aload_n hC dX11_priceOf_3 0 rfl rfl ?_
  refine u_iload_n hC dX11_priceOf_4 1 rfl rfl ?_
  obtain ⟨q5, hq5, hf⟩ := kc_some hf
  refine u_callV hC (ctX11_costOf (cL C) hC.tr (cG C) X.1 X.2.1 n S a0 x1_ hTa0 hq5) lk_X11_134 rfl hTa0 (by decide) rfl (by decide) (by decide) rfl rfl (Nat.le_of_ble_eq_true rfl) dX11_priceOf_5 ?_
  refine u_i2l hC dX11_priceOf_8 ?_
  refine u_lmul hC dX11_priceOf_9 ?_
  refine u_lstore_n (lv' := [(2, .long ((1000 : Int64) * (Int32.toInt64 q5))), (0, .ref (X.1 a0)), (1, .int x1_)]) hC dX11_priceOf_10 rfl (by decide) rfl ?_
  refine u_lconst (v := (0 : Int64)) hC dX11_priceOf_11 (by decide) ?_
  refine u_lstore (lv' := [(4, .long (0 : Int64)), (2, .long ((1000 : Int64) * (Int32.toInt64 q5))), (0, .ref (X.1 a0)), (1, .int x1_)]) hC dX11_priceOf_12 (by decide) rfl ?_
  refine u_iconst (v := (0 : Int32)) hC dX11_priceOf_14 (by decide) ?_
  refine u_istore (lv' := [(6, .int (0 : Int32)), (4, .long (0 : Int64)), (2, .long ((1000 : Int64) * (Int32.toInt64 q5))), (0, .ref (X.1 a0)), (1, .int x1_)]) hC dX11_priceOf_15 (by decide) rfl ?_
  obtain ⟨r17, hr17, hf⟩ := kc_some hf
  have hk17 : UW C X r17.2 91 [(0, .ref (X.1 a0)), (1, .int x1_), (2, .long ((1000 : Int64) * (Int32.toInt64 q5))), (4, .long r17.1)] [] := by
    obtain ⟨r91, hr91, hf⟩ := kc_some hf
    have hk91_0 : ∀ p91_0, r91 = (.inl p91_0) → UW C X p91_0 233 [] [] := by
      intro p91_0 he
      subst he
      have hf := ks_l hf
      refine u_iconst (v := (-1 : Int32)) hC dX11_priceOf_233 (by decide) ?_
      cases hf
      exact hR _ _ dX11_priceOf_234 trivial
    have hk91_1 : ∀ p91_1, r91 = (.inr p91_1) → Rt C X cX11_priceOf (some .int) (some (.int p91_1.1)) p91_1.2 := by
      intro p91_1 he
      subst he
      have hf := ks_r hf
      cases hf
      exact hR
    refine iter_ind (P := fun s91 => UW C X s91.2.2 91 [(0, .ref (X.1 a0)), (1, .int x1_), (2, .long s91.1), (4, .long s91.2.1)] []) (fun s91 o' hb hin hout => ?_) n ((1000 : Int64) * (Int32.toInt64 q5), r17.1, r17.2) hr91
    exact wbX11_priceOf_91 hC n a0 x1_ hTa0 s91 hb hin (fun p e => hk91_0 p (hout _ e).symm) (fun p e => hk91_1 p (hout _ e).symm)
  refine u_sub (lv' := [(0, .ref (X.1 a0)), (1, .int x1_), (2, .long ((1000 : Int64) * (Int32.toInt64 q5))), (4, .long (0 : Int64)), (6, .int (0 : Int32))]) [3, 4, 2, 1, 0] rfl ?_
  refine iter_ind (P := fun s17 => UW C X s17.2.2 17 [(0, .ref (X.1 a0)), (1, .int x1_), (2, .long ((1000 : Int64) * (Int32.toInt64 q5))), (4, .long s17.1), (6, .int s17.2.1)] []) (fun s17 o' hb hin hout => ?_) n ((0 : Int64), (0 : Int32), S) hr17
  exact wbX11_priceOf_17 hC n a0 x1_ ((1000 : Int64) * (Int32.toInt64 q5)) hTa0 s17 hb hin (fun p e => by rw [hout p e]; exact hk17)
theorem ctX11_priceOf (l : Launch) (hl : l.stackTraces = false) (G : GT) (ρ : Nat → Nat) (Y : XS) (n : Nat) (S : PS) (a0 : Nat) (x1_ : Int32) (hTa0 : Ty Y a0 11) {o : Int32 × PS} (hf : fX11_priceOf Y n S a0 x1_ = some o) : Mt l G yX11_priceOf cX11_priceOf 9 (some .int) 3 ρ Y [.ref (ρ a0), .int x1_] S (some (.int o.1)) o.2 :=
  Mt_of hl (by decide) (Nat.le_of_ble_eq_true rfl) (fun C _ _ hC hR => wX11_priceOf (X := (ρ, Y, 0, 0)) hC n S a0 x1_ hTa0 hf hR)
-- X11_pay
theorem dX11_pay_0 : decode cX11_pay 0 = .ok (.sipush 1000, 3) := by decide +kernel
theorem dX11_pay_3 : decode cX11_pay 3 = .ok (.aload_n 0, 1) := by decide +kernel
theorem dX11_pay_4 : decode cX11_pay 4 = .ok (.iload_n 1, 1) := by decide +kernel
theorem dX11_pay_5 : decode cX11_pay 5 = .ok (.invokevirtual 134, 3) := by decide +kernel
theorem dX11_pay_8 : decode cX11_pay 8 = .ok (.imul, 1) := by decide +kernel
theorem dX11_pay_9 : decode cX11_pay 9 = .ok (.istore_n 3, 1) := by decide +kernel
theorem dX11_pay_10 : decode cX11_pay 10 = .ok (.aload_n 0, 1) := by decide +kernel
theorem dX11_pay_11 : decode cX11_pay 11 = .ok (.getfield 46, 3) := by decide +kernel
theorem dX11_pay_14 : decode cX11_pay 14 = .ok (.aload_n 0, 1) := by decide +kernel
theorem dX11_pay_15 : decode cX11_pay 15 = .ok (.getfield 157, 3) := by decide +kernel
theorem dX11_pay_18 : decode cX11_pay 18 = .ok (.iconst 0, 1) := by decide +kernel
theorem dX11_pay_19 : decode cX11_pay 19 = .ok (.iastore, 1) := by decide +kernel
theorem dX11_pay_20 : decode cX11_pay 20 = .ok (.aload_n 0, 1) := by decide +kernel
theorem dX11_pay_21 : decode cX11_pay 21 = .ok (.getfield 49, 3) := by decide +kernel
theorem dX11_pay_24 : decode cX11_pay 24 = .ok (.aload_n 0, 1) := by decide +kernel
theorem dX11_pay_25 : decode cX11_pay 25 = .ok (.getfield 157, 3) := by decide +kernel
theorem dX11_pay_28 : decode cX11_pay 28 = .ok (.iconst 0, 1) := by decide +kernel
theorem dX11_pay_29 : decode cX11_pay 29 = .ok (.iastore, 1) := by decide +kernel
theorem dX11_pay_30 : decode cX11_pay 30 = .ok (.aload_n 0, 1) := by decide +kernel
theorem dX11_pay_31 : decode cX11_pay 31 = .ok (.getfield 43, 3) := by decide +kernel
theorem dX11_pay_34 : decode cX11_pay 34 = .ok (.aload_n 0, 1) := by decide +kernel
theorem dX11_pay_35 : decode cX11_pay 35 = .ok (.getfield 157, 3) := by decide +kernel
theorem dX11_pay_38 : decode cX11_pay 38 = .ok (.iload_n 2, 1) := by decide +kernel
theorem dX11_pay_39 : decode cX11_pay 39 = .ok (.iastore, 1) := by decide +kernel
theorem dX11_pay_40 : decode cX11_pay 40 = .ok (.iconst 0, 1) := by decide +kernel
theorem dX11_pay_41 : decode cX11_pay 41 = .ok (.istore 4, 2) := by decide +kernel
theorem dX11_pay_43 : decode cX11_pay 43 = .ok (.iload 4, 2) := by decide +kernel
theorem dX11_pay_45 : decode cX11_pay 45 = .ok (.aload_n 0, 1) := by decide +kernel
theorem dX11_pay_46 : decode cX11_pay 46 = .ok (.invokevirtual 85, 3) := by decide +kernel
theorem dX11_pay_49 : decode cX11_pay 49 = .ok (.if_icmp .ge 135, 3) := by decide +kernel
theorem dX11_pay_52 : decode cX11_pay 52 = .ok (.iload_n 3, 1) := by decide +kernel
theorem dX11_pay_53 : decode cX11_pay 53 = .ok (.i2l, 1) := by decide +kernel
theorem dX11_pay_54 : decode cX11_pay 54 = .ok (.aload_n 0, 1) := by decide +kernel
theorem dX11_pay_55 : decode cX11_pay 55 = .ok (.getfield 37, 3) := by decide +kernel
theorem dX11_pay_58 : decode cX11_pay 58 = .ok (.iload 4, 2) := by decide +kernel
theorem dX11_pay_60 : decode cX11_pay 60 = .ok (.iaload, 1) := by decide +kernel
theorem dX11_pay_61 : decode cX11_pay 61 = .ok (.i2l, 1) := by decide +kernel
theorem dX11_pay_62 : decode cX11_pay 62 = .ok (.iload_n 2, 1) := by decide +kernel
theorem dX11_pay_63 : decode cX11_pay 63 = .ok (.i2l, 1) := by decide +kernel
theorem dX11_pay_64 : decode cX11_pay 64 = .ok (.aload_n 0, 1) := by decide +kernel
theorem dX11_pay_65 : decode cX11_pay 65 = .ok (.getfield 25, 3) := by decide +kernel
theorem dX11_pay_68 : decode cX11_pay 68 = .ok (.bipush 12, 2) := by decide +kernel
theorem dX11_pay_70 : decode cX11_pay 70 = .ok (.iload 4, 2) := by decide +kernel
theorem dX11_pay_72 : decode cX11_pay 72 = .ok (.imul, 1) := by decide +kernel
theorem dX11_pay_73 : decode cX11_pay 73 = .ok (.iload_n 1, 1) := by decide +kernel
theorem dX11_pay_74 : decode cX11_pay 74 = .ok (.iadd, 1) := by decide +kernel
theorem dX11_pay_75 : decode cX11_pay 75 = .ok (.iaload, 1) := by decide +kernel
theorem dX11_pay_76 : decode cX11_pay 76 = .ok (.i2l, 1) := by decide +kernel
theorem dX11_pay_77 : decode cX11_pay 77 = .ok (.lmul, 1) := by decide +kernel
theorem dX11_pay_78 : decode cX11_pay 78 = .ok (.invokestatic 166, 3) := by decide +kernel
theorem dX11_pay_81 : decode cX11_pay 81 = .ok (.invokestatic 166, 3) := by decide +kernel
theorem dX11_pay_84 : decode cX11_pay 84 = .ok (.lstore 5, 2) := by decide +kernel
theorem dX11_pay_86 : decode cX11_pay 86 = .ok (.aload_n 0, 1) := by decide +kernel
theorem dX11_pay_87 : decode cX11_pay 87 = .ok (.getfield 37, 3) := by decide +kernel
theorem dX11_pay_90 : decode cX11_pay 90 = .ok (.iload 4, 2) := by decide +kernel
theorem dX11_pay_92 : decode cX11_pay 92 = .ok (.dup2, 1) := by decide +kernel
theorem dX11_pay_93 : decode cX11_pay 93 = .ok (.iaload, 1) := by decide +kernel
theorem dX11_pay_94 : decode cX11_pay 94 = .ok (.lload 5, 2) := by decide +kernel
theorem dX11_pay_96 : decode cX11_pay 96 = .ok (.l2i, 1) := by decide +kernel
theorem dX11_pay_97 : decode cX11_pay 97 = .ok (.isub, 1) := by decide +kernel
theorem dX11_pay_98 : decode cX11_pay 98 = .ok (.iastore, 1) := by decide +kernel
theorem dX11_pay_99 : decode cX11_pay 99 = .ok (.iload_n 3, 1) := by decide +kernel
theorem dX11_pay_100 : decode cX11_pay 100 = .ok (.lload 5, 2) := by decide +kernel
theorem dX11_pay_102 : decode cX11_pay 102 = .ok (.l2i, 1) := by decide +kernel
theorem dX11_pay_103 : decode cX11_pay 103 = .ok (.isub, 1) := by decide +kernel
theorem dX11_pay_104 : decode cX11_pay 104 = .ok (.istore_n 3, 1) := by decide +kernel
theorem dX11_pay_105 : decode cX11_pay 105 = .ok (.aload_n 0, 1) := by decide +kernel
theorem dX11_pay_106 : decode cX11_pay 106 = .ok (.getfield 40, 3) := by decide +kernel
theorem dX11_pay_109 : decode cX11_pay 109 = .ok (.bipush 12, 2) := by decide +kernel
theorem dX11_pay_111 : decode cX11_pay 111 = .ok (.iload 4, 2) := by decide +kernel
theorem dX11_pay_113 : decode cX11_pay 113 = .ok (.imul, 1) := by decide +kernel
theorem dX11_pay_114 : decode cX11_pay 114 = .ok (.iload_n 1, 1) := by decide +kernel
theorem dX11_pay_115 : decode cX11_pay 115 = .ok (.iadd, 1) := by decide +kernel
theorem dX11_pay_116 : decode cX11_pay 116 = .ok (.lload 5, 2) := by decide +kernel
theorem dX11_pay_118 : decode cX11_pay 118 = .ok (.l2i, 1) := by decide +kernel
theorem dX11_pay_119 : decode cX11_pay 119 = .ok (.iastore, 1) := by decide +kernel
theorem dX11_pay_120 : decode cX11_pay 120 = .ok (.aload_n 0, 1) := by decide +kernel
theorem dX11_pay_121 : decode cX11_pay 121 = .ok (.getfield 46, 3) := by decide +kernel
theorem dX11_pay_124 : decode cX11_pay 124 = .ok (.aload_n 0, 1) := by decide +kernel
theorem dX11_pay_125 : decode cX11_pay 125 = .ok (.getfield 157, 3) := by decide +kernel
theorem dX11_pay_128 : decode cX11_pay 128 = .ok (.dup2, 1) := by decide +kernel
theorem dX11_pay_129 : decode cX11_pay 129 = .ok (.iaload, 1) := by decide +kernel
theorem dX11_pay_130 : decode cX11_pay 130 = .ok (.lload 5, 2) := by decide +kernel
theorem dX11_pay_132 : decode cX11_pay 132 = .ok (.lconst 0, 1) := by decide +kernel
theorem dX11_pay_133 : decode cX11_pay 133 = .ok (.lcmp, 1) := by decide +kernel
theorem dX11_pay_134 : decode cX11_pay 134 = .ok (.ifCond .le 7, 3) := by decide +kernel
theorem dX11_pay_137 : decode cX11_pay 137 = .ok (.iconst 1, 1) := by decide +kernel
theorem dX11_pay_138 : decode cX11_pay 138 = .ok (.goto 4, 3) := by decide +kernel
theorem dX11_pay_141 : decode cX11_pay 141 = .ok (.iconst 0, 1) := by decide +kernel
theorem dX11_pay_142 : decode cX11_pay 142 = .ok (.iadd, 1) := by decide +kernel
theorem dX11_pay_143 : decode cX11_pay 143 = .ok (.iastore, 1) := by decide +kernel
theorem dX11_pay_144 : decode cX11_pay 144 = .ok (.aload_n 0, 1) := by decide +kernel
theorem dX11_pay_145 : decode cX11_pay 145 = .ok (.getfield 49, 3) := by decide +kernel
theorem dX11_pay_148 : decode cX11_pay 148 = .ok (.aload_n 0, 1) := by decide +kernel
theorem dX11_pay_149 : decode cX11_pay 149 = .ok (.getfield 157, 3) := by decide +kernel
theorem dX11_pay_152 : decode cX11_pay 152 = .ok (.dup2, 1) := by decide +kernel
theorem dX11_pay_153 : decode cX11_pay 153 = .ok (.iaload, 1) := by decide +kernel
theorem dX11_pay_154 : decode cX11_pay 154 = .ok (.lload 5, 2) := by decide +kernel
theorem dX11_pay_156 : decode cX11_pay 156 = .ok (.lconst 0, 1) := by decide +kernel
theorem dX11_pay_157 : decode cX11_pay 157 = .ok (.lcmp, 1) := by decide +kernel
theorem dX11_pay_158 : decode cX11_pay 158 = .ok (.ifCond .le 17, 3) := by decide +kernel
theorem dX11_pay_161 : decode cX11_pay 161 = .ok (.aload_n 0, 1) := by decide +kernel
theorem dX11_pay_162 : decode cX11_pay 162 = .ok (.getfield 37, 3) := by decide +kernel
theorem dX11_pay_165 : decode cX11_pay 165 = .ok (.iload 4, 2) := by decide +kernel
theorem dX11_pay_167 : decode cX11_pay 167 = .ok (.iaload, 1) := by decide +kernel
theorem dX11_pay_168 : decode cX11_pay 168 = .ok (.ifCond .ne 7, 3) := by decide +kernel
theorem dX11_pay_171 : decode cX11_pay 171 = .ok (.iconst 1, 1) := by decide +kernel
theorem dX11_pay_172 : decode cX11_pay 172 = .ok (.goto 4, 3) := by decide +kernel
theorem dX11_pay_175 : decode cX11_pay 175 = .ok (.iconst 0, 1) := by decide +kernel
theorem dX11_pay_176 : decode cX11_pay 176 = .ok (.iadd, 1) := by decide +kernel
theorem dX11_pay_177 : decode cX11_pay 177 = .ok (.iastore, 1) := by decide +kernel
theorem dX11_pay_178 : decode cX11_pay 178 = .ok (.iinc 4 1, 3) := by decide +kernel
theorem dX11_pay_181 : decode cX11_pay 181 = .ok (.goto (-138), 3) := by decide +kernel
theorem dX11_pay_184 : decode cX11_pay 184 = .ok (.aload_n 0, 1) := by decide +kernel
theorem dX11_pay_185 : decode cX11_pay 185 = .ok (.iload_n 1, 1) := by decide +kernel
theorem dX11_pay_186 : decode cX11_pay 186 = .ok (.invokevirtual 169, 3) := by decide +kernel
theorem dX11_pay_189 : decode cX11_pay 189 = .ok (.return_, 1) := by decide +kernel
def jX11_pay_176_43 (Y : XS) (n : Nat) (S : PS) (v0 : Nat) (v1 : Int32) (v2 : Int32) (v3 : Int32) (v4 : Int32) (t0 : Int32) (t1 : Int32) (t2 : Int32) (t3 : Nat) : Option ((Int32 × Int32 × PS) ⊕ PS) :=
  kwi Y S t3 t2 (t1 + t0) (fun S177 => some (.inl (v3, v4 + (1 : Int32), S177)))
def jX11_pay_175_43 (Y : XS) (n : Nat) (S : PS) (v0 : Nat) (v1 : Int32) (v2 : Int32) (v3 : Int32) (v4 : Int32) (t0 : Int32) (t1 : Int32) (t2 : Nat) : Option ((Int32 × Int32 × PS) ⊕ PS) :=
  jX11_pay_176_43 Y n S v0 v1 v2 v3 v4 (0 : Int32) t0 t1 t2
def jX11_pay_142_43 (Y : XS) (n : Nat) (S : PS) (v0 : Nat) (v1 : Int32) (v2 : Int32) (v3 : Int32) (v4 : Int32) (v5 : Int64) (t0 : Int32) (t1 : Int32) (t2 : Int32) (t3 : Nat) : Option ((Int32 × Int32 × PS) ⊕ PS) :=
  kwi Y S t3 t2 (t1 + t0) (fun S143 => kgr S143 v0 20 (fun b145 => kgi S143 v0 22 (fun x149 => kai Y S143 b145 x149 (fun x153 => (if (lg_cmp v5 (0 : Int64)) ≤ 0 then jX11_pay_175_43 Y n S143 v0 v1 v2 v3 v4 x153 x149 b145 else kgr S143 v0 16 (fun b162 => kai Y S143 b162 v4 (fun x167 => (if x167 = 0 then jX11_pay_176_43 Y n S143 v0 v1 v2 v3 v4 (1 : Int32) x153 x149 b145 else jX11_pay_175_43 Y n S143 v0 v1 v2 v3 v4 x153 x149 b145))))))))
def bX11_pay_43 (Y : XS) (n : Nat) (v0 : Nat) (v1 : Int32) (v2 : Int32) (s43 : (Int32 × Int32 × PS)) : Option ((Int32 × Int32 × PS) ⊕ PS) :=
  kc (fX11_people Y n s43.2.2 v0) (fun q46 => (if q46 ≤ s43.2.1 then some (.inr s43.2.2) else kgr s43.2.2 v0 16 (fun b55 => kai Y s43.2.2 b55 s43.2.1 (fun x60 => kgr s43.2.2 v0 12 (fun b65 => kai Y s43.2.2 b65 (((12 : Int32) * s43.2.1) + v1) (fun x75 => kgr s43.2.2 v0 16 (fun b87 => kai Y s43.2.2 b87 s43.2.1 (fun x93 => kwi Y s43.2.2 b87 s43.2.1 (x93 - (Int64.toInt32 (lmin (Int32.toInt64 s43.1) (lmin (Int32.toInt64 x60) ((Int32.toInt64 v2) * (Int32.toInt64 x75)))))) (fun S98 => kgr S98 v0 17 (fun b106 => kwi Y S98 b106 (((12 : Int32) * s43.2.1) + v1) (Int64.toInt32 (lmin (Int32.toInt64 s43.1) (lmin (Int32.toInt64 x60) ((Int32.toInt64 v2) * (Int32.toInt64 x75))))) (fun S119 => kgr S119 v0 19 (fun b121 => kgi S119 v0 22 (fun x125 => kai Y S119 b121 x125 (fun x129 => (if (lg_cmp (lmin (Int32.toInt64 s43.1) (lmin (Int32.toInt64 x60) ((Int32.toInt64 v2) * (Int32.toInt64 x75)))) (0 : Int64)) ≤ 0 then jX11_pay_142_43 Y n S119 v0 v1 v2 (s43.1 - (Int64.toInt32 (lmin (Int32.toInt64 s43.1) (lmin (Int32.toInt64 x60) ((Int32.toInt64 v2) * (Int32.toInt64 x75)))))) s43.2.1 (lmin (Int32.toInt64 s43.1) (lmin (Int32.toInt64 x60) ((Int32.toInt64 v2) * (Int32.toInt64 x75)))) (0 : Int32) x129 x125 b121 else jX11_pay_142_43 Y n S119 v0 v1 v2 (s43.1 - (Int64.toInt32 (lmin (Int32.toInt64 s43.1) (lmin (Int32.toInt64 x60) ((Int32.toInt64 v2) * (Int32.toInt64 x75)))))) s43.2.1 (lmin (Int32.toInt64 s43.1) (lmin (Int32.toInt64 x60) ((Int32.toInt64 v2) * (Int32.toInt64 x75)))) (1 : Int32) x129 x125 b121)))))))))))))))
def fX11_pay (Y : XS) (n : Nat) (S : PS) (a0 : Nat) (x1_ : Int32) (x2_ : Int32) : Option (PS) :=
  kc (fX11_costOf Y n S a0 x1_) (fun q5 => kgr S a0 19 (fun b11 => kgi S a0 22 (fun x15 => kwi Y S b11 x15 (0 : Int32) (fun S19 => kgr S19 a0 20 (fun b21 => kgi S19 a0 22 (fun x25 => kwi Y S19 b21 x25 (0 : Int32) (fun S29 => kgr S29 a0 18 (fun b31 => kgi S29 a0 22 (fun x35 => kwi Y S29 b31 x35 x2_ (fun S39 => kc (iter (bX11_pay_43 Y n a0 x1_ x2_) n ((1000 : Int32) * q5, (0 : Int32), S39)) (fun r43 => kc (fX11_choose Y n r43 a0 x1_) (fun q186 => some q186))))))))))))
theorem wjX11_pay_176_43 {C : CT} {X : XT} (hC : CK C RX11 cX11_pay 7 none 2) (n : Nat) (S : PS) (v0 : Nat) (v1 : Int32) (v2 : Int32) (v3 : Int32) (v4 : Int32) (t0 : Int32) (t1 : Int32) (t2 : Int32) (t3 : Nat)  (hTv0 : Ty X.2.1 v0 11) (hTt3 : Ty X.2.1 t3 12) {o : (Int32 × Int32 × PS) ⊕ PS} (hf : jX11_pay_176_43 X.2.1 n S v0 v1 v2 v3 v4 t0 t1 t2 t3 = some o) (hN : ∀ s', o = .inl s' → UW C X s'.2.2 43 [(0, .ref (X.1 v0)), (1, .int v1), (2, .int v2), (3, .int s'.1), (4, .int s'.2.1)] []) (hO0 : ∀ p', o = .inr p' → UW C X p' 184 [(0, .ref (X.1 v0)), (1, .int v1)] []) : UW C X S 176 [(0, .ref (X.1 v0)), (1, .int v1), (2, .int v2), (3, .int v3), (4, .int v4)] [.int t0, .int t1, .int t2, .ref (X.1 t3)] := by
  unfold jX11_pay_176_43 at hf
  refine u_iadd hC dX11_pay_176 ?_
  refine u_wi hC hTt3 dX11_pay_177 hf (fun S177 hf => ?_)
  refine u_iinc (v := v4 + (1 : Int32)) (lv' := [(4, .int (v4 + (1 : Int32))), (0, .ref (X.1 v0)), (1, .int v1), (2, .int v2), (3, .int v3)]) hC dX11_pay_178 4 rfl rfl (by decide) rfl ?_
  refine u_goto (tgt := 43) hC dX11_pay_181 (by decide) ?_
  refine u_sub (lv' := [(0, .ref (X.1 v0)), (1, .int v1), (2, .int v2), (3, .int v3), (4, .int (v4 + (1 : Int32)))]) [1, 2, 3, 4, 0] rfl ?_
  exact hN _ (Option.some.inj hf).symm
theorem wjX11_pay_175_43 {C : CT} {X : XT} (hC : CK C RX11 cX11_pay 7 none 2) (n : Nat) (S : PS) (v0 : Nat) (v1 : Int32) (v2 : Int32) (v3 : Int32) (v4 : Int32) (t0 : Int32) (t1 : Int32) (t2 : Nat)  (hTv0 : Ty X.2.1 v0 11) (hTt2 : Ty X.2.1 t2 12) {o : (Int32 × Int32 × PS) ⊕ PS} (hf : jX11_pay_175_43 X.2.1 n S v0 v1 v2 v3 v4 t0 t1 t2 = some o) (hN : ∀ s', o = .inl s' → UW C X s'.2.2 43 [(0, .ref (X.1 v0)), (1, .int v1), (2, .int v2), (3, .int s'.1), (4, .int s'.2.1)] []) (hO0 : ∀ p', o = .inr p' → UW C X p' 184 [(0, .ref (X.1 v0)), (1, .int v1)] []) : UW C X S 175 [(0, .ref (X.1 v0)), (1, .int v1), (2, .int v2), (3, .int v3), (4, .int v4)] [.int t0, .int t1, .ref (X.1 t2)] := by
  unfold jX11_pay_175_43 at hf
  refine u_iconst (v := (0 : Int32)) hC dX11_pay_175 (by decide) ?_
  exact wjX11_pay_176_43 hC n S v0 v1 v2 v3 v4 (0 : Int32) t0 t1 t2  hTv0 hTt2 hf hN hO0
theorem wjX11_pay_142_43 {C : CT} {X : XT} (hC : CK C RX11 cX11_pay 7 none 2) (n : Nat) (S : PS) (v0 : Nat) (v1 : Int32) (v2 : Int32) (v3 : Int32) (v4 : Int32) (v5 : Int64) (t0 : Int32) (t1 : Int32) (t2 : Int32) (t3 : Nat)  (hTv0 : Ty X.2.1 v0 11) (hTt3 : Ty X.2.1 t3 12) {o : (Int32 × Int32 × PS) ⊕ PS} (hf : jX11_pay_142_43 X.2.1 n S v0 v1 v2 v3 v4 v5 t0 t1 t2 t3 = some o) (hN : ∀ s', o = .inl s' → UW C X s'.2.2 43 [(0, .ref (X.1 v0)), (1, .int v1), (2, .int v2), (3, .int s'.1), (4, .int s'.2.1)] []) (hO0 : ∀ p', o = .inr p' → UW C X p' 184 [(0, .ref (X.1 v0)), (1, .int v1)] []) : UW C X S 142 [(0, .ref (X.1 v0)), (1, .int v1), (2, .int v2), (3, .int v3), (4, .int v4), (5, .long v5)] [.int t0, .int t1, .int t2, .ref (X.1 t3)] := by
  unfold jX11_pay_142_43 at hf
  refine u_iadd hC dX11_pay_142 ?_
  refine u_wi hC hTt3 dX11_pay_143 hf (fun S143 hf => ?_)
  refine u_aload_n hC dX11_pay_144 0 rfl rfl ?_
  refine u_gr hC lf_X11_49 rfl hTv0 dX11_pay_145 hf (fun b145 hTb145 hf => ?_)
  refine u_aload_n hC dX11_pay_148 0 rfl rfl ?_
  refine u_gi hC lf_X11_157 rfl hTv0 dX11_pay_149 hf (fun x149 hf => ?_)
  refine u_dup2 hC dX11_pay_152 rfl rfl ?_
  refine u_ai hC hTb145 dX11_pay_153 hf (fun x153 hf => ?_)
  refine u_lload hC dX11_pay_154 5 rfl ?_
  refine u_lconst (v := (0 : Int64)) hC dX11_pay_156 (by decide) ?_
  refine u_lcmp hC dX11_pay_157 ?_
  refine u_if_le (tgt := 175) hC dX11_pay_158 (by decide) hf (fun h158 hf => ?_) (fun h158 hf => ?_)
  · refine u_sub (lv' := [(0, .ref (X.1 v0)), (1, .int v1), (2, .int v2), (3, .int v3), (4, .int v4)]) [0, 1, 2, 3, 4] rfl ?_
    exact wjX11_pay_175_43 hC n S143 v0 v1 v2 v3 v4 x153 x149 b145  hTv0 hTb145 hf hN hO0
  · refine u_aload_n hC dX11_pay_161 0 rfl rfl ?_
    refine u_gr hC lf_X11_37 rfl hTv0 dX11_pay_162 hf (fun b162 hTb162 hf => ?_)
    refine u_iload hC dX11_pay_165 4 rfl ?_
    refine u_ai hC hTb162 dX11_pay_167 hf (fun x167 hf => ?_)
    refine u_if_ne (tgt := 175) hC dX11_pay_168 (by decide) hf (fun h168 hf => ?_) (fun h168 hf => ?_)
    · refine u_sub (lv' := [(0, .ref (X.1 v0)), (1, .int v1), (2, .int v2), (3, .int v3), (4, .int v4)]) [0, 1, 2, 3, 4] rfl ?_
      exact wjX11_pay_175_43 hC n S143 v0 v1 v2 v3 v4 x153 x149 b145  hTv0 hTb145 hf hN hO0
    · refine u_iconst (v := (1 : Int32)) hC dX11_pay_171 (by decide) ?_
      refine u_goto (tgt := 176) hC dX11_pay_172 (by decide) ?_
      refine u_sub (lv' := [(0, .ref (X.1 v0)), (1, .int v1), (2, .int v2), (3, .int v3), (4, .int v4)]) [0, 1, 2, 3, 4] rfl ?_
      exact wjX11_pay_176_43 hC n S143 v0 v1 v2 v3 v4 (1 : Int32) x153 x149 b145  hTv0 hTb145 hf hN hO0
theorem wbX11_pay_43 {C : CT} {X : XT} (hC : CK C RX11 cX11_pay 7 none 2) (n : Nat) (v0 : Nat) (v1 : Int32) (v2 : Int32) (hTv0 : Ty X.2.1 v0 11) (s43 : (Int32 × Int32 × PS)) {o : (Int32 × Int32 × PS) ⊕ PS} (hf : bX11_pay_43 X.2.1 n v0 v1 v2 s43 = some o) (hN : ∀ s', o = .inl s' → UW C X s'.2.2 43 [(0, .ref (X.1 v0)), (1, .int v1), (2, .int v2), (3, .int s'.1), (4, .int s'.2.1)] []) (hO0 : ∀ p', o = .inr p' → UW C X p' 184 [(0, .ref (X.1 v0)), (1, .int v1)] []) : UW C X s43.2.2 43 [(0, .ref (X.1 v0)), (1, .int v1), (2, .int v2), (3, .int s43.1), (4, .int s43.2.1)] [] := by
  unfold bX11_pay_43 at hf
  refine u_iload hC dX11_pay_43 4 rfl ?_
  refine u_aload_n hC dX11_pay_45 0 rfl rfl ?_
  obtain ⟨q46, hq46, hf⟩ := kc_some hf
  refine u_callV hC (ctX11_people (cL C) hC.tr (cG C) X.1 X.2.1 n s43.2.2 v0 hTv0 hq46) lk_X11_85 rfl hTv0 (by decide) rfl (by decide) (by decide) rfl rfl (Nat.le_of_ble_eq_true rfl) dX11_pay_46 ?_
  refine u_icmp_ge (tgt := 184) hC dX11_pay_49 (by decide) hf (fun h49 hf => ?_) (fun h49 hf => ?_)
  · refine u_sub (lv' := [(0, .ref (X.1 v0)), (1, .int v1)]) [0, 1] rfl ?_
    exact hO0 _ (Option.some.inj hf).symm
  · refine u_iload_n hC dX11_pay_52 3 rfl rfl ?_
    refine u_i2l hC dX11_pay_53 ?_
    refine u_aload_n hC dX11_pay_54 0 rfl rfl ?_
    refine u_gr hC lf_X11_37 rfl hTv0 dX11_pay_55 hf (fun b55 hTb55 hf => ?_)
    refine u_iload hC dX11_pay_58 4 rfl ?_
    refine u_ai hC hTb55 dX11_pay_60 hf (fun x60 hf => ?_)
    refine u_i2l hC dX11_pay_61 ?_
    refine u_iload_n hC dX11_pay_62 2 rfl rfl ?_
    refine u_i2l hC dX11_pay_63 ?_
    refine u_aload_n hC dX11_pay_64 0 rfl rfl ?_
    refine u_gr hC lf_X11_25 rfl hTv0 dX11_pay_65 hf (fun b65 hTb65 hf => ?_)
    refine u_bipush (v := (12 : Int32)) hC dX11_pay_68 (by decide) ?_
    refine u_iload hC dX11_pay_70 4 rfl ?_
    refine u_imul hC dX11_pay_72 ?_
    refine u_iload_n hC dX11_pay_73 1 rfl rfl ?_
    refine u_iadd hC dX11_pay_74 ?_
    refine u_ai hC hTb65 dX11_pay_75 hf (fun x75 hf => ?_)
    refine u_i2l hC dX11_pay_76 ?_
    refine u_lmul hC dX11_pay_77 ?_
    refine u_mminl hC (tb_7 35 rfl rfl) (by decide) (Nat.le_of_ble_eq_true rfl) dX11_pay_78 ?_
    refine u_mminl hC (tb_7 35 rfl rfl) (by decide) (Nat.le_of_ble_eq_true rfl) dX11_pay_81 ?_
    refine u_lstore (lv' := [(5, .long (lmin (Int32.toInt64 s43.1) (lmin (Int32.toInt64 x60) ((Int32.toInt64 v2) * (Int32.toInt64 x75))))), (0, .ref (X.1 v0)), (1, .int v1), (2, .int v2), (3, .int s43.1), (4, .int s43.2.1)]) hC dX11_pay_84 (by decide) rfl ?_
    refine u_aload_n hC dX11_pay_86 1 rfl rfl ?_
    refine u_gr hC lf_X11_37 rfl hTv0 dX11_pay_87 hf (fun b87 hTb87 hf => ?_)
    refine u_iload hC dX11_pay_90 5 rfl ?_
    refine u_dup2 hC dX11_pay_92 rfl rfl ?_
    refine u_ai hC hTb87 dX11_pay_93 hf (fun x93 hf => ?_)
    refine u_lload hC dX11_pay_94 0 rfl ?_
    refine u_l2i hC dX11_pay_96 ?_
    refine u_isub hC dX11_pay_97 ?_
    refine u_wi hC hTb87 dX11_pay_98 hf (fun S98 hf => ?_)
    refine u_iload_n hC dX11_pay_99 4 rfl rfl ?_
    refine u_lload hC dX11_pay_100 0 rfl ?_
    refine u_l2i hC dX11_pay_102 ?_
    refine u_isub hC dX11_pay_103 ?_
    refine u_istore_n (lv' := [(3, .int (s43.1 - (Int64.toInt32 (lmin (Int32.toInt64 s43.1) (lmin (Int32.toInt64 x60) ((Int32.toInt64 v2) * (Int32.toInt64 x75))))))), (5, .long (lmin (Int32.toInt64 s43.1) (lmin (Int32.toInt64 x60) ((Int32.toInt64 v2) * (Int32.toInt64 x75))))), (0, .ref (X.1 v0)), (1, .int v1), (2, .int v2), (4, .int s43.2.1)]) hC dX11_pay_104 rfl (by decide) rfl ?_
    refine u_aload_n hC dX11_pay_105 2 rfl rfl ?_
    refine u_gr hC lf_X11_40 rfl hTv0 dX11_pay_106 hf (fun b106 hTb106 hf => ?_)
    refine u_bipush (v := (12 : Int32)) hC dX11_pay_109 (by decide) ?_
    refine u_iload hC dX11_pay_111 5 rfl ?_
    refine u_imul hC dX11_pay_113 ?_
    refine u_iload_n hC dX11_pay_114 3 rfl rfl ?_
    refine u_iadd hC dX11_pay_115 ?_
    refine u_lload hC dX11_pay_116 1 rfl ?_
    refine u_l2i hC dX11_pay_118 ?_
    refine u_wi hC hTb106 dX11_pay_119 hf (fun S119 hf => ?_)
    refine u_aload_n hC dX11_pay_120 2 rfl rfl ?_
    refine u_gr hC lf_X11_46 rfl hTv0 dX11_pay_121 hf (fun b121 hTb121 hf => ?_)
    refine u_aload_n hC dX11_pay_124 2 rfl rfl ?_
    refine u_gi hC lf_X11_157 rfl hTv0 dX11_pay_125 hf (fun x125 hf => ?_)
    refine u_dup2 hC dX11_pay_128 rfl rfl ?_
    refine u_ai hC hTb121 dX11_pay_129 hf (fun x129 hf => ?_)
    refine u_lload hC dX11_pay_130 1 rfl ?_
    refine u_lconst (v := (0 : Int64)) hC dX11_pay_132 (by decide) ?_
    refine u_lcmp hC dX11_pay_133 ?_
    refine u_if_le (tgt := 141) hC dX11_pay_134 (by decide) hf (fun h134 hf => ?_) (fun h134 hf => ?_)
    · refine u_iconst (v := (0 : Int32)) hC dX11_pay_141 (by decide) ?_
      refine u_sub (lv' := [(0, .ref (X.1 v0)), (1, .int v1), (2, .int v2), (3, .int (s43.1 - (Int64.toInt32 (lmin (Int32.toInt64 s43.1) (lmin (Int32.toInt64 x60) ((Int32.toInt64 v2) * (Int32.toInt64 x75))))))), (4, .int s43.2.1), (5, .long (lmin (Int32.toInt64 s43.1) (lmin (Int32.toInt64 x60) ((Int32.toInt64 v2) * (Int32.toInt64 x75)))))]) [2, 3, 4, 0, 5, 1] rfl ?_
      exact wjX11_pay_142_43 hC n S119 v0 v1 v2 (s43.1 - (Int64.toInt32 (lmin (Int32.toInt64 s43.1) (lmin (Int32.toInt64 x60) ((Int32.toInt64 v2) * (Int32.toInt64 x75)))))) s43.2.1 (lmin (Int32.toInt64 s43.1) (lmin (Int32.toInt64 x60) ((Int32.toInt64 v2) * (Int32.toInt64 x75)))) (0 : Int32) x129 x125 b121  hTv0 hTb121 hf hN hO0
    · refine u_iconst (v := (1 : Int32)) hC dX11_pay_137 (by decide) ?_
      refine u_goto (tgt := 142) hC dX11_pay_138 (by decide) ?_
      refine u_sub (lv' := [(0, .ref (X.1 v0)), (1, .int v1), (2, .int v2), (3, .int (s43.1 - (Int64.toInt32 (lmin (Int32.toInt64 s43.1) (lmin (Int32.toInt64 x60) ((Int32.toInt64 v2) * (Int32.toInt64 x75))))))), (4, .int s43.2.1), (5, .long (lmin (Int32.toInt64 s43.1) (lmin (Int32.toInt64 x60) ((Int32.toInt64 v2) * (Int32.toInt64 x75)))))]) [2, 3, 4, 0, 5, 1] rfl ?_
      exact wjX11_pay_142_43 hC n S119 v0 v1 v2 (s43.1 - (Int64.toInt32 (lmin (Int32.toInt64 s43.1) (lmin (Int32.toInt64 x60) ((Int32.toInt64 v2) * (Int32.toInt64 x75)))))) s43.2.1 (lmin (Int32.toInt64 s43.1) (lmin (Int32.toInt64 x60) ((Int32.toInt64 v2) * (Int32.toInt64 x75)))) (1 : Int32) x129 x125 b121  hTv0 hTb121 hf hN hO0
theorem wX11_pay {C : CT} {X : XT} (hC : CK C RX11 cX11_pay 7 none 2) (n : Nat) (S : PS) (a0 : Nat) (x1_ : Int32) (x2_ : Int32) (hTa0 : Ty X.2.1 a0 11) {o : PS} (hf : fX11_pay X.2.1 n S a0 x1_ x2_ = some o) (hR : Rt C X cX11_pay none none o) : UW C X S 0 [(0, .ref (X.1 a0)), (1, .int x1_), (2, .int x2_)] [] := by
  unfold fX11_pay at hf
  refine u_sipush (v := (1000 : Int32)) hC dX11_pay_0 (by decide) ?_
  refine u_aload_n hC dX11_pay_3 0 rfl rfl ?_
  refine u_iload_n hC dX11_pay_4 1 rfl rfl ?_
  obtain ⟨q5, hq5, hf⟩ := kc_some hf
  refine u_callV hC (ctX11_costOf (cL C) hC.tr (cG C) X.1 X.2.1 n S a0 x1_ hTa0 hq5) lk_X11_134 rfl hTa0 (by decide) rfl (by decide) (by decide) rfl rfl (Nat.le_of_ble_eq_true rfl) dX11_pay_5 ?_
  refine u_imul hC dX11_pay_8 ?_
  refine u_istore_n (lv' := [(3, .int ((1000 : Int32) * q5)), (0, .ref (X.1 a0)), (1, .int x1_), (2, .int x2_)]) hC dX11_pay_9 rfl (by decide) rfl ?_
  refine u_aload_n hC dX11_pay_10 1 rfl rfl ?_
  refine u_gr hC lf_X11_46 rfl hTa0 dX11_pay_11 hf (fun b11 hTb11 hf => ?_)
  refine u_aload_n hC dX11_pay_14 1 rfl rfl ?_
  refine u_gi hC lf_X11_157 rfl hTa0 dX11_pay_15 hf (fun x15 hf => ?_)
  refine u_iconst (v := (0 : Int32)) hC dX11_pay_18 (by decide) ?_
  refine u_wi hC hTb11 dX11_pay_19 hf (fun S19 hf => ?_)
  refine u_aload_n hC dX11_pay_20 1 rfl rfl ?_
  refine u_gr hC lf_X11_49 rfl hTa0 dX11_pay_21 hf (fun b21 hTb21 hf => ?_)
  refine u_aload_n hC dX11_pay_24 1 rfl rfl ?_
  refine u_gi hC lf_X11_157 rfl hTa0 dX11_pay_25 hf (fun x25 hf => ?_)
  refine u_iconst (v := (0 : Int32)) hC dX11_pay_28 (by decide) ?_
  refine u_wi hC hTb21 dX11_pay_29 hf (fun S29 hf => ?_)
  refine u_aload_n hC dX11_pay_30 1 rfl rfl ?_
  refine u_gr hC lf_X11_43 rfl hTa0 dX11_pay_31 hf (fun b31 hTb31 hf => ?_)
  refine u_aload_n hC dX11_pay_34 1 rfl rfl ?_
  refine u_gi hC lf_X11_157 rfl hTa0 dX11_pay_35 hf (fun x35 hf => ?_)
  refine u_iload_n hC dX11_pay_38 3 rfl rfl ?_
  refine u_wi hC hTb31 dX11_pay_39 hf (fun S39 hf => ?_)
  refine u_iconst (v := (0 : Int32)) hC dX11_pay_40 (by decide) ?_
  refine u_istore (lv' := [(4, .int (0 : Int32)), (3, .int ((1000 : Int32) * q5)), (0, .ref (X.1 a0)), (1, .int x1_), (2, .int x2_)]) hC dX11_pay_41 (by decide) rfl ?_
  obtain ⟨r43, hr43, hf⟩ := kc_some hf
  have hk43 : UW C X r43 184 [(0, .ref (X.1 a0)), (1, .int x1_)] [] := by
    refine u_aload_n hC dX11_pay_184 0 rfl rfl ?_
    refine u_iload_n hC dX11_pay_185 1 rfl rfl ?_
    obtain ⟨q186, hq186, hf⟩ := kc_some hf
    refine u_callV hC (ctX11_choose (cL C) hC.tr (cG C) X.1 X.2.1 n r43 a0 x1_ hTa0 hq186) lk_X11_169 rfl hTa0 (by decide) rfl (by decide) (by decide) rfl rfl (Nat.le_of_ble_eq_true rfl) dX11_pay_186 ?_
    cases hf
    exact hR _ _ dX11_pay_189 trivial
  refine u_sub (lv' := [(0, .ref (X.1 a0)), (1, .int x1_), (2, .int x2_), (3, .int ((1000 : Int32) * q5)), (4, .int (0 : Int32))]) [2, 3, 4, 1, 0] rfl ?_
  refine iter_ind (P := fun s43 => UW C X s43.2.2 43 [(0, .ref (X.1 a0)), (1, .int x1_), (2, .int x2_), (3, .int s43.1), (4, .int s43.2.1)] []) (fun s43 o' hb hin hout => ?_) n ((1000 : Int32) * q5, (0 : Int32), S39) hr43
  exact wbX11_pay_43 hC n a0 x1_ x2_ hTa0 s43 hb hin (fun p e => by rw [hout p e]; exact hk43)
theorem ctX11_pay (l : Launch) (hl : l.stackTraces = false) (G : GT) (ρ : Nat → Nat) (Y : XS) (n : Nat) (S : PS) (a0 : Nat) (x1_ : Int32) (x2_ : Int32) (hTa0 : Ty Y a0 11) {o : PS} (hf : fX11_pay Y n S a0 x1_ x2_ = some o) : Mt l G yX11_pay cX11_pay 7 none 2 ρ Y [.ref (ρ a0), .int x1_, .int x2_] S none o :=
  Mt_of hl (by decide) (Nat.le_of_ble_eq_true rfl) (fun C _ _ hC hR => wX11_pay (X := (ρ, Y, 0, 0)) hC n S a0 x1_ x2_ hTa0 hf hR)
-- X11_isFirst
theorem dX11_isFirst_0 : decode cX11_isFirst 0 = .ok (.lload_n 1, 1) := by decide +kernel
theorem dX11_isFirst_1 : decode cX11_isFirst 1 = .ok (.lload 4, 2) := by decide +kernel
theorem dX11_isFirst_3 : decode cX11_isFirst 3 = .ok (.lcmp, 1) := by decide +kernel
theorem dX11_isFirst_4 : decode cX11_isFirst 4 = .ok (.ifCond .eq 16, 3) := by decide +kernel
theorem dX11_isFirst_7 : decode cX11_isFirst 7 = .ok (.lload_n 1, 1) := by decide +kernel
theorem dX11_isFirst_8 : decode cX11_isFirst 8 = .ok (.lload 4, 2) := by decide +kernel
theorem dX11_isFirst_10 : decode cX11_isFirst 10 = .ok (.lcmp, 1) := by decide +kernel
theorem dX11_isFirst_11 : decode cX11_isFirst 11 = .ok (.ifCond .ge 7, 3) := by decide +kernel
theorem dX11_isFirst_14 : decode cX11_isFirst 14 = .ok (.iconst 1, 1) := by decide +kernel
theorem dX11_isFirst_15 : decode cX11_isFirst 15 = .ok (.goto 4, 3) := by decide +kernel
theorem dX11_isFirst_18 : decode cX11_isFirst 18 = .ok (.iconst 0, 1) := by decide +kernel
theorem dX11_isFirst_19 : decode cX11_isFirst 19 = .ok (.ireturn, 1) := by decide +kernel
theorem dX11_isFirst_20 : decode cX11_isFirst 20 = .ok (.aload_n 0, 1) := by decide +kernel
theorem dX11_isFirst_21 : decode cX11_isFirst 21 = .ok (.getfield 28, 3) := by decide +kernel
theorem dX11_isFirst_24 : decode cX11_isFirst 24 = .ok (.iload_n 3, 1) := by decide +kernel
theorem dX11_isFirst_25 : decode cX11_isFirst 25 = .ok (.iaload, 1) := by decide +kernel
theorem dX11_isFirst_26 : decode cX11_isFirst 26 = .ok (.aload_n 0, 1) := by decide +kernel
theorem dX11_isFirst_27 : decode cX11_isFirst 27 = .ok (.getfield 28, 3) := by decide +kernel
theorem dX11_isFirst_30 : decode cX11_isFirst 30 = .ok (.iload 6, 2) := by decide +kernel
theorem dX11_isFirst_32 : decode cX11_isFirst 32 = .ok (.iaload, 1) := by decide +kernel
theorem dX11_isFirst_33 : decode cX11_isFirst 33 = .ok (.if_icmp .eq 27, 3) := by decide +kernel
theorem dX11_isFirst_36 : decode cX11_isFirst 36 = .ok (.aload_n 0, 1) := by decide +kernel
theorem dX11_isFirst_37 : decode cX11_isFirst 37 = .ok (.getfield 28, 3) := by decide +kernel
theorem dX11_isFirst_40 : decode cX11_isFirst 40 = .ok (.iload_n 3, 1) := by decide +kernel
theorem dX11_isFirst_41 : decode cX11_isFirst 41 = .ok (.iaload, 1) := by decide +kernel
theorem dX11_isFirst_42 : decode cX11_isFirst 42 = .ok (.aload_n 0, 1) := by decide +kernel
theorem dX11_isFirst_43 : decode cX11_isFirst 43 = .ok (.getfield 28, 3) := by decide +kernel
theorem dX11_isFirst_46 : decode cX11_isFirst 46 = .ok (.iload 6, 2) := by decide +kernel
theorem dX11_isFirst_48 : decode cX11_isFirst 48 = .ok (.iaload, 1) := by decide +kernel
theorem dX11_isFirst_49 : decode cX11_isFirst 49 = .ok (.if_icmp .le 7, 3) := by decide +kernel
theorem dX11_isFirst_52 : decode cX11_isFirst 52 = .ok (.iconst 1, 1) := by decide +kernel
theorem dX11_isFirst_53 : decode cX11_isFirst 53 = .ok (.goto 18, 3) := by decide +kernel
theorem dX11_isFirst_56 : decode cX11_isFirst 56 = .ok (.iconst 0, 1) := by decide +kernel
theorem dX11_isFirst_57 : decode cX11_isFirst 57 = .ok (.goto 14, 3) := by decide +kernel
theorem dX11_isFirst_60 : decode cX11_isFirst 60 = .ok (.iload_n 3, 1) := by decide +kernel
theorem dX11_isFirst_61 : decode cX11_isFirst 61 = .ok (.iload 6, 2) := by decide +kernel
theorem dX11_isFirst_63 : decode cX11_isFirst 63 = .ok (.if_icmp .ge 7, 3) := by decide +kernel
theorem dX11_isFirst_66 : decode cX11_isFirst 66 = .ok (.iconst 1, 1) := by decide +kernel
theorem dX11_isFirst_67 : decode cX11_isFirst 67 = .ok (.goto 4, 3) := by decide +kernel
theorem dX11_isFirst_70 : decode cX11_isFirst 70 = .ok (.iconst 0, 1) := by decide +kernel
theorem dX11_isFirst_71 : decode cX11_isFirst 71 = .ok (.ireturn, 1) := by decide +kernel
def jX11_isFirst_71 (Y : XS) (n : Nat) (S : PS) (t0 : Int32) : Option (Int32) :=
  kzr t0 (some t0)
def jX11_isFirst_19 (Y : XS) (n : Nat) (S : PS) (t0 : Int32) : Option (Int32) :=
  kzr t0 (some t0)
def fX11_isFirst (Y : XS) (n : Nat) (S : PS) (a0 : Nat) (x1_ : Int64) (x3_ : Int32) (x4_ : Int64) (x6_ : Int32) : Option (Int32) :=
  (if (lg_cmp x1_ x4_) = 0 then kgr S a0 13 (fun b21 => kai Y S b21 x3_ (fun x25 => kgr S a0 13 (fun b27 => kai Y S b27 x6_ (fun x32 => (if x25 = x32 then (if x6_ ≤ x3_ then jX11_isFirst_71 Y n S (0 : Int32) else jX11_isFirst_71 Y n S (1 : Int32)) else kgr S a0 13 (fun b37 => kai Y S b37 x3_ (fun x41 => kgr S a0 13 (fun b43 => kai Y S b43 x6_ (fun x48 => (if x41 ≤ x48 then jX11_isFirst_71 Y n S (0 : Int32) else jX11_isFirst_71 Y n S (1 : Int32))))))))))) else (if 0 ≤ (lg_cmp x1_ x4_) then jX11_isFirst_19 Y n S (0 : Int32) else jX11_isFirst_19 Y n S (1 : Int32)))
theorem wjX11_isFirst_71 {C : CT} {X : XT} (hC : CK C RX11 cX11_isFirst 7 (some .boolean) 1) (n : Nat) (S : PS) (t0 : Int32)   {o : Int32} (hf : jX11_isFirst_71 X.2.1 n S t0 = some o) (hR : Rt C X cX11_isFirst (some .boolean) (some (.int o)) S) : UW C X S 71 [] [.int t0] := by
  unfold jX11_isFirst_71 at hf
  obtain ⟨hz, hf⟩ := kzr_some hf
  cases hf
  exact hR _ _ dX11_isFirst_71 hz
theorem wjX11_isFirst_19 {C : CT} {X : XT} (hC : CK C RX11 cX11_isFirst 7 (some .boolean) 1) (n : Nat) (S : PS) (t0 : Int32)   {o : Int32} (hf : jX11_isFirst_19 X.2.1 n S t0 = some o) (hR : Rt C X cX11_isFirst (some .boolean) (some (.int o)) S) : UW C X S 19 [] [.int t0] := by
  unfold jX11_isFirst_19 at hf
  obtain ⟨hz, hf⟩ := kzr_some hf
  cases hf
  exact hR _ _ dX11_isFirst_19 hz
theorem wX11_isFirst {C : CT} {X : XT} (hC : CK C RX11 cX11_isFirst 7 (some .boolean) 1) (n : Nat) (S : PS) (a0 : Nat) (x1_ : Int64) (x3_ : Int32) (x4_ : Int64) (x6_ : Int32) (hTa0 : Ty X.2.1 a0 11) {o : Int32} (hf : fX11_isFirst X.2.1 n S a0 x1_ x3_ x4_ x6_ = some o) (hR : Rt C X cX11_isFirst (some .boolean) (some (.int o)) S) : UW C X S 0 [(0, .ref (X.1 a0)), (1, .long x1_), (3, .int x3_), (4, .long x4_), (6, .int x6_)] [] := by
  unfold fX11_isFirst at hf
  refine u_lload_n hC dX11_isFirst_0 1 rfl rfl ?_
  refine u_lload hC dX11_isFirst_1 3 rfl ?_
  refine u_lcmp hC dX11_isFirst_3 ?_
  refine u_if_eq (tgt := 20) hC dX11_isFirst_4 (by decide) hf (fun h4 hf => ?_) (fun h4 hf => ?_)
  · refine u_aload_n hC dX11_isFirst_20 0 rfl rfl ?_
    refine u_gr hC lf_X11_28 rfl hTa0 dX11_isFirst_21 hf (fun b21 hTb21 hf => ?_)
    refine u_iload_n hC dX11_isFirst_24 2 rfl rfl ?_
    refine u_ai hC hTb21 dX11_isFirst_25 hf (fun x25 hf => ?_)
    refine u_aload_n hC dX11_isFirst_26 0 rfl rfl ?_
    refine u_gr hC lf_X11_28 rfl hTa0 dX11_isFirst_27 hf (fun b27 hTb27 hf => ?_)
    refine u_iload hC dX11_isFirst_30 4 rfl ?_
    refine u_ai hC hTb27 dX11_isFirst_32 hf (fun x32 hf => ?_)
    refine u_icmp_eq (tgt := 60) hC dX11_isFirst_33 (by decide) hf (fun h33 hf => ?_) (fun h33 hf => ?_)
    · refine u_iload_n hC dX11_isFirst_60 2 rfl rfl ?_
      refine u_iload hC dX11_isFirst_61 4 rfl ?_
      refine u_icmp_ge (tgt := 70) hC dX11_isFirst_63 (by decide) hf (fun h63 hf => ?_) (fun h63 hf => ?_)
      · refine u_iconst (v := (0 : Int32)) hC dX11_isFirst_70 (by decide) ?_
        refine u_sub (lv' := []) [] rfl ?_
        exact wjX11_isFirst_71 hC n S (0 : Int32)   hf hR
      · refine u_iconst (v := (1 : Int32)) hC dX11_isFirst_66 (by decide) ?_
        refine u_goto (tgt := 71) hC dX11_isFirst_67 (by decide) ?_
        refine u_sub (lv' := []) [] rfl ?_
        exact wjX11_isFirst_71 hC n S (1 : Int32)   hf hR
    · refine u_aload_n hC dX11_isFirst_36 0 rfl rfl ?_
      refine u_gr hC lf_X11_28 rfl hTa0 dX11_isFirst_37 hf (fun b37 hTb37 hf => ?_)
      refine u_iload_n hC dX11_isFirst_40 2 rfl rfl ?_
      refine u_ai hC hTb37 dX11_isFirst_41 hf (fun x41 hf => ?_)
      refine u_aload_n hC dX11_isFirst_42 0 rfl rfl ?_
      refine u_gr hC lf_X11_28 rfl hTa0 dX11_isFirst_43 hf (fun b43 hTb43 hf => ?_)
      refine u_iload hC dX11_isFirst_46 4 rfl ?_
      refine u_ai hC hTb43 dX11_isFirst_48 hf (fun x48 hf => ?_)
      refine u_icmp_le (tgt := 56) hC dX11_isFirst_49 (by decide) hf (fun h49 hf => ?_) (fun h49 hf => ?_)
      · refine u_iconst (v := (0 : Int32)) hC dX11_isFirst_56 (by decide) ?_
        refine u_goto (tgt := 71) hC dX11_isFirst_57 (by decide) ?_
        refine u_sub (lv' := []) [] rfl ?_
        exact wjX11_isFirst_71 hC n S (0 : Int32)   hf hR
      · refine u_iconst (v := (1 : Int32)) hC dX11_isFirst_52 (by decide) ?_
        refine u_goto (tgt := 71) hC dX11_isFirst_53 (by decide) ?_
        refine u_sub (lv' := []) [] rfl ?_
        exact wjX11_isFirst_71 hC n S (1 : Int32)   hf hR
  · refine u_lload_n hC dX11_isFirst_7 1 rfl rfl ?_
    refine u_lload hC dX11_isFirst_8 3 rfl ?_
    refine u_lcmp hC dX11_isFirst_10 ?_
    refine u_if_ge (tgt := 18) hC dX11_isFirst_11 (by decide) hf (fun h11 hf => ?_) (fun h11 hf => ?_)
    · refine u_iconst (v := (0 : Int32)) hC dX11_isFirst_18 (by decide) ?_
      refine u_sub (lv' := []) [] rfl ?_
      exact wjX11_isFirst_19 hC n S (0 : Int32)   hf hR
    · refine u_iconst (v := (1 : Int32)) hC dX11_isFirst_14 (by decide) ?_
      refine u_goto (tgt := 19) hC dX11_isFirst_15 (by decide) ?_
      refine u_sub (lv' := []) [] rfl ?_
      exact wjX11_isFirst_19 hC n S (1 : Int32)   hf hR
theorem ctX11_isFirst (l : Launch) (hl : l.stackTraces = false) (G : GT) (ρ : Nat → Nat) (Y : XS) (n : Nat) (S : PS) (a0 : Nat) (x1_ : Int64) (x3_ : Int32) (x4_ : Int64) (x6_ : Int32) (hTa0 : Ty Y a0 11) {o : Int32} (hf : fX11_isFirst Y n S a0 x1_ x3_ x4_ x6_ = some o) : Mt l G yX11_isFirst cX11_isFirst 7 (some .boolean) 1 ρ Y [.ref (ρ a0), .long x1_, .int x3_, .long x4_, .int x6_] S (some (.int o)) S :=
  Mt_of hl (by decide) (Nat.le_of_ble_eq_true rfl) (fun C _ _ hC hR => wX11_isFirst (X := (ρ, Y, 0, 0)) hC n S a0 x1_ x3_ x4_ x6_ hTa0 hf hR)
-- X11_shares
theorem dX11_shares_0 : decode cX11_shares 0 = .ok (.aload_n 0, 1) := by decide +kernel
theorem dX11_shares_1 : decode cX11_shares 1 = .ok (.invokevirtual 173, 3) := by decide +kernel
theorem dX11_shares_4 : decode cX11_shares 4 = .ok (.aload_n 0, 1) := by decide +kernel
theorem dX11_shares_5 : decode cX11_shares 5 = .ok (.iload_n 1, 1) := by decide +kernel
theorem dX11_shares_6 : decode cX11_shares 6 = .ok (.invokevirtual 176, 3) := by decide +kernel
theorem dX11_shares_9 : decode cX11_shares 9 = .ok (.iconst 1, 1) := by decide +kernel
theorem dX11_shares_10 : decode cX11_shares 10 = .ok (.istore_n 3, 1) := by decide +kernel
theorem dX11_shares_11 : decode cX11_shares 11 = .ok (.iload_n 3, 1) := by decide +kernel
theorem dX11_shares_12 : decode cX11_shares 12 = .ok (.ifCond .eq 126, 3) := by decide +kernel
theorem dX11_shares_15 : decode cX11_shares 15 = .ok (.aload_n 0, 1) := by decide +kernel
theorem dX11_shares_16 : decode cX11_shares 16 = .ok (.getfield 157, 3) := by decide +kernel
theorem dX11_shares_19 : decode cX11_shares 19 = .ok (.iload_n 2, 1) := by decide +kernel
theorem dX11_shares_20 : decode cX11_shares 20 = .ok (.if_icmp .ge 118, 3) := by decide +kernel
theorem dX11_shares_23 : decode cX11_shares 23 = .ok (.iconst (-1), 1) := by decide +kernel
theorem dX11_shares_24 : decode cX11_shares 24 = .ok (.istore 4, 2) := by decide +kernel
theorem dX11_shares_26 : decode cX11_shares 26 = .ok (.iconst (-1), 1) := by decide +kernel
theorem dX11_shares_27 : decode cX11_shares 27 = .ok (.istore 5, 2) := by decide +kernel
theorem dX11_shares_29 : decode cX11_shares 29 = .ok (.iconst 0, 1) := by decide +kernel
theorem dX11_shares_30 : decode cX11_shares 30 = .ok (.istore 6, 2) := by decide +kernel
theorem dX11_shares_32 : decode cX11_shares 32 = .ok (.iload 6, 2) := by decide +kernel
theorem dX11_shares_34 : decode cX11_shares 34 = .ok (.aload_n 0, 1) := by decide +kernel
theorem dX11_shares_35 : decode cX11_shares 35 = .ok (.invokevirtual 77, 3) := by decide +kernel
theorem dX11_shares_38 : decode cX11_shares 38 = .ok (.if_icmp .ge 73, 3) := by decide +kernel
theorem dX11_shares_41 : decode cX11_shares 41 = .ok (.aload_n 0, 1) := by decide +kernel
theorem dX11_shares_42 : decode cX11_shares 42 = .ok (.getfield 154, 3) := by decide +kernel
theorem dX11_shares_45 : decode cX11_shares 45 = .ok (.iload 6, 2) := by decide +kernel
theorem dX11_shares_47 : decode cX11_shares 47 = .ok (.invokestatic 147, 3) := by decide +kernel
theorem dX11_shares_50 : decode cX11_shares 50 = .ok (.ifCond .eq 7, 3) := by decide +kernel
theorem dX11_shares_53 : decode cX11_shares 53 = .ok (.iconst (-1), 1) := by decide +kernel
theorem dX11_shares_54 : decode cX11_shares 54 = .ok (.goto 9, 3) := by decide +kernel
theorem dX11_shares_57 : decode cX11_shares 57 = .ok (.aload_n 0, 1) := by decide +kernel
theorem dX11_shares_58 : decode cX11_shares 58 = .ok (.iload 6, 2) := by decide +kernel
theorem dX11_shares_60 : decode cX11_shares 60 = .ok (.invokevirtual 179, 3) := by decide +kernel
theorem dX11_shares_63 : decode cX11_shares 63 = .ok (.istore 7, 2) := by decide +kernel
theorem dX11_shares_65 : decode cX11_shares 65 = .ok (.iload 7, 2) := by decide +kernel
theorem dX11_shares_67 : decode cX11_shares 67 = .ok (.iconst (-1), 1) := by decide +kernel
theorem dX11_shares_68 : decode cX11_shares 68 = .ok (.if_icmp .eq 37, 3) := by decide +kernel
theorem dX11_shares_71 : decode cX11_shares 71 = .ok (.iload 4, 2) := by decide +kernel
theorem dX11_shares_73 : decode cX11_shares 73 = .ok (.iconst (-1), 1) := by decide +kernel
theorem dX11_shares_74 : decode cX11_shares 74 = .ok (.if_icmp .eq 23, 3) := by decide +kernel
theorem dX11_shares_77 : decode cX11_shares 77 = .ok (.aload_n 0, 1) := by decide +kernel
theorem dX11_shares_78 : decode cX11_shares 78 = .ok (.iload 7, 2) := by decide +kernel
theorem dX11_shares_80 : decode cX11_shares 80 = .ok (.i2l, 1) := by decide +kernel
theorem dX11_shares_81 : decode cX11_shares 81 = .ok (.iload 6, 2) := by decide +kernel
theorem dX11_shares_83 : decode cX11_shares 83 = .ok (.iload 5, 2) := by decide +kernel
theorem dX11_shares_85 : decode cX11_shares 85 = .ok (.i2l, 1) := by decide +kernel
theorem dX11_shares_86 : decode cX11_shares 86 = .ok (.iload 4, 2) := by decide +kernel
theorem dX11_shares_88 : decode cX11_shares 88 = .ok (.invokevirtual 182, 3) := by decide +kernel
theorem dX11_shares_91 : decode cX11_shares 91 = .ok (.ifCond .ne 6, 3) := by decide +kernel
theorem dX11_shares_94 : decode cX11_shares 94 = .ok (.goto 11, 3) := by decide +kernel
theorem dX11_shares_97 : decode cX11_shares 97 = .ok (.iload 6, 2) := by decide +kernel
theorem dX11_shares_99 : decode cX11_shares 99 = .ok (.istore 4, 2) := by decide +kernel
theorem dX11_shares_101 : decode cX11_shares 101 = .ok (.iload 7, 2) := by decide +kernel
theorem dX11_shares_103 : decode cX11_shares 103 = .ok (.istore 5, 2) := by decide +kernel
theorem dX11_shares_105 : decode cX11_shares 105 = .ok (.iinc 6 1, 3) := by decide +kernel
theorem dX11_shares_108 : decode cX11_shares 108 = .ok (.goto (-76), 3) := by decide +kernel
theorem dX11_shares_111 : decode cX11_shares 111 = .ok (.iload 4, 2) := by decide +kernel
theorem dX11_shares_113 : decode cX11_shares 113 = .ok (.iconst (-1), 1) := by decide +kernel
theorem dX11_shares_114 : decode cX11_shares 114 = .ok (.if_icmp .eq 7, 3) := by decide +kernel
theorem dX11_shares_117 : decode cX11_shares 117 = .ok (.iconst 1, 1) := by decide +kernel
theorem dX11_shares_118 : decode cX11_shares 118 = .ok (.goto 4, 3) := by decide +kernel
theorem dX11_shares_121 : decode cX11_shares 121 = .ok (.iconst 0, 1) := by decide +kernel
theorem dX11_shares_122 : decode cX11_shares 122 = .ok (.istore_n 3, 1) := by decide +kernel
theorem dX11_shares_123 : decode cX11_shares 123 = .ok (.iload_n 3, 1) := by decide +kernel
theorem dX11_shares_124 : decode cX11_shares 124 = .ok (.ifCond .eq 11, 3) := by decide +kernel
theorem dX11_shares_127 : decode cX11_shares 127 = .ok (.aload_n 0, 1) := by decide +kernel
theorem dX11_shares_128 : decode cX11_shares 128 = .ok (.iload 4, 2) := by decide +kernel
theorem dX11_shares_130 : decode cX11_shares 130 = .ok (.iload 5, 2) := by decide +kernel
theorem dX11_shares_132 : decode cX11_shares 132 = .ok (.invokevirtual 186, 3) := by decide +kernel
theorem dX11_shares_135 : decode cX11_shares 135 = .ok (.goto (-124), 3) := by decide +kernel
theorem dX11_shares_138 : decode cX11_shares 138 = .ok (.return_, 1) := by decide +kernel
def jX11_shares_105_32 (Y : XS) (n : Nat) (S : PS) (v0 : Nat) (v2 : Int32) (v4 : Int32) (v5 : Int32) (v6 : Int32) : Option ((Int32 × Int32 × Int32 × PS) ⊕ (Int32 × Int32 × PS)) :=
  some (.inl (v4, v5, v6 + (1 : Int32), S))
def jX11_shares_97_32 (Y : XS) (n : Nat) (S : PS) (v0 : Nat) (v2 : Int32) (v6 : Int32) (v7 : Int32) : Option ((Int32 × Int32 × Int32 × PS) ⊕ (Int32 × Int32 × PS)) :=
  jX11_shares_105_32 Y n S v0 v2 v6 v7 v6
def jX11_shares_63_32 (Y : XS) (n : Nat) (S : PS) (v0 : Nat) (v2 : Int32) (v4 : Int32) (v5 : Int32) (v6 : Int32) (t0 : Int32) : Option ((Int32 × Int32 × Int32 × PS) ⊕ (Int32 × Int32 × PS)) :=
  (if t0 = (-1 : Int32) then jX11_shares_105_32 Y n S v0 v2 v4 v5 v6 else (if v4 = (-1 : Int32) then jX11_shares_97_32 Y n S v0 v2 v6 t0 else kc (fX11_isFirst Y n S v0 (Int32.toInt64 t0) v6 (Int32.toInt64 v5) v4) (fun q88 => (if q88 = 0 then jX11_shares_105_32 Y n S v0 v2 v4 v5 v6 else jX11_shares_97_32 Y n S v0 v2 v6 t0))))
def bX11_shares_32 (Y : XS) (n : Nat) (v0 : Nat) (v2 : Int32) (s32 : (Int32 × Int32 × Int32 × PS)) : Option ((Int32 × Int32 × Int32 × PS) ⊕ (Int32 × Int32 × PS)) :=
  kc (fX11_many Y n s32.2.2.2 v0) (fun q35 => (if q35 ≤ s32.2.2.1 then some (.inr (s32.1, s32.2.1, s32.2.2.2)) else kgi s32.2.2.2 v0 21 (fun x42 => kc (fX11_isOf Y n s32.2.2.2 x42 s32.2.2.1) (fun q47 => (if q47 = 0 then kc (fX11_priceOf Y n s32.2.2.2 v0 s32.2.2.1) (fun q60 => jX11_shares_63_32 Y n q60.2 v0 v2 s32.1 s32.2.1 s32.2.2.1 q60.1) else jX11_shares_63_32 Y n s32.2.2.2 v0 v2 s32.1 s32.2.1 s32.2.2.1 (-1 : Int32))))))
def jX11_shares_135_11 (Y : XS) (n : Nat) (S : PS) (v0 : Nat) (v2 : Int32) (v3 : Int32) : Option ((Int32 × PS) ⊕ PS) :=
  some (.inl (v3, S))
def jX11_shares_122_11 (Y : XS) (n : Nat) (S : PS) (v0 : Nat) (v2 : Int32) (v4 : Int32) (v5 : Int32) (t0 : Int32) : Option ((Int32 × PS) ⊕ PS) :=
  (if t0 = 0 then jX11_shares_135_11 Y n S v0 v2 t0 else kc (fX11_pay Y n S v0 v4 v5) (fun q132 => jX11_shares_135_11 Y n q132 v0 v2 t0))
def bX11_shares_11 (Y : XS) (n : Nat) (v0 : Nat) (v2 : Int32) (s11 : (Int32 × PS)) : Option ((Int32 × PS) ⊕ PS) :=
  (if s11.1 = 0 then some (.inr s11.2) else kgi s11.2 v0 22 (fun x16 => (if v2 ≤ x16 then some (.inr s11.2) else kc (iter (bX11_shares_32 Y n v0 v2) n ((-1 : Int32), (-1 : Int32), (0 : Int32), s11.2)) (fun r32 => (if r32.1 = (-1 : Int32) then jX11_shares_122_11 Y n r32.2.2 v0 v2 r32.1 r32.2.1 (0 : Int32) else jX11_shares_122_11 Y n r32.2.2 v0 v2 r32.1 r32.2.1 (1 : Int32))))))
def jX11_shares_138 (Y : XS) (n : Nat) (S : PS)  : Option (PS) :=
  some S
def fX11_shares (Y : XS) (n : Nat) (S : PS) (a0 : Nat) (x1_ : Int32) (x2_ : Int32) : Option (PS) :=
  kc (fX11_clear Y n S a0) (fun q1 => kc (fX11_layPurses Y n q1 a0 x1_) (fun q6 => kc (iter (bX11_shares_11 Y n a0 x2_) n ((1 : Int32), q6)) (fun r11 => jX11_shares_138 Y n r11 )))
theorem wjX11_shares_105_32 {C : CT} {X : XT} (hC : CK C RX11 cX11_shares 8 none 4) (n : Nat) (S : PS) (v0 : Nat) (v2 : Int32) (v4 : Int32) (v5 : Int32) (v6 : Int32)  (hTv0 : Ty X.2.1 v0 11) {o : (Int32 × Int32 × Int32 × PS) ⊕ (Int32 × Int32 × PS)} (hf : jX11_shares_105_32 X.2.1 n S v0 v2 v4 v5 v6 = some o) (hN : ∀ s', o = .inl s' → UW C X s'.2.2.2 32 [(0, .ref (X.1 v0)), (2, .int v2), (4, .int s'.1), (5, .int s'.2.1), (6, .int s'.2.2.1)] []) (hO0 : ∀ p', o = .inr p' → UW C X p'.2.2 111 [(0, .ref (X.1 v0)), (2, .int v2), (4, .int p'.1), (5, .int p'.2.1)] []) : UW C X S 105 [(0, .ref (X.1 v0)), (2, .int v2), (4, .int v4), (5, .int v5), (6, .int v6)] [] := by
  unfold jX11_shares_105_32 at hf
  refine u_iinc (v := v6 + (1 : Int32)) (lv' := [(6, .int (v6 + (1 : Int32))), (0, .ref (X.1 v0)), (2, .int v2), (4, .int v4), (5, .int v5)]) hC dX11_shares_105 4 rfl rfl (by decide) rfl ?_
  refine u_goto (tgt := 32) hC dX11_shares_108 (by decide) ?_
  refine u_sub (lv' := [(0, .ref (X.1 v0)), (2, .int v2), (4, .int v4), (5, .int v5), (6, .int (v6 + (1 : Int32)))]) [1, 2, 3, 4, 0] rfl ?_
  exact hN _ (Option.some.inj hf).symm
theorem wjX11_shares_97_32 {C : CT} {X : XT} (hC : CK C RX11 cX11_shares 8 none 4) (n : Nat) (S : PS) (v0 : Nat) (v2 : Int32) (v6 : Int32) (v7 : Int32)  (hTv0 : Ty X.2.1 v0 11) {o : (Int32 × Int32 × Int32 × PS) ⊕ (Int32 × Int32 × PS)} (hf : jX11_shares_97_32 X.2.1 n S v0 v2 v6 v7 = some o) (hN : ∀ s', o = .inl s' → UW C X s'.2.2.2 32 [(0, .ref (X.1 v0)), (2, .int v2), (4, .int s'.1), (5, .int s'.2.1), (6, .int s'.2.2.1)] []) (hO0 : ∀ p', o = .inr p' → UW C X p'.2.2 111 [(0, .ref (X.1 v0)), (2, .int v2), (4, .int p'.1), (5, .int p'.2.1)] []) : UW C X S 97 [(0, .ref (X.1 v0)), (2, .int v2), (6, .int v6), (7, .int v7)] [] := by
  unfold jX11_shares_97_32 at hf
  refine u_iload hC dX11_shares_97 2 rfl ?_
  refine u_istore (lv' := [(4, .int v6), (0, .ref (X.1 v0)), (2, .int v2), (6, .int v6), (7, .int v7)]) hC dX11_shares_99 (by decide) rfl ?_
  refine u_iload hC dX11_shares_101 4 rfl ?_
  refine u_istore (lv' := [(5, .int v7), (4, .int v6), (0, .ref (X.1 v0)), (2, .int v2), (6, .int v6), (7, .int v7)]) hC dX11_shares_103 (by decide) rfl ?_
  refine u_sub (lv' := [(0, .ref (X.1 v0)), (2, .int v2), (4, .int v6), (5, .int v7), (6, .int v6)]) [2, 3, 1, 0, 4] rfl ?_
  exact wjX11_shares_105_32 hC n S v0 v2 v6 v7 v6  hTv0 hf hN hO0
theorem wjX11_shares_63_32 {C : CT} {X : XT} (hC : CK C RX11 cX11_shares 8 none 4) (n : Nat) (S : PS) (v0 : Nat) (v2 : Int32) (v4 : Int32) (v5 : Int32) (v6 : Int32) (t0 : Int32)  (hTv0 : Ty X.2.1 v0 11) {o : (Int32 × Int32 × Int32 × PS) ⊕ (Int32 × Int32 × PS)} (hf : jX11_shares_63_32 X.2.1 n S v0 v2 v4 v5 v6 t0 = some o) (hN : ∀ s', o = .inl s' → UW C X s'.2.2.2 32 [(0, .ref (X.1 v0)), (2, .int v2), (4, .int s'.1), (5, .int s'.2.1), (6, .int s'.2.2.1)] []) (hO0 : ∀ p', o = .inr p' → UW C X p'.2.2 111 [(0, .ref (X.1 v0)), (2, .int v2), (4, .int p'.1), (5, .int p'.2.1)] []) : UW C X S 63 [(0, .ref (X.1 v0)), (2, .int v2), (4, .int v4), (5, .int v5), (6, .int v6)] [.int t0] := by
  unfold jX11_shares_63_32 at hf
  refine u_istore (lv' := [(7, .int t0), (0, .ref (X.1 v0)), (2, .int v2), (4, .int v4), (5, .int v5), (6, .int v6)]) hC dX11_shares_63 (by decide) rfl ?_
  refine u_iload hC dX11_shares_65 0 rfl ?_
  refine u_iconst (v := (-1 : Int32)) hC dX11_shares_67 (by decide) ?_
  refine u_icmp_eq (tgt := 105) hC dX11_shares_68 (by decide) hf (fun h68 hf => ?_) (fun h68 hf => ?_)
  · refine u_sub (lv' := [(0, .ref (X.1 v0)), (2, .int v2), (4, .int v4), (5, .int v5), (6, .int v6)]) [1, 2, 3, 4, 5] rfl ?_
    exact wjX11_shares_105_32 hC n S v0 v2 v4 v5 v6  hTv0 hf hN hO0
  · refine u_iload hC dX11_shares_71 3 rfl ?_
    refine u_iconst (v := (-1 : Int32)) hC dX11_shares_73 (by decide) ?_
    refine u_icmp_eq (tgt := 97) hC dX11_shares_74 (by decide) hf (fun h74 hf => ?_) (fun h74 hf => ?_)
    · refine u_sub (lv' := [(0, .ref (X.1 v0)), (2, .int v2), (6, .int v6), (7, .int t0)]) [1, 2, 5, 0] rfl ?_
      exact wjX11_shares_97_32 hC n S v0 v2 v6 t0  hTv0 hf hN hO0
    · refine u_aload_n hC dX11_shares_77 1 rfl rfl ?_
      refine u_iload hC dX11_shares_78 0 rfl ?_
      refine u_i2l hC dX11_shares_80 ?_
      refine u_iload hC dX11_shares_81 5 rfl ?_
      refine u_iload hC dX11_shares_83 4 rfl ?_
      refine u_i2l hC dX11_shares_85 ?_
      refine u_iload hC dX11_shares_86 3 rfl ?_
      obtain ⟨q88, hq88, hf⟩ := kc_some hf
      refine u_callV hC (ctX11_isFirst (cL C) hC.tr (cG C) X.1 X.2.1 n S v0 (Int32.toInt64 t0) v6 (Int32.toInt64 v5) v4 hTv0 hq88) lk_X11_182 rfl hTv0 (by decide) rfl (by decide) (by decide) rfl rfl (Nat.le_of_ble_eq_true rfl) dX11_shares_88 ?_
      refine u_if_ne (tgt := 97) hC dX11_shares_91 (by decide) hf (fun h91 hf => ?_) (fun h91 hf => ?_)
      · refine u_sub (lv' := [(0, .ref (X.1 v0)), (2, .int v2), (6, .int v6), (7, .int t0)]) [1, 2, 5, 0] rfl ?_
        exact wjX11_shares_97_32 hC n S v0 v2 v6 t0  hTv0 hf hN hO0
      · refine u_goto (tgt := 105) hC dX11_shares_94 (by decide) ?_
        refine u_sub (lv' := [(0, .ref (X.1 v0)), (2, .int v2), (4, .int v4), (5, .int v5), (6, .int v6)]) [1, 2, 3, 4, 5] rfl ?_
        exact wjX11_shares_105_32 hC n S v0 v2 v4 v5 v6  hTv0 hf hN hO0
theorem wbX11_shares_32 {C : CT} {X : XT} (hC : CK C RX11 cX11_shares 8 none 4) (n : Nat) (v0 : Nat) (v2 : Int32) (hTv0 : Ty X.2.1 v0 11) (s32 : (Int32 × Int32 × Int32 × PS)) {o : (Int32 × Int32 × Int32 × PS) ⊕ (Int32 × Int32 × PS)} (hf : bX11_shares_32 X.2.1 n v0 v2 s32 = some o) (hN : ∀ s', o = .inl s' → UW C X s'.2.2.2 32 [(0, .ref (X.1 v0)), (2, .int v2), (4, .int s'.1), (5, .int s'.2.1), (6, .int s'.2.2.1)] []) (hO0 : ∀ p', o = .inr p' → UW C X p'.2.2 111 [(0, .ref (X.1 v0)), (2, .int v2), (4, .int p'.1), (5, .int p'.2.1)] []) : UW C X s32.2.2.2 32 [(0, .ref (X.1 v0)), (2, .int v2), (4, .int s32.1), (5, .int s32.2.1), (6, .int s32.2.2.1)] [] := by
  unfold bX11_shares_32 at hf
  refine u_iload hC dX11_shares_32 4 rfl ?_
  refine u_aload_n hC dX11_shares_34 0 rfl rfl ?_
  obtain ⟨q35, hq35, hf⟩ := kc_some hf
  refine u_callV hC (ctX11_many (cL C) hC.tr (cG C) X.1 X.2.1 n s32.2.2.2 v0 hTv0 hq35) lk_X11_77 rfl hTv0 (by decide) rfl (by decide) (by decide) rfl rfl (Nat.le_of_ble_eq_true rfl) dX11_shares_35 ?_
  refine u_icmp_ge (tgt := 111) hC dX11_shares_38 (by decide) hf (fun h38 hf => ?_) (fun h38 hf => ?_)
  · refine u_sub (lv' := [(0, .ref (X.1 v0)), (2, .int v2), (4, .int s32.1), (5, .int s32.2.1)]) [0, 1, 2, 3] rfl ?_
    exact hO0 _ (Option.some.inj hf).symm
  · refine u_aload_n hC dX11_shares_41 0 rfl rfl ?_
    refine u_gi hC lf_X11_154 rfl hTv0 dX11_shares_42 hf (fun x42 hf => ?_)
    refine u_iload hC dX11_shares_45 4 rfl ?_
    obtain ⟨q47, hq47, hf⟩ := kc_some hf
    refine u_callS hC (ctX11_isOf (cL C) hC.tr (cG C) X.1 X.2.1 n s32.2.2.2 x42 s32.2.2.1  hq47) lk_X11_147 (by decide) (by decide) rfl rfl (Nat.le_of_ble_eq_true rfl) dX11_shares_47 ?_
    refine u_if_eq (tgt := 57) hC dX11_shares_50 (by decide) hf (fun h50 hf => ?_) (fun h50 hf => ?_)
    · refine u_aload_n hC dX11_shares_57 0 rfl rfl ?_
      refine u_iload hC dX11_shares_58 4 rfl ?_
      obtain ⟨q60, hq60, hf⟩ := kc_some hf
      refine u_callV hC (ctX11_priceOf (cL C) hC.tr (cG C) X.1 X.2.1 n s32.2.2.2 v0 s32.2.2.1 hTv0 hq60) lk_X11_179 rfl hTv0 (by decide) rfl (by decide) (by decide) rfl rfl (Nat.le_of_ble_eq_true rfl) dX11_shares_60 ?_
      exact wjX11_shares_63_32 hC n q60.2 v0 v2 s32.1 s32.2.1 s32.2.2.1 q60.1  hTv0 hf hN hO0
    · refine u_iconst (v := (-1 : Int32)) hC dX11_shares_53 (by decide) ?_
      refine u_goto (tgt := 63) hC dX11_shares_54 (by decide) ?_
      exact wjX11_shares_63_32 hC n s32.2.2.2 v0 v2 s32.1 s32.2.1 s32.2.2.1 (-1 : Int32)  hTv0 hf hN hO0
theorem wjX11_shares_135_11 {C : CT} {X : XT} (hC : CK C RX11 cX11_shares 8 none 4) (n : Nat) (S : PS) (v0 : Nat) (v2 : Int32) (v3 : Int32)  (hTv0 : Ty X.2.1 v0 11) {o : (Int32 × PS) ⊕ PS} (hf : jX11_shares_135_11 X.2.1 n S v0 v2 v3 = some o) (hN : ∀ s', o = .inl s' → UW C X s'.2 11 [(0, .ref (X.1 v0)), (2, .int v2), (3, .int s'.1)] []) (hO0 : ∀ p', o = .inr p' → UW C X p' 138 [] []) : UW C X S 135 [(0, .ref (X.1 v0)), (2, .int v2), (3, .int v3)] [] := by
  unfold jX11_shares_135_11 at hf
  refine u_goto (tgt := 11) hC dX11_shares_135 (by decide) ?_
  exact hN _ (Option.some.inj hf).symm
theorem wjX11_shares_122_11 {C : CT} {X : XT} (hC : CK C RX11 cX11_shares 8 none 4) (n : Nat) (S : PS) (v0 : Nat) (v2 : Int32) (v4 : Int32) (v5 : Int32) (t0 : Int32)  (hTv0 : Ty X.2.1 v0 11) {o : (Int32 × PS) ⊕ PS} (hf : jX11_shares_122_11 X.2.1 n S v0 v2 v4 v5 t0 = some o) (hN : ∀ s', o = .inl s' → UW C X s'.2 11 [(0, .ref (X.1 v0)), (2, .int v2), (3, .int s'.1)] []) (hO0 : ∀ p', o = .inr p' → UW C X p' 138 [] []) : UW C X S 122 [(0, .ref (X.1 v0)), (2, .int v2), (4, .int v4), (5, .int v5)] [.int t0] := by
  unfold jX11_shares_122_11 at hf
  refine u_istore_n (lv' := [(3, .int t0), (0, .ref (X.1 v0)), (2, .int v2), (4, .int v4), (5, .int v5)]) hC dX11_shares_122 rfl (by decide) rfl ?_
  refine u_iload_n hC dX11_shares_123 0 rfl rfl ?_
  refine u_if_eq (tgt := 135) hC dX11_shares_124 (by decide) hf (fun h124 hf => ?_) (fun h124 hf => ?_)
  · refine u_sub (lv' := [(0, .ref (X.1 v0)), (2, .int v2), (3, .int t0)]) [1, 2, 0] rfl ?_
    exact wjX11_shares_135_11 hC n S v0 v2 t0  hTv0 hf hN hO0
  · refine u_aload_n hC dX11_shares_127 1 rfl rfl ?_
    refine u_iload hC dX11_shares_128 3 rfl ?_
    refine u_iload hC dX11_shares_130 4 rfl ?_
    obtain ⟨q132, hq132, hf⟩ := kc_some hf
    refine u_callV hC (ctX11_pay (cL C) hC.tr (cG C) X.1 X.2.1 n S v0 v4 v5 hTv0 hq132) lk_X11_186 rfl hTv0 (by decide) rfl (by decide) (by decide) rfl rfl (Nat.le_of_ble_eq_true rfl) dX11_shares_132 ?_
    refine u_sub (lv' := [(0, .ref (X.1 v0)), (2, .int v2), (3, .int t0)]) [1, 2, 0] rfl ?_
    exact wjX11_shares_135_11 hC n q132 v0 v2 t0  hTv0 hf hN hO0
theorem wbX11_shares_11 {C : CT} {X : XT} (hC : CK C RX11 cX11_shares 8 none 4) (n : Nat) (v0 : Nat) (v2 : Int32) (hTv0 : Ty X.2.1 v0 11) (s11 : (Int32 × PS)) {o : (Int32 × PS) ⊕ PS} (hf : bX11_shares_11 X.2.1 n v0 v2 s11 = some o) (hN : ∀ s', o = .inl s' → UW C X s'.2 11 [(0, .ref (X.1 v0)), (2, .int v2), (3, .int s'.1)] []) (hO0 : ∀ p', o = .inr p' → UW C X p' 138 [] []) : UW C X s11.2 11 [(0, .ref (X.1 v0)), (2, .int v2), (3, .int s11.1)] [] := by
  unfold bX11_shares_11 at hf
  refine u_iload_n hC dX11_shares_11 2 rfl rfl ?_
  refine u_if_eq (tgt := 138) hC dX11_shares_12 (by decide) hf (fun h12 hf => ?_) (fun h12 hf => ?_)
  · refine u_sub (lv' := []) [] rfl ?_
    exact hO0 _ (Option.some.inj hf).symm
  · refine u_aload_n hC dX11_shares_15 0 rfl rfl ?_
    refine u_gi hC lf_X11_157 rfl hTv0 dX11_shares_16 hf (fun x16 hf => ?_)
    refine u_iload_n hC dX11_shares_19 1 rfl rfl ?_
    refine u_icmp_ge (tgt := 138) hC dX11_shares_20 (by decide) hf (fun h20 hf => ?_) (fun h20 hf => ?_)
    · refine u_sub (lv' := []) [] rfl ?_
      exact hO0 _ (Option.some.inj hf).symm
    · refine u_iconst (v := (-1 : Int32)) hC dX11_shares_23 (by decide) ?_
      refine u_istore (lv' := [(4, .int (-1 : Int32)), (0, .ref (X.1 v0)), (2, .int v2), (3, .int s11.1)]) hC dX11_shares_24 (by decide) rfl ?_
      refine u_iconst (v := (-1 : Int32)) hC dX11_shares_26 (by decide) ?_
      refine u_istore (lv' := [(5, .int (-1 : Int32)), (4, .int (-1 : Int32)), (0, .ref (X.1 v0)), (2, .int v2), (3, .int s11.1)]) hC dX11_shares_27 (by decide) rfl ?_
      refine u_iconst (v := (0 : Int32)) hC dX11_shares_29 (by decide) ?_
      refine u_istore (lv' := [(6, .int (0 : Int32)), (5, .int (-1 : Int32)), (4, .int (-1 : Int32)), (0, .ref (X.1 v0)), (2, .int v2), (3, .int s11.1)]) hC dX11_shares_30 (by decide) rfl ?_
      obtain ⟨r32, hr32, hf⟩ := kc_some hf
      have hk32 : UW C X r32.2.2 111 [(0, .ref (X.1 v0)), (2, .int v2), (4, .int r32.1), (5, .int r32.2.1)] [] := by
        refine u_iload hC dX11_shares_111 2 rfl ?_
        refine u_iconst (v := (-1 : Int32)) hC dX11_shares_113 (by decide) ?_
        refine u_icmp_eq (tgt := 121) hC dX11_shares_114 (by decide) hf (fun h114 hf => ?_) (fun h114 hf => ?_)
        · refine u_iconst (v := (0 : Int32)) hC dX11_shares_121 (by decide) ?_
          exact wjX11_shares_122_11 hC n r32.2.2 v0 v2 r32.1 r32.2.1 (0 : Int32)  hTv0 hf hN hO0
        · refine u_iconst (v := (1 : Int32)) hC dX11_shares_117 (by decide) ?_
          refine u_goto (tgt := 122) hC dX11_shares_118 (by decide) ?_
          exact wjX11_shares_122_11 hC n r32.2.2 v0 v2 r32.1 r32.2.1 (1 : Int32)  hTv0 hf hN hO0
      refine u_sub (lv' := [(0, .ref (X.1 v0)), (2, .int v2), (4, .int (-1 : Int32)), (5, .int (-1 : Int32)), (6, .int (0 : Int32))]) [3, 4, 2, 1, 0] rfl ?_
      refine iter_ind (P := fun s32 => UW C X s32.2.2.2 32 [(0, .ref (X.1 v0)), (2, .int v2), (4, .int s32.1), (5, .int s32.2.1), (6, .int s32.2.2.1)] []) (fun s32 o' hb hin hout => ?_) n ((-1 : Int32), (-1 : Int32), (0 : Int32), s11.2) hr32
      exact wbX11_shares_32 hC n v0 v2 hTv0 s32 hb hin (fun p e => by rw [hout p e]; exact hk32)
theorem wjX11_shares_138 {C : CT} {X : XT} (hC : CK C RX11 cX11_shares 8 none 4) (n : Nat) (S : PS)    {o : PS} (hf : jX11_shares_138 X.2.1 n S  = some o) (hR : Rt C X cX11_shares none none o) : UW C X S 138 [] [] := by
  unfold jX11_shares_138 at hf
  cases hf
  exact hR _ _ dX11_shares_138 trivial
theorem wX11_shares {C : CT} {X : XT} (hC : CK C RX11 cX11_shares 8 none 4) (n : Nat) (S : PS) (a0 : Nat) (x1_ : Int32) (x2_ : Int32) (hTa0 : Ty X.2.1 a0 11) {o : PS} (hf : fX11_shares X.2.1 n S a0 x1_ x2_ = some o) (hR : Rt C X cX11_shares none none o) : UW C X S 0 [(0, .ref (X.1 a0)), (1, .int x1_), (2, .int x2_)] [] := by
  unfold fX11_shares at hf
  refine u_aload_n hC dX11_shares_0 0 rfl rfl ?_
  obtain ⟨q1, hq1, hf⟩ := kc_some hf
  refine u_callV hC (ctX11_clear (cL C) hC.tr (cG C) X.1 X.2.1 n S a0 hTa0 hq1) lk_X11_173 rfl hTa0 (by decide) rfl (by decide) (by decide) rfl rfl (Nat.le_of_ble_eq_true rfl) dX11_shares_1 ?_
  refine u_aload_n hC dX11_shares_4 0 rfl rfl ?_
  refine u_iload_n hC dX11_shares_5 1 rfl rfl ?_
  obtain ⟨q6, hq6, hf⟩ := kc_some hf
  refine u_callV hC (ctX11_layPurses (cL C) hC.tr (cG C) X.1 X.2.1 n q1 a0 x1_ hTa0 hq6) lk_X11_176 rfl hTa0 (by decide) rfl (by decide) (by decide) rfl rfl (Nat.le_of_ble_eq_true rfl) dX11_shares_6 ?_
  refine u_iconst (v := (1 : Int32)) hC dX11_shares_9 (by decide) ?_
  refine u_istore_n (lv' := [(3, .int (1 : Int32)), (0, .ref (X.1 a0)), (1, .int x1_), (2, .int x2_)]) hC dX11_shares_10 rfl (by decide) rfl ?_
  obtain ⟨r11, hr11, hf⟩ := kc_some hf
  have hk11 : UW C X r11 138 [] [] := by
    exact wjX11_shares_138 hC n r11    hf hR
  refine u_sub (lv' := [(0, .ref (X.1 a0)), (2, .int x2_), (3, .int (1 : Int32))]) [1, 3, 0] rfl ?_
  refine iter_ind (P := fun s11 => UW C X s11.2 11 [(0, .ref (X.1 a0)), (2, .int x2_), (3, .int s11.1)] []) (fun s11 o' hb hin hout => ?_) n ((1 : Int32), q6) hr11
  exact wbX11_shares_11 hC n a0 x2_ hTa0 s11 hb hin (fun p e => by rw [hout p e]; exact hk11)
theorem ctX11_shares (l : Launch) (hl : l.stackTraces = false) (G : GT) (ρ : Nat → Nat) (Y : XS) (n : Nat) (S : PS) (a0 : Nat) (x1_ : Int32) (x2_ : Int32) (hTa0 : Ty Y a0 11) {o : PS} (hf : fX11_shares Y n S a0 x1_ x2_ = some o) : Mt l G yX11_shares cX11_shares 8 none 4 ρ Y [.ref (ρ a0), .int x1_, .int x2_] S none o :=
  Mt_of hl (by decide) (Nat.le_of_ble_eq_true rfl) (fun C _ _ hC hR => wX11_shares (X := (ρ, Y, 0, 0)) hC n S a0 x1_ x2_ hTa0 hf hR)
-- X11_raises
theorem dX11_raises_0 : decode cX11_raises 0 = .ok (.aload_n 0, 1) := by decide +kernel
theorem dX11_raises_1 : decode cX11_raises 1 = .ok (.iconst 0, 1) := by decide +kernel
theorem dX11_raises_2 : decode cX11_raises 2 = .ok (.putfield 190, 3) := by decide +kernel
theorem dX11_raises_5 : decode cX11_raises 5 = .ok (.aload_n 0, 1) := by decide +kernel
theorem dX11_raises_6 : decode cX11_raises 6 = .ok (.iconst 0, 1) := by decide +kernel
theorem dX11_raises_7 : decode cX11_raises 7 = .ok (.bipush 12, 2) := by decide +kernel
theorem dX11_raises_9 : decode cX11_raises 9 = .ok (.invokevirtual 193, 3) := by decide +kernel
theorem dX11_raises_12 : decode cX11_raises 12 = .ok (.aload_n 0, 1) := by decide +kernel
theorem dX11_raises_13 : decode cX11_raises 13 = .ok (.getfield 190, 3) := by decide +kernel
theorem dX11_raises_16 : decode cX11_raises 16 = .ok (.sipush 300, 3) := by decide +kernel
theorem dX11_raises_19 : decode cX11_raises 19 = .ok (.if_icmp .ge 75, 3) := by decide +kernel
theorem dX11_raises_22 : decode cX11_raises 22 = .ok (.aload_n 0, 1) := by decide +kernel
theorem dX11_raises_23 : decode cX11_raises 23 = .ok (.getfield 157, 3) := by decide +kernel
theorem dX11_raises_26 : decode cX11_raises 26 = .ok (.aload_n 0, 1) := by decide +kernel
theorem dX11_raises_27 : decode cX11_raises 27 = .ok (.invokevirtual 77, 3) := by decide +kernel
theorem dX11_raises_30 : decode cX11_raises 30 = .ok (.if_icmp .ge 64, 3) := by decide +kernel
theorem dX11_raises_33 : decode cX11_raises 33 = .ok (.aload_n 0, 1) := by decide +kernel
theorem dX11_raises_34 : decode cX11_raises 34 = .ok (.sipush 1000, 3) := by decide +kernel
theorem dX11_raises_37 : decode cX11_raises 37 = .ok (.aload_n 0, 1) := by decide +kernel
theorem dX11_raises_38 : decode cX11_raises 38 = .ok (.getfield 190, 3) := by decide +kernel
theorem dX11_raises_41 : decode cX11_raises 41 = .ok (.iconst 1, 1) := by decide +kernel
theorem dX11_raises_42 : decode cX11_raises 42 = .ok (.iadd, 1) := by decide +kernel
theorem dX11_raises_43 : decode cX11_raises 43 = .ok (.imul, 1) := by decide +kernel
theorem dX11_raises_44 : decode cX11_raises 44 = .ok (.bipush 12, 2) := by decide +kernel
theorem dX11_raises_46 : decode cX11_raises 46 = .ok (.invokevirtual 193, 3) := by decide +kernel
theorem dX11_raises_49 : decode cX11_raises 49 = .ok (.aload_n 0, 1) := by decide +kernel
theorem dX11_raises_50 : decode cX11_raises 50 = .ok (.aload_n 0, 1) := by decide +kernel
theorem dX11_raises_51 : decode cX11_raises 51 = .ok (.getfield 154, 3) := by decide +kernel
theorem dX11_raises_54 : decode cX11_raises 54 = .ok (.invokevirtual 196, 3) := by decide +kernel
theorem dX11_raises_57 : decode cX11_raises 57 = .ok (.aload_n 0, 1) := by decide +kernel
theorem dX11_raises_58 : decode cX11_raises 58 = .ok (.getfield 9, 3) := by decide +kernel
theorem dX11_raises_61 : decode cX11_raises 61 = .ok (.iconst 0, 1) := by decide +kernel
theorem dX11_raises_62 : decode cX11_raises 62 = .ok (.iaload, 1) := by decide +kernel
theorem dX11_raises_63 : decode cX11_raises 63 = .ok (.if_icmp .le 18, 3) := by decide +kernel
theorem dX11_raises_66 : decode cX11_raises 66 = .ok (.aload_n 0, 1) := by decide +kernel
theorem dX11_raises_67 : decode cX11_raises 67 = .ok (.sipush 1000, 3) := by decide +kernel
theorem dX11_raises_70 : decode cX11_raises 70 = .ok (.aload_n 0, 1) := by decide +kernel
theorem dX11_raises_71 : decode cX11_raises 71 = .ok (.getfield 190, 3) := by decide +kernel
theorem dX11_raises_74 : decode cX11_raises 74 = .ok (.imul, 1) := by decide +kernel
theorem dX11_raises_75 : decode cX11_raises 75 = .ok (.bipush 12, 2) := by decide +kernel
theorem dX11_raises_77 : decode cX11_raises 77 = .ok (.invokevirtual 193, 3) := by decide +kernel
theorem dX11_raises_80 : decode cX11_raises 80 = .ok (.return_, 1) := by decide +kernel
theorem dX11_raises_81 : decode cX11_raises 81 = .ok (.aload_n 0, 1) := by decide +kernel
theorem dX11_raises_82 : decode cX11_raises 82 = .ok (.dup, 1) := by decide +kernel
theorem dX11_raises_83 : decode cX11_raises 83 = .ok (.getfield 190, 3) := by decide +kernel
theorem dX11_raises_86 : decode cX11_raises 86 = .ok (.iconst 1, 1) := by decide +kernel
theorem dX11_raises_87 : decode cX11_raises 87 = .ok (.iadd, 1) := by decide +kernel
theorem dX11_raises_88 : decode cX11_raises 88 = .ok (.putfield 190, 3) := by decide +kernel
theorem dX11_raises_91 : decode cX11_raises 91 = .ok (.goto (-79), 3) := by decide +kernel
theorem dX11_raises_94 : decode cX11_raises 94 = .ok (.return_, 1) := by decide +kernel
def bX11_raises_12 (Y : XS) (n : Nat) (v0 : Nat) (s12 : PS) : Option (PS ⊕ (PS ⊕ (PS))) :=
  kgi s12 v0 23 (fun x13 => (if (300 : Int32) ≤ x13 then some (.inr (.inl s12)) else kgi s12 v0 22 (fun x23 => kc (fX11_many Y n s12 v0) (fun q27 => (if q27 ≤ x23 then some (.inr (.inl s12)) else kgi s12 v0 23 (fun x38 => kc (fX11_shares Y n s12 v0 ((1000 : Int32) * (x38 + (1 : Int32))) (12 : Int32)) (fun q46 => kgi q46 v0 21 (fun x51 => kc (fX11_costsOf Y n q46 v0 x51) (fun q54 => kgr q46 v0 0 (fun b58 => kai Y q46 b58 (0 : Int32) (fun x62 => (if q54 ≤ x62 then kgi q46 v0 23 (fun x83 => kpi q46 v0 23 (x83 + (1 : Int32)) (fun S88 => some (.inl S88))) else kgi q46 v0 23 (fun x71 => kc (fX11_shares Y n q46 v0 ((1000 : Int32) * x71) (12 : Int32)) (fun q77 => some (.inr (.inr q77))))))))))))))))
def jX11_raises_94 (Y : XS) (n : Nat) (S : PS)  : Option (PS) :=
  some S
def fX11_raises (Y : XS) (n : Nat) (S : PS) (a0 : Nat) : Option (PS) :=
  kpi S a0 23 (0 : Int32) (fun S2 => kc (fX11_shares Y n S2 a0 (0 : Int32) (12 : Int32)) (fun q9 => kc (iter (bX11_raises_12 Y n a0) n q9) (fun r12 => ks r12 (fun p12_0 => jX11_raises_94 Y n p12_0 ) (fun p12_1 => some p12_1))))
theorem wbX11_raises_12 {C : CT} {X : XT} (hC : CK C RX11 cX11_raises 1 none 5) (n : Nat) (v0 : Nat) (hTv0 : Ty X.2.1 v0 11) (s12 : PS) {o : PS ⊕ (PS ⊕ (PS))} (hf : bX11_raises_12 X.2.1 n v0 s12 = some o) (hN : ∀ s', o = .inl s' → UW C X s' 12 [(0, .ref (X.1 v0))] []) (hO0 : ∀ p', o = .inr (.inl p') → UW C X p' 94 [] []) (hR : ∀ q', o = .inr (.inr q') → Rt C X cX11_raises none none q') : UW C X s12 12 [(0, .ref (X.1 v0))] [] := by
  unfold bX11_raises_12 at hf
  refine u_aload_n hC dX11_raises_12 0 rfl rfl ?_
  refine u_gi hC lf_X11_190 rfl hTv0 dX11_raises_13 hf (fun x13 hf => ?_)
  refine u_sipush (v := (300 : Int32)) hC dX11_raises_16 (by decide) ?_
  refine u_icmp_ge (tgt := 94) hC dX11_raises_19 (by decide) hf (fun h19 hf => ?_) (fun h19 hf => ?_)
  · refine u_sub (lv' := []) [] rfl ?_
    exact hO0 _ (Option.some.inj hf).symm
  · refine u_aload_n hC dX11_raises_22 0 rfl rfl ?_
    refine u_gi hC lf_X11_157 rfl hTv0 dX11_raises_23 hf (fun x23 hf => ?_)
    refine u_aload_n hC dX11_raises_26 0 rfl rfl ?_
    obtain ⟨q27, hq27, hf⟩ := kc_some hf
    refine u_callV hC (ctX11_many (cL C) hC.tr (cG C) X.1 X.2.1 n s12 v0 hTv0 hq27) lk_X11_77 rfl hTv0 (by decide) rfl (by decide) (by decide) rfl rfl (Nat.le_of_ble_eq_true rfl) dX11_raises_27 ?_
    refine u_icmp_ge (tgt := 94) hC dX11_raises_30 (by decide) hf (fun h30 hf => ?_) (fun h30 hf => ?_)
    · refine u_sub (lv' := []) [] rfl ?_
      exact hO0 _ (Option.some.inj hf).symm
    · refine u_aload_n hC dX11_raises_33 0 rfl rfl ?_
      refine u_sipush (v := (1000 : Int32)) hC dX11_raises_34 (by decide) ?_
      refine u_aload_n hC dX11_raises_37 0 rfl rfl ?_
      refine u_gi hC lf_X11_190 rfl hTv0 dX11_raises_38 hf (fun x38 hf => ?_)
      refine u_iconst (v := (1 : Int32)) hC dX11_raises_41 (by decide) ?_
      refine u_iadd hC dX11_raises_42 ?_
      refine u_imul hC dX11_raises_43 ?_
      refine u_bipush (v := (12 : Int32)) hC dX11_raises_44 (by decide) ?_
      obtain ⟨q46, hq46, hf⟩ := kc_some hf
      refine u_callV hC (ctX11_shares (cL C) hC.tr (cG C) X.1 X.2.1 n s12 v0 ((1000 : Int32) * (x38 + (1 : Int32))) (12 : Int32) hTv0 hq46) lk_X11_193 rfl hTv0 (by decide) rfl (by decide) (by decide) rfl rfl (Nat.le_of_ble_eq_true rfl) dX11_raises_46 ?_
      refine u_aload_n hC dX11_raises_49 0 rfl rfl ?_
      refine u_aload_n hC dX11_raises_50 0 rfl rfl ?_
      refine u_gi hC lf_X11_154 rfl hTv0 dX11_raises_51 hf (fun x51 hf => ?_)
      obtain ⟨q54, hq54, hf⟩ := kc_some hf
      refine u_callV hC (ctX11_costsOf (cL C) hC.tr (cG C) X.1 X.2.1 n q46 v0 x51 hTv0 hq54) lk_X11_196 rfl hTv0 (by decide) rfl (by decide) (by decide) rfl rfl (Nat.le_of_ble_eq_true rfl) dX11_raises_54 ?_
      refine u_aload_n hC dX11_raises_57 0 rfl rfl ?_
      refine u_gr hC lf_X11_9 rfl hTv0 dX11_raises_58 hf (fun b58 hTb58 hf => ?_)
      refine u_iconst (v := (0 : Int32)) hC dX11_raises_61 (by decide) ?_
      refine u_ai hC hTb58 dX11_raises_62 hf (fun x62 hf => ?_)
      refine u_icmp_le (tgt := 81) hC dX11_raises_63 (by decide) hf (fun h63 hf => ?_) (fun h63 hf => ?_)
      · refine u_aload_n hC dX11_raises_81 0 rfl rfl ?_
        refine u_dup hC dX11_raises_82 rfl ?_
        refine u_gi hC lf_X11_190 rfl hTv0 dX11_raises_83 hf (fun x83 hf => ?_)
        refine u_iconst (v := (1 : Int32)) hC dX11_raises_86 (by decide) ?_
        refine u_iadd hC dX11_raises_87 ?_
        refine u_pi hC lf_X11_190 rfl rfl rfl hTv0 dX11_raises_88 hf (fun S88 hf => ?_)
        refine u_goto (tgt := 12) hC dX11_raises_91 (by decide) ?_
        exact hN _ (Option.some.inj hf).symm
      · refine u_aload_n hC dX11_raises_66 0 rfl rfl ?_
        refine u_sipush (v := (1000 : Int32)) hC dX11_raises_67 (by decide) ?_
        refine u_aload_n hC dX11_raises_70 0 rfl rfl ?_
        refine u_gi hC lf_X11_190 rfl hTv0 dX11_raises_71 hf (fun x71 hf => ?_)
        refine u_imul hC dX11_raises_74 ?_
        refine u_bipush (v := (12 : Int32)) hC dX11_raises_75 (by decide) ?_
        obtain ⟨q77, hq77, hf⟩ := kc_some hf
        refine u_callV hC (ctX11_shares (cL C) hC.tr (cG C) X.1 X.2.1 n q46 v0 ((1000 : Int32) * x71) (12 : Int32) hTv0 hq77) lk_X11_193 rfl hTv0 (by decide) rfl (by decide) (by decide) rfl rfl (Nat.le_of_ble_eq_true rfl) dX11_raises_77 ?_
        exact hR _ (Option.some.inj hf).symm _ _ dX11_raises_80 trivial
theorem wjX11_raises_94 {C : CT} {X : XT} (hC : CK C RX11 cX11_raises 1 none 5) (n : Nat) (S : PS)    {o : PS} (hf : jX11_raises_94 X.2.1 n S  = some o) (hR : Rt C X cX11_raises none none o) : UW C X S 94 [] [] := by
  unfold jX11_raises_94 at hf
  cases hf
  exact hR _ _ dX11_raises_94 trivial
theorem wX11_raises {C : CT} {X : XT} (hC : CK C RX11 cX11_raises 1 none 5) (n : Nat) (S : PS) (a0 : Nat) (hTa0 : Ty X.2.1 a0 11) {o : PS} (hf : fX11_raises X.2.1 n S a0 = some o) (hR : Rt C X cX11_raises none none o) : UW C X S 0 [(0, .ref (X.1 a0))] [] := by
  unfold fX11_raises at hf
  refine u_aload_n hC dX11_raises_0 0 rfl rfl ?_
  refine u_iconst (v := (0 : Int32)) hC dX11_raises_1 (by decide) ?_
  refine u_pi hC lf_X11_190 rfl rfl rfl hTa0 dX11_raises_2 hf (fun S2 hf => ?_)
  refine u_aload_n hC dX11_raises_5 0 rfl rfl ?_
  refine u_iconst (v := (0 : Int32)) hC dX11_raises_6 (by decide) ?_
  refine u_bipush (v := (12 : Int32)) hC dX11_raises_7 (by decide) ?_
  obtain ⟨q9, hq9, hf⟩ := kc_some hf
  refine u_callV hC (ctX11_shares (cL C) hC.tr (cG C) X.1 X.2.1 n S2 a0 (0 : Int32) (12 : Int32) hTa0 hq9) lk_X11_193 rfl hTa0 (by decide) rfl (by decide) (by decide) rfl rfl (Nat.le_of_ble_eq_true rfl) dX11_raises_9 ?_
  obtain ⟨r12, hr12, hf⟩ := kc_some hf
  have hk12_0 : ∀ p12_0, r12 = (.inl p12_0) → UW C X p12_0 94 [] [] := by
    intro p12_0 he
    subst he
    have hf := ks_l hf
    exact wjX11_raises_94 hC n p12_0    hf hR
  have hk12_1 : ∀ p12_1, r12 = (.inr p12_1) → Rt C X cX11_raises none none p12_1 := by
    intro p12_1 he
    subst he
    have hf := ks_r hf
    cases hf
    exact hR
  refine iter_ind (P := fun s12 => UW C X s12 12 [(0, .ref (X.1 a0))] []) (fun s12 o' hb hin hout => ?_) n q9 hr12
  exact wbX11_raises_12 hC n a0 hTa0 s12 hb hin (fun p e => hk12_0 p (hout _ e).symm) (fun p e => hk12_1 p (hout _ e).symm)
theorem ctX11_raises (l : Launch) (hl : l.stackTraces = false) (G : GT) (ρ : Nat → Nat) (Y : XS) (n : Nat) (S : PS) (a0 : Nat) (hTa0 : Ty Y a0 11) {o : PS} (hf : fX11_raises Y n S a0 = some o) : Mt l G yX11_raises cX11_raises 1 none 5 ρ Y [.ref (ρ a0)] S none o :=
  Mt_of hl (by decide) (Nat.le_of_ble_eq_true rfl) (fun C _ _ hC hR => wX11_raises (X := (ρ, Y, 0, 0)) hC n S a0 hTa0 hf hR)
-- X11_numberOf
theorem dX11_numberOf_0 : decode cX11_numberOf 0 = .ok (.iload_n 2, 1) := by decide +kernel
theorem dX11_numberOf_1 : decode cX11_numberOf 1 = .ok (.ifCond .eq 22, 3) := by decide +kernel
theorem dX11_numberOf_4 : decode cX11_numberOf 4 = .ok (.aload_n 0, 1) := by decide +kernel
theorem dX11_numberOf_5 : decode cX11_numberOf 5 = .ok (.getfield 31, 3) := by decide +kernel
theorem dX11_numberOf_8 : decode cX11_numberOf 8 = .ok (.iload_n 1, 1) := by decide +kernel
theorem dX11_numberOf_9 : decode cX11_numberOf 9 = .ok (.iaload, 1) := by decide +kernel
theorem dX11_numberOf_10 : decode cX11_numberOf 10 = .ok (.sipush 1000, 3) := by decide +kernel
theorem dX11_numberOf_13 : decode cX11_numberOf 13 = .ok (.imul, 1) := by decide +kernel
theorem dX11_numberOf_14 : decode cX11_numberOf 14 = .ok (.aload_n 0, 1) := by decide +kernel
theorem dX11_numberOf_15 : decode cX11_numberOf 15 = .ok (.iload_n 1, 1) := by decide +kernel
theorem dX11_numberOf_16 : decode cX11_numberOf 16 = .ok (.invokevirtual 134, 3) := by decide +kernel
theorem dX11_numberOf_19 : decode cX11_numberOf 19 = .ok (.idiv, 1) := by decide +kernel
theorem dX11_numberOf_20 : decode cX11_numberOf 20 = .ok (.goto 9, 3) := by decide +kernel
theorem dX11_numberOf_23 : decode cX11_numberOf 23 = .ok (.aload_n 0, 1) := by decide +kernel
theorem dX11_numberOf_24 : decode cX11_numberOf 24 = .ok (.getfield 31, 3) := by decide +kernel
theorem dX11_numberOf_27 : decode cX11_numberOf 27 = .ok (.iload_n 1, 1) := by decide +kernel
theorem dX11_numberOf_28 : decode cX11_numberOf 28 = .ok (.iaload, 1) := by decide +kernel
theorem dX11_numberOf_29 : decode cX11_numberOf 29 = .ok (.ireturn, 1) := by decide +kernel
def jX11_numberOf_29 (Y : XS) (n : Nat) (S : PS) (t0 : Int32) : Option (Int32) :=
  some t0
def fX11_numberOf (Y : XS) (n : Nat) (S : PS) (a0 : Nat) (x1_ : Int32) (x2_ : Int32) : Option (Int32) :=
  (if x2_ = 0 then kgr S a0 14 (fun b24 => kai Y S b24 x1_ (fun x28 => jX11_numberOf_29 Y n S x28)) else kgr S a0 14 (fun b5 => kai Y S b5 x1_ (fun x9 => kc (fX11_costOf Y n S a0 x1_) (fun q16 => kidiv (x9 * (1000 : Int32)) q16 (fun z19 => jX11_numberOf_29 Y n S z19)))))
theorem wjX11_numberOf_29 {C : CT} {X : XT} (hC : CK C RX11 cX11_numberOf 3 (some .int) 2) (n : Nat) (S : PS) (t0 : Int32)   {o : Int32} (hf : jX11_numberOf_29 X.2.1 n S t0 = some o) (hR : Rt C X cX11_numberOf (some .int) (some (.int o)) S) : UW C X S 29 [] [.int t0] := by
  unfold jX11_numberOf_29 at hf
  cases hf
  exact hR _ _ dX11_numberOf_29 trivial
theorem wX11_numberOf {C : CT} {X : XT} (hC : CK C RX11 cX11_numberOf 3 (some .int) 2) (n : Nat) (S : PS) (a0 : Nat) (x1_ : Int32) (x2_ : Int32) (hTa0 : Ty X.2.1 a0 11) {o : Int32} (hf : fX11_numberOf X.2.1 n S a0 x1_ x2_ = some o) (hR : Rt C X cX11_numberOf (some .int) (some (.int o)) S) : UW C X S 0 [(0, .ref (X.1 a0)), (1, .int x1_), (2, .int x2_)] [] := by
  unfold fX11_numberOf at hf
  refine u_iload_n hC dX11_numberOf_0 2 rfl rfl ?_
  refine u_if_eq (tgt := 23) hC dX11_numberOf_1 (by decide) hf (fun h1 hf => ?_) (fun h1 hf => ?_)
  · refine u_aload_n hC dX11_numberOf_23 0 rfl rfl ?_
    refine u_gr hC lf_X11_31 rfl hTa0 dX11_numberOf_24 hf (fun b24 hTb24 hf => ?_)
    refine u_iload_n hC dX11_numberOf_27 1 rfl rfl ?_
    refine u_ai hC hTb24 dX11_numberOf_28 hf (fun x28 hf => ?_)
    refine u_sub (lv' := []) [] rfl ?_
    exact wjX11_numberOf_29 hC n S x28   hf hR
  · refine u_aload_n hC dX11_numberOf_4 0 rfl rfl ?_
    refine u_gr hC lf_X11_31 rfl hTa0 dX11_numberOf_5 hf (fun b5 hTb5 hf => ?_)
    refine u_iload_n hC dX11_numberOf_8 1 rfl rfl ?_
    refine u_ai hC hTb5 dX11_numberOf_9 hf (fun x9 hf => ?_)
    refine u_sipush (v := (1000 : Int32)) hC dX11_numberOf_10 (by decide) ?_
    refine u_imul hC dX11_numberOf_13 ?_
    refine u_aload_n hC dX11_numberOf_14 0 rfl rfl ?_
    refine u_iload_n hC dX11_numberOf_15 1 rfl rfl ?_
    obtain ⟨q16, hq16, hf⟩ := kc_some hf
    refine u_callV hC (ctX11_costOf (cL C) hC.tr (cG C) X.1 X.2.1 n S a0 x1_ hTa0 hq16) lk_X11_134 rfl hTa0 (by decide) rfl (by decide) (by decide) rfl rfl (Nat.le_of_ble_eq_true rfl) dX11_numberOf_16 ?_
    refine u_idiv hC dX11_numberOf_19 hf (fun z19 hf => ?_)
    refine u_goto (tgt := 29) hC dX11_numberOf_20 (by decide) ?_
    refine u_sub (lv' := []) [] rfl ?_
    exact wjX11_numberOf_29 hC n S z19   hf hR
theorem ctX11_numberOf (l : Launch) (hl : l.stackTraces = false) (G : GT) (ρ : Nat → Nat) (Y : XS) (n : Nat) (S : PS) (a0 : Nat) (x1_ : Int32) (x2_ : Int32) (hTa0 : Ty Y a0 11) {o : Int32} (hf : fX11_numberOf Y n S a0 x1_ x2_ = some o) : Mt l G yX11_numberOf cX11_numberOf 3 (some .int) 2 ρ Y [.ref (ρ a0), .int x1_, .int x2_] S (some (.int o)) S :=
  Mt_of hl (by decide) (Nat.le_of_ble_eq_true rfl) (fun C _ _ hC hR => wX11_numberOf (X := (ρ, Y, 0, 0)) hC n S a0 x1_ x2_ hTa0 hf hR)
-- X11_isGreater
theorem dX11_isGreater_0 : decode cX11_isGreater 0 = .ok (.aload_n 0, 1) := by decide +kernel
theorem dX11_isGreater_1 : decode cX11_isGreater 1 = .ok (.iload_n 1, 1) := by decide +kernel
theorem dX11_isGreater_2 : decode cX11_isGreater 2 = .ok (.iload_n 3, 1) := by decide +kernel
theorem dX11_isGreater_3 : decode cX11_isGreater 3 = .ok (.invokevirtual 199, 3) := by decide +kernel
theorem dX11_isGreater_6 : decode cX11_isGreater 6 = .ok (.istore 4, 2) := by decide +kernel
theorem dX11_isGreater_8 : decode cX11_isGreater 8 = .ok (.aload_n 0, 1) := by decide +kernel
theorem dX11_isGreater_9 : decode cX11_isGreater 9 = .ok (.iload_n 2, 1) := by decide +kernel
theorem dX11_isGreater_10 : decode cX11_isGreater 10 = .ok (.iload_n 3, 1) := by decide +kernel
theorem dX11_isGreater_11 : decode cX11_isGreater 11 = .ok (.invokevirtual 199, 3) := by decide +kernel
theorem dX11_isGreater_14 : decode cX11_isGreater 14 = .ok (.istore 5, 2) := by decide +kernel
theorem dX11_isGreater_16 : decode cX11_isGreater 16 = .ok (.iload 4, 2) := by decide +kernel
theorem dX11_isGreater_18 : decode cX11_isGreater 18 = .ok (.iload 5, 2) := by decide +kernel
theorem dX11_isGreater_20 : decode cX11_isGreater 20 = .ok (.if_icmp .eq 16, 3) := by decide +kernel
theorem dX11_isGreater_23 : decode cX11_isGreater 23 = .ok (.iload 4, 2) := by decide +kernel
theorem dX11_isGreater_25 : decode cX11_isGreater 25 = .ok (.iload 5, 2) := by decide +kernel
theorem dX11_isGreater_27 : decode cX11_isGreater 27 = .ok (.if_icmp .le 7, 3) := by decide +kernel
theorem dX11_isGreater_30 : decode cX11_isGreater 30 = .ok (.iconst 1, 1) := by decide +kernel
theorem dX11_isGreater_31 : decode cX11_isGreater 31 = .ok (.goto 4, 3) := by decide +kernel
theorem dX11_isGreater_34 : decode cX11_isGreater 34 = .ok (.iconst 0, 1) := by decide +kernel
theorem dX11_isGreater_35 : decode cX11_isGreater 35 = .ok (.ireturn, 1) := by decide +kernel
theorem dX11_isGreater_36 : decode cX11_isGreater 36 = .ok (.aload_n 0, 1) := by decide +kernel
theorem dX11_isGreater_37 : decode cX11_isGreater 37 = .ok (.iload_n 1, 1) := by decide +kernel
theorem dX11_isGreater_38 : decode cX11_isGreater 38 = .ok (.invokevirtual 134, 3) := by decide +kernel
theorem dX11_isGreater_41 : decode cX11_isGreater 41 = .ok (.aload_n 0, 1) := by decide +kernel
theorem dX11_isGreater_42 : decode cX11_isGreater 42 = .ok (.iload_n 2, 1) := by decide +kernel
theorem dX11_isGreater_43 : decode cX11_isGreater 43 = .ok (.invokevirtual 134, 3) := by decide +kernel
theorem dX11_isGreater_46 : decode cX11_isGreater 46 = .ok (.if_icmp .eq 24, 3) := by decide +kernel
theorem dX11_isGreater_49 : decode cX11_isGreater 49 = .ok (.aload_n 0, 1) := by decide +kernel
theorem dX11_isGreater_50 : decode cX11_isGreater 50 = .ok (.iload_n 1, 1) := by decide +kernel
theorem dX11_isGreater_51 : decode cX11_isGreater 51 = .ok (.invokevirtual 134, 3) := by decide +kernel
theorem dX11_isGreater_54 : decode cX11_isGreater 54 = .ok (.aload_n 0, 1) := by decide +kernel
theorem dX11_isGreater_55 : decode cX11_isGreater 55 = .ok (.iload_n 2, 1) := by decide +kernel
theorem dX11_isGreater_56 : decode cX11_isGreater 56 = .ok (.invokevirtual 134, 3) := by decide +kernel
theorem dX11_isGreater_59 : decode cX11_isGreater 59 = .ok (.if_icmp .ge 7, 3) := by decide +kernel
theorem dX11_isGreater_62 : decode cX11_isGreater 62 = .ok (.iconst 1, 1) := by decide +kernel
theorem dX11_isGreater_63 : decode cX11_isGreater 63 = .ok (.goto 17, 3) := by decide +kernel
theorem dX11_isGreater_66 : decode cX11_isGreater 66 = .ok (.iconst 0, 1) := by decide +kernel
theorem dX11_isGreater_67 : decode cX11_isGreater 67 = .ok (.goto 13, 3) := by decide +kernel
theorem dX11_isGreater_70 : decode cX11_isGreater 70 = .ok (.iload_n 1, 1) := by decide +kernel
theorem dX11_isGreater_71 : decode cX11_isGreater 71 = .ok (.iload_n 2, 1) := by decide +kernel
theorem dX11_isGreater_72 : decode cX11_isGreater 72 = .ok (.if_icmp .ge 7, 3) := by decide +kernel
theorem dX11_isGreater_75 : decode cX11_isGreater 75 = .ok (.iconst 1, 1) := by decide +kernel
theorem dX11_isGreater_76 : decode cX11_isGreater 76 = .ok (.goto 4, 3) := by decide +kernel
theorem dX11_isGreater_79 : decode cX11_isGreater 79 = .ok (.iconst 0, 1) := by decide +kernel
theorem dX11_isGreater_80 : decode cX11_isGreater 80 = .ok (.ireturn, 1) := by decide +kernel
def jX11_isGreater_80 (Y : XS) (n : Nat) (S : PS) (t0 : Int32) : Option (Int32) :=
  kzr t0 (some t0)
def jX11_isGreater_35 (Y : XS) (n : Nat) (S : PS) (t0 : Int32) : Option (Int32) :=
  kzr t0 (some t0)
def fX11_isGreater (Y : XS) (n : Nat) (S : PS) (a0 : Nat) (x1_ : Int32) (x2_ : Int32) (x3_ : Int32) : Option (Int32) :=
  kc (fX11_numberOf Y n S a0 x1_ x3_) (fun q3 => kc (fX11_numberOf Y n S a0 x2_ x3_) (fun q11 => (if q3 = q11 then kc (fX11_costOf Y n S a0 x1_) (fun q38 => kc (fX11_costOf Y n S a0 x2_) (fun q43 => (if q38 = q43 then (if x2_ ≤ x1_ then jX11_isGreater_80 Y n S (0 : Int32) else jX11_isGreater_80 Y n S (1 : Int32)) else kc (fX11_costOf Y n S a0 x1_) (fun q51 => kc (fX11_costOf Y n S a0 x2_) (fun q56 => (if q56 ≤ q51 then jX11_isGreater_80 Y n S (0 : Int32) else jX11_isGreater_80 Y n S (1 : Int32))))))) else (if q3 ≤ q11 then jX11_isGreater_35 Y n S (0 : Int32) else jX11_isGreater_35 Y n S (1 : Int32)))))
theorem wjX11_isGreater_80 {C : CT} {X : XT} (hC : CK C RX11 cX11_isGreater 6 (some .boolean) 3) (n : Nat) (S : PS) (t0 : Int32)   {o : Int32} (hf : jX11_isGreater_80 X.2.1 n S t0 = some o) (hR : Rt C X cX11_isGreater (some .boolean) (some (.int o)) S) : UW C X S 80 [] [.int t0] := by
  unfold jX11_isGreater_80 at hf
  obtain ⟨hz, hf⟩ := kzr_some hf
  cases hf
  exact hR _ _ dX11_isGreater_80 hz
theorem wjX11_isGreater_35 {C : CT} {X : XT} (hC : CK C RX11 cX11_isGreater 6 (some .boolean) 3) (n : Nat) (S : PS) (t0 : Int32)   {o : Int32} (hf : jX11_isGreater_35 X.2.1 n S t0 = some o) (hR : Rt C X cX11_isGreater (some .boolean) (some (.int o)) S) : UW C X S 35 [] [.int t0] := by
  unfold jX11_isGreater_35 at hf
  obtain ⟨hz, hf⟩ := kzr_some hf
  cases hf
  exact hR _ _ dX11_isGreater_35 hz
theorem wX11_isGreater {C : CT} {X : XT} (hC : CK C RX11 cX11_isGreater 6 (some .boolean) 3) (n : Nat) (S : PS) (a0 : Nat) (x1_ : Int32) (x2_ : Int32) (x3_ : Int32) (hTa0 : Ty X.2.1 a0 11) {o : Int32} (hf : fX11_isGreater X.2.1 n S a0 x1_ x2_ x3_ = some o) (hR : Rt C X cX11_isGreater (some .boolean) (some (.int o)) S) : UW C X S 0 [(0, .ref (X.1 a0)), (1, .int x1_), (2, .int x2_), (3, .int x3_)] [] := by
  unfold fX11_isGreater at hf
  refine u_aload_n hC dX11_isGreater_0 0 rfl rfl ?_
  refine u_iload_n hC dX11_isGreater_1 1 rfl rfl ?_
  refine u_iload_n hC dX11_isGreater_2 3 rfl rfl ?_
  obtain ⟨q3, hq3, hf⟩ := kc_some hf
  refine u_callV hC (ctX11_numberOf (cL C) hC.tr (cG C) X.1 X.2.1 n S a0 x1_ x3_ hTa0 hq3) lk_X11_199 rfl hTa0 (by decide) rfl (by decide) (by decide) rfl rfl (Nat.le_of_ble_eq_true rfl) dX11_isGreater_3 ?_
  refine u_istore (lv' := [(4, .int q3), (0, .ref (X.1 a0)), (1, .int x1_), (2, .int x2_), (3, .int x3_)]) hC dX11_isGreater_6 (by decide) rfl ?_
  refine u_aload_n hC dX11_isGreater_8 1 rfl rfl ?_
  refine u_iload_n hC dX11_isGreater_9 3 rfl rfl ?_
  refine u_iload_n hC dX11_isGreater_10 4 rfl rfl ?_
  obtain ⟨q11, hq11, hf⟩ := kc_some hf
  refine u_callV hC (ctX11_numberOf (cL C) hC.tr (cG C) X.1 X.2.1 n S a0 x2_ x3_ hTa0 hq11) lk_X11_199 rfl hTa0 (by decide) rfl (by decide) (by decide) rfl rfl (Nat.le_of_ble_eq_true rfl) dX11_isGreater_11 ?_
  refine u_istore (lv' := [(5, .int q11), (4, .int q3), (0, .ref (X.1 a0)), (1, .int x1_), (2, .int x2_), (3, .int x3_)]) hC dX11_isGreater_14 (by decide) rfl ?_
  refine u_iload hC dX11_isGreater_16 1 rfl ?_
  refine u_iload hC dX11_isGreater_18 0 rfl ?_
  refine u_icmp_eq (tgt := 36) hC dX11_isGreater_20 (by decide) hf (fun h20 hf => ?_) (fun h20 hf => ?_)
  · refine u_aload_n hC dX11_isGreater_36 2 rfl rfl ?_
    refine u_iload_n hC dX11_isGreater_37 3 rfl rfl ?_
    obtain ⟨q38, hq38, hf⟩ := kc_some hf
    refine u_callV hC (ctX11_costOf (cL C) hC.tr (cG C) X.1 X.2.1 n S a0 x1_ hTa0 hq38) lk_X11_134 rfl hTa0 (by decide) rfl (by decide) (by decide) rfl rfl (Nat.le_of_ble_eq_true rfl) dX11_isGreater_38 ?_
    refine u_aload_n hC dX11_isGreater_41 2 rfl rfl ?_
    refine u_iload_n hC dX11_isGreater_42 4 rfl rfl ?_
    obtain ⟨q43, hq43, hf⟩ := kc_some hf
    refine u_callV hC (ctX11_costOf (cL C) hC.tr (cG C) X.1 X.2.1 n S a0 x2_ hTa0 hq43) lk_X11_134 rfl hTa0 (by decide) rfl (by decide) (by decide) rfl rfl (Nat.le_of_ble_eq_true rfl) dX11_isGreater_43 ?_
    refine u_icmp_eq (tgt := 70) hC dX11_isGreater_46 (by decide) hf (fun h46 hf => ?_) (fun h46 hf => ?_)
    · refine u_iload_n hC dX11_isGreater_70 3 rfl rfl ?_
      refine u_iload_n hC dX11_isGreater_71 4 rfl rfl ?_
      refine u_icmp_ge (tgt := 79) hC dX11_isGreater_72 (by decide) hf (fun h72 hf => ?_) (fun h72 hf => ?_)
      · refine u_iconst (v := (0 : Int32)) hC dX11_isGreater_79 (by decide) ?_
        refine u_sub (lv' := []) [] rfl ?_
        exact wjX11_isGreater_80 hC n S (0 : Int32)   hf hR
      · refine u_iconst (v := (1 : Int32)) hC dX11_isGreater_75 (by decide) ?_
        refine u_goto (tgt := 80) hC dX11_isGreater_76 (by decide) ?_
        refine u_sub (lv' := []) [] rfl ?_
        exact wjX11_isGreater_80 hC n S (1 : Int32)   hf hR
    · refine u_aload_n hC dX11_isGreater_49 2 rfl rfl ?_
      refine u_iload_n hC dX11_isGreater_50 3 rfl rfl ?_
      obtain ⟨q51, hq51, hf⟩ := kc_some hf
      refine u_callV hC (ctX11_costOf (cL C) hC.tr (cG C) X.1 X.2.1 n S a0 x1_ hTa0 hq51) lk_X11_134 rfl hTa0 (by decide) rfl (by decide) (by decide) rfl rfl (Nat.le_of_ble_eq_true rfl) dX11_isGreater_51 ?_
      refine u_aload_n hC dX11_isGreater_54 2 rfl rfl ?_
      refine u_iload_n hC dX11_isGreater_55 4 rfl rfl ?_
      obtain ⟨q56, hq56, hf⟩ := kc_some hf
      refine u_callV hC (ctX11_costOf (cL C) hC.tr (cG C) X.1 X.2.1 n S a0 x2_ hTa0 hq56) lk_X11_134 rfl hTa0 (by decide) rfl (by decide) (by decide) rfl rfl (Nat.le_of_ble_eq_true rfl) dX11_isGreater_56 ?_
      refine u_icmp_ge (tgt := 66) hC dX11_isGreater_59 (by decide) hf (fun h59 hf => ?_) (fun h59 hf => ?_)
      · refine u_iconst (v := (0 : Int32)) hC dX11_isGreater_66 (by decide) ?_
        refine u_goto (tgt := 80) hC dX11_isGreater_67 (by decide) ?_
        refine u_sub (lv' := []) [] rfl ?_
        exact wjX11_isGreater_80 hC n S (0 : Int32)   hf hR
      · refine u_iconst (v := (1 : Int32)) hC dX11_isGreater_62 (by decide) ?_
        refine u_goto (tgt := 80) hC dX11_isGreater_63 (by decide) ?_
        refine u_sub (lv' := []) [] rfl ?_
        exact wjX11_isGreater_80 hC n S (1 : Int32)   hf hR
  · refine u_iload hC dX11_isGreater_23 1 rfl ?_
    refine u_iload hC dX11_isGreater_25 0 rfl ?_
    refine u_icmp_le (tgt := 34) hC dX11_isGreater_27 (by decide) hf (fun h27 hf => ?_) (fun h27 hf => ?_)
    · refine u_iconst (v := (0 : Int32)) hC dX11_isGreater_34 (by decide) ?_
      refine u_sub (lv' := []) [] rfl ?_
      exact wjX11_isGreater_35 hC n S (0 : Int32)   hf hR
    · refine u_iconst (v := (1 : Int32)) hC dX11_isGreater_30 (by decide) ?_
      refine u_goto (tgt := 35) hC dX11_isGreater_31 (by decide) ?_
      refine u_sub (lv' := []) [] rfl ?_
      exact wjX11_isGreater_35 hC n S (1 : Int32)   hf hR
theorem ctX11_isGreater (l : Launch) (hl : l.stackTraces = false) (G : GT) (ρ : Nat → Nat) (Y : XS) (n : Nat) (S : PS) (a0 : Nat) (x1_ : Int32) (x2_ : Int32) (x3_ : Int32) (hTa0 : Ty Y a0 11) {o : Int32} (hf : fX11_isGreater Y n S a0 x1_ x2_ x3_ = some o) : Mt l G yX11_isGreater cX11_isGreater 6 (some .boolean) 3 ρ Y [.ref (ρ a0), .int x1_, .int x2_, .int x3_] S (some (.int o)) S :=
  Mt_of hl (by decide) (Nat.le_of_ble_eq_true rfl) (fun C _ _ hC hR => wX11_isGreater (X := (ρ, Y, 0, 0)) hC n S a0 x1_ x2_ x3_ hTa0 hf hR)
-- X11_greatest
theorem dX11_greatest_0 : decode cX11_greatest 0 = .ok (.iconst (-1), 1) := by decide +kernel
theorem dX11_greatest_1 : decode cX11_greatest 1 = .ok (.istore_n 3, 1) := by decide +kernel
theorem dX11_greatest_2 : decode cX11_greatest 2 = .ok (.iconst 0, 1) := by decide +kernel
theorem dX11_greatest_3 : decode cX11_greatest 3 = .ok (.istore 4, 2) := by decide +kernel
theorem dX11_greatest_5 : decode cX11_greatest 5 = .ok (.iload 4, 2) := by decide +kernel
theorem dX11_greatest_7 : decode cX11_greatest 7 = .ok (.aload_n 0, 1) := by decide +kernel
theorem dX11_greatest_8 : decode cX11_greatest 8 = .ok (.invokevirtual 77, 3) := by decide +kernel
theorem dX11_greatest_11 : decode cX11_greatest 11 = .ok (.if_icmp .ge 40, 3) := by decide +kernel
theorem dX11_greatest_14 : decode cX11_greatest 14 = .ok (.iload_n 1, 1) := by decide +kernel
theorem dX11_greatest_15 : decode cX11_greatest 15 = .ok (.iload 4, 2) := by decide +kernel
theorem dX11_greatest_17 : decode cX11_greatest 17 = .ok (.invokestatic 147, 3) := by decide +kernel
theorem dX11_greatest_20 : decode cX11_greatest 20 = .ok (.ifCond .eq 6, 3) := by decide +kernel
theorem dX11_greatest_23 : decode cX11_greatest 23 = .ok (.goto 22, 3) := by decide +kernel
theorem dX11_greatest_26 : decode cX11_greatest 26 = .ok (.iload_n 3, 1) := by decide +kernel
theorem dX11_greatest_27 : decode cX11_greatest 27 = .ok (.iconst (-1), 1) := by decide +kernel
theorem dX11_greatest_28 : decode cX11_greatest 28 = .ok (.if_icmp .eq 14, 3) := by decide +kernel
theorem dX11_greatest_31 : decode cX11_greatest 31 = .ok (.aload_n 0, 1) := by decide +kernel
theorem dX11_greatest_32 : decode cX11_greatest 32 = .ok (.iload 4, 2) := by decide +kernel
theorem dX11_greatest_34 : decode cX11_greatest 34 = .ok (.iload_n 3, 1) := by decide +kernel
theorem dX11_greatest_35 : decode cX11_greatest 35 = .ok (.iload_n 2, 1) := by decide +kernel
theorem dX11_greatest_36 : decode cX11_greatest 36 = .ok (.invokevirtual 206, 3) := by decide +kernel
theorem dX11_greatest_39 : decode cX11_greatest 39 = .ok (.ifCond .eq 6, 3) := by decide +kernel
theorem dX11_greatest_42 : decode cX11_greatest 42 = .ok (.iload 4, 2) := by decide +kernel
theorem dX11_greatest_44 : decode cX11_greatest 44 = .ok (.istore_n 3, 1) := by decide +kernel
theorem dX11_greatest_45 : decode cX11_greatest 45 = .ok (.iinc 4 1, 3) := by decide +kernel
theorem dX11_greatest_48 : decode cX11_greatest 48 = .ok (.goto (-43), 3) := by decide +kernel
theorem dX11_greatest_51 : decode cX11_greatest 51 = .ok (.iload_n 3, 1) := by decide +kernel
theorem dX11_greatest_52 : decode cX11_greatest 52 = .ok (.ireturn, 1) := by decide +kernel
def jX11_greatest_45_5 (Y : XS) (n : Nat) (S : PS) (v0 : Nat) (v1 : Int32) (v2 : Int32) (v3 : Int32) (v4 : Int32) : Option ((Int32 × Int32) ⊕ Int32) :=
  some (.inl (v3, v4 + (1 : Int32)))
def jX11_greatest_42_5 (Y : XS) (n : Nat) (S : PS) (v0 : Nat) (v1 : Int32) (v2 : Int32) (v4 : Int32) : Option ((Int32 × Int32) ⊕ Int32) :=
  jX11_greatest_45_5 Y n S v0 v1 v2 v4 v4
def bX11_greatest_5 (Y : XS) (n : Nat) (S : PS) (v0 : Nat) (v1 : Int32) (v2 : Int32) (s5 : (Int32 × Int32)) : Option ((Int32 × Int32) ⊕ Int32) :=
  kc (fX11_many Y n S v0) (fun q8 => (if q8 ≤ s5.2 then some (.inr s5.1) else kc (fX11_isOf Y n S v1 s5.2) (fun q17 => (if q17 = 0 then (if s5.1 = (-1 : Int32) then jX11_greatest_42_5 Y n S v0 v1 v2 s5.2 else kc (fX11_isGreater Y n S v0 s5.2 s5.1 v2) (fun q36 => (if q36 = 0 then jX11_greatest_45_5 Y n S v0 v1 v2 s5.1 s5.2 else jX11_greatest_42_5 Y n S v0 v1 v2 s5.2))) else jX11_greatest_45_5 Y n S v0 v1 v2 s5.1 s5.2))))
def fX11_greatest (Y : XS) (n : Nat) (S : PS) (a0 : Nat) (x1_ : Int32) (x2_ : Int32) : Option (Int32) :=
  kc (iter (bX11_greatest_5 Y n S a0 x1_ x2_) n ((-1 : Int32), (0 : Int32))) (fun r5 => some r5)
theorem wjX11_greatest_45_5 {C : CT} {X : XT} (hC : CK C RX11 cX11_greatest 5 (some .int) 4) (n : Nat) (S : PS) (v0 : Nat) (v1 : Int32) (v2 : Int32) (v3 : Int32) (v4 : Int32)  (hTv0 : Ty X.2.1 v0 11) {o : (Int32 × Int32) ⊕ Int32} (hf : jX11_greatest_45_5 X.2.1 n S v0 v1 v2 v3 v4 = some o) (hN : ∀ s', o = .inl s' → UW C X S 5 [(0, .ref (X.1 v0)), (1, .int v1), (2, .int v2), (3, .int s'.1), (4, .int s'.2)] []) (hO0 : ∀ p', o = .inr p' → UW C X S 51 [(3, .int p')] []) : UW C X S 45 [(0, .ref (X.1 v0)), (1, .int v1), (2, .int v2), (3, .int v3), (4, .int v4)] [] := by
  unfold jX11_greatest_45_5 at hf
  refine u_iinc (v := v4 + (1 : Int32)) (lv' := [(4, .int (v4 + (1 : Int32))), (0, .ref (X.1 v0)), (1, .int v1), (2, .int v2), (3, .int v3)]) hC dX11_greatest_45 4 rfl rfl (by decide) rfl ?_
  refine u_goto (tgt := 5) hC dX11_greatest_48 (by decide) ?_
  refine u_sub (lv' := [(0, .ref (X.1 v0)), (1, .int v1), (2, .int v2), (3, .int v3), (4, .int (v4 + (1 : Int32)))]) [1, 2, 3, 4, 0] rfl ?_
  exact hN _ (Option.some.inj hf).symm
theorem wjX11_greatest_42_5 {C : CT} {X : XT} (hC : CK C RX11 cX11_greatest 5 (some .int) 4) (n : Nat) (S : PS) (v0 : Nat) (v1 : Int32) (v2 : Int32) (v4 : Int32)  (hTv0 : Ty X.2.1 v0 11) {o : (Int32 × Int32) ⊕ Int32} (hf : jX11_greatest_42_5 X.2.1 n S v0 v1 v2 v4 = some o) (hN : ∀ s', o = .inl s' → UW C X S 5 [(0, .ref (X.1 v0)), (1, .int v1), (2, .int v2), (3, .int s'.1), (4, .int s'.2)] []) (hO0 : ∀ p', o = .inr p' → UW C X S 51 [(3, .int p')] []) : UW C X S 42 [(0, .ref (X.1 v0)), (1, .int v1), (2, .int v2), (4, .int v4)] [] := by
  unfold jX11_greatest_42_5 at hf
  refine u_iload hC dX11_greatest_42 3 rfl ?_
  refine u_istore_n (lv' := [(3, .int v4), (0, .ref (X.1 v0)), (1, .int v1), (2, .int v2), (4, .int v4)]) hC dX11_greatest_44 rfl (by decide) rfl ?_
  refine u_sub (lv' := [(0, .ref (X.1 v0)), (1, .int v1), (2, .int v2), (3, .int v4), (4, .int v4)]) [1, 2, 3, 0, 4] rfl ?_
  exact wjX11_greatest_45_5 hC n S v0 v1 v2 v4 v4  hTv0 hf hN hO0
theorem wbX11_greatest_5 {C : CT} {X : XT} (hC : CK C RX11 cX11_greatest 5 (some .int) 4) (n : Nat) (S : PS) (v0 : Nat) (v1 : Int32) (v2 : Int32) (hTv0 : Ty X.2.1 v0 11) (s5 : (Int32 × Int32)) {o : (Int32 × Int32) ⊕ Int32} (hf : bX11_greatest_5 X.2.1 n S v0 v1 v2 s5 = some o) (hN : ∀ s', o = .inl s' → UW C X S 5 [(0, .ref (X.1 v0)), (1, .int v1), (2, .int v2), (3, .int s'.1), (4, .int s'.2)] []) (hO0 : ∀ p', o = .inr p' → UW C X S 51 [(3, .int p')] []) : UW C X S 5 [(0, .ref (X.1 v0)), (1, .int v1), (2, .int v2), (3, .int s5.1), (4, .int s5.2)] [] := by
  unfold bX11_greatest_5 at hf
  refine u_iload hC dX11_greatest_5 4 rfl ?_
  refine u_aload_n hC dX11_greatest_7 0 rfl rfl ?_
  obtain ⟨q8, hq8, hf⟩ := kc_some hf
  refine u_callV hC (ctX11_many (cL C) hC.tr (cG C) X.1 X.2.1 n S v0 hTv0 hq8) lk_X11_77 rfl hTv0 (by decide) rfl (by decide) (by decide) rfl rfl (Nat.le_of_ble_eq_true rfl) dX11_greatest_8 ?_
  refine u_icmp_ge (tgt := 51) hC dX11_greatest_11 (by decide) hf (fun h11 hf => ?_) (fun h11 hf => ?_)
  · refine u_sub (lv' := [(3, .int s5.1)]) [3] rfl ?_
    exact hO0 _ (Option.some.inj hf).symm
  · refine u_iload_n hC dX11_greatest_14 1 rfl rfl ?_
    refine u_iload hC dX11_greatest_15 4 rfl ?_
    obtain ⟨q17, hq17, hf⟩ := kc_some hf
    refine u_callS hC (ctX11_isOf (cL C) hC.tr (cG C) X.1 X.2.1 n S v1 s5.2  hq17) lk_X11_147 (by decide) (by decide) rfl rfl (Nat.le_of_ble_eq_true rfl) dX11_greatest_17 ?_
    refine u_if_eq (tgt := 26) hC dX11_greatest_20 (by decide) hf (fun h20 hf => ?_) (fun h20 hf => ?_)
    · refine u_iload_n hC dX11_greatest_26 3 rfl rfl ?_
      refine u_iconst (v := (-1 : Int32)) hC dX11_greatest_27 (by decide) ?_
      refine u_icmp_eq (tgt := 42) hC dX11_greatest_28 (by decide) hf (fun h28 hf => ?_) (fun h28 hf => ?_)
      · refine u_sub (lv' := [(0, .ref (X.1 v0)), (1, .int v1), (2, .int v2), (4, .int s5.2)]) [0, 1, 2, 4] rfl ?_
        exact wjX11_greatest_42_5 hC n S v0 v1 v2 s5.2  hTv0 hf hN hO0
      · refine u_aload_n hC dX11_greatest_31 0 rfl rfl ?_
        refine u_iload hC dX11_greatest_32 4 rfl ?_
        refine u_iload_n hC dX11_greatest_34 3 rfl rfl ?_
        refine u_iload_n hC dX11_greatest_35 2 rfl rfl ?_
        obtain ⟨q36, hq36, hf⟩ := kc_some hf
        refine u_callV hC (ctX11_isGreater (cL C) hC.tr (cG C) X.1 X.2.1 n S v0 s5.2 s5.1 v2 hTv0 hq36) lk_X11_206 rfl hTv0 (by decide) rfl (by decide) (by decide) rfl rfl (Nat.le_of_ble_eq_true rfl) dX11_greatest_36 ?_
        refine u_if_eq (tgt := 45) hC dX11_greatest_39 (by decide) hf (fun h39 hf => ?_) (fun h39 hf => ?_)
        · exact wjX11_greatest_45_5 hC n S v0 v1 v2 s5.1 s5.2  hTv0 hf hN hO0
        · refine u_sub (lv' := [(0, .ref (X.1 v0)), (1, .int v1), (2, .int v2), (4, .int s5.2)]) [0, 1, 2, 4] rfl ?_
          exact wjX11_greatest_42_5 hC n S v0 v1 v2 s5.2  hTv0 hf hN hO0
    · refine u_goto (tgt := 45) hC dX11_greatest_23 (by decide) ?_
      exact wjX11_greatest_45_5 hC n S v0 v1 v2 s5.1 s5.2  hTv0 hf hN hO0
theorem wX11_greatest {C : CT} {X : XT} (hC : CK C RX11 cX11_greatest 5 (some .int) 4) (n : Nat) (S : PS) (a0 : Nat) (x1_ : Int32) (x2_ : Int32) (hTa0 : Ty X.2.1 a0 11) {o : Int32} (hf : fX11_greatest X.2.1 n S a0 x1_ x2_ = some o) (hR : Rt C X cX11_greatest (some .int) (some (.int o)) S) : UW C X S 0 [(0, .ref (X.1 a0)), (1, .int x1_), (2, .int x2_)] [] := by
  unfold fX11_greatest at hf
  refine u_iconst (v := (-1 : Int32)) hC dX11_greatest_0 (by decide) ?_
  refine u_istore_n (lv' := [(3, .int (-1 : Int32)), (0, .ref (X.1 a0)), (1, .int x1_), (2, .int x2_)]) hC dX11_greatest_1 rfl (by decide) rfl ?_
  refine u_iconst (v := (0 : Int32)) hC dX11_greatest_2 (by decide) ?_
  refine u_istore (lv' := [(4, .int (0 : Int32)), (3, .int (-1 : Int32)), (0, .ref (X.1 a0)), (1, .int x1_), (2, .int x2_)]) hC dX11_greatest_3 (by decide) rfl ?_
  obtain ⟨r5, hr5, hf⟩ := kc_some hf
  have hk5 : UW C X S 51 [(3, .int r5)] [] := by
    refine u_iload_n hC dX11_greatest_51 0 rfl rfl ?_
    cases hf
    exact hR _ _ dX11_greatest_52 trivial
  refine u_sub (lv' := [(0, .ref (X.1 a0)), (1, .int x1_), (2, .int x2_), (3, .int (-1 : Int32)), (4, .int (0 : Int32))]) [2, 3, 4, 1, 0] rfl ?_
  refine iter_ind (P := fun s5 => UW C X S 5 [(0, .ref (X.1 a0)), (1, .int x1_), (2, .int x2_), (3, .int s5.1), (4, .int s5.2)] []) (fun s5 o' hb hin hout => ?_) n ((-1 : Int32), (0 : Int32)) hr5
  exact wbX11_greatest_5 hC n S a0 x1_ x2_ hTa0 s5 hb hin (fun p e => by rw [hout p e]; exact hk5)
theorem ctX11_greatest (l : Launch) (hl : l.stackTraces = false) (G : GT) (ρ : Nat → Nat) (Y : XS) (n : Nat) (S : PS) (a0 : Nat) (x1_ : Int32) (x2_ : Int32) (hTa0 : Ty Y a0 11) {o : Int32} (hf : fX11_greatest Y n S a0 x1_ x2_ = some o) : Mt l G yX11_greatest cX11_greatest 5 (some .int) 4 ρ Y [.ref (ρ a0), .int x1_, .int x2_] S (some (.int o)) S :=
  Mt_of hl (by decide) (Nat.le_of_ble_eq_true rfl) (fun C _ _ hC hR => wX11_greatest (X := (ρ, Y, 0, 0)) hC n S a0 x1_ x2_ hTa0 hf hR)
-- X11_fills
theorem dX11_fills_0 : decode cX11_fills 0 = .ok (.aload_n 0, 1) := by decide +kernel
theorem dX11_fills_1 : decode cX11_fills 1 = .ok (.getfield 154, 3) := by decide +kernel
theorem dX11_fills_4 : decode cX11_fills 4 = .ok (.istore_n 2, 1) := by decide +kernel
theorem dX11_fills_5 : decode cX11_fills 5 = .ok (.iload_n 2, 1) := by decide +kernel
theorem dX11_fills_6 : decode cX11_fills 6 = .ok (.iconst 1, 1) := by decide +kernel
theorem dX11_fills_7 : decode cX11_fills 7 = .ok (.aload_n 0, 1) := by decide +kernel
theorem dX11_fills_8 : decode cX11_fills 8 = .ok (.invokevirtual 77, 3) := by decide +kernel
theorem dX11_fills_11 : decode cX11_fills 11 = .ok (.ishl, 1) := by decide +kernel
theorem dX11_fills_12 : decode cX11_fills 12 = .ok (.iconst 1, 1) := by decide +kernel
theorem dX11_fills_13 : decode cX11_fills 13 = .ok (.isub, 1) := by decide +kernel
theorem dX11_fills_14 : decode cX11_fills 14 = .ok (.if_icmp .eq 47, 3) := by decide +kernel
theorem dX11_fills_17 : decode cX11_fills 17 = .ok (.aload_n 0, 1) := by decide +kernel
theorem dX11_fills_18 : decode cX11_fills 18 = .ok (.iload_n 2, 1) := by decide +kernel
theorem dX11_fills_19 : decode cX11_fills 19 = .ok (.iload_n 1, 1) := by decide +kernel
theorem dX11_fills_20 : decode cX11_fills 20 = .ok (.invokevirtual 203, 3) := by decide +kernel
theorem dX11_fills_23 : decode cX11_fills 23 = .ok (.istore_n 3, 1) := by decide +kernel
theorem dX11_fills_24 : decode cX11_fills 24 = .ok (.iload_n 2, 1) := by decide +kernel
theorem dX11_fills_25 : decode cX11_fills 25 = .ok (.iconst 1, 1) := by decide +kernel
theorem dX11_fills_26 : decode cX11_fills 26 = .ok (.iload_n 3, 1) := by decide +kernel
theorem dX11_fills_27 : decode cX11_fills 27 = .ok (.ishl, 1) := by decide +kernel
theorem dX11_fills_28 : decode cX11_fills 28 = .ok (.ior, 1) := by decide +kernel
theorem dX11_fills_29 : decode cX11_fills 29 = .ok (.istore_n 2, 1) := by decide +kernel
theorem dX11_fills_30 : decode cX11_fills 30 = .ok (.aload_n 0, 1) := by decide +kernel
theorem dX11_fills_31 : decode cX11_fills 31 = .ok (.aload_n 0, 1) := by decide +kernel
theorem dX11_fills_32 : decode cX11_fills 32 = .ok (.getfield 154, 3) := by decide +kernel
theorem dX11_fills_35 : decode cX11_fills 35 = .ok (.invokevirtual 196, 3) := by decide +kernel
theorem dX11_fills_38 : decode cX11_fills 38 = .ok (.aload_n 0, 1) := by decide +kernel
theorem dX11_fills_39 : decode cX11_fills 39 = .ok (.iload_n 3, 1) := by decide +kernel
theorem dX11_fills_40 : decode cX11_fills 40 = .ok (.invokevirtual 134, 3) := by decide +kernel
theorem dX11_fills_43 : decode cX11_fills 43 = .ok (.iadd, 1) := by decide +kernel
theorem dX11_fills_44 : decode cX11_fills 44 = .ok (.aload_n 0, 1) := by decide +kernel
theorem dX11_fills_45 : decode cX11_fills 45 = .ok (.getfield 9, 3) := by decide +kernel
theorem dX11_fills_48 : decode cX11_fills 48 = .ok (.iconst 0, 1) := by decide +kernel
theorem dX11_fills_49 : decode cX11_fills 49 = .ok (.iaload, 1) := by decide +kernel
theorem dX11_fills_50 : decode cX11_fills 50 = .ok (.if_icmp .gt 8, 3) := by decide +kernel
theorem dX11_fills_53 : decode cX11_fills 53 = .ok (.aload_n 0, 1) := by decide +kernel
theorem dX11_fills_54 : decode cX11_fills 54 = .ok (.iload_n 3, 1) := by decide +kernel
theorem dX11_fills_55 : decode cX11_fills 55 = .ok (.invokevirtual 169, 3) := by decide +kernel
theorem dX11_fills_58 : decode cX11_fills 58 = .ok (.goto (-53), 3) := by decide +kernel
theorem dX11_fills_61 : decode cX11_fills 61 = .ok (.return_, 1) := by decide +kernel
def jX11_fills_58_5 (Y : XS) (n : Nat) (S : PS) (v0 : Nat) (v1 : Int32) (v2 : Int32) : Option ((Int32 × PS) ⊕ PS) :=
  some (.inl (v2, S))
def bX11_fills_5 (Y : XS) (n : Nat) (v0 : Nat) (v1 : Int32) (s5 : (Int32 × PS)) : Option ((Int32 × PS) ⊕ PS) :=
  kc (fX11_many Y n s5.2 v0) (fun q8 => (if s5.1 = (((1 : Int32) <<< (q8 &&& 31)) - (1 : Int32)) then some (.inr s5.2) else kc (fX11_greatest Y n s5.2 v0 s5.1 v1) (fun q20 => kgi s5.2 v0 21 (fun x32 => kc (fX11_costsOf Y n s5.2 v0 x32) (fun q35 => kc (fX11_costOf Y n s5.2 v0 q20) (fun q40 => kgr s5.2 v0 0 (fun b45 => kai Y s5.2 b45 (0 : Int32) (fun x49 => (if x49 < (q35 + q40) then jX11_fills_58_5 Y n s5.2 v0 v1 (s5.1 ||| ((1 : Int32) <<< (q20 &&& 31))) else kc (fX11_choose Y n s5.2 v0 q20) (fun q55 => jX11_fills_58_5 Y n q55 v0 v1 (s5.1 ||| ((1 : Int32) <<< (q20 &&& 31)))))))))))))
def fX11_fills (Y : XS) (n : Nat) (S : PS) (a0 : Nat) (x1_ : Int32) : Option (PS) :=
  kgi S a0 21 (fun x1 => kc (iter (bX11_fills_5 Y n a0 x1_) n (x1, S)) (fun r5 => some r5))
theorem wjX11_fills_58_5 {C : CT} {X : XT} (hC : CK C RX11 cX11_fills 4 none 5) (n : Nat) (S : PS) (v0 : Nat) (v1 : Int32) (v2 : Int32)  (hTv0 : Ty X.2.1 v0 11) {o : (Int32 × PS) ⊕ PS} (hf : jX11_fills_58_5 X.2.1 n S v0 v1 v2 = some o) (hN : ∀ s', o = .inl s' → UW C X s'.2 5 [(0, .ref (X.1 v0)), (1, .int v1), (2, .int s'.1)] []) (hO0 : ∀ p', o = .inr p' → UW C X p' 61 [] []) : UW C X S 58 [(0, .ref (X.1 v0)), (1, .int v1), (2, .int v2)] [] := by
  unfold jX11_fills_58_5 at hf
  refine u_goto (tgt := 5) hC dX11_fills_58 (by decide) ?_
  exact hN _ (Option.some.inj hf).symm
theorem wbX11_fills_5 {C : CT} {X : XT} (hC : CK C RX11 cX11_fills 4 none 5) (n : Nat) (v0 : Nat) (v1 : Int32) (hTv0 : Ty X.2.1 v0 11) (s5 : (Int32 × PS)) {o : (Int32 × PS) ⊕ PS} (hf : bX11_fills_5 X.2.1 n v0 v1 s5 = some o) (hN : ∀ s', o = .inl s' → UW C X s'.2 5 [(0, .ref (X.1 v0)), (1, .int v1), (2, .int s'.1)] []) (hO0 : ∀ p', o = .inr p' → UW C X p' 61 [] []) : UW C X s5.2 5 [(0, .ref (X.1 v0)), (1, .int v1), (2, .int s5.1)] [] := by
  unfold bX11_fills_5 at hf
  refine u_iload_n hC dX11_fills_5 2 rfl rfl ?_
  refine u_iconst (v := (1 : Int32)) hC dX11_fills_6 (by decide) ?_
  refine u_aload_n hC dX11_fills_7 0 rfl rfl ?_
  obtain ⟨q8, hq8, hf⟩ := kc_some hf
  refine u_callV hC (ctX11_many (cL C) hC.tr (cG C) X.1 X.2.1 n s5.2 v0 hTv0 hq8) lk_X11_77 rfl hTv0 (by decide) rfl (by decide) (by decide) rfl rfl (Nat.le_of_ble_eq_true rfl) dX11_fills_8 ?_
  refine u_ishl hC dX11_fills_11 ?_
  refine u_iconst (v := (1 : Int32)) hC dX11_fills_12 (by decide) ?_
  refine u_isub hC dX11_fills_13 ?_
  refine u_icmp_eq (tgt := 61) hC dX11_fills_14 (by decide) hf (fun h14 hf => ?_) (fun h14 hf => ?_)
  · refine u_sub (lv' := []) [] rfl ?_
    exact hO0 _ (Option.some.inj hf).symm
  · refine u_aload_n hC dX11_fills_17 0 rfl rfl ?_
    refine u_iload_n hC dX11_fills_18 2 rfl rfl ?_
    refine u_iload_n hC dX11_fills_19 1 rfl rfl ?_
    obtain ⟨q20, hq20, hf⟩ := kc_some hf
    refine u_callV hC (ctX11_greatest (cL C) hC.tr (cG C) X.1 X.2.1 n s5.2 v0 s5.1 v1 hTv0 hq20) lk_X11_203 rfl hTv0 (by decide) rfl (by decide) (by decide) rfl rfl (Nat.le_of_ble_eq_true rfl) dX11_fills_20 ?_
    refine u_istore_n (lv' := [(3, .int q20), (0, .ref (X.1 v0)), (1, .int v1), (2, .int s5.1)]) hC dX11_fills_23 rfl (by decide) rfl ?_
    refine u_iload_n hC dX11_fills_24 3 rfl rfl ?_
    refine u_iconst (v := (1 : Int32)) hC dX11_fills_25 (by decide) ?_
    refine u_iload_n hC dX11_fills_26 0 rfl rfl ?_
    refine u_ishl hC dX11_fills_27 ?_
    refine u_ior hC dX11_fills_28 ?_
    refine u_istore_n (lv' := [(2, .int (s5.1 ||| ((1 : Int32) <<< (q20 &&& 31)))), (3, .int q20), (0, .ref (X.1 v0)), (1, .int v1)]) hC dX11_fills_29 rfl (by decide) rfl ?_
    refine u_aload_n hC dX11_fills_30 2 rfl rfl ?_
    refine u_aload_n hC dX11_fills_31 2 rfl rfl ?_
    refine u_gi hC lf_X11_154 rfl hTv0 dX11_fills_32 hf (fun x32 hf => ?_)
    obtain ⟨q35, hq35, hf⟩ := kc_some hf
    refine u_callV hC (ctX11_costsOf (cL C) hC.tr (cG C) X.1 X.2.1 n s5.2 v0 x32 hTv0 hq35) lk_X11_196 rfl hTv0 (by decide) rfl (by decide) (by decide) rfl rfl (Nat.le_of_ble_eq_true rfl) dX11_fills_35 ?_
    refine u_aload_n hC dX11_fills_38 2 rfl rfl ?_
    refine u_iload_n hC dX11_fills_39 1 rfl rfl ?_
    obtain ⟨q40, hq40, hf⟩ := kc_some hf
    refine u_callV hC (ctX11_costOf (cL C) hC.tr (cG C) X.1 X.2.1 n s5.2 v0 q20 hTv0 hq40) lk_X11_134 rfl hTv0 (by decide) rfl (by decide) (by decide) rfl rfl (Nat.le_of_ble_eq_true rfl) dX11_fills_40 ?_
    refine u_iadd hC dX11_fills_43 ?_
    refine u_aload_n hC dX11_fills_44 2 rfl rfl ?_
    refine u_gr hC lf_X11_9 rfl hTv0 dX11_fills_45 hf (fun b45 hTb45 hf => ?_)
    refine u_iconst (v := (0 : Int32)) hC dX11_fills_48 (by decide) ?_
    refine u_ai hC hTb45 dX11_fills_49 hf (fun x49 hf => ?_)
    refine u_icmp_gt (tgt := 58) hC dX11_fills_50 (by decide) hf (fun h50 hf => ?_) (fun h50 hf => ?_)
    · refine u_sub (lv' := [(0, .ref (X.1 v0)), (1, .int v1), (2, .int (s5.1 ||| ((1 : Int32) <<< (q20 &&& 31))))]) [2, 3, 0] rfl ?_
      exact wjX11_fills_58_5 hC n s5.2 v0 v1 (s5.1 ||| ((1 : Int32) <<< (q20 &&& 31)))  hTv0 hf hN hO0
    · refine u_aload_n hC dX11_fills_53 2 rfl rfl ?_
      refine u_iload_n hC dX11_fills_54 1 rfl rfl ?_
      obtain ⟨q55, hq55, hf⟩ := kc_some hf
      refine u_callV hC (ctX11_choose (cL C) hC.tr (cG C) X.1 X.2.1 n s5.2 v0 q20 hTv0 hq55) lk_X11_169 rfl hTv0 (by decide) rfl (by decide) (by decide) rfl rfl (Nat.le_of_ble_eq_true rfl) dX11_fills_55 ?_
      refine u_sub (lv' := [(0, .ref (X.1 v0)), (1, .int v1), (2, .int (s5.1 ||| ((1 : Int32) <<< (q20 &&& 31))))]) [2, 3, 0] rfl ?_
      exact wjX11_fills_58_5 hC n q55 v0 v1 (s5.1 ||| ((1 : Int32) <<< (q20 &&& 31)))  hTv0 hf hN hO0
theorem wX11_fills {C : CT} {X : XT} (hC : CK C RX11 cX11_fills 4 none 5) (n : Nat) (S : PS) (a0 : Nat) (x1_ : Int32) (hTa0 : Ty X.2.1 a0 11) {o : PS} (hf : fX11_fills X.2.1 n S a0 x1_ = some o) (hR : Rt C X cX11_fills none none o) : UW C X S 0 [(0, .ref (X.1 a0)), (1, .int x1_)] [] := by
  unfold fX11_fills at hf
  refine u_aload_n hC dX11_fills_0 0 rfl rfl ?_
  refine u_gi hC lf_X11_154 rfl hTa0 dX11_fills_1 hf (fun x1 hf => ?_)
  refine u_istore_n (lv' := [(2, .int x1), (0, .ref (X.1 a0)), (1, .int x1_)]) hC dX11_fills_4 rfl (by decide) rfl ?_
  obtain ⟨r5, hr5, hf⟩ := kc_some hf
  have hk5 : UW C X r5 61 [] [] := by
    cases hf
    exact hR _ _ dX11_fills_61 trivial
  refine u_sub (lv' := [(0, .ref (X.1 a0)), (1, .int x1_), (2, .int x1)]) [1, 2, 0] rfl ?_
  refine iter_ind (P := fun s5 => UW C X s5.2 5 [(0, .ref (X.1 a0)), (1, .int x1_), (2, .int s5.1)] []) (fun s5 o' hb hin hout => ?_) n (x1, S) hr5
  exact wbX11_fills_5 hC n a0 x1_ hTa0 s5 hb hin (fun p e => by rw [hout p e]; exact hk5)
theorem ctX11_fills (l : Launch) (hl : l.stackTraces = false) (G : GT) (ρ : Nat → Nat) (Y : XS) (n : Nat) (S : PS) (a0 : Nat) (x1_ : Int32) (hTa0 : Ty Y a0 11) {o : PS} (hf : fX11_fills Y n S a0 x1_ = some o) : Mt l G yX11_fills cX11_fills 4 none 5 ρ Y [.ref (ρ a0), .int x1_] S none o :=
  Mt_of hl (by decide) (Nat.le_of_ble_eq_true rfl) (fun C _ _ hC hR => wX11_fills (X := (ρ, Y, 0, 0)) hC n S a0 x1_ hTa0 hf hR)
-- X11_isMore
theorem dX11_isMore_0 : decode cX11_isMore 0 = .ok (.aload_n 0, 1) := by decide +kernel
theorem dX11_isMore_1 : decode cX11_isMore 1 = .ok (.iload_n 1, 1) := by decide +kernel
theorem dX11_isMore_2 : decode cX11_isMore 2 = .ok (.invokevirtual 210, 3) := by decide +kernel
theorem dX11_isMore_5 : decode cX11_isMore 5 = .ok (.istore_n 3, 1) := by decide +kernel
theorem dX11_isMore_6 : decode cX11_isMore 6 = .ok (.aload_n 0, 1) := by decide +kernel
theorem dX11_isMore_7 : decode cX11_isMore 7 = .ok (.iload_n 2, 1) := by decide +kernel
theorem dX11_isMore_8 : decode cX11_isMore 8 = .ok (.invokevirtual 210, 3) := by decide +kernel
theorem dX11_isMore_11 : decode cX11_isMore 11 = .ok (.istore 4, 2) := by decide +kernel
theorem dX11_isMore_13 : decode cX11_isMore 13 = .ok (.iload_n 3, 1) := by decide +kernel
theorem dX11_isMore_14 : decode cX11_isMore 14 = .ok (.iload 4, 2) := by decide +kernel
theorem dX11_isMore_16 : decode cX11_isMore 16 = .ok (.if_icmp .eq 15, 3) := by decide +kernel
theorem dX11_isMore_19 : decode cX11_isMore 19 = .ok (.iload_n 3, 1) := by decide +kernel
theorem dX11_isMore_20 : decode cX11_isMore 20 = .ok (.iload 4, 2) := by decide +kernel
theorem dX11_isMore_22 : decode cX11_isMore 22 = .ok (.if_icmp .le 7, 3) := by decide +kernel
theorem dX11_isMore_25 : decode cX11_isMore 25 = .ok (.iconst 1, 1) := by decide +kernel
theorem dX11_isMore_26 : decode cX11_isMore 26 = .ok (.goto 4, 3) := by decide +kernel
theorem dX11_isMore_29 : decode cX11_isMore 29 = .ok (.iconst 0, 1) := by decide +kernel
theorem dX11_isMore_30 : decode cX11_isMore 30 = .ok (.ireturn, 1) := by decide +kernel
theorem dX11_isMore_31 : decode cX11_isMore 31 = .ok (.aload_n 0, 1) := by decide +kernel
theorem dX11_isMore_32 : decode cX11_isMore 32 = .ok (.iload_n 1, 1) := by decide +kernel
theorem dX11_isMore_33 : decode cX11_isMore 33 = .ok (.invokevirtual 196, 3) := by decide +kernel
theorem dX11_isMore_36 : decode cX11_isMore 36 = .ok (.aload_n 0, 1) := by decide +kernel
theorem dX11_isMore_37 : decode cX11_isMore 37 = .ok (.iload_n 2, 1) := by decide +kernel
theorem dX11_isMore_38 : decode cX11_isMore 38 = .ok (.invokevirtual 196, 3) := by decide +kernel
theorem dX11_isMore_41 : decode cX11_isMore 41 = .ok (.if_icmp .ge 7, 3) := by decide +kernel
theorem dX11_isMore_44 : decode cX11_isMore 44 = .ok (.iconst 1, 1) := by decide +kernel
theorem dX11_isMore_45 : decode cX11_isMore 45 = .ok (.goto 4, 3) := by decide +kernel
theorem dX11_isMore_48 : decode cX11_isMore 48 = .ok (.iconst 0, 1) := by decide +kernel
theorem dX11_isMore_49 : decode cX11_isMore 49 = .ok (.ireturn, 1) := by decide +kernel
def jX11_isMore_49 (Y : XS) (n : Nat) (S : PS) (t0 : Int32) : Option (Int32) :=
  kzr t0 (some t0)
def jX11_isMore_30 (Y : XS) (n : Nat) (S : PS) (t0 : Int32) : Option (Int32) :=
  kzr t0 (some t0)
def fX11_isMore (Y : XS) (n : Nat) (S : PS) (a0 : Nat) (x1_ : Int32) (x2_ : Int32) : Option (Int32) :=
  kc (fX11_worthToAll Y n S a0 x1_) (fun q2 => kc (fX11_worthToAll Y n S a0 x2_) (fun q8 => (if q2 = q8 then kc (fX11_costsOf Y n S a0 x1_) (fun q33 => kc (fX11_costsOf Y n S a0 x2_) (fun q38 => (if q38 ≤ q33 then jX11_isMore_49 Y n S (0 : Int32) else jX11_isMore_49 Y n S (1 : Int32)))) else (if q2 ≤ q8 then jX11_isMore_30 Y n S (0 : Int32) else jX11_isMore_30 Y n S (1 : Int32)))))
theorem wjX11_isMore_49 {C : CT} {X : XT} (hC : CK C RX11 cX11_isMore 5 (some .boolean) 3) (n : Nat) (S : PS) (t0 : Int32)   {o : Int32} (hf : jX11_isMore_49 X.2.1 n S t0 = some o) (hR : Rt C X cX11_isMore (some .boolean) (some (.int o)) S) : UW C X S 49 [] [.int t0] := by
  unfold jX11_isMore_49 at hf
  obtain ⟨hz, hf⟩ := kzr_some hf
  cases hf
  exact hR _ _ dX11_isMore_49 hz
theorem wjX11_isMore_30 {C : CT} {X : XT} (hC : CK C RX11 cX11_isMore 5 (some .boolean) 3) (n : Nat) (S : PS) (t0 : Int32)   {o : Int32} (hf : jX11_isMore_30 X.2.1 n S t0 = some o) (hR : Rt C X cX11_isMore (some .boolean) (some (.int o)) S) : UW C X S 30 [] [.int t0] := by
  unfold jX11_isMore_30 at hf
  obtain ⟨hz, hf⟩ := kzr_some hf
  cases hf
  exact hR _ _ dX11_isMore_30 hz
theorem wX11_isMore {C : CT} {X : XT} (hC : CK C RX11 cX11_isMore 5 (some .boolean) 3) (n : Nat) (S : PS) (a0 : Nat) (x1_ : Int32) (x2_ : Int32) (hTa0 : Ty X.2.1 a0 11) {o : Int32} (hf : fX11_isMore X.2.1 n S a0 x1_ x2_ = some o) (hR : Rt C X cX11_isMore (some .boolean) (some (.int o)) S) : UW C X S 0 [(0, .ref (X.1 a0)), (1, .int x1_), (2, .int x2_)] [] := by
  unfold fX11_isMore at hf
  refine u_aload_n hC dX11_isMore_0 0 rfl rfl ?_
  refine u_iload_n hC dX11_isMore_1 1 rfl rfl ?_
  obtain ⟨q2, hq2, hf⟩ := kc_some hf
  refine u_callV hC (ctX11_worthToAll (cL C) hC.tr (cG C) X.1 X.2.1 n S a0 x1_ hTa0 hq2) lk_X11_210 rfl hTa0 (by decide) rfl (by decide) (by decide) rfl rfl (Nat.le_of_ble_eq_true rfl) dX11_isMore_2 ?_
  refine u_istore_n (lv' := [(3, .int q2), (0, .ref (X.1 a0)), (1, .int x1_), (2, .int x2_)]) hC dX11_isMore_5 rfl (by decide) rfl ?_
  refine u_aload_n hC dX11_isMore_6 1 rfl rfl ?_
  refine u_iload_n hC dX11_isMore_7 3 rfl rfl ?_
  obtain ⟨q8, hq8, hf⟩ := kc_some hf
  refine u_callV hC (ctX11_worthToAll (cL C) hC.tr (cG C) X.1 X.2.1 n S a0 x2_ hTa0 hq8) lk_X11_210 rfl hTa0 (by decide) rfl (by decide) (by decide) rfl rfl (Nat.le_of_ble_eq_true rfl) dX11_isMore_8 ?_
  refine u_istore (lv' := [(4, .int q8), (3, .int q2), (0, .ref (X.1 a0)), (1, .int x1_), (2, .int x2_)]) hC dX11_isMore_11 (by decide) rfl ?_
  refine u_iload_n hC dX11_isMore_13 1 rfl rfl ?_
  refine u_iload hC dX11_isMore_14 0 rfl ?_
  refine u_icmp_eq (tgt := 31) hC dX11_isMore_16 (by decide) hf (fun h16 hf => ?_) (fun h16 hf => ?_)
  · refine u_aload_n hC dX11_isMore_31 2 rfl rfl ?_
    refine u_iload_n hC dX11_isMore_32 3 rfl rfl ?_
    obtain ⟨q33, hq33, hf⟩ := kc_some hf
    refine u_callV hC (ctX11_costsOf (cL C) hC.tr (cG C) X.1 X.2.1 n S a0 x1_ hTa0 hq33) lk_X11_196 rfl hTa0 (by decide) rfl (by decide) (by decide) rfl rfl (Nat.le_of_ble_eq_true rfl) dX11_isMore_33 ?_
    refine u_aload_n hC dX11_isMore_36 2 rfl rfl ?_
    refine u_iload_n hC dX11_isMore_37 4 rfl rfl ?_
    obtain ⟨q38, hq38, hf⟩ := kc_some hf
    refine u_callV hC (ctX11_costsOf (cL C) hC.tr (cG C) X.1 X.2.1 n S a0 x2_ hTa0 hq38) lk_X11_196 rfl hTa0 (by decide) rfl (by decide) (by decide) rfl rfl (Nat.le_of_ble_eq_true rfl) dX11_isMore_38 ?_
    refine u_icmp_ge (tgt := 48) hC dX11_isMore_41 (by decide) hf (fun h41 hf => ?_) (fun h41 hf => ?_)
    · refine u_iconst (v := (0 : Int32)) hC dX11_isMore_48 (by decide) ?_
      refine u_sub (lv' := []) [] rfl ?_
      exact wjX11_isMore_49 hC n S (0 : Int32)   hf hR
    · refine u_iconst (v := (1 : Int32)) hC dX11_isMore_44 (by decide) ?_
      refine u_goto (tgt := 49) hC dX11_isMore_45 (by decide) ?_
      refine u_sub (lv' := []) [] rfl ?_
      exact wjX11_isMore_49 hC n S (1 : Int32)   hf hR
  · refine u_iload_n hC dX11_isMore_19 1 rfl rfl ?_
    refine u_iload hC dX11_isMore_20 0 rfl ?_
    refine u_icmp_le (tgt := 29) hC dX11_isMore_22 (by decide) hf (fun h22 hf => ?_) (fun h22 hf => ?_)
    · refine u_iconst (v := (0 : Int32)) hC dX11_isMore_29 (by decide) ?_
      refine u_sub (lv' := []) [] rfl ?_
      exact wjX11_isMore_30 hC n S (0 : Int32)   hf hR
    · refine u_iconst (v := (1 : Int32)) hC dX11_isMore_25 (by decide) ?_
      refine u_goto (tgt := 30) hC dX11_isMore_26 (by decide) ?_
      refine u_sub (lv' := []) [] rfl ?_
      exact wjX11_isMore_30 hC n S (1 : Int32)   hf hR
theorem ctX11_isMore (l : Launch) (hl : l.stackTraces = false) (G : GT) (ρ : Nat → Nat) (Y : XS) (n : Nat) (S : PS) (a0 : Nat) (x1_ : Int32) (x2_ : Int32) (hTa0 : Ty Y a0 11) {o : Int32} (hf : fX11_isMore Y n S a0 x1_ x2_ = some o) : Mt l G yX11_isMore cX11_isMore 5 (some .boolean) 3 ρ Y [.ref (ρ a0), .int x1_, .int x2_] S (some (.int o)) S :=
  Mt_of hl (by decide) (Nat.le_of_ble_eq_true rfl) (fun C _ _ hC hR => wX11_isMore (X := (ρ, Y, 0, 0)) hC n S a0 x1_ x2_ hTa0 hf hR)
-- X11_mostWorth
theorem dX11_mostWorth_0 : decode cX11_mostWorth 0 = .ok (.iconst 0, 1) := by decide +kernel
theorem dX11_mostWorth_1 : decode cX11_mostWorth 1 = .ok (.istore_n 1, 1) := by decide +kernel
theorem dX11_mostWorth_2 : decode cX11_mostWorth 2 = .ok (.iconst 1, 1) := by decide +kernel
theorem dX11_mostWorth_3 : decode cX11_mostWorth 3 = .ok (.istore_n 2, 1) := by decide +kernel
theorem dX11_mostWorth_4 : decode cX11_mostWorth 4 = .ok (.iload_n 2, 1) := by decide +kernel
theorem dX11_mostWorth_5 : decode cX11_mostWorth 5 = .ok (.iconst 1, 1) := by decide +kernel
theorem dX11_mostWorth_6 : decode cX11_mostWorth 6 = .ok (.aload_n 0, 1) := by decide +kernel
theorem dX11_mostWorth_7 : decode cX11_mostWorth 7 = .ok (.invokevirtual 77, 3) := by decide +kernel
theorem dX11_mostWorth_10 : decode cX11_mostWorth 10 = .ok (.ishl, 1) := by decide +kernel
theorem dX11_mostWorth_11 : decode cX11_mostWorth 11 = .ok (.if_icmp .ge 37, 3) := by decide +kernel
theorem dX11_mostWorth_14 : decode cX11_mostWorth 14 = .ok (.aload_n 0, 1) := by decide +kernel
theorem dX11_mostWorth_15 : decode cX11_mostWorth 15 = .ok (.iload_n 2, 1) := by decide +kernel
theorem dX11_mostWorth_16 : decode cX11_mostWorth 16 = .ok (.invokevirtual 196, 3) := by decide +kernel
theorem dX11_mostWorth_19 : decode cX11_mostWorth 19 = .ok (.aload_n 0, 1) := by decide +kernel
theorem dX11_mostWorth_20 : decode cX11_mostWorth 20 = .ok (.getfield 9, 3) := by decide +kernel
theorem dX11_mostWorth_23 : decode cX11_mostWorth 23 = .ok (.iconst 0, 1) := by decide +kernel
theorem dX11_mostWorth_24 : decode cX11_mostWorth 24 = .ok (.iaload, 1) := by decide +kernel
theorem dX11_mostWorth_25 : decode cX11_mostWorth 25 = .ok (.if_icmp .le 6, 3) := by decide +kernel
theorem dX11_mostWorth_28 : decode cX11_mostWorth 28 = .ok (.goto 14, 3) := by decide +kernel
theorem dX11_mostWorth_31 : decode cX11_mostWorth 31 = .ok (.aload_n 0, 1) := by decide +kernel
theorem dX11_mostWorth_32 : decode cX11_mostWorth 32 = .ok (.iload_n 2, 1) := by decide +kernel
theorem dX11_mostWorth_33 : decode cX11_mostWorth 33 = .ok (.iload_n 1, 1) := by decide +kernel
theorem dX11_mostWorth_34 : decode cX11_mostWorth 34 = .ok (.invokevirtual 213, 3) := by decide +kernel
theorem dX11_mostWorth_37 : decode cX11_mostWorth 37 = .ok (.ifCond .eq 5, 3) := by decide +kernel
theorem dX11_mostWorth_40 : decode cX11_mostWorth 40 = .ok (.iload_n 2, 1) := by decide +kernel
theorem dX11_mostWorth_41 : decode cX11_mostWorth 41 = .ok (.istore_n 1, 1) := by decide +kernel
theorem dX11_mostWorth_42 : decode cX11_mostWorth 42 = .ok (.iinc 2 1, 3) := by decide +kernel
theorem dX11_mostWorth_45 : decode cX11_mostWorth 45 = .ok (.goto (-41), 3) := by decide +kernel
theorem dX11_mostWorth_48 : decode cX11_mostWorth 48 = .ok (.iload_n 1, 1) := by decide +kernel
theorem dX11_mostWorth_49 : decode cX11_mostWorth 49 = .ok (.ireturn, 1) := by decide +kernel
def jX11_mostWorth_42_4 (Y : XS) (n : Nat) (S : PS) (v0 : Nat) (v1 : Int32) (v2 : Int32) : Option ((Int32 × Int32) ⊕ Int32) :=
  some (.inl (v1, v2 + (1 : Int32)))
def bX11_mostWorth_4 (Y : XS) (n : Nat) (S : PS) (v0 : Nat) (s4 : (Int32 × Int32)) : Option ((Int32 × Int32) ⊕ Int32) :=
  kc (fX11_many Y n S v0) (fun q7 => (if ((1 : Int32) <<< (q7 &&& 31)) ≤ s4.2 then some (.inr s4.1) else kc (fX11_costsOf Y n S v0 s4.2) (fun q16 => kgr S v0 0 (fun b20 => kai Y S b20 (0 : Int32) (fun x24 => (if q16 ≤ x24 then kc (fX11_isMore Y n S v0 s4.2 s4.1) (fun q34 => (if q34 = 0 then jX11_mostWorth_42_4 Y n S v0 s4.1 s4.2 else jX11_mostWorth_42_4 Y n S v0 s4.2 s4.2)) else jX11_mostWorth_42_4 Y n S v0 s4.1 s4.2))))))
def fX11_mostWorth (Y : XS) (n : Nat) (S : PS) (a0 : Nat) : Option (Int32) :=
  kc (iter (bX11_mostWorth_4 Y n S a0) n ((0 : Int32), (1 : Int32))) (fun r4 => some r4)
theorem wjX11_mostWorth_42_4 {C : CT} {X : XT} (hC : CK C RX11 cX11_mostWorth 3 (some .int) 4) (n : Nat) (S : PS) (v0 : Nat) (v1 : Int32) (v2 : Int32)  (hTv0 : Ty X.2.1 v0 11) {o : (Int32 × Int32) ⊕ Int32} (hf : jX11_mostWorth_42_4 X.2.1 n S v0 v1 v2 = some o) (hN : ∀ s', o = .inl s' → UW C X S 4 [(0, .ref (X.1 v0)), (1, .int s'.1), (2, .int s'.2)] []) (hO0 : ∀ p', o = .inr p' → UW C X S 48 [(1, .int p')] []) : UW C X S 42 [(0, .ref (X.1 v0)), (1, .int v1), (2, .int v2)] [] := by
  unfold jX11_mostWorth_42_4 at hf
  refine u_iinc (v := v2 + (1 : Int32)) (lv' := [(2, .int (v2 + (1 : Int32))), (0, .ref (X.1 v0)), (1, .int v1)]) hC dX11_mostWorth_42 2 rfl rfl (by decide) rfl ?_
  refine u_goto (tgt := 4) hC dX11_mostWorth_45 (by decide) ?_
  refine u_sub (lv' := [(0, .ref (X.1 v0)), (1, .int v1), (2, .int (v2 + (1 : Int32)))]) [1, 2, 0] rfl ?_
  exact hN _ (Option.some.inj hf).symm
theorem wbX11_mostWorth_4 {C : CT} {X : XT} (hC : CK C RX11 cX11_mostWorth 3 (some .int) 4) (n : Nat) (S : PS) (v0 : Nat) (hTv0 : Ty X.2.1 v0 11) (s4 : (Int32 × Int32)) {o : (Int32 × Int32) ⊕ Int32} (hf : bX11_mostWorth_4 X.2.1 n S v0 s4 = some o) (hN : ∀ s', o = .inl s' → UW C X S 4 [(0, .ref (X.1 v0)), (1, .int s'.1), (2, .int s'.2)] []) (hO0 : ∀ p', o = .inr p' → UW C X S 48 [(1, .int p')] []) : UW C X S 4 [(0, .ref (X.1 v0)), (1, .int s4.1), (2, .int s4.2)] [] := by
  unfold bX11_mostWorth_4 at hf
  refine u_iload_n hC dX11_mostWorth_4 2 rfl rfl ?_
  refine u_iconst (v := (1 : Int32)) hC dX11_mostWorth_5 (by decide) ?_
  refine u_aload_n hC dX11_mostWorth_6 0 rfl rfl ?_
  obtain ⟨q7, hq7, hf⟩ := kc_some hf
  refine u_callV hC (ctX11_many (cL C) hC.tr (cG C) X.1 X.2.1 n S v0 hTv0 hq7) lk_X11_77 rfl hTv0 (by decide) rfl (by decide) (by decide) rfl rfl (Nat.le_of_ble_eq_true rfl) dX11_mostWorth_7 ?_
  refine u_ishl hC dX11_mostWorth_10 ?_
  refine u_icmp_ge (tgt := 48) hC dX11_mostWorth_11 (by decide) hf (fun h11 hf => ?_) (fun h11 hf => ?_)
  · refine u_sub (lv' := [(1, .int s4.1)]) [1] rfl ?_
    exact hO0 _ (Option.some.inj hf).symm
  · refine u_aload_n hC dX11_mostWorth_14 0 rfl rfl ?_
    refine u_iload_n hC dX11_mostWorth_15 2 rfl rfl ?_
    obtain ⟨q16, hq16, hf⟩ := kc_some hf
    refine u_callV hC (ctX11_costsOf (cL C) hC.tr (cG C) X.1 X.2.1 n S v0 s4.2 hTv0 hq16) lk_X11_196 rfl hTv0 (by decide) rfl (by decide) (by decide) rfl rfl (Nat.le_of_ble_eq_true rfl) dX11_mostWorth_16 ?_
    refine u_aload_n hC dX11_mostWorth_19 0 rfl rfl ?_
    refine u_gr hC lf_X11_9 rfl hTv0 dX11_mostWorth_20 hf (fun b20 hTb20 hf => ?_)
    refine u_iconst (v := (0 : Int32)) hC dX11_mostWorth_23 (by decide) ?_
    refine u_ai hC hTb20 dX11_mostWorth_24 hf (fun x24 hf => ?_)
    refine u_icmp_le (tgt := 31) hC dX11_mostWorth_25 (by decide) hf (fun h25 hf => ?_) (fun h25 hf => ?_)
    · refine u_aload_n hC dX11_mostWorth_31 0 rfl rfl ?_
      refine u_iload_n hC dX11_mostWorth_32 2 rfl rfl ?_
      refine u_iload_n hC dX11_mostWorth_33 1 rfl rfl ?_
      obtain ⟨q34, hq34, hf⟩ := kc_some hf
      refine u_callV hC (ctX11_isMore (cL C) hC.tr (cG C) X.1 X.2.1 n S v0 s4.2 s4.1 hTv0 hq34) lk_X11_213 rfl hTv0 (by decide) rfl (by decide) (by decide) rfl rfl (Nat.le_of_ble_eq_true rfl) dX11_mostWorth_34 ?_
      refine u_if_eq (tgt := 42) hC dX11_mostWorth_37 (by decide) hf (fun h37 hf => ?_) (fun h37 hf => ?_)
      · exact wjX11_mostWorth_42_4 hC n S v0 s4.1 s4.2  hTv0 hf hN hO0
      · refine u_iload_n hC dX11_mostWorth_40 2 rfl rfl ?_
        refine u_istore_n (lv' := [(1, .int s4.2), (0, .ref (X.1 v0)), (2, .int s4.2)]) hC dX11_mostWorth_41 rfl (by decide) rfl ?_
        refine u_sub (lv' := [(0, .ref (X.1 v0)), (1, .int s4.2), (2, .int s4.2)]) [1, 0, 2] rfl ?_
        exact wjX11_mostWorth_42_4 hC n S v0 s4.2 s4.2  hTv0 hf hN hO0
    · refine u_goto (tgt := 42) hC dX11_mostWorth_28 (by decide) ?_
      exact wjX11_mostWorth_42_4 hC n S v0 s4.1 s4.2  hTv0 hf hN hO0
theorem wX11_mostWorth {C : CT} {X : XT} (hC : CK C RX11 cX11_mostWorth 3 (some .int) 4) (n : Nat) (S : PS) (a0 : Nat) (hTa0 : Ty X.2.1 a0 11) {o : Int32} (hf : fX11_mostWorth X.2.1 n S a0 = some o) (hR : Rt C X cX11_mostWorth (some .int) (some (.int o)) S) : UW C X S 0 [(0, .ref (X.1 a0))] [] := by
  unfold fX11_mostWorth at hf
  refine u_iconst (v := (0 : Int32)) hC dX11_mostWorth_0 (by decide) ?_
  refine u_istore_n (lv' := [(1, .int (0 : Int32)), (0, .ref (X.1 a0))]) hC dX11_mostWorth_1 rfl (by decide) rfl ?_
  refine u_iconst (v := (1 : Int32)) hC dX11_mostWorth_2 (by decide) ?_
  refine u_istore_n (lv' := [(2, .int (1 : Int32)), (1, .int (0 : Int32)), (0, .ref (X.1 a0))]) hC dX11_mostWorth_3 rfl (by decide) rfl ?_
  obtain ⟨r4, hr4, hf⟩ := kc_some hf
  have hk4 : UW C X S 48 [(1, .int r4)] [] := by
    refine u_iload_n hC dX11_mostWorth_48 0 rfl rfl ?_
    cases hf
    exact hR _ _ dX11_mostWorth_49 trivial
  refine u_sub (lv' := [(0, .ref (X.1 a0)), (1, .int (0 : Int32)), (2, .int (1 : Int32))]) [2, 1, 0] rfl ?_
  refine iter_ind (P := fun s4 => UW C X S 4 [(0, .ref (X.1 a0)), (1, .int s4.1), (2, .int s4.2)] []) (fun s4 o' hb hin hout => ?_) n ((0 : Int32), (1 : Int32)) hr4
  exact wbX11_mostWorth_4 hC n S a0 hTa0 s4 hb hin (fun p e => by rw [hout p e]; exact hk4)
theorem ctX11_mostWorth (l : Launch) (hl : l.stackTraces = false) (G : GT) (ρ : Nat → Nat) (Y : XS) (n : Nat) (S : PS) (a0 : Nat) (hTa0 : Ty Y a0 11) {o : Int32} (hf : fX11_mostWorth Y n S a0 = some o) : Mt l G yX11_mostWorth cX11_mostWorth 3 (some .int) 4 ρ Y [.ref (ρ a0)] S (some (.int o)) S :=
  Mt_of hl (by decide) (Nat.le_of_ble_eq_true rfl) (fun C _ _ hC hR => wX11_mostWorth (X := (ρ, Y, 0, 0)) hC n S a0 hTa0 hf hR)
-- X11_worstFirst
theorem dX11_worstFirst_0 : decode cX11_worstFirst 0 = .ok (.iconst 0, 1) := by decide +kernel
theorem dX11_worstFirst_1 : decode cX11_worstFirst 1 = .ok (.istore_n 1, 1) := by decide +kernel
theorem dX11_worstFirst_2 : decode cX11_worstFirst 2 = .ok (.aload_n 0, 1) := by decide +kernel
theorem dX11_worstFirst_3 : decode cX11_worstFirst 3 = .ok (.iconst 0, 1) := by decide +kernel
theorem dX11_worstFirst_4 : decode cX11_worstFirst 4 = .ok (.invokevirtual 216, 3) := by decide +kernel
theorem dX11_worstFirst_7 : decode cX11_worstFirst 7 = .ok (.istore_n 2, 1) := by decide +kernel
theorem dX11_worstFirst_8 : decode cX11_worstFirst 8 = .ok (.iconst 1, 1) := by decide +kernel
theorem dX11_worstFirst_9 : decode cX11_worstFirst 9 = .ok (.istore_n 3, 1) := by decide +kernel
theorem dX11_worstFirst_10 : decode cX11_worstFirst 10 = .ok (.iload_n 3, 1) := by decide +kernel
theorem dX11_worstFirst_11 : decode cX11_worstFirst 11 = .ok (.iconst 1, 1) := by decide +kernel
theorem dX11_worstFirst_12 : decode cX11_worstFirst 12 = .ok (.aload_n 0, 1) := by decide +kernel
theorem dX11_worstFirst_13 : decode cX11_worstFirst 13 = .ok (.invokevirtual 77, 3) := by decide +kernel
theorem dX11_worstFirst_16 : decode cX11_worstFirst 16 = .ok (.ishl, 1) := by decide +kernel
theorem dX11_worstFirst_17 : decode cX11_worstFirst 17 = .ok (.if_icmp .ge 62, 3) := by decide +kernel
theorem dX11_worstFirst_20 : decode cX11_worstFirst 20 = .ok (.aload_n 0, 1) := by decide +kernel
theorem dX11_worstFirst_21 : decode cX11_worstFirst 21 = .ok (.iload_n 3, 1) := by decide +kernel
theorem dX11_worstFirst_22 : decode cX11_worstFirst 22 = .ok (.invokevirtual 196, 3) := by decide +kernel
theorem dX11_worstFirst_25 : decode cX11_worstFirst 25 = .ok (.aload_n 0, 1) := by decide +kernel
theorem dX11_worstFirst_26 : decode cX11_worstFirst 26 = .ok (.getfield 9, 3) := by decide +kernel
theorem dX11_worstFirst_29 : decode cX11_worstFirst 29 = .ok (.iconst 0, 1) := by decide +kernel
theorem dX11_worstFirst_30 : decode cX11_worstFirst 30 = .ok (.iaload, 1) := by decide +kernel
theorem dX11_worstFirst_31 : decode cX11_worstFirst 31 = .ok (.if_icmp .le 6, 3) := by decide +kernel
theorem dX11_worstFirst_34 : decode cX11_worstFirst 34 = .ok (.goto 39, 3) := by decide +kernel
theorem dX11_worstFirst_37 : decode cX11_worstFirst 37 = .ok (.aload_n 0, 1) := by decide +kernel
theorem dX11_worstFirst_38 : decode cX11_worstFirst 38 = .ok (.iload_n 3, 1) := by decide +kernel
theorem dX11_worstFirst_39 : decode cX11_worstFirst 39 = .ok (.invokevirtual 216, 3) := by decide +kernel
theorem dX11_worstFirst_42 : decode cX11_worstFirst 42 = .ok (.istore 4, 2) := by decide +kernel
theorem dX11_worstFirst_44 : decode cX11_worstFirst 44 = .ok (.iload 4, 2) := by decide +kernel
theorem dX11_worstFirst_46 : decode cX11_worstFirst 46 = .ok (.iload_n 2, 1) := by decide +kernel
theorem dX11_worstFirst_47 : decode cX11_worstFirst 47 = .ok (.if_icmp .lt 26, 3) := by decide +kernel
theorem dX11_worstFirst_50 : decode cX11_worstFirst 50 = .ok (.iload 4, 2) := by decide +kernel
theorem dX11_worstFirst_52 : decode cX11_worstFirst 52 = .ok (.iload_n 2, 1) := by decide +kernel
theorem dX11_worstFirst_53 : decode cX11_worstFirst 53 = .ok (.if_icmp .ne 15, 3) := by decide +kernel
theorem dX11_worstFirst_56 : decode cX11_worstFirst 56 = .ok (.aload_n 0, 1) := by decide +kernel
theorem dX11_worstFirst_57 : decode cX11_worstFirst 57 = .ok (.iload_n 3, 1) := by decide +kernel
theorem dX11_worstFirst_58 : decode cX11_worstFirst 58 = .ok (.iload_n 1, 1) := by decide +kernel
theorem dX11_worstFirst_59 : decode cX11_worstFirst 59 = .ok (.invokevirtual 213, 3) := by decide +kernel
theorem dX11_worstFirst_62 : decode cX11_worstFirst 62 = .ok (.ifCond .ne 6, 3) := by decide +kernel
theorem dX11_worstFirst_65 : decode cX11_worstFirst 65 = .ok (.goto 8, 3) := by decide +kernel
theorem dX11_worstFirst_68 : decode cX11_worstFirst 68 = .ok (.iload_n 3, 1) := by decide +kernel
theorem dX11_worstFirst_69 : decode cX11_worstFirst 69 = .ok (.istore_n 1, 1) := by decide +kernel
theorem dX11_worstFirst_70 : decode cX11_worstFirst 70 = .ok (.iload 4, 2) := by decide +kernel
theorem dX11_worstFirst_72 : decode cX11_worstFirst 72 = .ok (.istore_n 2, 1) := by decide +kernel
theorem dX11_worstFirst_73 : decode cX11_worstFirst 73 = .ok (.iinc 3 1, 3) := by decide +kernel
theorem dX11_worstFirst_76 : decode cX11_worstFirst 76 = .ok (.goto (-66), 3) := by decide +kernel
theorem dX11_worstFirst_79 : decode cX11_worstFirst 79 = .ok (.iload_n 1, 1) := by decide +kernel
theorem dX11_worstFirst_80 : decode cX11_worstFirst 80 = .ok (.ireturn, 1) := by decide +kernel
def jX11_worstFirst_73_10 (Y : XS) (n : Nat) (S : PS) (v0 : Nat) (v1 : Int32) (v2 : Int32) (v3 : Int32) : Option ((Int32 × Int32 × Int32) ⊕ Int32) :=
  some (.inl (v1, v2, v3 + (1 : Int32)))
def jX11_worstFirst_68_10 (Y : XS) (n : Nat) (S : PS) (v0 : Nat) (v3 : Int32) (v4 : Int32) : Option ((Int32 × Int32 × Int32) ⊕ Int32) :=
  jX11_worstFirst_73_10 Y n S v0 v3 v4 v3
def bX11_worstFirst_10 (Y : XS) (n : Nat) (S : PS) (v0 : Nat) (s10 : (Int32 × Int32 × Int32)) : Option ((Int32 × Int32 × Int32) ⊕ Int32) :=
  kc (fX11_many Y n S v0) (fun q13 => (if ((1 : Int32) <<< (q13 &&& 31)) ≤ s10.2.2 then some (.inr s10.1) else kc (fX11_costsOf Y n S v0 s10.2.2) (fun q22 => kgr S v0 0 (fun b26 => kai Y S b26 (0 : Int32) (fun x30 => (if q22 ≤ x30 then kc (fX11_leastWorth Y n S v0 s10.2.2) (fun q39 => (if q39 < s10.2.1 then jX11_worstFirst_73_10 Y n S v0 s10.1 s10.2.1 s10.2.2 else (if q39 = s10.2.1 then kc (fX11_isMore Y n S v0 s10.2.2 s10.1) (fun q59 => (if q59 = 0 then jX11_worstFirst_73_10 Y n S v0 s10.1 s10.2.1 s10.2.2 else jX11_worstFirst_68_10 Y n S v0 s10.2.2 q39)) else jX11_worstFirst_68_10 Y n S v0 s10.2.2 q39))) else jX11_worstFirst_73_10 Y n S v0 s10.1 s10.2.1 s10.2.2))))))
def fX11_worstFirst (Y : XS) (n : Nat) (S : PS) (a0 : Nat) : Option (Int32) :=
  kc (fX11_leastWorth Y n S a0 (0 : Int32)) (fun q4 => kc (iter (bX11_worstFirst_10 Y n S a0) n ((0 : Int32), q4, (1 : Int32))) (fun r10 => some r10))
theorem wjX11_worstFirst_73_10 {C : CT} {X : XT} (hC : CK C RX11 cX11_worstFirst 5 (some .int) 4) (n : Nat) (S : PS) (v0 : Nat) (v1 : Int32) (v2 : Int32) (v3 : Int32)  (hTv0 : Ty X.2.1 v0 11) {o : (Int32 × Int32 × Int32) ⊕ Int32} (hf : jX11_worstFirst_73_10 X.2.1 n S v0 v1 v2 v3 = some o) (hN : ∀ s', o = .inl s' → UW C X S 10 [(0, .ref (X.1 v0)), (1, .int s'.1), (2, .int s'.2.1), (3, .int s'.2.2)] []) (hO0 : ∀ p', o = .inr p' → UW C X S 79 [(1, .int p')] []) : UW C X S 73 [(0, .ref (X.1 v0)), (1, .int v1), (2, .int v2), (3, .int v3)] [] := by
  unfold jX11_worstFirst_73_10 at hf
  refine u_iinc (v := v3 + (1 : Int32)) (lv' := [(3, .int (v3 + (1 : Int32))), (0, .ref (X.1 v0)), (1, .int v1), (2, .int v2)]) hC dX11_worstFirst_73 3 rfl rfl (by decide) rfl ?_
  refine u_goto (tgt := 10) hC dX11_worstFirst_76 (by decide) ?_
  refine u_sub (lv' := [(0, .ref (X.1 v0)), (1, .int v1), (2, .int v2), (3, .int (v3 + (1 : Int32)))]) [1, 2, 3, 0] rfl ?_
  exact hN _ (Option.some.inj hf).symm
theorem wjX11_worstFirst_68_10 {C : CT} {X : XT} (hC : CK C RX11 cX11_worstFirst 5 (some .int) 4) (n : Nat) (S : PS) (v0 : Nat) (v3 : Int32) (v4 : Int32)  (hTv0 : Ty X.2.1 v0 11) {o : (Int32 × Int32 × Int32) ⊕ Int32} (hf : jX11_worstFirst_68_10 X.2.1 n S v0 v3 v4 = some o) (hN : ∀ s', o = .inl s' → UW C X S 10 [(0, .ref (X.1 v0)), (1, .int s'.1), (2, .int s'.2.1), (3, .int s'.2.2)] []) (hO0 : ∀ p', o = .inr p' → UW C X S 79 [(1, .int p')] []) : UW C X S 68 [(0, .ref (X.1 v0)), (3, .int v3), (4, .int v4)] [] := by
  unfold jX11_worstFirst_68_10 at hf
  refine u_iload_n hC dX11_worstFirst_68 1 rfl rfl ?_
  refine u_istore_n (lv' := [(1, .int v3), (0, .ref (X.1 v0)), (3, .int v3), (4, .int v4)]) hC dX11_worstFirst_69 rfl (by decide) rfl ?_
  refine u_iload hC dX11_worstFirst_70 3 rfl ?_
  refine u_istore_n (lv' := [(2, .int v4), (1, .int v3), (0, .ref (X.1 v0)), (3, .int v3), (4, .int v4)]) hC dX11_worstFirst_72 rfl (by decide) rfl ?_
  refine u_sub (lv' := [(0, .ref (X.1 v0)), (1, .int v3), (2, .int v4), (3, .int v3)]) [2, 1, 0, 3] rfl ?_
  exact wjX11_worstFirst_73_10 hC n S v0 v3 v4 v3  hTv0 hf hN hO0
theorem wbX11_worstFirst_10 {C : CT} {X : XT} (hC : CK C RX11 cX11_worstFirst 5 (some .int) 4) (n : Nat) (S : PS) (v0 : Nat) (hTv0 : Ty X.2.1 v0 11) (s10 : (Int32 × Int32 × Int32)) {o : (Int32 × Int32 × Int32) ⊕ Int32} (hf : bX11_worstFirst_10 X.2.1 n S v0 s10 = some o) (hN : ∀ s', o = .inl s' → UW C X S 10 [(0, .ref (X.1 v0)), (1, .int s'.1), (2, .int s'.2.1), (3, .int s'.2.2)] []) (hO0 : ∀ p', o = .inr p' → UW C X S 79 [(1, .int p')] []) : UW C X S 10 [(0, .ref (X.1 v0)), (1, .int s10.1), (2, .int s10.2.1), (3, .int s10.2.2)] [] := by
  unfold bX11_worstFirst_10 at hf
  refine u_iload_n hC dX11_worstFirst_10 3 rfl rfl ?_
  refine u_iconst (v := (1 : Int32)) hC dX11_worstFirst_11 (by decide) ?_
  refine u_aload_n hC dX11_worstFirst_12 0 rfl rfl ?_
  obtain ⟨q13, hq13, hf⟩ := kc_some hf
  refine u_callV hC (ctX11_many (cL C) hC.tr (cG C) X.1 X.2.1 n S v0 hTv0 hq13) lk_X11_77 rfl hTv0 (by decide) rfl (by decide) (by decide) rfl rfl (Nat.le_of_ble_eq_true rfl) dX11_worstFirst_13 ?_
  refine u_ishl hC dX11_worstFirst_16 ?_
  refine u_icmp_ge (tgt := 79) hC dX11_worstFirst_17 (by decide) hf (fun h17 hf => ?_) (fun h17 hf => ?_)
  · refine u_sub (lv' := [(1, .int s10.1)]) [1] rfl ?_
    exact hO0 _ (Option.some.inj hf).symm
  · refine u_aload_n hC dX11_worstFirst_20 0 rfl rfl ?_
    refine u_iload_n hC dX11_worstFirst_21 3 rfl rfl ?_
    obtain ⟨q22, hq22, hf⟩ := kc_some hf
    refine u_callV hC (ctX11_costsOf (cL C) hC.tr (cG C) X.1 X.2.1 n S v0 s10.2.2 hTv0 hq22) lk_X11_196 rfl hTv0 (by decide) rfl (by decide) (by decide) rfl rfl (Nat.le_of_ble_eq_true rfl) dX11_worstFirst_22 ?_
    refine u_aload_n hC dX11_worstFirst_25 0 rfl rfl ?_
    refine u_gr hC lf_X11_9 rfl hTv0 dX11_worstFirst_26 hf (fun b26 hTb26 hf => ?_)
    refine u_iconst (v := (0 : Int32)) hC dX11_worstFirst_29 (by decide) ?_
    refine u_ai hC hTb26 dX11_worstFirst_30 hf (fun x30 hf => ?_)
    refine u_icmp_le (tgt := 37) hC dX11_worstFirst_31 (by decide) hf (fun h31 hf => ?_) (fun h31 hf => ?_)
    · refine u_aload_n hC dX11_worstFirst_37 0 rfl rfl ?_
      refine u_iload_n hC dX11_worstFirst_38 3 rfl rfl ?_
      obtain ⟨q39, hq39, hf⟩ := kc_some hf
      refine u_callV hC (ctX11_leastWorth (cL C) hC.tr (cG C) X.1 X.2.1 n S v0 s10.2.2 hTv0 hq39) lk_X11_216 rfl hTv0 (by decide) rfl (by decide) (by decide) rfl rfl (Nat.le_of_ble_eq_true rfl) dX11_worstFirst_39 ?_
      refine u_istore (lv' := [(4, .int q39), (0, .ref (X.1 v0)), (1, .int s10.1), (2, .int s10.2.1), (3, .int s10.2.2)]) hC dX11_worstFirst_42 (by decide) rfl ?_
      refine u_iload hC dX11_worstFirst_44 0 rfl ?_
      refine u_iload_n hC dX11_worstFirst_46 3 rfl rfl ?_
      refine u_icmp_lt (tgt := 73) hC dX11_worstFirst_47 (by decide) hf (fun h47 hf => ?_) (fun h47 hf => ?_)
      · refine u_sub (lv' := [(0, .ref (X.1 v0)), (1, .int s10.1), (2, .int s10.2.1), (3, .int s10.2.2)]) [1, 2, 3, 4] rfl ?_
        exact wjX11_worstFirst_73_10 hC n S v0 s10.1 s10.2.1 s10.2.2  hTv0 hf hN hO0
      · refine u_iload hC dX11_worstFirst_50 0 rfl ?_
        refine u_iload_n hC dX11_worstFirst_52 3 rfl rfl ?_
        refine u_icmp_ne (tgt := 68) hC dX11_worstFirst_53 (by decide) hf (fun h53 hf => ?_) (fun h53 hf => ?_)
        · refine u_sub (lv' := [(0, .ref (X.1 v0)), (3, .int s10.2.2), (4, .int q39)]) [1, 4, 0] rfl ?_
          exact wjX11_worstFirst_68_10 hC n S v0 s10.2.2 q39  hTv0 hf hN hO0
        · refine u_aload_n hC dX11_worstFirst_56 1 rfl rfl ?_
          refine u_iload_n hC dX11_worstFirst_57 4 rfl rfl ?_
          refine u_iload_n hC dX11_worstFirst_58 2 rfl rfl ?_
          obtain ⟨q59, hq59, hf⟩ := kc_some hf
          refine u_callV hC (ctX11_isMore (cL C) hC.tr (cG C) X.1 X.2.1 n S v0 s10.2.2 s10.1 hTv0 hq59) lk_X11_213 rfl hTv0 (by decide) rfl (by decide) (by decide) rfl rfl (Nat.le_of_ble_eq_true rfl) dX11_worstFirst_59 ?_
          refine u_if_ne (tgt := 68) hC dX11_worstFirst_62 (by decide) hf (fun h62 hf => ?_) (fun h62 hf => ?_)
          · refine u_sub (lv' := [(0, .ref (X.1 v0)), (3, .int s10.2.2), (4, .int q39)]) [1, 4, 0] rfl ?_
            exact wjX11_worstFirst_68_10 hC n S v0 s10.2.2 q39  hTv0 hf hN hO0
          · refine u_goto (tgt := 73) hC dX11_worstFirst_65 (by decide) ?_
            refine u_sub (lv' := [(0, .ref (X.1 v0)), (1, .int s10.1), (2, .int s10.2.1), (3, .int s10.2.2)]) [1, 2, 3, 4] rfl ?_
            exact wjX11_worstFirst_73_10 hC n S v0 s10.1 s10.2.1 s10.2.2  hTv0 hf hN hO0
    · refine u_goto (tgt := 73) hC dX11_worstFirst_34 (by decide) ?_
      exact wjX11_worstFirst_73_10 hC n S v0 s10.1 s10.2.1 s10.2.2  hTv0 hf hN hO0
theorem wX11_worstFirst {C : CT} {X : XT} (hC : CK C RX11 cX11_worstFirst 5 (some .int) 4) (n : Nat) (S : PS) (a0 : Nat) (hTa0 : Ty X.2.1 a0 11) {o : Int32} (hf : fX11_worstFirst X.2.1 n S a0 = some o) (hR : Rt C X cX11_worstFirst (some .int) (some (.int o)) S) : UW C X S 0 [(0, .ref (X.1 a0))] [] := by
  unfold fX11_worstFirst at hf
  refine u_iconst (v := (0 : Int32)) hC dX11_worstFirst_0 (by decide) ?_
  refine u_istore_n (lv' := [(1, .int (0 : Int32)), (0, .ref (X.1 a0))]) hC dX11_worstFirst_1 rfl (by decide) rfl ?_
  refine u_aload_n hC dX11_worstFirst_2 1 rfl rfl ?_
  refine u_iconst (v := (0 : Int32)) hC dX11_worstFirst_3 (by decide) ?_
  obtain ⟨q4, hq4, hf⟩ := kc_some hf
  refine u_callV hC (ctX11_leastWorth (cL C) hC.tr (cG C) X.1 X.2.1 n S a0 (0 : Int32) hTa0 hq4) lk_X11_216 rfl hTa0 (by decide) rfl (by decide) (by decide) rfl rfl (Nat.le_of_ble_eq_true rfl) dX11_worstFirst_4 ?_
  refine u_istore_n (lv' := [(2, .int q4), (1, .int (0 : Int32)), (0, .ref (X.1 a0))]) hC dX11_worstFirst_7 rfl (by decide) rfl ?_
  refine u_iconst (v := (1 : Int32)) hC dX11_worstFirst_8 (by decide) ?_
  refine u_istore_n (lv' := [(3, .int (1 : Int32)), (2, .int q4), (1, .int (0 : Int32)), (0, .ref (X.1 a0))]) hC dX11_worstFirst_9 rfl (by decide) rfl ?_
  obtain ⟨r10, hr10, hf⟩ := kc_some hf
  have hk10 : UW C X S 79 [(1, .int r10)] [] := by
    refine u_iload_n hC dX11_worstFirst_79 0 rfl rfl ?_
    cases hf
    exact hR _ _ dX11_worstFirst_80 trivial
  refine u_sub (lv' := [(0, .ref (X.1 a0)), (1, .int (0 : Int32)), (2, .int q4), (3, .int (1 : Int32))]) [3, 2, 1, 0] rfl ?_
  refine iter_ind (P := fun s10 => UW C X S 10 [(0, .ref (X.1 a0)), (1, .int s10.1), (2, .int s10.2.1), (3, .int s10.2.2)] []) (fun s10 o' hb hin hout => ?_) n ((0 : Int32), q4, (1 : Int32)) hr10
  exact wbX11_worstFirst_10 hC n S a0 hTa0 s10 hb hin (fun p e => by rw [hout p e]; exact hk10)
theorem ctX11_worstFirst (l : Launch) (hl : l.stackTraces = false) (G : GT) (ρ : Nat → Nat) (Y : XS) (n : Nat) (S : PS) (a0 : Nat) (hTa0 : Ty Y a0 11) {o : Int32} (hf : fX11_worstFirst Y n S a0 = some o) : Mt l G yX11_worstFirst cX11_worstFirst 5 (some .int) 4 ρ Y [.ref (ρ a0)] S (some (.int o)) S :=
  Mt_of hl (by decide) (Nat.le_of_ble_eq_true rfl) (fun C _ _ hC hR => wX11_worstFirst (X := (ρ, Y, 0, 0)) hC n S a0 hTa0 hf hR)
