-- X7_addBytes
theorem dX7_addBytes_0 : decode cX7_addBytes 0 = .ok (.bipush 24, 2) := by decide +kernel
theorem dX7_addBytes_2 : decode cX7_addBytes 2 = .ok (.istore_n 2, 1) := by decide +kernel
theorem dX7_addBytes_3 : decode cX7_addBytes 3 = .ok (.iload_n 2, 1) := by decide +kernel
theorem dX7_addBytes_4 : decode cX7_addBytes 4 = .ok (.ifCond .lt 42, 3) := by decide +kernel
theorem dX7_addBytes_7 : decode cX7_addBytes 7 = .ok (.aload_n 0, 1) := by decide +kernel
theorem dX7_addBytes_8 : decode cX7_addBytes 8 = .ok (.getfield 26, 3) := by decide +kernel
theorem dX7_addBytes_11 : decode cX7_addBytes 11 = .ok (.sipush 500, 3) := by decide +kernel
theorem dX7_addBytes_14 : decode cX7_addBytes 14 = .ok (.if_icmp .ge 32, 3) := by decide +kernel
theorem dX7_addBytes_17 : decode cX7_addBytes 17 = .ok (.aload_n 0, 1) := by decide +kernel
theorem dX7_addBytes_18 : decode cX7_addBytes 18 = .ok (.getfield 22, 3) := by decide +kernel
theorem dX7_addBytes_21 : decode cX7_addBytes 21 = .ok (.aload_n 0, 1) := by decide +kernel
theorem dX7_addBytes_22 : decode cX7_addBytes 22 = .ok (.getfield 26, 3) := by decide +kernel
theorem dX7_addBytes_25 : decode cX7_addBytes 25 = .ok (.iload_n 1, 1) := by decide +kernel
theorem dX7_addBytes_26 : decode cX7_addBytes 26 = .ok (.iload_n 2, 1) := by decide +kernel
theorem dX7_addBytes_27 : decode cX7_addBytes 27 = .ok (.iushr, 1) := by decide +kernel
theorem dX7_addBytes_28 : decode cX7_addBytes 28 = .ok (.i2b, 1) := by decide +kernel
theorem dX7_addBytes_29 : decode cX7_addBytes 29 = .ok (.bastore, 1) := by decide +kernel
theorem dX7_addBytes_30 : decode cX7_addBytes 30 = .ok (.aload_n 0, 1) := by decide +kernel
theorem dX7_addBytes_31 : decode cX7_addBytes 31 = .ok (.dup, 1) := by decide +kernel
theorem dX7_addBytes_32 : decode cX7_addBytes 32 = .ok (.getfield 26, 3) := by decide +kernel
theorem dX7_addBytes_35 : decode cX7_addBytes 35 = .ok (.iconst 1, 1) := by decide +kernel
theorem dX7_addBytes_36 : decode cX7_addBytes 36 = .ok (.iadd, 1) := by decide +kernel
theorem dX7_addBytes_37 : decode cX7_addBytes 37 = .ok (.putfield 26, 3) := by decide +kernel
theorem dX7_addBytes_40 : decode cX7_addBytes 40 = .ok (.iinc 2 (-8), 3) := by decide +kernel
theorem dX7_addBytes_43 : decode cX7_addBytes 43 = .ok (.goto (-40), 3) := by decide +kernel
theorem dX7_addBytes_46 : decode cX7_addBytes 46 = .ok (.return_, 1) := by decide +kernel
def bX7_addBytes_3 (Y : XS) (n : Nat) (v0 : Nat) (v1 : Int32) (s3 : (Int32 × PS)) : Option ((Int32 × PS) ⊕ PS) :=
  (if s3.1 < 0 then some (.inr s3.2) else kgi s3.2 v0 3 (fun x8 => (if (500 : Int32) ≤ x8 then some (.inr s3.2) else kgr s3.2 v0 2 (fun b18 => kgi s3.2 v0 3 (fun x22 => kwb Y s3.2 b18 x22 (Int8.toInt32 (Int32.toInt8 ((Int32.toUInt32 v1 >>> (Int32.toUInt32 s3.1 &&& Int32.toUInt32 31)).toInt32))) (fun S29 => kgi S29 v0 3 (fun x32 => kpi S29 v0 3 (x32 + (1 : Int32)) (fun S37 => some (.inl (s3.1 + (-8 : Int32), S37))))))))))
def jX7_addBytes_46 (Y : XS) (n : Nat) (S : PS)  : Option (PS) :=
  some S
def fX7_addBytes (Y : XS) (n : Nat) (S : PS) (a0 : Nat) (x1_ : Int32) : Option (PS) :=
  kc (iter (bX7_addBytes_3 Y n a0 x1_) n ((24 : Int32), S)) (fun r3 => jX7_addBytes_46 Y n r3 )
theorem wbX7_addBytes_3 {C : CT} {X : XT} (hC : CK C RX7 cX7_addBytes 3 none 1) (n : Nat) (v0 : Nat) (v1 : Int32) (hTv0 : Ty X.2.1 v0 7) (s3 : (Int32 × PS)) {o : (Int32 × PS) ⊕ PS} (hf : bX7_addBytes_3 X.2.1 n v0 v1 s3 = some o) (hN : ∀ s', o = .inl s' → UW C X s'.2 3 [(0, .ref (X.1 v0)), (1, .int v1), (2, .int s'.1)] []) (hO0 : ∀ p', o = .inr p' → UW C X p' 46 [] []) : UW C X s3.2 3 [(0, .ref (X.1 v0)), (1, .int v1), (2, .int s3.1)] [] := by
  unfold bX7_addBytes_3 at hf
  refine u_iload_n hC dX7_addBytes_3 2 rfl rfl ?_
  refine u_if_lt (tgt := 46) hC dX7_addBytes_4 (by decide) hf (fun h4 hf => ?_) (fun h4 hf => ?_)
  · refine u_sub (lv' := []) [] rfl ?_
    exact hO0 _ (Option.some.inj hf).symm
  · refine u_aload_n hC dX7_addBytes_7 0 rfl rfl ?_
    refine u_gi hC lf_X7_26 rfl hTv0 dX7_addBytes_8 hf (fun x8 hf => ?_)
    refine u_sipush (v := (500 : Int32)) hC dX7_addBytes_11 (by decide) ?_
    refine u_icmp_ge (tgt := 46) hC dX7_addBytes_14 (by decide) hf (fun h14 hf => ?_) (fun h14 hf => ?_)
    · refine u_sub (lv' := []) [] rfl ?_
      exact hO0 _ (Option.some.inj hf).symm
    · refine u_aload_n hC dX7_addBytes_17 0 rfl rfl ?_
      refine u_gr hC lf_X7_22 rfl hTv0 dX7_addBytes_18 hf (fun b18 hTb18 hf => ?_)
      refine u_aload_n hC dX7_addBytes_21 0 rfl rfl ?_
      refine u_gi hC lf_X7_26 rfl hTv0 dX7_addBytes_22 hf (fun x22 hf => ?_)
      refine u_iload_n hC dX7_addBytes_25 1 rfl rfl ?_
      refine u_iload_n hC dX7_addBytes_26 2 rfl rfl ?_
      refine u_iushr hC dX7_addBytes_27 ?_
      refine u_i2b hC dX7_addBytes_28 ?_
      refine u_wb hC hTb18 dX7_addBytes_29 hf (fun S29 hf => ?_)
      refine u_aload_n hC dX7_addBytes_30 0 rfl rfl ?_
      refine u_dup hC dX7_addBytes_31 rfl ?_
      refine u_gi hC lf_X7_26 rfl hTv0 dX7_addBytes_32 hf (fun x32 hf => ?_)
      refine u_iconst (v := (1 : Int32)) hC dX7_addBytes_35 (by decide) ?_
      refine u_iadd hC dX7_addBytes_36 ?_
      refine u_pi hC lf_X7_26 rfl rfl rfl hTv0 dX7_addBytes_37 hf (fun S37 hf => ?_)
      refine u_iinc (v := s3.1 + (-8 : Int32)) (lv' := [(2, .int (s3.1 + (-8 : Int32))), (0, .ref (X.1 v0)), (1, .int v1)]) hC dX7_addBytes_40 2 rfl rfl (by decide) rfl ?_
      refine u_goto (tgt := 3) hC dX7_addBytes_43 (by decide) ?_
      refine u_sub (lv' := [(0, .ref (X.1 v0)), (1, .int v1), (2, .int (s3.1 + (-8 : Int32)))]) [1, 2, 0] rfl ?_
      exact hN _ (Option.some.inj hf).symm
theorem wjX7_addBytes_46 {C : CT} {X : XT} (hC : CK C RX7 cX7_addBytes 3 none 1) (n : Nat) (S : PS)    {o : PS} (hf : jX7_addBytes_46 X.2.1 n S  = some o) (hR : Rt C X cX7_addBytes none none o) : UW C X S 46 [] [] := by
  unfold jX7_addBytes_46 at hf
  cases hf
  exact hR _ _ dX7_addBytes_46 trivial
theorem wX7_addBytes {C : CT} {X : XT} (hC : CK C RX7 cX7_addBytes 3 none 1) (n : Nat) (S : PS) (a0 : Nat) (x1_ : Int32) (hTa0 : Ty X.2.1 a0 7) {o : PS} (hf : fX7_addBytes X.2.1 n S a0 x1_ = some o) (hR : Rt C X cX7_addBytes none none o) : UW C X S 0 [(0, .ref (X.1 a0)), (1, .int x1_)] [] := by
  unfold fX7_addBytes at hf
  refine u_bipush (v := (24 : Int32)) hC dX7_addBytes_0 (by decide) ?_
  refine u_istore_n (lv' := [(2, .int (24 : Int32)), (0, .ref (X.1 a0)), (1, .int x1_)]) hC dX7_addBytes_2 rfl (by decide) rfl ?_
  obtain ⟨r3, hr3, hf⟩ := kc_some hf
  have hk3 : UW C X r3 46 [] [] := by
    exact wjX7_addBytes_46 hC n r3    hf hR
  refine u_sub (lv' := [(0, .ref (X.1 a0)), (1, .int x1_), (2, .int (24 : Int32))]) [1, 2, 0] rfl ?_
  refine iter_ind (P := fun s3 => UW C X s3.2 3 [(0, .ref (X.1 a0)), (1, .int x1_), (2, .int s3.1)] []) (fun s3 o' hb hin hout => ?_) n ((24 : Int32), S) hr3
  exact wbX7_addBytes_3 hC n a0 x1_ hTa0 s3 hb hin (fun p e => by rw [hout p e]; exact hk3)
theorem ctX7_addBytes (l : Launch) (hl : l.stackTraces = false) (G : GT) (ρ : Nat → Nat) (Y : XS) (n : Nat) (S : PS) (a0 : Nat) (x1_ : Int32) (hTa0 : Ty Y a0 7) {o : PS} (hf : fX7_addBytes Y n S a0 x1_ = some o) : Mt l G yX7_addBytes cX7_addBytes 3 none 1 ρ Y [.ref (ρ a0), .int x1_] S none o :=
  Mt_of hl (by decide) (Nat.le_of_ble_eq_true rfl) (fun C _ _ hC hR => wX7_addBytes (X := (ρ, Y, 0, 0)) hC n S a0 x1_ hTa0 hf hR)
-- X7_wrong
theorem dX7_wrong_0 : decode cX7_wrong 0 = .ok (.aload_n 0, 1) := by decide +kernel
theorem dX7_wrong_1 : decode cX7_wrong 1 = .ok (.iload_n 1, 1) := by decide +kernel
theorem dX7_wrong_2 : decode cX7_wrong 2 = .ok (.putfield 29, 3) := by decide +kernel
theorem dX7_wrong_5 : decode cX7_wrong 5 = .ok (.aload_n 0, 1) := by decide +kernel
theorem dX7_wrong_6 : decode cX7_wrong 6 = .ok (.aload_n 0, 1) := by decide +kernel
theorem dX7_wrong_7 : decode cX7_wrong 7 = .ok (.getfield 41, 3) := by decide +kernel
theorem dX7_wrong_10 : decode cX7_wrong 10 = .ok (.putfield 18, 3) := by decide +kernel
theorem dX7_wrong_13 : decode cX7_wrong 13 = .ok (.iconst 0, 1) := by decide +kernel
theorem dX7_wrong_14 : decode cX7_wrong 14 = .ok (.ireturn, 1) := by decide +kernel
def fX7_wrong (Y : XS) (n : Nat) (S : PS) (a0 : Nat) (x1_ : Int32) : Option (Int32 × PS) :=
  kpi S a0 4 x1_ (fun S2 => kgi S2 a0 8 (fun x7 => kpi S2 a0 1 x7 (fun S10 => kzr (0 : Int32) (some ((0 : Int32), S10)))))
theorem wX7_wrong {C : CT} {X : XT} (hC : CK C RX7 cX7_wrong 2 (some .boolean) 1) (n : Nat) (S : PS) (a0 : Nat) (x1_ : Int32) (hTa0 : Ty X.2.1 a0 7) {o : Int32 × PS} (hf : fX7_wrong X.2.1 n S a0 x1_ = some o) (hR : Rt C X cX7_wrong (some .boolean) (some (.int o.1)) o.2) : UW C X S 0 [(0, .ref (X.1 a0)), (1, .int x1_)] [] := by
  unfold fX7_wrong at hf
  refine u_aload_n hC dX7_wrong_0 0 rfl rfl ?_
  refine u_iload_n hC dX7_wrong_1 1 rfl rfl ?_
  refine u_pi hC lf_X7_29 rfl rfl rfl hTa0 dX7_wrong_2 hf (fun S2 hf => ?_)
  refine u_aload_n hC dX7_wrong_5 0 rfl rfl ?_
  refine u_aload_n hC dX7_wrong_6 0 rfl rfl ?_
  refine u_gi hC lf_X7_41 rfl hTa0 dX7_wrong_7 hf (fun x7 hf => ?_)
  refine u_pi hC lf_X7_18 rfl rfl rfl hTa0 dX7_wrong_10 hf (fun S10 hf => ?_)
  refine u_iconst (v := (0 : Int32)) hC dX7_wrong_13 (by decide) ?_
  obtain ⟨hz, hf⟩ := kzr_some hf
  cases hf
  exact hR _ _ dX7_wrong_14 hz
theorem ctX7_wrong (l : Launch) (hl : l.stackTraces = false) (G : GT) (ρ : Nat → Nat) (Y : XS) (n : Nat) (S : PS) (a0 : Nat) (x1_ : Int32) (hTa0 : Ty Y a0 7) {o : Int32 × PS} (hf : fX7_wrong Y n S a0 x1_ = some o) : Mt l G yX7_wrong cX7_wrong 2 (some .boolean) 1 ρ Y [.ref (ρ a0), .int x1_] S (some (.int o.1)) o.2 :=
  Mt_of hl (by decide) (Nat.le_of_ble_eq_true rfl) (fun C _ _ hC hR => wX7_wrong (X := (ρ, Y, 0, 0)) hC n S a0 x1_ hTa0 hf hR)
-- X7_isBlank
theorem dX7_isBlank_0 : decode cX7_isBlank 0 = .ok (.iload_n 0, 1) := by decide +kernel
theorem dX7_isBlank_1 : decode cX7_isBlank 1 = .ok (.bipush 32, 2) := by decide +kernel
theorem dX7_isBlank_3 : decode cX7_isBlank 3 = .ok (.if_icmp .eq 9, 3) := by decide +kernel
theorem dX7_isBlank_6 : decode cX7_isBlank 6 = .ok (.iload_n 0, 1) := by decide +kernel
theorem dX7_isBlank_7 : decode cX7_isBlank 7 = .ok (.bipush 10, 2) := by decide +kernel
theorem dX7_isBlank_9 : decode cX7_isBlank 9 = .ok (.if_icmp .ne 7, 3) := by decide +kernel
theorem dX7_isBlank_12 : decode cX7_isBlank 12 = .ok (.iconst 1, 1) := by decide +kernel
theorem dX7_isBlank_13 : decode cX7_isBlank 13 = .ok (.goto 4, 3) := by decide +kernel
theorem dX7_isBlank_16 : decode cX7_isBlank 16 = .ok (.iconst 0, 1) := by decide +kernel
theorem dX7_isBlank_17 : decode cX7_isBlank 17 = .ok (.ireturn, 1) := by decide +kernel
def jX7_isBlank_17 (Y : XS) (n : Nat) (S : PS) (t0 : Int32) : Option (Int32) :=
  kzr t0 (some t0)
def jX7_isBlank_12 (Y : XS) (n : Nat) (S : PS)  : Option (Int32) :=
  jX7_isBlank_17 Y n S (1 : Int32)
def fX7_isBlank (Y : XS) (n : Nat) (S : PS) (x0_ : Int32) : Option (Int32) :=
  (if x0_ = (32 : Int32) then jX7_isBlank_12 Y n S  else (if x0_ = (10 : Int32) then jX7_isBlank_12 Y n S  else jX7_isBlank_17 Y n S (0 : Int32)))
theorem wjX7_isBlank_17 {C : CT} {X : XT} (hC : CK C RX7 cX7_isBlank 1 (some .boolean) 1) (n : Nat) (S : PS) (t0 : Int32)   {o : Int32} (hf : jX7_isBlank_17 X.2.1 n S t0 = some o) (hR : Rt C X cX7_isBlank (some .boolean) (some (.int o)) S) : UW C X S 17 [] [.int t0] := by
  unfold jX7_isBlank_17 at hf
  obtain ⟨hz, hf⟩ := kzr_some hf
  cases hf
  exact hR _ _ dX7_isBlank_17 hz
theorem wjX7_isBlank_12 {C : CT} {X : XT} (hC : CK C RX7 cX7_isBlank 1 (some .boolean) 1) (n : Nat) (S : PS)    {o : Int32} (hf : jX7_isBlank_12 X.2.1 n S  = some o) (hR : Rt C X cX7_isBlank (some .boolean) (some (.int o)) S) : UW C X S 12 [] [] := by
  unfold jX7_isBlank_12 at hf
  refine u_iconst (v := (1 : Int32)) hC dX7_isBlank_12 (by decide) ?_
  refine u_goto (tgt := 17) hC dX7_isBlank_13 (by decide) ?_
  exact wjX7_isBlank_17 hC n S (1 : Int32)   hf hR
theorem wX7_isBlank {C : CT} {X : XT} (hC : CK C RX7 cX7_isBlank 1 (some .boolean) 1) (n : Nat) (S : PS) (x0_ : Int32)  {o : Int32} (hf : fX7_isBlank X.2.1 n S x0_ = some o) (hR : Rt C X cX7_isBlank (some .boolean) (some (.int o)) S) : UW C X S 0 [(0, .int x0_)] [] := by
  unfold fX7_isBlank at hf
  refine u_iload_n hC dX7_isBlank_0 0 rfl rfl ?_
  refine u_bipush (v := (32 : Int32)) hC dX7_isBlank_1 (by decide) ?_
  refine u_icmp_eq (tgt := 12) hC dX7_isBlank_3 (by decide) hf (fun h3 hf => ?_) (fun h3 hf => ?_)
  · refine u_sub (lv' := []) [] rfl ?_
    exact wjX7_isBlank_12 hC n S    hf hR
  · refine u_iload_n hC dX7_isBlank_6 0 rfl rfl ?_
    refine u_bipush (v := (10 : Int32)) hC dX7_isBlank_7 (by decide) ?_
    refine u_icmp_ne (tgt := 16) hC dX7_isBlank_9 (by decide) hf (fun h9 hf => ?_) (fun h9 hf => ?_)
    · refine u_iconst (v := (0 : Int32)) hC dX7_isBlank_16 (by decide) ?_
      refine u_sub (lv' := []) [] rfl ?_
      exact wjX7_isBlank_17 hC n S (0 : Int32)   hf hR
    · refine u_sub (lv' := []) [] rfl ?_
      exact wjX7_isBlank_12 hC n S    hf hR
theorem ctX7_isBlank (l : Launch) (hl : l.stackTraces = false) (G : GT) (ρ : Nat → Nat) (Y : XS) (n : Nat) (S : PS) (x0_ : Int32)  {o : Int32} (hf : fX7_isBlank Y n S x0_ = some o) : Mt l G yX7_isBlank cX7_isBlank 1 (some .boolean) 1 ρ Y [.int x0_] S (some (.int o)) S :=
  Mt_of hl (by decide) (Nat.le_of_ble_eq_true rfl) (fun C _ _ hC hR => wX7_isBlank (X := (ρ, Y, 0, 0)) hC n S x0_  hf hR)
-- X7_isLetter
theorem dX7_isLetter_0 : decode cX7_isLetter 0 = .ok (.iload_n 0, 1) := by decide +kernel
theorem dX7_isLetter_1 : decode cX7_isLetter 1 = .ok (.bipush 97, 2) := by decide +kernel
theorem dX7_isLetter_3 : decode cX7_isLetter 3 = .ok (.if_icmp .lt 13, 3) := by decide +kernel
theorem dX7_isLetter_6 : decode cX7_isLetter 6 = .ok (.iload_n 0, 1) := by decide +kernel
theorem dX7_isLetter_7 : decode cX7_isLetter 7 = .ok (.bipush 122, 2) := by decide +kernel
theorem dX7_isLetter_9 : decode cX7_isLetter 9 = .ok (.if_icmp .gt 7, 3) := by decide +kernel
theorem dX7_isLetter_12 : decode cX7_isLetter 12 = .ok (.iconst 1, 1) := by decide +kernel
theorem dX7_isLetter_13 : decode cX7_isLetter 13 = .ok (.goto 4, 3) := by decide +kernel
theorem dX7_isLetter_16 : decode cX7_isLetter 16 = .ok (.iconst 0, 1) := by decide +kernel
theorem dX7_isLetter_17 : decode cX7_isLetter 17 = .ok (.ireturn, 1) := by decide +kernel
def jX7_isLetter_17 (Y : XS) (n : Nat) (S : PS) (t0 : Int32) : Option (Int32) :=
  kzr t0 (some t0)
def jX7_isLetter_16 (Y : XS) (n : Nat) (S : PS)  : Option (Int32) :=
  jX7_isLetter_17 Y n S (0 : Int32)
def fX7_isLetter (Y : XS) (n : Nat) (S : PS) (x0_ : Int32) : Option (Int32) :=
  (if x0_ < (97 : Int32) then jX7_isLetter_16 Y n S  else (if (122 : Int32) < x0_ then jX7_isLetter_16 Y n S  else jX7_isLetter_17 Y n S (1 : Int32)))
theorem wjX7_isLetter_17 {C : CT} {X : XT} (hC : CK C RX7 cX7_isLetter 1 (some .boolean) 1) (n : Nat) (S : PS) (t0 : Int32)   {o : Int32} (hf : jX7_isLetter_17 X.2.1 n S t0 = some o) (hR : Rt C X cX7_isLetter (some .boolean) (some (.int o)) S) : UW C X S 17 [] [.int t0] := by
  unfold jX7_isLetter_17 at hf
  obtain ⟨hz, hf⟩ := kzr_some hf
  cases hf
  exact hR _ _ dX7_isLetter_17 hz
theorem wjX7_isLetter_16 {C : CT} {X : XT} (hC : CK C RX7 cX7_isLetter 1 (some .boolean) 1) (n : Nat) (S : PS)    {o : Int32} (hf : jX7_isLetter_16 X.2.1 n S  = some o) (hR : Rt C X cX7_isLetter (some .boolean) (some (.int o)) S) : UW C X S 16 [] [] := by
  unfold jX7_isLetter_16 at hf
  refine u_iconst (v := (0 : Int32)) hC dX7_isLetter_16 (by decide) ?_
  exact wjX7_isLetter_17 hC n S (0 : Int32)   hf hR
theorem wX7_isLetter {C : CT} {X : XT} (hC : CK C RX7 cX7_isLetter 1 (some .boolean) 1) (n : Nat) (S : PS) (x0_ : Int32)  {o : Int32} (hf : fX7_isLetter X.2.1 n S x0_ = some o) (hR : Rt C X cX7_isLetter (some .boolean) (some (.int o)) S) : UW C X S 0 [(0, .int x0_)] [] := by
  unfold fX7_isLetter at hf
  refine u_iload_n hC dX7_isLetter_0 0 rfl rfl ?_
  refine u_bipush (v := (97 : Int32)) hC dX7_isLetter_1 (by decide) ?_
  refine u_icmp_lt (tgt := 16) hC dX7_isLetter_3 (by decide) hf (fun h3 hf => ?_) (fun h3 hf => ?_)
  · refine u_sub (lv' := []) [] rfl ?_
    exact wjX7_isLetter_16 hC n S    hf hR
  · refine u_iload_n hC dX7_isLetter_6 0 rfl rfl ?_
    refine u_bipush (v := (122 : Int32)) hC dX7_isLetter_7 (by decide) ?_
    refine u_icmp_gt (tgt := 16) hC dX7_isLetter_9 (by decide) hf (fun h9 hf => ?_) (fun h9 hf => ?_)
    · refine u_sub (lv' := []) [] rfl ?_
      exact wjX7_isLetter_16 hC n S    hf hR
    · refine u_iconst (v := (1 : Int32)) hC dX7_isLetter_12 (by decide) ?_
      refine u_goto (tgt := 17) hC dX7_isLetter_13 (by decide) ?_
      refine u_sub (lv' := []) [] rfl ?_
      exact wjX7_isLetter_17 hC n S (1 : Int32)   hf hR
theorem ctX7_isLetter (l : Launch) (hl : l.stackTraces = false) (G : GT) (ρ : Nat → Nat) (Y : XS) (n : Nat) (S : PS) (x0_ : Int32)  {o : Int32} (hf : fX7_isLetter Y n S x0_ = some o) : Mt l G yX7_isLetter cX7_isLetter 1 (some .boolean) 1 ρ Y [.int x0_] S (some (.int o)) S :=
  Mt_of hl (by decide) (Nat.le_of_ble_eq_true rfl) (fun C _ _ hC hR => wX7_isLetter (X := (ρ, Y, 0, 0)) hC n S x0_  hf hR)
-- X7_readWord
theorem dX7_readWord_0 : decode cX7_readWord 0 = .ok (.aload_n 0, 1) := by decide +kernel
theorem dX7_readWord_1 : decode cX7_readWord 1 = .ok (.iconst 1, 1) := by decide +kernel
theorem dX7_readWord_2 : decode cX7_readWord 2 = .ok (.putfield 38, 3) := by decide +kernel
theorem dX7_readWord_5 : decode cX7_readWord 5 = .ok (.aload_n 0, 1) := by decide +kernel
theorem dX7_readWord_6 : decode cX7_readWord 6 = .ok (.getfield 35, 3) := by decide +kernel
theorem dX7_readWord_9 : decode cX7_readWord 9 = .ok (.aload_n 0, 1) := by decide +kernel
theorem dX7_readWord_10 : decode cX7_readWord 10 = .ok (.getfield 32, 3) := by decide +kernel
theorem dX7_readWord_13 : decode cX7_readWord 13 = .ok (.if_icmp .ge 31, 3) := by decide +kernel
theorem dX7_readWord_16 : decode cX7_readWord 16 = .ok (.aload_n 0, 1) := by decide +kernel
theorem dX7_readWord_17 : decode cX7_readWord 17 = .ok (.getfield 22, 3) := by decide +kernel
theorem dX7_readWord_20 : decode cX7_readWord 20 = .ok (.aload_n 0, 1) := by decide +kernel
theorem dX7_readWord_21 : decode cX7_readWord 21 = .ok (.getfield 35, 3) := by decide +kernel
theorem dX7_readWord_24 : decode cX7_readWord 24 = .ok (.baload, 1) := by decide +kernel
theorem dX7_readWord_25 : decode cX7_readWord 25 = .ok (.invokestatic 205, 3) := by decide +kernel
theorem dX7_readWord_28 : decode cX7_readWord 28 = .ok (.ifCond .eq 16, 3) := by decide +kernel
theorem dX7_readWord_31 : decode cX7_readWord 31 = .ok (.aload_n 0, 1) := by decide +kernel
theorem dX7_readWord_32 : decode cX7_readWord 32 = .ok (.dup, 1) := by decide +kernel
theorem dX7_readWord_33 : decode cX7_readWord 33 = .ok (.getfield 35, 3) := by decide +kernel
theorem dX7_readWord_36 : decode cX7_readWord 36 = .ok (.iconst 1, 1) := by decide +kernel
theorem dX7_readWord_37 : decode cX7_readWord 37 = .ok (.iadd, 1) := by decide +kernel
theorem dX7_readWord_38 : decode cX7_readWord 38 = .ok (.putfield 35, 3) := by decide +kernel
theorem dX7_readWord_41 : decode cX7_readWord 41 = .ok (.goto (-36), 3) := by decide +kernel
theorem dX7_readWord_44 : decode cX7_readWord 44 = .ok (.aload_n 0, 1) := by decide +kernel
theorem dX7_readWord_45 : decode cX7_readWord 45 = .ok (.aload_n 0, 1) := by decide +kernel
theorem dX7_readWord_46 : decode cX7_readWord 46 = .ok (.getfield 35, 3) := by decide +kernel
theorem dX7_readWord_49 : decode cX7_readWord 49 = .ok (.aload_n 0, 1) := by decide +kernel
theorem dX7_readWord_50 : decode cX7_readWord 50 = .ok (.getfield 41, 3) := by decide +kernel
theorem dX7_readWord_53 : decode cX7_readWord 53 = .ok (.isub, 1) := by decide +kernel
theorem dX7_readWord_54 : decode cX7_readWord 54 = .ok (.putfield 44, 3) := by decide +kernel
theorem dX7_readWord_57 : decode cX7_readWord 57 = .ok (.return_, 1) := by decide +kernel
def bX7_readWord_5 (Y : XS) (n : Nat) (v0 : Nat) (s5 : PS) : Option (PS ⊕ PS) :=
  kgi s5 v0 6 (fun x6 => kgi s5 v0 5 (fun x10 => (if x10 ≤ x6 then some (.inr s5) else kgr s5 v0 2 (fun b17 => kgi s5 v0 6 (fun x21 => kai Y s5 b17 x21 (fun x24 => kc (fX7_isLetter Y n s5 x24) (fun q25 => (if q25 = 0 then some (.inr s5) else kgi s5 v0 6 (fun x33 => kpi s5 v0 6 (x33 + (1 : Int32)) (fun S38 => some (.inl S38)))))))))))
def jX7_readWord_44 (Y : XS) (n : Nat) (S : PS) (v0 : Nat) : Option (PS) :=
  kgi S v0 6 (fun x46 => kgi S v0 8 (fun x50 => kpi S v0 9 (x46 - x50) (fun S54 => some S54)))
def fX7_readWord (Y : XS) (n : Nat) (S : PS) (a0 : Nat) : Option (PS) :=
  kpi S a0 7 (1 : Int32) (fun S2 => kc (iter (bX7_readWord_5 Y n a0) n S2) (fun r5 => jX7_readWord_44 Y n r5 a0))
theorem wbX7_readWord_5 {C : CT} {X : XT} (hC : CK C RX7 cX7_readWord 1 none 2) (n : Nat) (v0 : Nat) (hTv0 : Ty X.2.1 v0 7) (s5 : PS) {o : PS ⊕ PS} (hf : bX7_readWord_5 X.2.1 n v0 s5 = some o) (hN : ∀ s', o = .inl s' → UW C X s' 5 [(0, .ref (X.1 v0))] []) (hO0 : ∀ p', o = .inr p' → UW C X p' 44 [(0, .ref (X.1 v0))] []) : UW C X s5 5 [(0, .ref (X.1 v0))] [] := by
  unfold bX7_readWord_5 at hf
  refine u_aload_n hC dX7_readWord_5 0 rfl rfl ?_
  refine u_gi hC lf_X7_35 rfl hTv0 dX7_readWord_6 hf (fun x6 hf => ?_)
  refine u_aload_n hC dX7_readWord_9 0 rfl rfl ?_
  refine u_gi hC lf_X7_32 rfl hTv0 dX7_readWord_10 hf (fun x10 hf => ?_)
  refine u_icmp_ge (tgt := 44) hC dX7_readWord_13 (by decide) hf (fun h13 hf => ?_) (fun h13 hf => ?_)
  · exact hO0 _ (Option.some.inj hf).symm
  · refine u_aload_n hC dX7_readWord_16 0 rfl rfl ?_
    refine u_gr hC lf_X7_22 rfl hTv0 dX7_readWord_17 hf (fun b17 hTb17 hf => ?_)
    refine u_aload_n hC dX7_readWord_20 0 rfl rfl ?_
    refine u_gi hC lf_X7_35 rfl hTv0 dX7_readWord_21 hf (fun x21 hf => ?_)
    refine u_ab hC hTb17 dX7_readWord_24 hf (fun x24 hf => ?_)
    obtain ⟨q25, hq25, hf⟩ := kc_some hf
    refine u_callS hC (ctX7_isLetter (cL C) hC.tr (cG C) X.1 X.2.1 n s5 x24  hq25) lk_X7_205 (by decide) (by decide) rfl rfl (Nat.le_of_ble_eq_true rfl) dX7_readWord_25 ?_
    refine u_if_eq (tgt := 44) hC dX7_readWord_28 (by decide) hf (fun h28 hf => ?_) (fun h28 hf => ?_)
    · exact hO0 _ (Option.some.inj hf).symm
    · refine u_aload_n hC dX7_readWord_31 0 rfl rfl ?_
      refine u_dup hC dX7_readWord_32 rfl ?_
      refine u_gi hC lf_X7_35 rfl hTv0 dX7_readWord_33 hf (fun x33 hf => ?_)
      refine u_iconst (v := (1 : Int32)) hC dX7_readWord_36 (by decide) ?_
      refine u_iadd hC dX7_readWord_37 ?_
      refine u_pi hC lf_X7_35 rfl rfl rfl hTv0 dX7_readWord_38 hf (fun S38 hf => ?_)
      refine u_goto (tgt := 5) hC dX7_readWord_41 (by decide) ?_
      exact hN _ (Option.some.inj hf).symm
theorem wjX7_readWord_44 {C : CT} {X : XT} (hC : CK C RX7 cX7_readWord 1 none 2) (n : Nat) (S : PS) (v0 : Nat)  (hTv0 : Ty X.2.1 v0 7) {o : PS} (hf : jX7_readWord_44 X.2.1 n S v0 = some o) (hR : Rt C X cX7_readWord none none o) : UW C X S 44 [(0, .ref (X.1 v0))] [] := by
  unfold jX7_readWord_44 at hf
  refine u_aload_n hC dX7_readWord_44 0 rfl rfl ?_
  refine u_aload_n hC dX7_readWord_45 0 rfl rfl ?_
  refine u_gi hC lf_X7_35 rfl hTv0 dX7_readWord_46 hf (fun x46 hf => ?_)
  refine u_aload_n hC dX7_readWord_49 0 rfl rfl ?_
  refine u_gi hC lf_X7_41 rfl hTv0 dX7_readWord_50 hf (fun x50 hf => ?_)
  refine u_isub hC dX7_readWord_53 ?_
  refine u_pi hC lf_X7_44 rfl rfl rfl hTv0 dX7_readWord_54 hf (fun S54 hf => ?_)
  cases hf
  exact hR _ _ dX7_readWord_57 trivial
theorem wX7_readWord {C : CT} {X : XT} (hC : CK C RX7 cX7_readWord 1 none 2) (n : Nat) (S : PS) (a0 : Nat) (hTa0 : Ty X.2.1 a0 7) {o : PS} (hf : fX7_readWord X.2.1 n S a0 = some o) (hR : Rt C X cX7_readWord none none o) : UW C X S 0 [(0, .ref (X.1 a0))] [] := by
  unfold fX7_readWord at hf
  refine u_aload_n hC dX7_readWord_0 0 rfl rfl ?_
  refine u_iconst (v := (1 : Int32)) hC dX7_readWord_1 (by decide) ?_
  refine u_pi hC lf_X7_38 rfl rfl rfl hTa0 dX7_readWord_2 hf (fun S2 hf => ?_)
  obtain ⟨r5, hr5, hf⟩ := kc_some hf
  have hk5 : UW C X r5 44 [(0, .ref (X.1 a0))] [] := by
    exact wjX7_readWord_44 hC n r5 a0  hTa0 hf hR
  refine iter_ind (P := fun s5 => UW C X s5 5 [(0, .ref (X.1 a0))] []) (fun s5 o' hb hin hout => ?_) n S2 hr5
  exact wbX7_readWord_5 hC n a0 hTa0 s5 hb hin (fun p e => by rw [hout p e]; exact hk5)
theorem ctX7_readWord (l : Launch) (hl : l.stackTraces = false) (G : GT) (ρ : Nat → Nat) (Y : XS) (n : Nat) (S : PS) (a0 : Nat) (hTa0 : Ty Y a0 7) {o : PS} (hf : fX7_readWord Y n S a0 = some o) : Mt l G yX7_readWord cX7_readWord 1 none 2 ρ Y [.ref (ρ a0)] S none o :=
  Mt_of hl (by decide) (Nat.le_of_ble_eq_true rfl) (fun C _ _ hC hR => wX7_readWord (X := (ρ, Y, 0, 0)) hC n S a0 hTa0 hf hR)
-- X7_isFigure
theorem dX7_isFigure_0 : decode cX7_isFigure 0 = .ok (.iload_n 0, 1) := by decide +kernel
theorem dX7_isFigure_1 : decode cX7_isFigure 1 = .ok (.bipush 48, 2) := by decide +kernel
theorem dX7_isFigure_3 : decode cX7_isFigure 3 = .ok (.if_icmp .lt 13, 3) := by decide +kernel
theorem dX7_isFigure_6 : decode cX7_isFigure 6 = .ok (.iload_n 0, 1) := by decide +kernel
theorem dX7_isFigure_7 : decode cX7_isFigure 7 = .ok (.bipush 57, 2) := by decide +kernel
theorem dX7_isFigure_9 : decode cX7_isFigure 9 = .ok (.if_icmp .gt 7, 3) := by decide +kernel
theorem dX7_isFigure_12 : decode cX7_isFigure 12 = .ok (.iconst 1, 1) := by decide +kernel
theorem dX7_isFigure_13 : decode cX7_isFigure 13 = .ok (.goto 4, 3) := by decide +kernel
theorem dX7_isFigure_16 : decode cX7_isFigure 16 = .ok (.iconst 0, 1) := by decide +kernel
theorem dX7_isFigure_17 : decode cX7_isFigure 17 = .ok (.ireturn, 1) := by decide +kernel
def jX7_isFigure_17 (Y : XS) (n : Nat) (S : PS) (t0 : Int32) : Option (Int32) :=
  kzr t0 (some t0)
def jX7_isFigure_16 (Y : XS) (n : Nat) (S : PS)  : Option (Int32) :=
  jX7_isFigure_17 Y n S (0 : Int32)
def fX7_isFigure (Y : XS) (n : Nat) (S : PS) (x0_ : Int32) : Option (Int32) :=
  (if x0_ < (48 : Int32) then jX7_isFigure_16 Y n S  else (if (57 : Int32) < x0_ then jX7_isFigure_16 Y n S  else jX7_isFigure_17 Y n S (1 : Int32)))
theorem wjX7_isFigure_17 {C : CT} {X : XT} (hC : CK C RX7 cX7_isFigure 1 (some .boolean) 1) (n : Nat) (S : PS) (t0 : Int32)   {o : Int32} (hf : jX7_isFigure_17 X.2.1 n S t0 = some o) (hR : Rt C X cX7_isFigure (some .boolean) (some (.int o)) S) : UW C X S 17 [] [.int t0] := by
  unfold jX7_isFigure_17 at hf
  obtain ⟨hz, hf⟩ := kzr_some hf
  cases hf
  exact hR _ _ dX7_isFigure_17 hz
theorem wjX7_isFigure_16 {C : CT} {X : XT} (hC : CK C RX7 cX7_isFigure 1 (some .boolean) 1) (n : Nat) (S : PS)    {o : Int32} (hf : jX7_isFigure_16 X.2.1 n S  = some o) (hR : Rt C X cX7_isFigure (some .boolean) (some (.int o)) S) : UW C X S 16 [] [] := by
  unfold jX7_isFigure_16 at hf
  refine u_iconst (v := (0 : Int32)) hC dX7_isFigure_16 (by decide) ?_
  exact wjX7_isFigure_17 hC n S (0 : Int32)   hf hR
theorem wX7_isFigure {C : CT} {X : XT} (hC : CK C RX7 cX7_isFigure 1 (some .boolean) 1) (n : Nat) (S : PS) (x0_ : Int32)  {o : Int32} (hf : fX7_isFigure X.2.1 n S x0_ = some o) (hR : Rt C X cX7_isFigure (some .boolean) (some (.int o)) S) : UW C X S 0 [(0, .int x0_)] [] := by
  unfold fX7_isFigure at hf
  refine u_iload_n hC dX7_isFigure_0 0 rfl rfl ?_
  refine u_bipush (v := (48 : Int32)) hC dX7_isFigure_1 (by decide) ?_
  refine u_icmp_lt (tgt := 16) hC dX7_isFigure_3 (by decide) hf (fun h3 hf => ?_) (fun h3 hf => ?_)
  · refine u_sub (lv' := []) [] rfl ?_
    exact wjX7_isFigure_16 hC n S    hf hR
  · refine u_iload_n hC dX7_isFigure_6 0 rfl rfl ?_
    refine u_bipush (v := (57 : Int32)) hC dX7_isFigure_7 (by decide) ?_
    refine u_icmp_gt (tgt := 16) hC dX7_isFigure_9 (by decide) hf (fun h9 hf => ?_) (fun h9 hf => ?_)
    · refine u_sub (lv' := []) [] rfl ?_
      exact wjX7_isFigure_16 hC n S    hf hR
    · refine u_iconst (v := (1 : Int32)) hC dX7_isFigure_12 (by decide) ?_
      refine u_goto (tgt := 17) hC dX7_isFigure_13 (by decide) ?_
      refine u_sub (lv' := []) [] rfl ?_
      exact wjX7_isFigure_17 hC n S (1 : Int32)   hf hR
theorem ctX7_isFigure (l : Launch) (hl : l.stackTraces = false) (G : GT) (ρ : Nat → Nat) (Y : XS) (n : Nat) (S : PS) (x0_ : Int32)  {o : Int32} (hf : fX7_isFigure Y n S x0_ = some o) : Mt l G yX7_isFigure cX7_isFigure 1 (some .boolean) 1 ρ Y [.int x0_] S (some (.int o)) S :=
  Mt_of hl (by decide) (Nat.le_of_ble_eq_true rfl) (fun C _ _ hC hR => wX7_isFigure (X := (ρ, Y, 0, 0)) hC n S x0_  hf hR)
-- X7_readFigures
theorem dX7_readFigures_0 : decode cX7_readFigures 0 = .ok (.aload_n 0, 1) := by decide +kernel
theorem dX7_readFigures_1 : decode cX7_readFigures 1 = .ok (.iconst 2, 1) := by decide +kernel
theorem dX7_readFigures_2 : decode cX7_readFigures 2 = .ok (.putfield 38, 3) := by decide +kernel
theorem dX7_readFigures_5 : decode cX7_readFigures 5 = .ok (.aload_n 0, 1) := by decide +kernel
theorem dX7_readFigures_6 : decode cX7_readFigures 6 = .ok (.iconst 0, 1) := by decide +kernel
theorem dX7_readFigures_7 : decode cX7_readFigures 7 = .ok (.putfield 44, 3) := by decide +kernel
theorem dX7_readFigures_10 : decode cX7_readFigures 10 = .ok (.aload_n 0, 1) := by decide +kernel
theorem dX7_readFigures_11 : decode cX7_readFigures 11 = .ok (.getfield 35, 3) := by decide +kernel
theorem dX7_readFigures_14 : decode cX7_readFigures 14 = .ok (.aload_n 0, 1) := by decide +kernel
theorem dX7_readFigures_15 : decode cX7_readFigures 15 = .ok (.getfield 32, 3) := by decide +kernel
theorem dX7_readFigures_18 : decode cX7_readFigures 18 = .ok (.if_icmp .ge 60, 3) := by decide +kernel
theorem dX7_readFigures_21 : decode cX7_readFigures 21 = .ok (.aload_n 0, 1) := by decide +kernel
theorem dX7_readFigures_22 : decode cX7_readFigures 22 = .ok (.getfield 22, 3) := by decide +kernel
theorem dX7_readFigures_25 : decode cX7_readFigures 25 = .ok (.aload_n 0, 1) := by decide +kernel
theorem dX7_readFigures_26 : decode cX7_readFigures 26 = .ok (.getfield 35, 3) := by decide +kernel
theorem dX7_readFigures_29 : decode cX7_readFigures 29 = .ok (.baload, 1) := by decide +kernel
theorem dX7_readFigures_30 : decode cX7_readFigures 30 = .ok (.invokestatic 211, 3) := by decide +kernel
theorem dX7_readFigures_33 : decode cX7_readFigures 33 = .ok (.ifCond .eq 45, 3) := by decide +kernel
theorem dX7_readFigures_36 : decode cX7_readFigures 36 = .ok (.aload_n 0, 1) := by decide +kernel
theorem dX7_readFigures_37 : decode cX7_readFigures 37 = .ok (.ldc 217, 2) := by decide +kernel
theorem dX7_readFigures_39 : decode cX7_readFigures 39 = .ok (.aload_n 0, 1) := by decide +kernel
theorem dX7_readFigures_40 : decode cX7_readFigures 40 = .ok (.getfield 44, 3) := by decide +kernel
theorem dX7_readFigures_43 : decode cX7_readFigures 43 = .ok (.bipush 10, 2) := by decide +kernel
theorem dX7_readFigures_45 : decode cX7_readFigures 45 = .ok (.imul, 1) := by decide +kernel
theorem dX7_readFigures_46 : decode cX7_readFigures 46 = .ok (.aload_n 0, 1) := by decide +kernel
theorem dX7_readFigures_47 : decode cX7_readFigures 47 = .ok (.getfield 22, 3) := by decide +kernel
theorem dX7_readFigures_50 : decode cX7_readFigures 50 = .ok (.aload_n 0, 1) := by decide +kernel
theorem dX7_readFigures_51 : decode cX7_readFigures 51 = .ok (.getfield 35, 3) := by decide +kernel
theorem dX7_readFigures_54 : decode cX7_readFigures 54 = .ok (.baload, 1) := by decide +kernel
theorem dX7_readFigures_55 : decode cX7_readFigures 55 = .ok (.iadd, 1) := by decide +kernel
theorem dX7_readFigures_56 : decode cX7_readFigures 56 = .ok (.bipush 48, 2) := by decide +kernel
theorem dX7_readFigures_58 : decode cX7_readFigures 58 = .ok (.isub, 1) := by decide +kernel
theorem dX7_readFigures_59 : decode cX7_readFigures 59 = .ok (.invokestatic 66, 3) := by decide +kernel
theorem dX7_readFigures_62 : decode cX7_readFigures 62 = .ok (.putfield 44, 3) := by decide +kernel
theorem dX7_readFigures_65 : decode cX7_readFigures 65 = .ok (.aload_n 0, 1) := by decide +kernel
theorem dX7_readFigures_66 : decode cX7_readFigures 66 = .ok (.dup, 1) := by decide +kernel
theorem dX7_readFigures_67 : decode cX7_readFigures 67 = .ok (.getfield 35, 3) := by decide +kernel
theorem dX7_readFigures_70 : decode cX7_readFigures 70 = .ok (.iconst 1, 1) := by decide +kernel
theorem dX7_readFigures_71 : decode cX7_readFigures 71 = .ok (.iadd, 1) := by decide +kernel
theorem dX7_readFigures_72 : decode cX7_readFigures 72 = .ok (.putfield 35, 3) := by decide +kernel
theorem dX7_readFigures_75 : decode cX7_readFigures 75 = .ok (.goto (-65), 3) := by decide +kernel
theorem dX7_readFigures_78 : decode cX7_readFigures 78 = .ok (.return_, 1) := by decide +kernel
def bX7_readFigures_10 (Y : XS) (n : Nat) (v0 : Nat) (s10 : PS) : Option (PS ⊕ PS) :=
  kgi s10 v0 6 (fun x11 => kgi s10 v0 5 (fun x15 => (if x15 ≤ x11 then some (.inr s10) else kgr s10 v0 2 (fun b22 => kgi s10 v0 6 (fun x26 => kai Y s10 b22 x26 (fun x29 => kc (fX7_isFigure Y n s10 x29) (fun q30 => (if q30 = 0 then some (.inr s10) else kgi s10 v0 9 (fun x40 => kgr s10 v0 2 (fun b47 => kgi s10 v0 6 (fun x51 => kai Y s10 b47 x51 (fun x54 => kpi s10 v0 9 (imin (1000000 : Int32) (((x40 * (10 : Int32)) + x54) - (48 : Int32))) (fun S62 => kgi S62 v0 6 (fun x67 => kpi S62 v0 6 (x67 + (1 : Int32)) (fun S72 => some (.inl S72))))))))))))))))
def jX7_readFigures_78 (Y : XS) (n : Nat) (S : PS)  : Option (PS) :=
  some S
def fX7_readFigures (Y : XS) (n : Nat) (S : PS) (a0 : Nat) : Option (PS) :=
  kpi S a0 7 (2 : Int32) (fun S2 => kpi S2 a0 9 (0 : Int32) (fun S7 => kc (iter (bX7_readFigures_10 Y n a0) n S7) (fun r10 => jX7_readFigures_78 Y n r10 )))
theorem wbX7_readFigures_10 {C : CT} {X : XT} (hC : CK C RX7 cX7_readFigures 1 none 2) (n : Nat) (v0 : Nat) (hTv0 : Ty X.2.1 v0 7) (s10 : PS) {o : PS ⊕ PS} (hf : bX7_readFigures_10 X.2.1 n v0 s10 = some o) (hN : ∀ s', o = .inl s' → UW C X s' 10 [(0, .ref (X.1 v0))] []) (hO0 : ∀ p', o = .inr p' → UW C X p' 78 [] []) : UW C X s10 10 [(0, .ref (X.1 v0))] [] := by
  unfold bX7_readFigures_10 at hf
  refine u_aload_n hC dX7_readFigures_10 0 rfl rfl ?_
  refine u_gi hC lf_X7_35 rfl hTv0 dX7_readFigures_11 hf (fun x11 hf => ?_)
  refine u_aload_n hC dX7_readFigures_14 0 rfl rfl ?_
  refine u_gi hC lf_X7_32 rfl hTv0 dX7_readFigures_15 hf (fun x15 hf => ?_)
  refine u_icmp_ge (tgt := 78) hC dX7_readFigures_18 (by decide) hf (fun h18 hf => ?_) (fun h18 hf => ?_)
  · refine u_sub (lv' := []) [] rfl ?_
    exact hO0 _ (Option.some.inj hf).symm
  · refine u_aload_n hC dX7_readFigures_21 0 rfl rfl ?_
    refine u_gr hC lf_X7_22 rfl hTv0 dX7_readFigures_22 hf (fun b22 hTb22 hf => ?_)
    refine u_aload_n hC dX7_readFigures_25 0 rfl rfl ?_
    refine u_gi hC lf_X7_35 rfl hTv0 dX7_readFigures_26 hf (fun x26 hf => ?_)
    refine u_ab hC hTb22 dX7_readFigures_29 hf (fun x29 hf => ?_)
    obtain ⟨q30, hq30, hf⟩ := kc_some hf
    refine u_callS hC (ctX7_isFigure (cL C) hC.tr (cG C) X.1 X.2.1 n s10 x29  hq30) lk_X7_211 (by decide) (by decide) rfl rfl (Nat.le_of_ble_eq_true rfl) dX7_readFigures_30 ?_
    refine u_if_eq (tgt := 78) hC dX7_readFigures_33 (by decide) hf (fun h33 hf => ?_) (fun h33 hf => ?_)
    · refine u_sub (lv' := []) [] rfl ?_
      exact hO0 _ (Option.some.inj hf).symm
    · refine u_aload_n hC dX7_readFigures_36 0 rfl rfl ?_
      refine u_ldc (v := (1000000 : Int32)) hC dX7_readFigures_37 (tb_3 119 rfl rfl) ?_
      refine u_aload_n hC dX7_readFigures_39 0 rfl rfl ?_
      refine u_gi hC lf_X7_44 rfl hTv0 dX7_readFigures_40 hf (fun x40 hf => ?_)
      refine u_bipush (v := (10 : Int32)) hC dX7_readFigures_43 (by decide) ?_
      refine u_imul hC dX7_readFigures_45 ?_
      refine u_aload_n hC dX7_readFigures_46 0 rfl rfl ?_
      refine u_gr hC lf_X7_22 rfl hTv0 dX7_readFigures_47 hf (fun b47 hTb47 hf => ?_)
      refine u_aload_n hC dX7_readFigures_50 0 rfl rfl ?_
      refine u_gi hC lf_X7_35 rfl hTv0 dX7_readFigures_51 hf (fun x51 hf => ?_)
      refine u_ab hC hTb47 dX7_readFigures_54 hf (fun x54 hf => ?_)
      refine u_iadd hC dX7_readFigures_55 ?_
      refine u_bipush (v := (48 : Int32)) hC dX7_readFigures_56 (by decide) ?_
      refine u_isub hC dX7_readFigures_58 ?_
      refine u_mmin hC (tb_3 97 rfl rfl) (by decide) (Nat.le_of_ble_eq_true rfl) dX7_readFigures_59 ?_
      refine u_pi hC lf_X7_44 rfl rfl rfl hTv0 dX7_readFigures_62 hf (fun S62 hf => ?_)
      refine u_aload_n hC dX7_readFigures_65 0 rfl rfl ?_
      refine u_dup hC dX7_readFigures_66 rfl ?_
      refine u_gi hC lf_X7_35 rfl hTv0 dX7_readFigures_67 hf (fun x67 hf => ?_)
      refine u_iconst (v := (1 : Int32)) hC dX7_readFigures_70 (by decide) ?_
      refine u_iadd hC dX7_readFigures_71 ?_
      refine u_pi hC lf_X7_35 rfl rfl rfl hTv0 dX7_readFigures_72 hf (fun S72 hf => ?_)
      refine u_goto (tgt := 10) hC dX7_readFigures_75 (by decide) ?_
      exact hN _ (Option.some.inj hf).symm
theorem wjX7_readFigures_78 {C : CT} {X : XT} (hC : CK C RX7 cX7_readFigures 1 none 2) (n : Nat) (S : PS)    {o : PS} (hf : jX7_readFigures_78 X.2.1 n S  = some o) (hR : Rt C X cX7_readFigures none none o) : UW C X S 78 [] [] := by
  unfold jX7_readFigures_78 at hf
  cases hf
  exact hR _ _ dX7_readFigures_78 trivial
theorem wX7_readFigures {C : CT} {X : XT} (hC : CK C RX7 cX7_readFigures 1 none 2) (n : Nat) (S : PS) (a0 : Nat) (hTa0 : Ty X.2.1 a0 7) {o : PS} (hf : fX7_readFigures X.2.1 n S a0 = some o) (hR : Rt C X cX7_readFigures none none o) : UW C X S 0 [(0, .ref (X.1 a0))] [] := by
  unfold fX7_readFigures at hf
  refine u_aload_n hC dX7_readFigures_0 0 rfl rfl ?_
  refine u_iconst (v := (2 : Int32)) hC dX7_readFigures_1 (by decide) ?_
  refine u_pi hC lf_X7_38 rfl rfl rfl hTa0 dX7_readFigures_2 hf (fun S2 hf => ?_)
  refine u_aload_n hC dX7_readFigures_5 0 rfl rfl ?_
  refine u_iconst (v := (0 : Int32)) hC dX7_readFigures_6 (by decide) ?_
  refine u_pi hC lf_X7_44 rfl rfl rfl hTa0 dX7_readFigures_7 hf (fun S7 hf => ?_)
  obtain ⟨r10, hr10, hf⟩ := kc_some hf
  have hk10 : UW C X r10 78 [] [] := by
    exact wjX7_readFigures_78 hC n r10    hf hR
  refine iter_ind (P := fun s10 => UW C X s10 10 [(0, .ref (X.1 a0))] []) (fun s10 o' hb hin hout => ?_) n S7 hr10
  exact wbX7_readFigures_10 hC n a0 hTa0 s10 hb hin (fun p e => by rw [hout p e]; exact hk10)
theorem ctX7_readFigures (l : Launch) (hl : l.stackTraces = false) (G : GT) (ρ : Nat → Nat) (Y : XS) (n : Nat) (S : PS) (a0 : Nat) (hTa0 : Ty Y a0 7) {o : PS} (hf : fX7_readFigures Y n S a0 = some o) : Mt l G yX7_readFigures cX7_readFigures 1 none 2 ρ Y [.ref (ρ a0)] S none o :=
  Mt_of hl (by decide) (Nat.le_of_ble_eq_true rfl) (fun C _ _ hC hR => wX7_readFigures (X := (ρ, Y, 0, 0)) hC n S a0 hTa0 hf hR)
-- X7_next
theorem dX7_next_0 : decode cX7_next 0 = .ok (.aload_n 0, 1) := by decide +kernel
theorem dX7_next_1 : decode cX7_next 1 = .ok (.getfield 35, 3) := by decide +kernel
theorem dX7_next_4 : decode cX7_next 4 = .ok (.aload_n 0, 1) := by decide +kernel
theorem dX7_next_5 : decode cX7_next 5 = .ok (.getfield 32, 3) := by decide +kernel
theorem dX7_next_8 : decode cX7_next 8 = .ok (.if_icmp .ge 31, 3) := by decide +kernel
theorem dX7_next_11 : decode cX7_next 11 = .ok (.aload_n 0, 1) := by decide +kernel
theorem dX7_next_12 : decode cX7_next 12 = .ok (.getfield 22, 3) := by decide +kernel
theorem dX7_next_15 : decode cX7_next 15 = .ok (.aload_n 0, 1) := by decide +kernel
theorem dX7_next_16 : decode cX7_next 16 = .ok (.getfield 35, 3) := by decide +kernel
theorem dX7_next_19 : decode cX7_next 19 = .ok (.baload, 1) := by decide +kernel
theorem dX7_next_20 : decode cX7_next 20 = .ok (.invokestatic 202, 3) := by decide +kernel
theorem dX7_next_23 : decode cX7_next 23 = .ok (.ifCond .eq 16, 3) := by decide +kernel
theorem dX7_next_26 : decode cX7_next 26 = .ok (.aload_n 0, 1) := by decide +kernel
theorem dX7_next_27 : decode cX7_next 27 = .ok (.dup, 1) := by decide +kernel
theorem dX7_next_28 : decode cX7_next 28 = .ok (.getfield 35, 3) := by decide +kernel
theorem dX7_next_31 : decode cX7_next 31 = .ok (.iconst 1, 1) := by decide +kernel
theorem dX7_next_32 : decode cX7_next 32 = .ok (.iadd, 1) := by decide +kernel
theorem dX7_next_33 : decode cX7_next 33 = .ok (.putfield 35, 3) := by decide +kernel
theorem dX7_next_36 : decode cX7_next 36 = .ok (.goto (-36), 3) := by decide +kernel
theorem dX7_next_39 : decode cX7_next 39 = .ok (.aload_n 0, 1) := by decide +kernel
theorem dX7_next_40 : decode cX7_next 40 = .ok (.aload_n 0, 1) := by decide +kernel
theorem dX7_next_41 : decode cX7_next 41 = .ok (.getfield 35, 3) := by decide +kernel
theorem dX7_next_44 : decode cX7_next 44 = .ok (.putfield 41, 3) := by decide +kernel
theorem dX7_next_47 : decode cX7_next 47 = .ok (.aload_n 0, 1) := by decide +kernel
theorem dX7_next_48 : decode cX7_next 48 = .ok (.getfield 35, 3) := by decide +kernel
theorem dX7_next_51 : decode cX7_next 51 = .ok (.aload_n 0, 1) := by decide +kernel
theorem dX7_next_52 : decode cX7_next 52 = .ok (.getfield 32, 3) := by decide +kernel
theorem dX7_next_55 : decode cX7_next 55 = .ok (.if_icmp .lt 11, 3) := by decide +kernel
theorem dX7_next_58 : decode cX7_next 58 = .ok (.aload_n 0, 1) := by decide +kernel
theorem dX7_next_59 : decode cX7_next 59 = .ok (.iconst 0, 1) := by decide +kernel
theorem dX7_next_60 : decode cX7_next 60 = .ok (.putfield 38, 3) := by decide +kernel
theorem dX7_next_63 : decode cX7_next 63 = .ok (.goto 75, 3) := by decide +kernel
theorem dX7_next_66 : decode cX7_next 66 = .ok (.aload_n 0, 1) := by decide +kernel
theorem dX7_next_67 : decode cX7_next 67 = .ok (.getfield 22, 3) := by decide +kernel
theorem dX7_next_70 : decode cX7_next 70 = .ok (.aload_n 0, 1) := by decide +kernel
theorem dX7_next_71 : decode cX7_next 71 = .ok (.getfield 35, 3) := by decide +kernel
theorem dX7_next_74 : decode cX7_next 74 = .ok (.baload, 1) := by decide +kernel
theorem dX7_next_75 : decode cX7_next 75 = .ok (.invokestatic 205, 3) := by decide +kernel
theorem dX7_next_78 : decode cX7_next 78 = .ok (.ifCond .eq 10, 3) := by decide +kernel
theorem dX7_next_81 : decode cX7_next 81 = .ok (.aload_n 0, 1) := by decide +kernel
theorem dX7_next_82 : decode cX7_next 82 = .ok (.invokevirtual 208, 3) := by decide +kernel
theorem dX7_next_85 : decode cX7_next 85 = .ok (.goto 53, 3) := by decide +kernel
theorem dX7_next_88 : decode cX7_next 88 = .ok (.aload_n 0, 1) := by decide +kernel
theorem dX7_next_89 : decode cX7_next 89 = .ok (.getfield 22, 3) := by decide +kernel
theorem dX7_next_92 : decode cX7_next 92 = .ok (.aload_n 0, 1) := by decide +kernel
theorem dX7_next_93 : decode cX7_next 93 = .ok (.getfield 35, 3) := by decide +kernel
theorem dX7_next_96 : decode cX7_next 96 = .ok (.baload, 1) := by decide +kernel
theorem dX7_next_97 : decode cX7_next 97 = .ok (.invokestatic 211, 3) := by decide +kernel
theorem dX7_next_100 : decode cX7_next 100 = .ok (.ifCond .eq 10, 3) := by decide +kernel
theorem dX7_next_103 : decode cX7_next 103 = .ok (.aload_n 0, 1) := by decide +kernel
theorem dX7_next_104 : decode cX7_next 104 = .ok (.invokevirtual 214, 3) := by decide +kernel
theorem dX7_next_107 : decode cX7_next 107 = .ok (.goto 31, 3) := by decide +kernel
theorem dX7_next_110 : decode cX7_next 110 = .ok (.aload_n 0, 1) := by decide +kernel
theorem dX7_next_111 : decode cX7_next 111 = .ok (.iconst 3, 1) := by decide +kernel
theorem dX7_next_112 : decode cX7_next 112 = .ok (.putfield 38, 3) := by decide +kernel
theorem dX7_next_115 : decode cX7_next 115 = .ok (.aload_n 0, 1) := by decide +kernel
theorem dX7_next_116 : decode cX7_next 116 = .ok (.aload_n 0, 1) := by decide +kernel
theorem dX7_next_117 : decode cX7_next 117 = .ok (.getfield 22, 3) := by decide +kernel
theorem dX7_next_120 : decode cX7_next 120 = .ok (.aload_n 0, 1) := by decide +kernel
theorem dX7_next_121 : decode cX7_next 121 = .ok (.getfield 35, 3) := by decide +kernel
theorem dX7_next_124 : decode cX7_next 124 = .ok (.baload, 1) := by decide +kernel
theorem dX7_next_125 : decode cX7_next 125 = .ok (.putfield 44, 3) := by decide +kernel
theorem dX7_next_128 : decode cX7_next 128 = .ok (.aload_n 0, 1) := by decide +kernel
theorem dX7_next_129 : decode cX7_next 129 = .ok (.dup, 1) := by decide +kernel
theorem dX7_next_130 : decode cX7_next 130 = .ok (.getfield 35, 3) := by decide +kernel
theorem dX7_next_133 : decode cX7_next 133 = .ok (.iconst 1, 1) := by decide +kernel
theorem dX7_next_134 : decode cX7_next 134 = .ok (.iadd, 1) := by decide +kernel
theorem dX7_next_135 : decode cX7_next 135 = .ok (.putfield 35, 3) := by decide +kernel
theorem dX7_next_138 : decode cX7_next 138 = .ok (.return_, 1) := by decide +kernel
def bX7_next_0 (Y : XS) (n : Nat) (v0 : Nat) (s0 : PS) : Option (PS ⊕ PS) :=
  kgi s0 v0 6 (fun x1 => kgi s0 v0 5 (fun x5 => (if x5 ≤ x1 then some (.inr s0) else kgr s0 v0 2 (fun b12 => kgi s0 v0 6 (fun x16 => kai Y s0 b12 x16 (fun x19 => kc (fX7_isBlank Y n s0 x19) (fun q20 => (if q20 = 0 then some (.inr s0) else kgi s0 v0 6 (fun x28 => kpi s0 v0 6 (x28 + (1 : Int32)) (fun S33 => some (.inl S33)))))))))))
def jX7_next_138 (Y : XS) (n : Nat) (S : PS)  : Option (PS) :=
  some S
def jX7_next_39 (Y : XS) (n : Nat) (S : PS) (v0 : Nat) : Option (PS) :=
  kgi S v0 6 (fun x41 => kpi S v0 8 x41 (fun S44 => kgi S44 v0 6 (fun x48 => kgi S44 v0 5 (fun x52 => (if x48 < x52 then kgr S44 v0 2 (fun b67 => kgi S44 v0 6 (fun x71 => kai Y S44 b67 x71 (fun x74 => kc (fX7_isLetter Y n S44 x74) (fun q75 => (if q75 = 0 then kgr S44 v0 2 (fun b89 => kgi S44 v0 6 (fun x93 => kai Y S44 b89 x93 (fun x96 => kc (fX7_isFigure Y n S44 x96) (fun q97 => (if q97 = 0 then kpi S44 v0 7 (3 : Int32) (fun S112 => kgr S112 v0 2 (fun b117 => kgi S112 v0 6 (fun x121 => kai Y S112 b117 x121 (fun x124 => kpi S112 v0 9 x124 (fun S125 => kgi S125 v0 6 (fun x130 => kpi S125 v0 6 (x130 + (1 : Int32)) (fun S135 => jX7_next_138 Y n S135 ))))))) else kc (fX7_readFigures Y n S44 v0) (fun q104 => jX7_next_138 Y n q104 )))))) else kc (fX7_readWord Y n S44 v0) (fun q82 => jX7_next_138 Y n q82 )))))) else kpi S44 v0 7 (0 : Int32) (fun S60 => jX7_next_138 Y n S60 ))))))
def fX7_next (Y : XS) (n : Nat) (S : PS) (a0 : Nat) : Option (PS) :=
  kc (iter (bX7_next_0 Y n a0) n S) (fun r0 => jX7_next_39 Y n r0 a0)
theorem wbX7_next_0 {C : CT} {X : XT} (hC : CK C RX7 cX7_next 1 none 3) (n : Nat) (v0 : Nat) (hTv0 : Ty X.2.1 v0 7) (s0 : PS) {o : PS ⊕ PS} (hf : bX7_next_0 X.2.1 n v0 s0 = some o) (hN : ∀ s', o = .inl s' → UW C X s' 0 [(0, .ref (X.1 v0))] []) (hO0 : ∀ p', o = .inr p' → UW C X p' 39 [(0, .ref (X.1 v0))] []) : UW C X s0 0 [(0, .ref (X.1 v0))] [] := by
  unfold bX7_next_0 at hf
  refine u_aload_n hC dX7_next_0 0 rfl rfl ?_
  refine u_gi hC lf_X7_35 rfl hTv0 dX7_next_1 hf (fun x1 hf => ?_)
  refine u_aload_n hC dX7_next_4 0 rfl rfl ?_
  refine u_gi hC lf_X7_32 rfl hTv0 dX7_next_5 hf (fun x5 hf => ?_)
  refine u_icmp_ge (tgt := 39) hC dX7_next_8 (by decide) hf (fun h8 hf => ?_) (fun h8 hf => ?_)
  · exact hO0 _ (Option.some.inj hf).symm
  · refine u_aload_n hC dX7_next_11 0 rfl rfl ?_
    refine u_gr hC lf_X7_22 rfl hTv0 dX7_next_12 hf (fun b12 hTb12 hf => ?_)
    refine u_aload_n hC dX7_next_15 0 rfl rfl ?_
    refine u_gi hC lf_X7_35 rfl hTv0 dX7_next_16 hf (fun x16 hf => ?_)
    refine u_ab hC hTb12 dX7_next_19 hf (fun x19 hf => ?_)
    obtain ⟨q20, hq20, hf⟩ := kc_some hf
    refine u_callS hC (ctX7_isBlank (cL C) hC.tr (cG C) X.1 X.2.1 n s0 x19  hq20) lk_X7_202 (by decide) (by decide) rfl rfl (Nat.le_of_ble_eq_true rfl) dX7_next_20 ?_
    refine u_if_eq (tgt := 39) hC dX7_next_23 (by decide) hf (fun h23 hf => ?_) (fun h23 hf => ?_)
    · exact hO0 _ (Option.some.inj hf).symm
    · refine u_aload_n hC dX7_next_26 0 rfl rfl ?_
      refine u_dup hC dX7_next_27 rfl ?_
      refine u_gi hC lf_X7_35 rfl hTv0 dX7_next_28 hf (fun x28 hf => ?_)
      refine u_iconst (v := (1 : Int32)) hC dX7_next_31 (by decide) ?_
      refine u_iadd hC dX7_next_32 ?_
      refine u_pi hC lf_X7_35 rfl rfl rfl hTv0 dX7_next_33 hf (fun S33 hf => ?_)
      refine u_goto (tgt := 0) hC dX7_next_36 (by decide) ?_
      exact hN _ (Option.some.inj hf).symm
theorem wjX7_next_138 {C : CT} {X : XT} (hC : CK C RX7 cX7_next 1 none 3) (n : Nat) (S : PS)    {o : PS} (hf : jX7_next_138 X.2.1 n S  = some o) (hR : Rt C X cX7_next none none o) : UW C X S 138 [] [] := by
  unfold jX7_next_138 at hf
  cases hf
  exact hR _ _ dX7_next_138 trivial
theorem wjX7_next_39 {C : CT} {X : XT} (hC : CK C RX7 cX7_next 1 none 3) (n : Nat) (S : PS) (v0 : Nat)  (hTv0 : Ty X.2.1 v0 7) {o : PS} (hf : jX7_next_39 X.2.1 n S v0 = some o) (hR : Rt C X cX7_next none none o) : UW C X S 39 [(0, .ref (X.1 v0))] [] := by
  unfold jX7_next_39 at hf
  refine u_aload_n hC dX7_next_39 0 rfl rfl ?_
  refine u_aload_n hC dX7_next_40 0 rfl rfl ?_
  refine u_gi hC lf_X7_35 rfl hTv0 dX7_next_41 hf (fun x41 hf => ?_)
  refine u_pi hC lf_X7_41 rfl rfl rfl hTv0 dX7_next_44 hf (fun S44 hf => ?_)
  refine u_aload_n hC dX7_next_47 0 rfl rfl ?_
  refine u_gi hC lf_X7_35 rfl hTv0 dX7_next_48 hf (fun x48 hf => ?_)
  refine u_aload_n hC dX7_next_51 0 rfl rfl ?_
  refine u_gi hC lf_X7_32 rfl hTv0 dX7_next_52 hf (fun x52 hf => ?_)
  refine u_icmp_lt (tgt := 66) hC dX7_next_55 (by decide) hf (fun h55 hf => ?_) (fun h55 hf => ?_)
  · refine u_aload_n hC dX7_next_66 0 rfl rfl ?_
    refine u_gr hC lf_X7_22 rfl hTv0 dX7_next_67 hf (fun b67 hTb67 hf => ?_)
    refine u_aload_n hC dX7_next_70 0 rfl rfl ?_
    refine u_gi hC lf_X7_35 rfl hTv0 dX7_next_71 hf (fun x71 hf => ?_)
    refine u_ab hC hTb67 dX7_next_74 hf (fun x74 hf => ?_)
    obtain ⟨q75, hq75, hf⟩ := kc_some hf
    refine u_callS hC (ctX7_isLetter (cL C) hC.tr (cG C) X.1 X.2.1 n S44 x74  hq75) lk_X7_205 (by decide) (by decide) rfl rfl (Nat.le_of_ble_eq_true rfl) dX7_next_75 ?_
    refine u_if_eq (tgt := 88) hC dX7_next_78 (by decide) hf (fun h78 hf => ?_) (fun h78 hf => ?_)
    · refine u_aload_n hC dX7_next_88 0 rfl rfl ?_
      refine u_gr hC lf_X7_22 rfl hTv0 dX7_next_89 hf (fun b89 hTb89 hf => ?_)
      refine u_aload_n hC dX7_next_92 0 rfl rfl ?_
      refine u_gi hC lf_X7_35 rfl hTv0 dX7_next_93 hf (fun x93 hf => ?_)
      refine u_ab hC hTb89 dX7_next_96 hf (fun x96 hf => ?_)
      obtain ⟨q97, hq97, hf⟩ := kc_some hf
      refine u_callS hC (ctX7_isFigure (cL C) hC.tr (cG C) X.1 X.2.1 n S44 x96  hq97) lk_X7_211 (by decide) (by decide) rfl rfl (Nat.le_of_ble_eq_true rfl) dX7_next_97 ?_
      refine u_if_eq (tgt := 110) hC dX7_next_100 (by decide) hf (fun h100 hf => ?_) (fun h100 hf => ?_)
      · refine u_aload_n hC dX7_next_110 0 rfl rfl ?_
        refine u_iconst (v := (3 : Int32)) hC dX7_next_111 (by decide) ?_
        refine u_pi hC lf_X7_38 rfl rfl rfl hTv0 dX7_next_112 hf (fun S112 hf => ?_)
        refine u_aload_n hC dX7_next_115 0 rfl rfl ?_
        refine u_aload_n hC dX7_next_116 0 rfl rfl ?_
        refine u_gr hC lf_X7_22 rfl hTv0 dX7_next_117 hf (fun b117 hTb117 hf => ?_)
        refine u_aload_n hC dX7_next_120 0 rfl rfl ?_
        refine u_gi hC lf_X7_35 rfl hTv0 dX7_next_121 hf (fun x121 hf => ?_)
        refine u_ab hC hTb117 dX7_next_124 hf (fun x124 hf => ?_)
        refine u_pi hC lf_X7_44 rfl rfl rfl hTv0 dX7_next_125 hf (fun S125 hf => ?_)
        refine u_aload_n hC dX7_next_128 0 rfl rfl ?_
        refine u_dup hC dX7_next_129 rfl ?_
        refine u_gi hC lf_X7_35 rfl hTv0 dX7_next_130 hf (fun x130 hf => ?_)
        refine u_iconst (v := (1 : Int32)) hC dX7_next_133 (by decide) ?_
        refine u_iadd hC dX7_next_134 ?_
        refine u_pi hC lf_X7_35 rfl rfl rfl hTv0 dX7_next_135 hf (fun S135 hf => ?_)
        refine u_sub (lv' := []) [] rfl ?_
        exact wjX7_next_138 hC n S135    hf hR
      · refine u_aload_n hC dX7_next_103 0 rfl rfl ?_
        obtain ⟨q104, hq104, hf⟩ := kc_some hf
        refine u_callV hC (ctX7_readFigures (cL C) hC.tr (cG C) X.1 X.2.1 n S44 v0 hTv0 hq104) lk_X7_214 rfl hTv0 (by decide) rfl (by decide) (by decide) rfl rfl (Nat.le_of_ble_eq_true rfl) dX7_next_104 ?_
        refine u_goto (tgt := 138) hC dX7_next_107 (by decide) ?_
        refine u_sub (lv' := []) [] rfl ?_
        exact wjX7_next_138 hC n q104    hf hR
    · refine u_aload_n hC dX7_next_81 0 rfl rfl ?_
      obtain ⟨q82, hq82, hf⟩ := kc_some hf
      refine u_callV hC (ctX7_readWord (cL C) hC.tr (cG C) X.1 X.2.1 n S44 v0 hTv0 hq82) lk_X7_208 rfl hTv0 (by decide) rfl (by decide) (by decide) rfl rfl (Nat.le_of_ble_eq_true rfl) dX7_next_82 ?_
      refine u_goto (tgt := 138) hC dX7_next_85 (by decide) ?_
      refine u_sub (lv' := []) [] rfl ?_
      exact wjX7_next_138 hC n q82    hf hR
  · refine u_aload_n hC dX7_next_58 0 rfl rfl ?_
    refine u_iconst (v := (0 : Int32)) hC dX7_next_59 (by decide) ?_
    refine u_pi hC lf_X7_38 rfl rfl rfl hTv0 dX7_next_60 hf (fun S60 hf => ?_)
    refine u_goto (tgt := 138) hC dX7_next_63 (by decide) ?_
    refine u_sub (lv' := []) [] rfl ?_
    exact wjX7_next_138 hC n S60    hf hR
theorem wX7_next {C : CT} {X : XT} (hC : CK C RX7 cX7_next 1 none 3) (n : Nat) (S : PS) (a0 : Nat) (hTa0 : Ty X.2.1 a0 7) {o : PS} (hf : fX7_next X.2.1 n S a0 = some o) (hR : Rt C X cX7_next none none o) : UW C X S 0 [(0, .ref (X.1 a0))] [] := by
  unfold fX7_next at hf
  obtain ⟨r0, hr0, hf⟩ := kc_some hf
  have hk0 : UW C X r0 39 [(0, .ref (X.1 a0))] [] := by
    exact wjX7_next_39 hC n r0 a0  hTa0 hf hR
  refine iter_ind (P := fun s0 => UW C X s0 0 [(0, .ref (X.1 a0))] []) (fun s0 o' hb hin hout => ?_) n S hr0
  exact wbX7_next_0 hC n a0 hTa0 s0 hb hin (fun p e => by rw [hout p e]; exact hk0)
theorem ctX7_next (l : Launch) (hl : l.stackTraces = false) (G : GT) (ρ : Nat → Nat) (Y : XS) (n : Nat) (S : PS) (a0 : Nat) (hTa0 : Ty Y a0 7) {o : PS} (hf : fX7_next Y n S a0 = some o) : Mt l G yX7_next cX7_next 1 none 3 ρ Y [.ref (ρ a0)] S none o :=
  Mt_of hl (by decide) (Nat.le_of_ble_eq_true rfl) (fun C _ _ hC hR => wX7_next (X := (ρ, Y, 0, 0)) hC n S a0 hTa0 hf hR)
-- X7_isSign
theorem dX7_isSign_0 : decode cX7_isSign 0 = .ok (.aload_n 0, 1) := by decide +kernel
theorem dX7_isSign_1 : decode cX7_isSign 1 = .ok (.getfield 38, 3) := by decide +kernel
theorem dX7_isSign_4 : decode cX7_isSign 4 = .ok (.iconst 3, 1) := by decide +kernel
theorem dX7_isSign_5 : decode cX7_isSign 5 = .ok (.if_icmp .ne 15, 3) := by decide +kernel
theorem dX7_isSign_8 : decode cX7_isSign 8 = .ok (.aload_n 0, 1) := by decide +kernel
theorem dX7_isSign_9 : decode cX7_isSign 9 = .ok (.getfield 44, 3) := by decide +kernel
theorem dX7_isSign_12 : decode cX7_isSign 12 = .ok (.iload_n 1, 1) := by decide +kernel
theorem dX7_isSign_13 : decode cX7_isSign 13 = .ok (.if_icmp .ne 7, 3) := by decide +kernel
theorem dX7_isSign_16 : decode cX7_isSign 16 = .ok (.iconst 1, 1) := by decide +kernel
theorem dX7_isSign_17 : decode cX7_isSign 17 = .ok (.goto 4, 3) := by decide +kernel
theorem dX7_isSign_20 : decode cX7_isSign 20 = .ok (.iconst 0, 1) := by decide +kernel
theorem dX7_isSign_21 : decode cX7_isSign 21 = .ok (.ireturn, 1) := by decide +kernel
def jX7_isSign_21 (Y : XS) (n : Nat) (S : PS) (t0 : Int32) : Option (Int32) :=
  kzr t0 (some t0)
def jX7_isSign_20 (Y : XS) (n : Nat) (S : PS)  : Option (Int32) :=
  jX7_isSign_21 Y n S (0 : Int32)
def fX7_isSign (Y : XS) (n : Nat) (S : PS) (a0 : Nat) (x1_ : Int32) : Option (Int32) :=
  kgi S a0 7 (fun x1 => (if x1 = (3 : Int32) then kgi S a0 9 (fun x9 => (if x9 = x1_ then jX7_isSign_21 Y n S (1 : Int32) else jX7_isSign_20 Y n S )) else jX7_isSign_20 Y n S ))
theorem wjX7_isSign_21 {C : CT} {X : XT} (hC : CK C RX7 cX7_isSign 2 (some .boolean) 1) (n : Nat) (S : PS) (t0 : Int32)   {o : Int32} (hf : jX7_isSign_21 X.2.1 n S t0 = some o) (hR : Rt C X cX7_isSign (some .boolean) (some (.int o)) S) : UW C X S 21 [] [.int t0] := by
  unfold jX7_isSign_21 at hf
  obtain ⟨hz, hf⟩ := kzr_some hf
  cases hf
  exact hR _ _ dX7_isSign_21 hz
theorem wjX7_isSign_20 {C : CT} {X : XT} (hC : CK C RX7 cX7_isSign 2 (some .boolean) 1) (n : Nat) (S : PS)    {o : Int32} (hf : jX7_isSign_20 X.2.1 n S  = some o) (hR : Rt C X cX7_isSign (some .boolean) (some (.int o)) S) : UW C X S 20 [] [] := by
  unfold jX7_isSign_20 at hf
  refine u_iconst (v := (0 : Int32)) hC dX7_isSign_20 (by decide) ?_
  exact wjX7_isSign_21 hC n S (0 : Int32)   hf hR
theorem wX7_isSign {C : CT} {X : XT} (hC : CK C RX7 cX7_isSign 2 (some .boolean) 1) (n : Nat) (S : PS) (a0 : Nat) (x1_ : Int32) (hTa0 : Ty X.2.1 a0 7) {o : Int32} (hf : fX7_isSign X.2.1 n S a0 x1_ = some o) (hR : Rt C X cX7_isSign (some .boolean) (some (.int o)) S) : UW C X S 0 [(0, .ref (X.1 a0)), (1, .int x1_)] [] := by
  unfold fX7_isSign at hf
  refine u_aload_n hC dX7_isSign_0 0 rfl rfl ?_
  refine u_gi hC lf_X7_38 rfl hTa0 dX7_isSign_1 hf (fun x1 hf => ?_)
  refine u_iconst (v := (3 : Int32)) hC dX7_isSign_4 (by decide) ?_
  refine u_icmp_ne (tgt := 20) hC dX7_isSign_5 (by decide) hf (fun h5 hf => ?_) (fun h5 hf => ?_)
  · refine u_sub (lv' := []) [] rfl ?_
    exact wjX7_isSign_20 hC n S    hf hR
  · refine u_aload_n hC dX7_isSign_8 0 rfl rfl ?_
    refine u_gi hC lf_X7_44 rfl hTa0 dX7_isSign_9 hf (fun x9 hf => ?_)
    refine u_iload_n hC dX7_isSign_12 1 rfl rfl ?_
    refine u_icmp_ne (tgt := 20) hC dX7_isSign_13 (by decide) hf (fun h13 hf => ?_) (fun h13 hf => ?_)
    · refine u_sub (lv' := []) [] rfl ?_
      exact wjX7_isSign_20 hC n S    hf hR
    · refine u_iconst (v := (1 : Int32)) hC dX7_isSign_16 (by decide) ?_
      refine u_goto (tgt := 21) hC dX7_isSign_17 (by decide) ?_
      refine u_sub (lv' := []) [] rfl ?_
      exact wjX7_isSign_21 hC n S (1 : Int32)   hf hR
theorem ctX7_isSign (l : Launch) (hl : l.stackTraces = false) (G : GT) (ρ : Nat → Nat) (Y : XS) (n : Nat) (S : PS) (a0 : Nat) (x1_ : Int32) (hTa0 : Ty Y a0 7) {o : Int32} (hf : fX7_isSign Y n S a0 x1_ = some o) : Mt l G yX7_isSign cX7_isSign 2 (some .boolean) 1 ρ Y [.ref (ρ a0), .int x1_] S (some (.int o)) S :=
  Mt_of hl (by decide) (Nat.le_of_ble_eq_true rfl) (fun C _ _ hC hR => wX7_isSign (X := (ρ, Y, 0, 0)) hC n S a0 x1_ hTa0 hf hR)
-- X7_readLineEnd
theorem dX7_readLineEnd_0 : decode cX7_readLineEnd 0 = .ok (.aload_n 0, 1) := by decide +kernel
theorem dX7_readLineEnd_1 : decode cX7_readLineEnd 1 = .ok (.invokevirtual 72, 3) := by decide +kernel
theorem dX7_readLineEnd_4 : decode cX7_readLineEnd 4 = .ok (.aload_n 0, 1) := by decide +kernel
theorem dX7_readLineEnd_5 : decode cX7_readLineEnd 5 = .ok (.bipush 59, 2) := by decide +kernel
theorem dX7_readLineEnd_7 : decode cX7_readLineEnd 7 = .ok (.invokevirtual 110, 3) := by decide +kernel
theorem dX7_readLineEnd_10 : decode cX7_readLineEnd 10 = .ok (.ifCond .ne 11, 3) := by decide +kernel
theorem dX7_readLineEnd_13 : decode cX7_readLineEnd 13 = .ok (.aload_n 0, 1) := by decide +kernel
theorem dX7_readLineEnd_14 : decode cX7_readLineEnd 14 = .ok (.iconst 1, 1) := by decide +kernel
theorem dX7_readLineEnd_15 : decode cX7_readLineEnd 15 = .ok (.invokevirtual 106, 3) := by decide +kernel
theorem dX7_readLineEnd_18 : decode cX7_readLineEnd 18 = .ok (.ifCond .eq 7, 3) := by decide +kernel
theorem dX7_readLineEnd_21 : decode cX7_readLineEnd 21 = .ok (.iconst 1, 1) := by decide +kernel
theorem dX7_readLineEnd_22 : decode cX7_readLineEnd 22 = .ok (.goto 4, 3) := by decide +kernel
theorem dX7_readLineEnd_25 : decode cX7_readLineEnd 25 = .ok (.iconst 0, 1) := by decide +kernel
theorem dX7_readLineEnd_26 : decode cX7_readLineEnd 26 = .ok (.ireturn, 1) := by decide +kernel
def jX7_readLineEnd_26 (Y : XS) (n : Nat) (S : PS) (t0 : Int32) : Option (Int32 × PS) :=
  kzr t0 (some (t0, S))
def jX7_readLineEnd_21 (Y : XS) (n : Nat) (S : PS)  : Option (Int32 × PS) :=
  jX7_readLineEnd_26 Y n S (1 : Int32)
def fX7_readLineEnd (Y : XS) (n : Nat) (S : PS) (a0 : Nat) : Option (Int32 × PS) :=
  kc (fX7_next Y n S a0) (fun q1 => kc (fX7_isSign Y n q1 a0 (59 : Int32)) (fun q7 => (if q7 = 0 then kc (fX7_wrong Y n q1 a0 (1 : Int32)) (fun q15 => (if q15.1 = 0 then jX7_readLineEnd_26 Y n q15.2 (0 : Int32) else jX7_readLineEnd_21 Y n q15.2 )) else jX7_readLineEnd_21 Y n q1 )))
theorem wjX7_readLineEnd_26 {C : CT} {X : XT} (hC : CK C RX7 cX7_readLineEnd 1 (some .boolean) 4) (n : Nat) (S : PS) (t0 : Int32)   {o : Int32 × PS} (hf : jX7_readLineEnd_26 X.2.1 n S t0 = some o) (hR : Rt C X cX7_readLineEnd (some .boolean) (some (.int o.1)) o.2) : UW C X S 26 [] [.int t0] := by
  unfold jX7_readLineEnd_26 at hf
  obtain ⟨hz, hf⟩ := kzr_some hf
  cases hf
  exact hR _ _ dX7_readLineEnd_26 hz
theorem wjX7_readLineEnd_21 {C : CT} {X : XT} (hC : CK C RX7 cX7_readLineEnd 1 (some .boolean) 4) (n : Nat) (S : PS)    {o : Int32 × PS} (hf : jX7_readLineEnd_21 X.2.1 n S  = some o) (hR : Rt C X cX7_readLineEnd (some .boolean) (some (.int o.1)) o.2) : UW C X S 21 [] [] := by
  unfold jX7_readLineEnd_21 at hf
  refine u_iconst (v := (1 : Int32)) hC dX7_readLineEnd_21 (by decide) ?_
  refine u_goto (tgt := 26) hC dX7_readLineEnd_22 (by decide) ?_
  exact wjX7_readLineEnd_26 hC n S (1 : Int32)   hf hR
theorem wX7_readLineEnd {C : CT} {X : XT} (hC : CK C RX7 cX7_readLineEnd 1 (some .boolean) 4) (n : Nat) (S : PS) (a0 : Nat) (hTa0 : Ty X.2.1 a0 7) {o : Int32 × PS} (hf : fX7_readLineEnd X.2.1 n S a0 = some o) (hR : Rt C X cX7_readLineEnd (some .boolean) (some (.int o.1)) o.2) : UW C X S 0 [(0, .ref (X.1 a0))] [] := by
  unfold fX7_readLineEnd at hf
  refine u_aload_n hC dX7_readLineEnd_0 0 rfl rfl ?_
  obtain ⟨q1, hq1, hf⟩ := kc_some hf
  refine u_callV hC (ctX7_next (cL C) hC.tr (cG C) X.1 X.2.1 n S a0 hTa0 hq1) lk_X7_72 rfl hTa0 (by decide) rfl (by decide) (by decide) rfl rfl (Nat.le_of_ble_eq_true rfl) dX7_readLineEnd_1 ?_
  refine u_aload_n hC dX7_readLineEnd_4 0 rfl rfl ?_
  refine u_bipush (v := (59 : Int32)) hC dX7_readLineEnd_5 (by decide) ?_
  obtain ⟨q7, hq7, hf⟩ := kc_some hf
  refine u_callV hC (ctX7_isSign (cL C) hC.tr (cG C) X.1 X.2.1 n q1 a0 (59 : Int32) hTa0 hq7) lk_X7_110 rfl hTa0 (by decide) rfl (by decide) (by decide) rfl rfl (Nat.le_of_ble_eq_true rfl) dX7_readLineEnd_7 ?_
  refine u_if_ne (tgt := 21) hC dX7_readLineEnd_10 (by decide) hf (fun h10 hf => ?_) (fun h10 hf => ?_)
  · refine u_sub (lv' := []) [] rfl ?_
    exact wjX7_readLineEnd_21 hC n q1    hf hR
  · refine u_aload_n hC dX7_readLineEnd_13 0 rfl rfl ?_
    refine u_iconst (v := (1 : Int32)) hC dX7_readLineEnd_14 (by decide) ?_
    obtain ⟨q15, hq15, hf⟩ := kc_some hf
    refine u_callV hC (ctX7_wrong (cL C) hC.tr (cG C) X.1 X.2.1 n q1 a0 (1 : Int32) hTa0 hq15) lk_X7_106 rfl hTa0 (by decide) rfl (by decide) (by decide) rfl rfl (Nat.le_of_ble_eq_true rfl) dX7_readLineEnd_15 ?_
    refine u_if_eq (tgt := 25) hC dX7_readLineEnd_18 (by decide) hf (fun h18 hf => ?_) (fun h18 hf => ?_)
    · refine u_iconst (v := (0 : Int32)) hC dX7_readLineEnd_25 (by decide) ?_
      refine u_sub (lv' := []) [] rfl ?_
      exact wjX7_readLineEnd_26 hC n q15.2 (0 : Int32)   hf hR
    · refine u_sub (lv' := []) [] rfl ?_
      exact wjX7_readLineEnd_21 hC n q15.2    hf hR
theorem ctX7_readLineEnd (l : Launch) (hl : l.stackTraces = false) (G : GT) (ρ : Nat → Nat) (Y : XS) (n : Nat) (S : PS) (a0 : Nat) (hTa0 : Ty Y a0 7) {o : Int32 × PS} (hf : fX7_readLineEnd Y n S a0 = some o) : Mt l G yX7_readLineEnd cX7_readLineEnd 1 (some .boolean) 4 ρ Y [.ref (ρ a0)] S (some (.int o.1)) o.2 :=
  Mt_of hl (by decide) (Nat.le_of_ble_eq_true rfl) (fun C _ _ hC hR => wX7_readLineEnd (X := (ρ, Y, 0, 0)) hC n S a0 hTa0 hf hR)
-- X7_readNumber
theorem dX7_readNumber_0 : decode cX7_readNumber 0 = .ok (.aload_n 0, 1) := by decide +kernel
theorem dX7_readNumber_1 : decode cX7_readNumber 1 = .ok (.invokevirtual 72, 3) := by decide +kernel
theorem dX7_readNumber_4 : decode cX7_readNumber 4 = .ok (.aload_n 0, 1) := by decide +kernel
theorem dX7_readNumber_5 : decode cX7_readNumber 5 = .ok (.getfield 38, 3) := by decide +kernel
theorem dX7_readNumber_8 : decode cX7_readNumber 8 = .ok (.iconst 2, 1) := by decide +kernel
theorem dX7_readNumber_9 : decode cX7_readNumber 9 = .ok (.if_icmp .eq 9, 3) := by decide +kernel
theorem dX7_readNumber_12 : decode cX7_readNumber 12 = .ok (.aload_n 0, 1) := by decide +kernel
theorem dX7_readNumber_13 : decode cX7_readNumber 13 = .ok (.iconst 1, 1) := by decide +kernel
theorem dX7_readNumber_14 : decode cX7_readNumber 14 = .ok (.invokevirtual 106, 3) := by decide +kernel
theorem dX7_readNumber_17 : decode cX7_readNumber 17 = .ok (.ireturn, 1) := by decide +kernel
theorem dX7_readNumber_18 : decode cX7_readNumber 18 = .ok (.aload_n 0, 1) := by decide +kernel
theorem dX7_readNumber_19 : decode cX7_readNumber 19 = .ok (.getfield 44, 3) := by decide +kernel
theorem dX7_readNumber_22 : decode cX7_readNumber 22 = .ok (.iload_n 1, 1) := by decide +kernel
theorem dX7_readNumber_23 : decode cX7_readNumber 23 = .ok (.if_icmp .lt 11, 3) := by decide +kernel
theorem dX7_readNumber_26 : decode cX7_readNumber 26 = .ok (.aload_n 0, 1) := by decide +kernel
theorem dX7_readNumber_27 : decode cX7_readNumber 27 = .ok (.getfield 44, 3) := by decide +kernel
theorem dX7_readNumber_30 : decode cX7_readNumber 30 = .ok (.iload_n 2, 1) := by decide +kernel
theorem dX7_readNumber_31 : decode cX7_readNumber 31 = .ok (.if_icmp .le 11, 3) := by decide +kernel
theorem dX7_readNumber_34 : decode cX7_readNumber 34 = .ok (.aload_n 0, 1) := by decide +kernel
theorem dX7_readNumber_35 : decode cX7_readNumber 35 = .ok (.iconst 2, 1) := by decide +kernel
theorem dX7_readNumber_36 : decode cX7_readNumber 36 = .ok (.invokevirtual 106, 3) := by decide +kernel
theorem dX7_readNumber_39 : decode cX7_readNumber 39 = .ok (.ifCond .eq 7, 3) := by decide +kernel
theorem dX7_readNumber_42 : decode cX7_readNumber 42 = .ok (.iconst 1, 1) := by decide +kernel
theorem dX7_readNumber_43 : decode cX7_readNumber 43 = .ok (.goto 4, 3) := by decide +kernel
theorem dX7_readNumber_46 : decode cX7_readNumber 46 = .ok (.iconst 0, 1) := by decide +kernel
theorem dX7_readNumber_47 : decode cX7_readNumber 47 = .ok (.ireturn, 1) := by decide +kernel
def jX7_readNumber_47 (Y : XS) (n : Nat) (S : PS) (t0 : Int32) : Option (Int32 × PS) :=
  kzr t0 (some (t0, S))
def jX7_readNumber_42 (Y : XS) (n : Nat) (S : PS)  : Option (Int32 × PS) :=
  jX7_readNumber_47 Y n S (1 : Int32)
def jX7_readNumber_34 (Y : XS) (n : Nat) (S : PS) (v0 : Nat) : Option (Int32 × PS) :=
  kc (fX7_wrong Y n S v0 (2 : Int32)) (fun q36 => (if q36.1 = 0 then jX7_readNumber_47 Y n q36.2 (0 : Int32) else jX7_readNumber_42 Y n q36.2 ))
def fX7_readNumber (Y : XS) (n : Nat) (S : PS) (a0 : Nat) (x1_ : Int32) (x2_ : Int32) : Option (Int32 × PS) :=
  kc (fX7_next Y n S a0) (fun q1 => kgi q1 a0 7 (fun x5 => (if x5 = (2 : Int32) then kgi q1 a0 9 (fun x19 => (if x19 < x1_ then jX7_readNumber_34 Y n q1 a0 else kgi q1 a0 9 (fun x27 => (if x27 ≤ x2_ then jX7_readNumber_42 Y n q1  else jX7_readNumber_34 Y n q1 a0)))) else kc (fX7_wrong Y n q1 a0 (1 : Int32)) (fun q14 => kzr q14.1 (some (q14.1, q14.2))))))
theorem wjX7_readNumber_47 {C : CT} {X : XT} (hC : CK C RX7 cX7_readNumber 3 (some .boolean) 4) (n : Nat) (S : PS) (t0 : Int32)   {o : Int32 × PS} (hf : jX7_readNumber_47 X.2.1 n S t0 = some o) (hR : Rt C X cX7_readNumber (some .boolean) (some (.int o.1)) o.2) : UW C X S 47 [] [.int t0] := by
  unfold jX7_readNumber_47 at hf
  obtain ⟨hz, hf⟩ := kzr_some hf
  cases hf
  exact hR _ _ dX7_readNumber_47 hz
theorem wjX7_readNumber_42 {C : CT} {X : XT} (hC : CK C RX7 cX7_readNumber 3 (some .boolean) 4) (n : Nat) (S : PS)    {o : Int32 × PS} (hf : jX7_readNumber_42 X.2.1 n S  = some o) (hR : Rt C X cX7_readNumber (some .boolean) (some (.int o.1)) o.2) : UW C X S 42 [] [] := by
  unfold jX7_readNumber_42 at hf
  refine u_iconst (v := (1 : Int32)) hC dX7_readNumber_42 (by decide) ?_
  refine u_goto (tgt := 47) hC dX7_readNumber_43 (by decide) ?_
  exact wjX7_readNumber_47 hC n S (1 : Int32)   hf hR
theorem wjX7_readNumber_34 {C : CT} {X : XT} (hC : CK C RX7 cX7_readNumber 3 (some .boolean) 4) (n : Nat) (S : PS) (v0 : Nat)  (hTv0 : Ty X.2.1 v0 7) {o : Int32 × PS} (hf : jX7_readNumber_34 X.2.1 n S v0 = some o) (hR : Rt C X cX7_readNumber (some .boolean) (some (.int o.1)) o.2) : UW C X S 34 [(0, .ref (X.1 v0))] [] := by
  unfold jX7_readNumber_34 at hf
  refine u_aload_n hC dX7_readNumber_34 0 rfl rfl ?_
  refine u_iconst (v := (2 : Int32)) hC dX7_readNumber_35 (by decide) ?_
  obtain ⟨q36, hq36, hf⟩ := kc_some hf
  refine u_callV hC (ctX7_wrong (cL C) hC.tr (cG C) X.1 X.2.1 n S v0 (2 : Int32) hTv0 hq36) lk_X7_106 rfl hTv0 (by decide) rfl (by decide) (by decide) rfl rfl (Nat.le_of_ble_eq_true rfl) dX7_readNumber_36 ?_
  refine u_if_eq (tgt := 46) hC dX7_readNumber_39 (by decide) hf (fun h39 hf => ?_) (fun h39 hf => ?_)
  · refine u_iconst (v := (0 : Int32)) hC dX7_readNumber_46 (by decide) ?_
    refine u_sub (lv' := []) [] rfl ?_
    exact wjX7_readNumber_47 hC n q36.2 (0 : Int32)   hf hR
  · refine u_sub (lv' := []) [] rfl ?_
    exact wjX7_readNumber_42 hC n q36.2    hf hR
theorem wX7_readNumber {C : CT} {X : XT} (hC : CK C RX7 cX7_readNumber 3 (some .boolean) 4) (n : Nat) (S : PS) (a0 : Nat) (x1_ : Int32) (x2_ : Int32) (hTa0 : Ty X.2.1 a0 7) {o : Int32 × PS} (hf : fX7_readNumber X.2.1 n S a0 x1_ x2_ = some o) (hR : Rt C X cX7_readNumber (some .boolean) (some (.int o.1)) o.2) : UW C X S 0 [(0, .ref (X.1 a0)), (1, .int x1_), (2, .int x2_)] [] := by
  unfold fX7_readNumber at hf
  refine u_aload_n hC dX7_readNumber_0 0 rfl rfl ?_
  obtain ⟨q1, hq1, hf⟩ := kc_some hf
  refine u_callV hC (ctX7_next (cL C) hC.tr (cG C) X.1 X.2.1 n S a0 hTa0 hq1) lk_X7_72 rfl hTa0 (by decide) rfl (by decide) (by decide) rfl rfl (Nat.le_of_ble_eq_true rfl) dX7_readNumber_1 ?_
  refine u_aload_n hC dX7_readNumber_4 0 rfl rfl ?_
  refine u_gi hC lf_X7_38 rfl hTa0 dX7_readNumber_5 hf (fun x5 hf => ?_)
  refine u_iconst (v := (2 : Int32)) hC dX7_readNumber_8 (by decide) ?_
  refine u_icmp_eq (tgt := 18) hC dX7_readNumber_9 (by decide) hf (fun h9 hf => ?_) (fun h9 hf => ?_)
  · refine u_aload_n hC dX7_readNumber_18 0 rfl rfl ?_
    refine u_gi hC lf_X7_44 rfl hTa0 dX7_readNumber_19 hf (fun x19 hf => ?_)
    refine u_iload_n hC dX7_readNumber_22 1 rfl rfl ?_
    refine u_icmp_lt (tgt := 34) hC dX7_readNumber_23 (by decide) hf (fun h23 hf => ?_) (fun h23 hf => ?_)
    · refine u_sub (lv' := [(0, .ref (X.1 a0))]) [0] rfl ?_
      exact wjX7_readNumber_34 hC n q1 a0  hTa0 hf hR
    · refine u_aload_n hC dX7_readNumber_26 0 rfl rfl ?_
      refine u_gi hC lf_X7_44 rfl hTa0 dX7_readNumber_27 hf (fun x27 hf => ?_)
      refine u_iload_n hC dX7_readNumber_30 2 rfl rfl ?_
      refine u_icmp_le (tgt := 42) hC dX7_readNumber_31 (by decide) hf (fun h31 hf => ?_) (fun h31 hf => ?_)
      · refine u_sub (lv' := []) [] rfl ?_
        exact wjX7_readNumber_42 hC n q1    hf hR
      · refine u_sub (lv' := [(0, .ref (X.1 a0))]) [0] rfl ?_
        exact wjX7_readNumber_34 hC n q1 a0  hTa0 hf hR
  · refine u_aload_n hC dX7_readNumber_12 0 rfl rfl ?_
    refine u_iconst (v := (1 : Int32)) hC dX7_readNumber_13 (by decide) ?_
    obtain ⟨q14, hq14, hf⟩ := kc_some hf
    refine u_callV hC (ctX7_wrong (cL C) hC.tr (cG C) X.1 X.2.1 n q1 a0 (1 : Int32) hTa0 hq14) lk_X7_106 rfl hTa0 (by decide) rfl (by decide) (by decide) rfl rfl (Nat.le_of_ble_eq_true rfl) dX7_readNumber_14 ?_
    obtain ⟨hz, hf⟩ := kzr_some hf
    cases hf
    exact hR _ _ dX7_readNumber_17 hz
theorem ctX7_readNumber (l : Launch) (hl : l.stackTraces = false) (G : GT) (ρ : Nat → Nat) (Y : XS) (n : Nat) (S : PS) (a0 : Nat) (x1_ : Int32) (x2_ : Int32) (hTa0 : Ty Y a0 7) {o : Int32 × PS} (hf : fX7_readNumber Y n S a0 x1_ x2_ = some o) : Mt l G yX7_readNumber cX7_readNumber 3 (some .boolean) 4 ρ Y [.ref (ρ a0), .int x1_, .int x2_] S (some (.int o.1)) o.2 :=
  Mt_of hl (by decide) (Nat.le_of_ble_eq_true rfl) (fun C _ _ hC hR => wX7_readNumber (X := (ρ, Y, 0, 0)) hC n S a0 x1_ x2_ hTa0 hf hR)
-- X7_readBudget
theorem dX7_readBudget_0 : decode cX7_readBudget 0 = .ok (.aload_n 0, 1) := by decide +kernel
theorem dX7_readBudget_1 : decode cX7_readBudget 1 = .ok (.iconst 0, 1) := by decide +kernel
theorem dX7_readBudget_2 : decode cX7_readBudget 2 = .ok (.ldc 113, 2) := by decide +kernel
theorem dX7_readBudget_4 : decode cX7_readBudget 4 = .ok (.invokevirtual 114, 3) := by decide +kernel
theorem dX7_readBudget_7 : decode cX7_readBudget 7 = .ok (.ifCond .ne 5, 3) := by decide +kernel
theorem dX7_readBudget_10 : decode cX7_readBudget 10 = .ok (.iconst 0, 1) := by decide +kernel
theorem dX7_readBudget_11 : decode cX7_readBudget 11 = .ok (.ireturn, 1) := by decide +kernel
theorem dX7_readBudget_12 : decode cX7_readBudget 12 = .ok (.aload_n 0, 1) := by decide +kernel
theorem dX7_readBudget_13 : decode cX7_readBudget 13 = .ok (.getfield 12, 3) := by decide +kernel
theorem dX7_readBudget_16 : decode cX7_readBudget 16 = .ok (.aload_n 0, 1) := by decide +kernel
theorem dX7_readBudget_17 : decode cX7_readBudget 17 = .ok (.getfield 44, 3) := by decide +kernel
theorem dX7_readBudget_20 : decode cX7_readBudget 20 = .ok (.putfield 118, 3) := by decide +kernel
theorem dX7_readBudget_23 : decode cX7_readBudget 23 = .ok (.iconst 1, 1) := by decide +kernel
theorem dX7_readBudget_24 : decode cX7_readBudget 24 = .ok (.ireturn, 1) := by decide +kernel
def fX7_readBudget (Y : XS) (n : Nat) (S : PS) (a0 : Nat) : Option (Int32 × PS) :=
  kc (fX7_readNumber Y n S a0 (0 : Int32) (99999 : Int32)) (fun q4 => (if q4.1 = 0 then kzr (0 : Int32) (some ((0 : Int32), q4.2)) else kgr q4.2 a0 0 (fun b13 => kgi q4.2 a0 9 (fun x17 => kpi q4.2 b13 0 x17 (fun S20 => kzr (1 : Int32) (some ((1 : Int32), S20)))))))
theorem wX7_readBudget {C : CT} {X : XT} (hC : CK C RX7 cX7_readBudget 1 (some .boolean) 5) (n : Nat) (S : PS) (a0 : Nat) (hTa0 : Ty X.2.1 a0 7) {o : Int32 × PS} (hf : fX7_readBudget X.2.1 n S a0 = some o) (hR : Rt C X cX7_readBudget (some .boolean) (some (.int o.1)) o.2) : UW C X S 0 [(0, .ref (X.1 a0))] [] := by
  unfold fX7_readBudget at hf
  refine u_aload_n hC dX7_readBudget_0 0 rfl rfl ?_
  refine u_iconst (v := (0 : Int32)) hC dX7_readBudget_1 (by decide) ?_
  refine u_ldc (v := (99999 : Int32)) hC dX7_readBudget_2 (tb_3 181 rfl rfl) ?_
  obtain ⟨q4, hq4, hf⟩ := kc_some hf
  refine u_callV hC (ctX7_readNumber (cL C) hC.tr (cG C) X.1 X.2.1 n S a0 (0 : Int32) (99999 : Int32) hTa0 hq4) lk_X7_114 rfl hTa0 (by decide) rfl (by decide) (by decide) rfl rfl (Nat.le_of_ble_eq_true rfl) dX7_readBudget_4 ?_
  refine u_if_ne (tgt := 12) hC dX7_readBudget_7 (by decide) hf (fun h7 hf => ?_) (fun h7 hf => ?_)
  · refine u_aload_n hC dX7_readBudget_12 0 rfl rfl ?_
    refine u_gr hC lf_X7_12 rfl hTa0 dX7_readBudget_13 hf (fun b13 hTb13 hf => ?_)
    refine u_aload_n hC dX7_readBudget_16 0 rfl rfl ?_
    refine u_gi hC lf_X7_44 rfl hTa0 dX7_readBudget_17 hf (fun x17 hf => ?_)
    refine u_pi hC lf_X7_118 rfl rfl rfl hTb13 dX7_readBudget_20 hf (fun S20 hf => ?_)
    refine u_iconst (v := (1 : Int32)) hC dX7_readBudget_23 (by decide) ?_
    obtain ⟨hz, hf⟩ := kzr_some hf
    cases hf
    exact hR _ _ dX7_readBudget_24 hz
  · refine u_iconst (v := (0 : Int32)) hC dX7_readBudget_10 (by decide) ?_
    obtain ⟨hz, hf⟩ := kzr_some hf
    cases hf
    exact hR _ _ dX7_readBudget_11 hz
theorem ctX7_readBudget (l : Launch) (hl : l.stackTraces = false) (G : GT) (ρ : Nat → Nat) (Y : XS) (n : Nat) (S : PS) (a0 : Nat) (hTa0 : Ty Y a0 7) {o : Int32 × PS} (hf : fX7_readBudget Y n S a0 = some o) : Mt l G yX7_readBudget cX7_readBudget 1 (some .boolean) 5 ρ Y [.ref (ρ a0)] S (some (.int o.1)) o.2 :=
  Mt_of hl (by decide) (Nat.le_of_ble_eq_true rfl) (fun C _ _ hC hR => wX7_readBudget (X := (ρ, Y, 0, 0)) hC n S a0 hTa0 hf hR)
-- X7_isWord
theorem dX7_isWord_0 : decode cX7_isWord 0 = .ok (.aload_n 0, 1) := by decide +kernel
theorem dX7_isWord_1 : decode cX7_isWord 1 = .ok (.getfield 38, 3) := by decide +kernel
theorem dX7_isWord_4 : decode cX7_isWord 4 = .ok (.iconst 1, 1) := by decide +kernel
theorem dX7_isWord_5 : decode cX7_isWord 5 = .ok (.if_icmp .ne 14, 3) := by decide +kernel
theorem dX7_isWord_8 : decode cX7_isWord 8 = .ok (.aload_n 0, 1) := by decide +kernel
theorem dX7_isWord_9 : decode cX7_isWord 9 = .ok (.getfield 44, 3) := by decide +kernel
theorem dX7_isWord_12 : decode cX7_isWord 12 = .ok (.aload_n 1, 1) := by decide +kernel
theorem dX7_isWord_13 : decode cX7_isWord 13 = .ok (.invokevirtual 218, 3) := by decide +kernel
theorem dX7_isWord_16 : decode cX7_isWord 16 = .ok (.if_icmp .eq 5, 3) := by decide +kernel
theorem dX7_isWord_19 : decode cX7_isWord 19 = .ok (.iconst 0, 1) := by decide +kernel
theorem dX7_isWord_20 : decode cX7_isWord 20 = .ok (.ireturn, 1) := by decide +kernel
theorem dX7_isWord_21 : decode cX7_isWord 21 = .ok (.iconst 0, 1) := by decide +kernel
theorem dX7_isWord_22 : decode cX7_isWord 22 = .ok (.istore_n 2, 1) := by decide +kernel
theorem dX7_isWord_23 : decode cX7_isWord 23 = .ok (.iload_n 2, 1) := by decide +kernel
theorem dX7_isWord_24 : decode cX7_isWord 24 = .ok (.aload_n 1, 1) := by decide +kernel
theorem dX7_isWord_25 : decode cX7_isWord 25 = .ok (.invokevirtual 218, 3) := by decide +kernel
theorem dX7_isWord_28 : decode cX7_isWord 28 = .ok (.if_icmp .ge 43, 3) := by decide +kernel
theorem dX7_isWord_31 : decode cX7_isWord 31 = .ok (.aload_n 0, 1) := by decide +kernel
theorem dX7_isWord_32 : decode cX7_isWord 32 = .ok (.getfield 41, 3) := by decide +kernel
theorem dX7_isWord_35 : decode cX7_isWord 35 = .ok (.iload_n 2, 1) := by decide +kernel
theorem dX7_isWord_36 : decode cX7_isWord 36 = .ok (.iadd, 1) := by decide +kernel
theorem dX7_isWord_37 : decode cX7_isWord 37 = .ok (.aload_n 0, 1) := by decide +kernel
theorem dX7_isWord_38 : decode cX7_isWord 38 = .ok (.getfield 32, 3) := by decide +kernel
theorem dX7_isWord_41 : decode cX7_isWord 41 = .ok (.if_icmp .ge 30, 3) := by decide +kernel
theorem dX7_isWord_44 : decode cX7_isWord 44 = .ok (.aload_n 0, 1) := by decide +kernel
theorem dX7_isWord_45 : decode cX7_isWord 45 = .ok (.getfield 22, 3) := by decide +kernel
theorem dX7_isWord_48 : decode cX7_isWord 48 = .ok (.aload_n 0, 1) := by decide +kernel
theorem dX7_isWord_49 : decode cX7_isWord 49 = .ok (.getfield 41, 3) := by decide +kernel
theorem dX7_isWord_52 : decode cX7_isWord 52 = .ok (.iload_n 2, 1) := by decide +kernel
theorem dX7_isWord_53 : decode cX7_isWord 53 = .ok (.iadd, 1) := by decide +kernel
theorem dX7_isWord_54 : decode cX7_isWord 54 = .ok (.baload, 1) := by decide +kernel
theorem dX7_isWord_55 : decode cX7_isWord 55 = .ok (.aload_n 1, 1) := by decide +kernel
theorem dX7_isWord_56 : decode cX7_isWord 56 = .ok (.iload_n 2, 1) := by decide +kernel
theorem dX7_isWord_57 : decode cX7_isWord 57 = .ok (.invokevirtual 222, 3) := by decide +kernel
theorem dX7_isWord_60 : decode cX7_isWord 60 = .ok (.if_icmp .eq 5, 3) := by decide +kernel
theorem dX7_isWord_63 : decode cX7_isWord 63 = .ok (.iconst 0, 1) := by decide +kernel
theorem dX7_isWord_64 : decode cX7_isWord 64 = .ok (.ireturn, 1) := by decide +kernel
theorem dX7_isWord_65 : decode cX7_isWord 65 = .ok (.iinc 2 1, 3) := by decide +kernel
theorem dX7_isWord_68 : decode cX7_isWord 68 = .ok (.goto (-45), 3) := by decide +kernel
theorem dX7_isWord_71 : decode cX7_isWord 71 = .ok (.iconst 1, 1) := by decide +kernel
theorem dX7_isWord_72 : decode cX7_isWord 72 = .ok (.ireturn, 1) := by decide +kernel
def jX7_isWord_19 (Y : XS) (n : Nat) (S : PS)  : Option (Int32) :=
  kzr (0 : Int32) (some (0 : Int32))
def bX7_isWord_23 (Y : XS) (n : Nat) (S : PS) (v0 : Nat) (v1 : Nat) (s23 : Int32) : Option (Int32 ⊕ (Unit ⊕ (Int32))) :=
  (if (Int32.ofNat (strL v1)) ≤ s23 then some (.inr (.inl ())) else kgi S v0 8 (fun x32 => kgi S v0 5 (fun x38 => (if x38 ≤ (x32 + s23) then some (.inr (.inl ())) else kgr S v0 2 (fun b45 => kgi S v0 8 (fun x49 => kai Y S b45 (x49 + s23) (fun x54 => kch v1 s23 (fun x57 => (if x54 = x57 then some (.inl (s23 + (1 : Int32))) else kzr (0 : Int32) (some (.inr (.inr (0 : Int32)))))))))))))
def jX7_isWord_71 (Y : XS) (n : Nat) (S : PS)  : Option (Int32) :=
  kzr (1 : Int32) (some (1 : Int32))
def fX7_isWord (Y : XS) (n : Nat) (S : PS) (a0 : Nat) (i1 : Nat) : Option (Int32) :=
  kgi S a0 7 (fun x1 => (if x1 = (1 : Int32) then kgi S a0 9 (fun x9 => (if x9 = (Int32.ofNat (strL i1)) then kc (iter (bX7_isWord_23 Y n S a0 i1) n (0 : Int32)) (fun r23 => ks r23 (fun p23_0 => jX7_isWord_71 Y n S ) (fun p23_1 => some p23_1)) else jX7_isWord_19 Y n S )) else jX7_isWord_19 Y n S ))
theorem wjX7_isWord_19 {C : CT} {X : XT} (hC : CK C RX7 cX7_isWord 3 (some .boolean) 5) (n : Nat) (S : PS)    {o : Int32} (hf : jX7_isWord_19 X.2.1 n S  = some o) (hR : Rt C X cX7_isWord (some .boolean) (some (.int o)) S) : UW C X S 19 [] [] := by
  unfold jX7_isWord_19 at hf
  refine u_iconst (v := (0 : Int32)) hC dX7_isWord_19 (by decide) ?_
  obtain ⟨hz, hf⟩ := kzr_some hf
  cases hf
  exact hR _ _ dX7_isWord_20 hz
theorem wbX7_isWord_23 {C : CT} {X : XT} (hC : CK C RX7 cX7_isWord 3 (some .boolean) 5) (n : Nat) (S : PS) (v0 : Nat) (v1 : Nat) (hTv0 : Ty X.2.1 v0 7) (hTv1 : v1 < nStr) (s23 : Int32) {o : Int32 ⊕ (Unit ⊕ (Int32))} (hf : bX7_isWord_23 X.2.1 n S v0 v1 s23 = some o) (hN : ∀ s', o = .inl s' → UW C X S 23 [(0, .ref (X.1 v0)), (1, .ref (gK (cG C) v1)), (2, .int s')] []) (hO0 : ∀ p', o = .inr (.inl p') → UW C X S 71 [] []) (hR : ∀ q', o = .inr (.inr q') → Rt C X cX7_isWord (some .boolean) (some (.int q')) S) : UW C X S 23 [(0, .ref (X.1 v0)), (1, .ref (gK (cG C) v1)), (2, .int s23)] [] := by
  unfold bX7_isWord_23 at hf
  refine u_iload_n hC dX7_isWord_23 2 rfl rfl ?_
  refine u_aload_n hC dX7_isWord_24 1 rfl rfl ?_
  refine u_slen hC lk_X7_218 hTv1 (by decide) (Nat.le_of_ble_eq_true rfl) dX7_isWord_25 ?_
  refine u_icmp_ge (tgt := 71) hC dX7_isWord_28 (by decide) hf (fun h28 hf => ?_) (fun h28 hf => ?_)
  · refine u_sub (lv' := []) [] rfl ?_
    exact hO0 _ (Option.some.inj hf).symm
  · refine u_aload_n hC dX7_isWord_31 0 rfl rfl ?_
    refine u_gi hC lf_X7_41 rfl hTv0 dX7_isWord_32 hf (fun x32 hf => ?_)
    refine u_iload_n hC dX7_isWord_35 2 rfl rfl ?_
    refine u_iadd hC dX7_isWord_36 ?_
    refine u_aload_n hC dX7_isWord_37 0 rfl rfl ?_
    refine u_gi hC lf_X7_32 rfl hTv0 dX7_isWord_38 hf (fun x38 hf => ?_)
    refine u_icmp_ge (tgt := 71) hC dX7_isWord_41 (by decide) hf (fun h41 hf => ?_) (fun h41 hf => ?_)
    · refine u_sub (lv' := []) [] rfl ?_
      exact hO0 _ (Option.some.inj hf).symm
    · refine u_aload_n hC dX7_isWord_44 0 rfl rfl ?_
      refine u_gr hC lf_X7_22 rfl hTv0 dX7_isWord_45 hf (fun b45 hTb45 hf => ?_)
      refine u_aload_n hC dX7_isWord_48 0 rfl rfl ?_
      refine u_gi hC lf_X7_41 rfl hTv0 dX7_isWord_49 hf (fun x49 hf => ?_)
      refine u_iload_n hC dX7_isWord_52 2 rfl rfl ?_
      refine u_iadd hC dX7_isWord_53 ?_
      refine u_ab hC hTb45 dX7_isWord_54 hf (fun x54 hf => ?_)
      refine u_aload_n hC dX7_isWord_55 1 rfl rfl ?_
      refine u_iload_n hC dX7_isWord_56 2 rfl rfl ?_
      refine u_sch hC lk_X7_222 hTv1 (by decide) (Nat.le_of_ble_eq_true rfl) dX7_isWord_57 hf (fun x57 hf => ?_)
      refine u_icmp_eq (tgt := 65) hC dX7_isWord_60 (by decide) hf (fun h60 hf => ?_) (fun h60 hf => ?_)
      · refine u_iinc (v := s23 + (1 : Int32)) (lv' := [(2, .int (s23 + (1 : Int32))), (0, .ref (X.1 v0)), (1, .ref (gK (cG C) v1))]) hC dX7_isWord_65 2 rfl rfl (by decide) rfl ?_
        refine u_goto (tgt := 23) hC dX7_isWord_68 (by decide) ?_
        refine u_sub (lv' := [(0, .ref (X.1 v0)), (1, .ref (gK (cG C) v1)), (2, .int (s23 + (1 : Int32)))]) [1, 2, 0] rfl ?_
        exact hN _ (Option.some.inj hf).symm
      · refine u_iconst (v := (0 : Int32)) hC dX7_isWord_63 (by decide) ?_
        obtain ⟨hz, hf⟩ := kzr_some hf
        exact hR _ (Option.some.inj hf).symm _ _ dX7_isWord_64 hz
theorem wjX7_isWord_71 {C : CT} {X : XT} (hC : CK C RX7 cX7_isWord 3 (some .boolean) 5) (n : Nat) (S : PS)    {o : Int32} (hf : jX7_isWord_71 X.2.1 n S  = some o) (hR : Rt C X cX7_isWord (some .boolean) (some (.int o)) S) : UW C X S 71 [] [] := by
  unfold jX7_isWord_71 at hf
  refine u_iconst (v := (1 : Int32)) hC dX7_isWord_71 (by decide) ?_
  obtain ⟨hz, hf⟩ := kzr_some hf
  cases hf
  exact hR _ _ dX7_isWord_72 hz
theorem wX7_isWord {C : CT} {X : XT} (hC : CK C RX7 cX7_isWord 3 (some .boolean) 5) (n : Nat) (S : PS) (a0 : Nat) (i1 : Nat) (hTa0 : Ty X.2.1 a0 7) (hTi1 : i1 < nStr) {o : Int32} (hf : fX7_isWord X.2.1 n S a0 i1 = some o) (hR : Rt C X cX7_isWord (some .boolean) (some (.int o)) S) : UW C X S 0 [(0, .ref (X.1 a0)), (1, .ref (gK (cG C) i1))] [] := by
  unfold fX7_isWord at hf
  refine u_aload_n hC dX7_isWord_0 0 rfl rfl ?_
  refine u_gi hC lf_X7_38 rfl hTa0 dX7_isWord_1 hf (fun x1 hf => ?_)
  refine u_iconst (v := (1 : Int32)) hC dX7_isWord_4 (by decide) ?_
  refine u_icmp_ne (tgt := 19) hC dX7_isWord_5 (by decide) hf (fun h5 hf => ?_) (fun h5 hf => ?_)
  · refine u_sub (lv' := []) [] rfl ?_
    exact wjX7_isWord_19 hC n S    hf hR
  · refine u_aload_n hC dX7_isWord_8 0 rfl rfl ?_
    refine u_gi hC lf_X7_44 rfl hTa0 dX7_isWord_9 hf (fun x9 hf => ?_)
    refine u_aload_n hC dX7_isWord_12 1 rfl rfl ?_
    refine u_slen hC lk_X7_218 hTi1 (by decide) (Nat.le_of_ble_eq_true rfl) dX7_isWord_13 ?_
    refine u_icmp_eq (tgt := 21) hC dX7_isWord_16 (by decide) hf (fun h16 hf => ?_) (fun h16 hf => ?_)
    · refine u_iconst (v := (0 : Int32)) hC dX7_isWord_21 (by decide) ?_
      refine u_istore_n (lv' := [(2, .int (0 : Int32)), (0, .ref (X.1 a0)), (1, .ref (gK (cG C) i1))]) hC dX7_isWord_22 rfl (by decide) rfl ?_
      obtain ⟨r23, hr23, hf⟩ := kc_some hf
      have hk23_0 : ∀ p23_0, r23 = (.inl p23_0) → UW C X S 71 [] [] := by
        intro p23_0 he
        subst he
        have hf := ks_l hf
        exact wjX7_isWord_71 hC n S    hf hR
      have hk23_1 : ∀ p23_1, r23 = (.inr p23_1) → Rt C X cX7_isWord (some .boolean) (some (.int p23_1)) S := by
        intro p23_1 he
        subst he
        have hf := ks_r hf
        cases hf
        exact hR
      refine u_sub (lv' := [(0, .ref (X.1 a0)), (1, .ref (gK (cG C) i1)), (2, .int (0 : Int32))]) [1, 2, 0] rfl ?_
      refine iter_ind (P := fun s23 => UW C X S 23 [(0, .ref (X.1 a0)), (1, .ref (gK (cG C) i1)), (2, .int s23)] []) (fun s23 o' hb hin hout => ?_) n (0 : Int32) hr23
      exact wbX7_isWord_23 hC n S a0 i1 hTa0 hTi1 s23 hb hin (fun p e => hk23_0 p (hout _ e).symm) (fun p e => hk23_1 p (hout _ e).symm)
    · refine u_sub (lv' := []) [] rfl ?_
      exact wjX7_isWord_19 hC n S    hf hR
theorem ctX7_isWord (l : Launch) (hl : l.stackTraces = false) (G : GT) (ρ : Nat → Nat) (Y : XS) (n : Nat) (S : PS) (a0 : Nat) (i1 : Nat) (hTa0 : Ty Y a0 7) (hTi1 : i1 < nStr) {o : Int32} (hf : fX7_isWord Y n S a0 i1 = some o) : Mt l G yX7_isWord cX7_isWord 3 (some .boolean) 5 ρ Y [.ref (ρ a0), .ref (gK G i1)] S (some (.int o)) S :=
  Mt_of hl (by decide) (Nat.le_of_ble_eq_true rfl) (fun C _ h2 hC hR => by subst h2; exact wX7_isWord (X := (ρ, Y, 0, 0)) hC n S a0 i1 hTa0 hTi1 hf hR)
-- X7_isName
theorem dX7_isName_0 : decode cX7_isName 0 = .ok (.aload_n 0, 1) := by decide +kernel
theorem dX7_isName_1 : decode cX7_isName 1 = .ok (.getfield 38, 3) := by decide +kernel
theorem dX7_isName_4 : decode cX7_isName 4 = .ok (.iconst 1, 1) := by decide +kernel
theorem dX7_isName_5 : decode cX7_isName 5 = .ok (.if_icmp .ne 43, 3) := by decide +kernel
theorem dX7_isName_8 : decode cX7_isName 8 = .ok (.aload_n 0, 1) := by decide +kernel
theorem dX7_isName_9 : decode cX7_isName 9 = .ok (.getfield 44, 3) := by decide +kernel
theorem dX7_isName_12 : decode cX7_isName 12 = .ok (.bipush 6, 2) := by decide +kernel
theorem dX7_isName_14 : decode cX7_isName 14 = .ok (.if_icmp .gt 34, 3) := by decide +kernel
theorem dX7_isName_17 : decode cX7_isName 17 = .ok (.aload_n 0, 1) := by decide +kernel
theorem dX7_isName_18 : decode cX7_isName 18 = .ok (.ldc 79, 2) := by decide +kernel
theorem dX7_isName_20 : decode cX7_isName 20 = .ok (.invokevirtual 81, 3) := by decide +kernel
theorem dX7_isName_23 : decode cX7_isName 23 = .ok (.ifCond .ne 25, 3) := by decide +kernel
theorem dX7_isName_26 : decode cX7_isName 26 = .ok (.aload_n 0, 1) := by decide +kernel
theorem dX7_isName_27 : decode cX7_isName 27 = .ok (.ldc 96, 2) := by decide +kernel
theorem dX7_isName_29 : decode cX7_isName 29 = .ok (.invokevirtual 81, 3) := by decide +kernel
theorem dX7_isName_32 : decode cX7_isName 32 = .ok (.ifCond .ne 16, 3) := by decide +kernel
theorem dX7_isName_35 : decode cX7_isName 35 = .ok (.aload_n 0, 1) := by decide +kernel
theorem dX7_isName_36 : decode cX7_isName 36 = .ok (.ldc 101, 2) := by decide +kernel
theorem dX7_isName_38 : decode cX7_isName 38 = .ok (.invokevirtual 81, 3) := by decide +kernel
theorem dX7_isName_41 : decode cX7_isName 41 = .ok (.ifCond .ne 7, 3) := by decide +kernel
theorem dX7_isName_44 : decode cX7_isName 44 = .ok (.iconst 1, 1) := by decide +kernel
theorem dX7_isName_45 : decode cX7_isName 45 = .ok (.goto 4, 3) := by decide +kernel
theorem dX7_isName_48 : decode cX7_isName 48 = .ok (.iconst 0, 1) := by decide +kernel
theorem dX7_isName_49 : decode cX7_isName 49 = .ok (.ireturn, 1) := by decide +kernel
def jX7_isName_49 (Y : XS) (n : Nat) (S : PS) (t0 : Int32) : Option (Int32) :=
  kzr t0 (some t0)
def jX7_isName_48 (Y : XS) (n : Nat) (S : PS)  : Option (Int32) :=
  jX7_isName_49 Y n S (0 : Int32)
def fX7_isName (Y : XS) (n : Nat) (S : PS) (a0 : Nat) : Option (Int32) :=
  kgi S a0 7 (fun x1 => (if x1 = (1 : Int32) then kgi S a0 9 (fun x9 => (if (6 : Int32) < x9 then jX7_isName_48 Y n S  else kc (fX7_isWord Y n S a0 1) (fun q20 => (if q20 = 0 then kc (fX7_isWord Y n S a0 3) (fun q29 => (if q29 = 0 then kc (fX7_isWord Y n S a0 4) (fun q38 => (if q38 = 0 then jX7_isName_49 Y n S (1 : Int32) else jX7_isName_48 Y n S )) else jX7_isName_48 Y n S )) else jX7_isName_48 Y n S )))) else jX7_isName_48 Y n S ))
theorem wjX7_isName_49 {C : CT} {X : XT} (hC : CK C RX7 cX7_isName 1 (some .boolean) 6) (n : Nat) (S : PS) (t0 : Int32)   {o : Int32} (hf : jX7_isName_49 X.2.1 n S t0 = some o) (hR : Rt C X cX7_isName (some .boolean) (some (.int o)) S) : UW C X S 49 [] [.int t0] := by
  unfold jX7_isName_49 at hf
  obtain ⟨hz, hf⟩ := kzr_some hf
  cases hf
  exact hR _ _ dX7_isName_49 hz
theorem wjX7_isName_48 {C : CT} {X : XT} (hC : CK C RX7 cX7_isName 1 (some .boolean) 6) (n : Nat) (S : PS)    {o : Int32} (hf : jX7_isName_48 X.2.1 n S  = some o) (hR : Rt C X cX7_isName (some .boolean) (some (.int o)) S) : UW C X S 48 [] [] := by
  unfold jX7_isName_48 at hf
  refine u_iconst (v := (0 : Int32)) hC dX7_isName_48 (by decide) ?_
  exact wjX7_isName_49 hC n S (0 : Int32)   hf hR
theorem wX7_isName {C : CT} {X : XT} (hC : CK C RX7 cX7_isName 1 (some .boolean) 6) (n : Nat) (S : PS) (a0 : Nat) (hTa0 : Ty X.2.1 a0 7) {o : Int32} (hf : fX7_isName X.2.1 n S a0 = some o) (hR : Rt C X cX7_isName (some .boolean) (some (.int o)) S) : UW C X S 0 [(0, .ref (X.1 a0))] [] := by
  unfold fX7_isName at hf
  refine u_aload_n hC dX7_isName_0 0 rfl rfl ?_
  refine u_gi hC lf_X7_38 rfl hTa0 dX7_isName_1 hf (fun x1 hf => ?_)
  refine u_iconst (v := (1 : Int32)) hC dX7_isName_4 (by decide) ?_
  refine u_icmp_ne (tgt := 48) hC dX7_isName_5 (by decide) hf (fun h5 hf => ?_) (fun h5 hf => ?_)
  · refine u_sub (lv' := []) [] rfl ?_
    exact wjX7_isName_48 hC n S    hf hR
  · refine u_aload_n hC dX7_isName_8 0 rfl rfl ?_
    refine u_gi hC lf_X7_44 rfl hTa0 dX7_isName_9 hf (fun x9 hf => ?_)
    refine u_bipush (v := (6 : Int32)) hC dX7_isName_12 (by decide) ?_
    refine u_icmp_gt (tgt := 48) hC dX7_isName_14 (by decide) hf (fun h14 hf => ?_) (fun h14 hf => ?_)
    · refine u_sub (lv' := []) [] rfl ?_
      exact wjX7_isName_48 hC n S    hf hR
    · refine u_aload_n hC dX7_isName_17 0 rfl rfl ?_
      refine u_lds (i := 1) hC (by decide) rfl rfl dX7_isName_18 ?_
      obtain ⟨q20, hq20, hf⟩ := kc_some hf
      refine u_callV hC (ctX7_isWord (cL C) hC.tr (cG C) X.1 X.2.1 n S a0 1 hTa0 (show 1 < nStr by decide) hq20) lk_X7_81 rfl hTa0 (by decide) rfl (by decide) (by decide) rfl rfl (Nat.le_of_ble_eq_true rfl) dX7_isName_20 ?_
      refine u_if_ne (tgt := 48) hC dX7_isName_23 (by decide) hf (fun h23 hf => ?_) (fun h23 hf => ?_)
      · refine u_sub (lv' := []) [] rfl ?_
        exact wjX7_isName_48 hC n S    hf hR
      · refine u_aload_n hC dX7_isName_26 0 rfl rfl ?_
        refine u_lds (i := 3) hC (by decide) rfl rfl dX7_isName_27 ?_
        obtain ⟨q29, hq29, hf⟩ := kc_some hf
        refine u_callV hC (ctX7_isWord (cL C) hC.tr (cG C) X.1 X.2.1 n S a0 3 hTa0 (show 3 < nStr by decide) hq29) lk_X7_81 rfl hTa0 (by decide) rfl (by decide) (by decide) rfl rfl (Nat.le_of_ble_eq_true rfl) dX7_isName_29 ?_
        refine u_if_ne (tgt := 48) hC dX7_isName_32 (by decide) hf (fun h32 hf => ?_) (fun h32 hf => ?_)
        · refine u_sub (lv' := []) [] rfl ?_
          exact wjX7_isName_48 hC n S    hf hR
        · refine u_aload_n hC dX7_isName_35 0 rfl rfl ?_
          refine u_lds (i := 4) hC (by decide) rfl rfl dX7_isName_36 ?_
          obtain ⟨q38, hq38, hf⟩ := kc_some hf
          refine u_callV hC (ctX7_isWord (cL C) hC.tr (cG C) X.1 X.2.1 n S a0 4 hTa0 (show 4 < nStr by decide) hq38) lk_X7_81 rfl hTa0 (by decide) rfl (by decide) (by decide) rfl rfl (Nat.le_of_ble_eq_true rfl) dX7_isName_38 ?_
          refine u_if_ne (tgt := 48) hC dX7_isName_41 (by decide) hf (fun h41 hf => ?_) (fun h41 hf => ?_)
          · refine u_sub (lv' := []) [] rfl ?_
            exact wjX7_isName_48 hC n S    hf hR
          · refine u_iconst (v := (1 : Int32)) hC dX7_isName_44 (by decide) ?_
            refine u_goto (tgt := 49) hC dX7_isName_45 (by decide) ?_
            refine u_sub (lv' := []) [] rfl ?_
            exact wjX7_isName_49 hC n S (1 : Int32)   hf hR
theorem ctX7_isName (l : Launch) (hl : l.stackTraces = false) (G : GT) (ρ : Nat → Nat) (Y : XS) (n : Nat) (S : PS) (a0 : Nat) (hTa0 : Ty Y a0 7) {o : Int32} (hf : fX7_isName Y n S a0 = some o) : Mt l G yX7_isName cX7_isName 1 (some .boolean) 6 ρ Y [.ref (ρ a0)] S (some (.int o)) S :=
  Mt_of hl (by decide) (Nat.le_of_ble_eq_true rfl) (fun C _ _ hC hR => wX7_isName (X := (ρ, Y, 0, 0)) hC n S a0 hTa0 hf hR)
-- X7_letter
theorem dX7_letter_0 : decode cX7_letter 0 = .ok (.iload_n 1, 1) := by decide +kernel
theorem dX7_letter_1 : decode cX7_letter 1 = .ok (.aload_n 0, 1) := by decide +kernel
theorem dX7_letter_2 : decode cX7_letter 2 = .ok (.getfield 44, 3) := by decide +kernel
theorem dX7_letter_5 : decode cX7_letter 5 = .ok (.if_icmp .ge 35, 3) := by decide +kernel
theorem dX7_letter_8 : decode cX7_letter 8 = .ok (.aload_n 0, 1) := by decide +kernel
theorem dX7_letter_9 : decode cX7_letter 9 = .ok (.getfield 41, 3) := by decide +kernel
theorem dX7_letter_12 : decode cX7_letter 12 = .ok (.iload_n 1, 1) := by decide +kernel
theorem dX7_letter_13 : decode cX7_letter 13 = .ok (.iadd, 1) := by decide +kernel
theorem dX7_letter_14 : decode cX7_letter 14 = .ok (.aload_n 0, 1) := by decide +kernel
theorem dX7_letter_15 : decode cX7_letter 15 = .ok (.getfield 32, 3) := by decide +kernel
theorem dX7_letter_18 : decode cX7_letter 18 = .ok (.if_icmp .ge 22, 3) := by decide +kernel
theorem dX7_letter_21 : decode cX7_letter 21 = .ok (.aload_n 0, 1) := by decide +kernel
theorem dX7_letter_22 : decode cX7_letter 22 = .ok (.getfield 22, 3) := by decide +kernel
theorem dX7_letter_25 : decode cX7_letter 25 = .ok (.aload_n 0, 1) := by decide +kernel
theorem dX7_letter_26 : decode cX7_letter 26 = .ok (.getfield 41, 3) := by decide +kernel
theorem dX7_letter_29 : decode cX7_letter 29 = .ok (.iload_n 1, 1) := by decide +kernel
theorem dX7_letter_30 : decode cX7_letter 30 = .ok (.iadd, 1) := by decide +kernel
theorem dX7_letter_31 : decode cX7_letter 31 = .ok (.baload, 1) := by decide +kernel
theorem dX7_letter_32 : decode cX7_letter 32 = .ok (.bipush 97, 2) := by decide +kernel
theorem dX7_letter_34 : decode cX7_letter 34 = .ok (.isub, 1) := by decide +kernel
theorem dX7_letter_35 : decode cX7_letter 35 = .ok (.iconst 1, 1) := by decide +kernel
theorem dX7_letter_36 : decode cX7_letter 36 = .ok (.iadd, 1) := by decide +kernel
theorem dX7_letter_37 : decode cX7_letter 37 = .ok (.goto 4, 3) := by decide +kernel
theorem dX7_letter_40 : decode cX7_letter 40 = .ok (.iconst 0, 1) := by decide +kernel
theorem dX7_letter_41 : decode cX7_letter 41 = .ok (.ireturn, 1) := by decide +kernel
def jX7_letter_41 (Y : XS) (n : Nat) (S : PS) (t0 : Int32) : Option (Int32) :=
  some t0
def jX7_letter_40 (Y : XS) (n : Nat) (S : PS)  : Option (Int32) :=
  jX7_letter_41 Y n S (0 : Int32)
def fX7_letter (Y : XS) (n : Nat) (S : PS) (a0 : Nat) (x1_ : Int32) : Option (Int32) :=
  kgi S a0 9 (fun x2 => (if x2 ≤ x1_ then jX7_letter_40 Y n S  else kgi S a0 8 (fun x9 => kgi S a0 5 (fun x15 => (if x15 ≤ (x9 + x1_) then jX7_letter_40 Y n S  else kgr S a0 2 (fun b22 => kgi S a0 8 (fun x26 => kai Y S b22 (x26 + x1_) (fun x31 => jX7_letter_41 Y n S ((x31 - (97 : Int32)) + (1 : Int32))))))))))
theorem wjX7_letter_41 {C : CT} {X : XT} (hC : CK C RX7 cX7_letter 2 (some .int) 1) (n : Nat) (S : PS) (t0 : Int32)   {o : Int32} (hf : jX7_letter_41 X.2.1 n S t0 = some o) (hR : Rt C X cX7_letter (some .int) (some (.int o)) S) : UW C X S 41 [] [.int t0] := by
  unfold jX7_letter_41 at hf
  cases hf
  exact hR _ _ dX7_letter_41 trivial
theorem wjX7_letter_40 {C : CT} {X : XT} (hC : CK C RX7 cX7_letter 2 (some .int) 1) (n : Nat) (S : PS)    {o : Int32} (hf : jX7_letter_40 X.2.1 n S  = some o) (hR : Rt C X cX7_letter (some .int) (some (.int o)) S) : UW C X S 40 [] [] := by
  unfold jX7_letter_40 at hf
  refine u_iconst (v := (0 : Int32)) hC dX7_letter_40 (by decide) ?_
  exact wjX7_letter_41 hC n S (0 : Int32)   hf hR
theorem wX7_letter {C : CT} {X : XT} (hC : CK C RX7 cX7_letter 2 (some .int) 1) (n : Nat) (S : PS) (a0 : Nat) (x1_ : Int32) (hTa0 : Ty X.2.1 a0 7) {o : Int32} (hf : fX7_letter X.2.1 n S a0 x1_ = some o) (hR : Rt C X cX7_letter (some .int) (some (.int o)) S) : UW C X S 0 [(0, .ref (X.1 a0)), (1, .int x1_)] [] := by
  unfold fX7_letter at hf
  refine u_iload_n hC dX7_letter_0 1 rfl rfl ?_
  refine u_aload_n hC dX7_letter_1 0 rfl rfl ?_
  refine u_gi hC lf_X7_44 rfl hTa0 dX7_letter_2 hf (fun x2 hf => ?_)
  refine u_icmp_ge (tgt := 40) hC dX7_letter_5 (by decide) hf (fun h5 hf => ?_) (fun h5 hf => ?_)
  · refine u_sub (lv' := []) [] rfl ?_
    exact wjX7_letter_40 hC n S    hf hR
  · refine u_aload_n hC dX7_letter_8 0 rfl rfl ?_
    refine u_gi hC lf_X7_41 rfl hTa0 dX7_letter_9 hf (fun x9 hf => ?_)
    refine u_iload_n hC dX7_letter_12 1 rfl rfl ?_
    refine u_iadd hC dX7_letter_13 ?_
    refine u_aload_n hC dX7_letter_14 0 rfl rfl ?_
    refine u_gi hC lf_X7_32 rfl hTa0 dX7_letter_15 hf (fun x15 hf => ?_)
    refine u_icmp_ge (tgt := 40) hC dX7_letter_18 (by decide) hf (fun h18 hf => ?_) (fun h18 hf => ?_)
    · refine u_sub (lv' := []) [] rfl ?_
      exact wjX7_letter_40 hC n S    hf hR
    · refine u_aload_n hC dX7_letter_21 0 rfl rfl ?_
      refine u_gr hC lf_X7_22 rfl hTa0 dX7_letter_22 hf (fun b22 hTb22 hf => ?_)
      refine u_aload_n hC dX7_letter_25 0 rfl rfl ?_
      refine u_gi hC lf_X7_41 rfl hTa0 dX7_letter_26 hf (fun x26 hf => ?_)
      refine u_iload_n hC dX7_letter_29 1 rfl rfl ?_
      refine u_iadd hC dX7_letter_30 ?_
      refine u_ab hC hTb22 dX7_letter_31 hf (fun x31 hf => ?_)
      refine u_bipush (v := (97 : Int32)) hC dX7_letter_32 (by decide) ?_
      refine u_isub hC dX7_letter_34 ?_
      refine u_iconst (v := (1 : Int32)) hC dX7_letter_35 (by decide) ?_
      refine u_iadd hC dX7_letter_36 ?_
      refine u_goto (tgt := 41) hC dX7_letter_37 (by decide) ?_
      refine u_sub (lv' := []) [] rfl ?_
      exact wjX7_letter_41 hC n S ((x31 - (97 : Int32)) + (1 : Int32))   hf hR
theorem ctX7_letter (l : Launch) (hl : l.stackTraces = false) (G : GT) (ρ : Nat → Nat) (Y : XS) (n : Nat) (S : PS) (a0 : Nat) (x1_ : Int32) (hTa0 : Ty Y a0 7) {o : Int32} (hf : fX7_letter Y n S a0 x1_ = some o) : Mt l G yX7_letter cX7_letter 2 (some .int) 1 ρ Y [.ref (ρ a0), .int x1_] S (some (.int o)) S :=
  Mt_of hl (by decide) (Nat.le_of_ble_eq_true rfl) (fun C _ _ hC hR => wX7_letter (X := (ρ, Y, 0, 0)) hC n S a0 x1_ hTa0 hf hR)
-- X7_named
theorem dX7_named_0 : decode cX7_named 0 = .ok (.iconst 0, 1) := by decide +kernel
theorem dX7_named_1 : decode cX7_named 1 = .ok (.istore_n 1, 1) := by decide +kernel
theorem dX7_named_2 : decode cX7_named 2 = .ok (.iload_n 1, 1) := by decide +kernel
theorem dX7_named_3 : decode cX7_named 3 = .ok (.aload_n 0, 1) := by decide +kernel
theorem dX7_named_4 : decode cX7_named 4 = .ok (.getfield 12, 3) := by decide +kernel
theorem dX7_named_7 : decode cX7_named 7 = .ok (.getfield 121, 3) := by decide +kernel
theorem dX7_named_10 : decode cX7_named 10 = .ok (.if_icmp .ge 61, 3) := by decide +kernel
theorem dX7_named_13 : decode cX7_named 13 = .ok (.iconst 1, 1) := by decide +kernel
theorem dX7_named_14 : decode cX7_named 14 = .ok (.istore_n 2, 1) := by decide +kernel
theorem dX7_named_15 : decode cX7_named 15 = .ok (.iconst 0, 1) := by decide +kernel
theorem dX7_named_16 : decode cX7_named 16 = .ok (.istore_n 3, 1) := by decide +kernel
theorem dX7_named_17 : decode cX7_named 17 = .ok (.iload_n 3, 1) := by decide +kernel
theorem dX7_named_18 : decode cX7_named 18 = .ok (.bipush 6, 2) := by decide +kernel
theorem dX7_named_20 : decode cX7_named 20 = .ok (.if_icmp .ge 39, 3) := by decide +kernel
theorem dX7_named_23 : decode cX7_named 23 = .ok (.iload_n 2, 1) := by decide +kernel
theorem dX7_named_24 : decode cX7_named 24 = .ok (.aload_n 0, 1) := by decide +kernel
theorem dX7_named_25 : decode cX7_named 25 = .ok (.getfield 12, 3) := by decide +kernel
theorem dX7_named_28 : decode cX7_named 28 = .ok (.getfield 131, 3) := by decide +kernel
theorem dX7_named_31 : decode cX7_named 31 = .ok (.iload_n 1, 1) := by decide +kernel
theorem dX7_named_32 : decode cX7_named 32 = .ok (.bipush 6, 2) := by decide +kernel
theorem dX7_named_34 : decode cX7_named 34 = .ok (.imul, 1) := by decide +kernel
theorem dX7_named_35 : decode cX7_named 35 = .ok (.iload_n 3, 1) := by decide +kernel
theorem dX7_named_36 : decode cX7_named 36 = .ok (.iadd, 1) := by decide +kernel
theorem dX7_named_37 : decode cX7_named 37 = .ok (.iaload, 1) := by decide +kernel
theorem dX7_named_38 : decode cX7_named 38 = .ok (.aload_n 0, 1) := by decide +kernel
theorem dX7_named_39 : decode cX7_named 39 = .ok (.iload_n 3, 1) := by decide +kernel
theorem dX7_named_40 : decode cX7_named 40 = .ok (.invokevirtual 134, 3) := by decide +kernel
theorem dX7_named_43 : decode cX7_named 43 = .ok (.if_icmp .ne 7, 3) := by decide +kernel
theorem dX7_named_46 : decode cX7_named 46 = .ok (.iconst 1, 1) := by decide +kernel
theorem dX7_named_47 : decode cX7_named 47 = .ok (.goto 4, 3) := by decide +kernel
theorem dX7_named_50 : decode cX7_named 50 = .ok (.iconst 0, 1) := by decide +kernel
theorem dX7_named_51 : decode cX7_named 51 = .ok (.iand, 1) := by decide +kernel
theorem dX7_named_52 : decode cX7_named 52 = .ok (.istore_n 2, 1) := by decide +kernel
theorem dX7_named_53 : decode cX7_named 53 = .ok (.iinc 3 1, 3) := by decide +kernel
theorem dX7_named_56 : decode cX7_named 56 = .ok (.goto (-39), 3) := by decide +kernel
theorem dX7_named_59 : decode cX7_named 59 = .ok (.iload_n 2, 1) := by decide +kernel
theorem dX7_named_60 : decode cX7_named 60 = .ok (.ifCond .eq 5, 3) := by decide +kernel
theorem dX7_named_63 : decode cX7_named 63 = .ok (.iload_n 1, 1) := by decide +kernel
theorem dX7_named_64 : decode cX7_named 64 = .ok (.ireturn, 1) := by decide +kernel
theorem dX7_named_65 : decode cX7_named 65 = .ok (.iinc 1 1, 3) := by decide +kernel
theorem dX7_named_68 : decode cX7_named 68 = .ok (.goto (-66), 3) := by decide +kernel
theorem dX7_named_71 : decode cX7_named 71 = .ok (.iconst (-1), 1) := by decide +kernel
theorem dX7_named_72 : decode cX7_named 72 = .ok (.ireturn, 1) := by decide +kernel
def jX7_named_51_17 (Y : XS) (n : Nat) (S : PS) (v0 : Nat) (v1 : Int32) (v3 : Int32) (t0 : Int32) (t1 : Int32) : Option ((Int32 × Int32) ⊕ Int32) :=
  some (.inl (t1 &&& t0, v3 + (1 : Int32)))
def bX7_named_17 (Y : XS) (n : Nat) (S : PS) (v0 : Nat) (v1 : Int32) (s17 : (Int32 × Int32)) : Option ((Int32 × Int32) ⊕ Int32) :=
  (if (6 : Int32) ≤ s17.2 then some (.inr s17.1) else kgr S v0 0 (fun b25 => kgr S b25 5 (fun b28 => kai Y S b28 ((v1 * (6 : Int32)) + s17.2) (fun x37 => kc (fX7_letter Y n S v0 s17.2) (fun q40 => (if x37 = q40 then jX7_named_51_17 Y n S v0 v1 s17.2 (1 : Int32) s17.1 else jX7_named_51_17 Y n S v0 v1 s17.2 (0 : Int32) s17.1))))))
def bX7_named_2 (Y : XS) (n : Nat) (S : PS) (v0 : Nat) (s2 : Int32) : Option (Int32 ⊕ (Unit ⊕ (Int32))) :=
  kgr S v0 0 (fun b4 => kgi S b4 1 (fun x7 => (if x7 ≤ s2 then some (.inr (.inl ())) else kc (iter (bX7_named_17 Y n S v0 s2) n ((1 : Int32), (0 : Int32))) (fun r17 => (if r17 = 0 then some (.inl (s2 + (1 : Int32))) else some (.inr (.inr s2)))))))
def fX7_named (Y : XS) (n : Nat) (S : PS) (a0 : Nat) : Option (Int32) :=
  kc (iter (bX7_named_2 Y n S a0) n (0 : Int32)) (fun r2 => ks r2 (fun p2_0 => some (-1 : Int32)) (fun p2_1 => some p2_1))
theorem wjX7_named_51_17 {C : CT} {X : XT} (hC : CK C RX7 cX7_named 4 (some .int) 2) (n : Nat) (S : PS) (v0 : Nat) (v1 : Int32) (v3 : Int32) (t0 : Int32) (t1 : Int32)  (hTv0 : Ty X.2.1 v0 7) {o : (Int32 × Int32) ⊕ Int32} (hf : jX7_named_51_17 X.2.1 n S v0 v1 v3 t0 t1 = some o) (hN : ∀ s', o = .inl s' → UW C X S 17 [(0, .ref (X.1 v0)), (1, .int v1), (2, .int s'.1), (3, .int s'.2)] []) (hO0 : ∀ p', o = .inr p' → UW C X S 59 [(0, .ref (X.1 v0)), (1, .int v1), (2, .int p')] []) : UW C X S 51 [(0, .ref (X.1 v0)), (1, .int v1), (3, .int v3)] [.int t0, .int t1] := by
  unfold jX7_named_51_17 at hf
  refine u_iand hC dX7_named_51 ?_
  refine u_istore_n (lv' := [(2, .int (t1 &&& t0)), (0, .ref (X.1 v0)), (1, .int v1), (3, .int v3)]) hC dX7_named_52 rfl (by decide) rfl ?_
  refine u_iinc (v := v3 + (1 : Int32)) (lv' := [(3, .int (v3 + (1 : Int32))), (2, .int (t1 &&& t0)), (0, .ref (X.1 v0)), (1, .int v1)]) hC dX7_named_53 3 rfl rfl (by decide) rfl ?_
  refine u_goto (tgt := 17) hC dX7_named_56 (by decide) ?_
  refine u_sub (lv' := [(0, .ref (X.1 v0)), (1, .int v1), (2, .int (t1 &&& t0)), (3, .int (v3 + (1 : Int32)))]) [2, 3, 1, 0] rfl ?_
  exact hN _ (Option.some.inj hf).symm
theorem wbX7_named_17 {C : CT} {X : XT} (hC : CK C RX7 cX7_named 4 (some .int) 2) (n : Nat) (S : PS) (v0 : Nat) (v1 : Int32) (hTv0 : Ty X.2.1 v0 7) (s17 : (Int32 × Int32)) {o : (Int32 × Int32) ⊕ Int32} (hf : bX7_named_17 X.2.1 n S v0 v1 s17 = some o) (hN : ∀ s', o = .inl s' → UW C X S 17 [(0, .ref (X.1 v0)), (1, .int v1), (2, .int s'.1), (3, .int s'.2)] []) (hO0 : ∀ p', o = .inr p' → UW C X S 59 [(0, .ref (X.1 v0)), (1, .int v1), (2, .int p')] []) : UW C X S 17 [(0, .ref (X.1 v0)), (1, .int v1), (2, .int s17.1), (3, .int s17.2)] [] := by
  unfold bX7_named_17 at hf
  refine u_iload_n hC dX7_named_17 3 rfl rfl ?_
  refine u_bipush (v := (6 : Int32)) hC dX7_named_18 (by decide) ?_
  refine u_icmp_ge (tgt := 59) hC dX7_named_20 (by decide) hf (fun h20 hf => ?_) (fun h20 hf => ?_)
  · refine u_sub (lv' := [(0, .ref (X.1 v0)), (1, .int v1), (2, .int s17.1)]) [0, 1, 2] rfl ?_
    exact hO0 _ (Option.some.inj hf).symm
  · refine u_iload_n hC dX7_named_23 2 rfl rfl ?_
    refine u_aload_n hC dX7_named_24 0 rfl rfl ?_
    refine u_gr hC lf_X7_12 rfl hTv0 dX7_named_25 hf (fun b25 hTb25 hf => ?_)
    refine u_gr hC lf_X7_131 rfl hTb25 dX7_named_28 hf (fun b28 hTb28 hf => ?_)
    refine u_iload_n hC dX7_named_31 1 rfl rfl ?_
    refine u_bipush (v := (6 : Int32)) hC dX7_named_32 (by decide) ?_
    refine u_imul hC dX7_named_34 ?_
    refine u_iload_n hC dX7_named_35 3 rfl rfl ?_
    refine u_iadd hC dX7_named_36 ?_
    refine u_ai hC hTb28 dX7_named_37 hf (fun x37 hf => ?_)
    refine u_aload_n hC dX7_named_38 0 rfl rfl ?_
    refine u_iload_n hC dX7_named_39 3 rfl rfl ?_
    obtain ⟨q40, hq40, hf⟩ := kc_some hf
    refine u_callV hC (ctX7_letter (cL C) hC.tr (cG C) X.1 X.2.1 n S v0 s17.2 hTv0 hq40) lk_X7_134 rfl hTv0 (by decide) rfl (by decide) (by decide) rfl rfl (Nat.le_of_ble_eq_true rfl) dX7_named_40 ?_
    refine u_icmp_ne (tgt := 50) hC dX7_named_43 (by decide) hf (fun h43 hf => ?_) (fun h43 hf => ?_)
    · refine u_iconst (v := (0 : Int32)) hC dX7_named_50 (by decide) ?_
      refine u_sub (lv' := [(0, .ref (X.1 v0)), (1, .int v1), (3, .int s17.2)]) [0, 1, 3] rfl ?_
      exact wjX7_named_51_17 hC n S v0 v1 s17.2 (0 : Int32) s17.1  hTv0 hf hN hO0
    · refine u_iconst (v := (1 : Int32)) hC dX7_named_46 (by decide) ?_
      refine u_goto (tgt := 51) hC dX7_named_47 (by decide) ?_
      refine u_sub (lv' := [(0, .ref (X.1 v0)), (1, .int v1), (3, .int s17.2)]) [0, 1, 3] rfl ?_
      exact wjX7_named_51_17 hC n S v0 v1 s17.2 (1 : Int32) s17.1  hTv0 hf hN hO0
theorem wbX7_named_2 {C : CT} {X : XT} (hC : CK C RX7 cX7_named 4 (some .int) 2) (n : Nat) (S : PS) (v0 : Nat) (hTv0 : Ty X.2.1 v0 7) (s2 : Int32) {o : Int32 ⊕ (Unit ⊕ (Int32))} (hf : bX7_named_2 X.2.1 n S v0 s2 = some o) (hN : ∀ s', o = .inl s' → UW C X S 2 [(0, .ref (X.1 v0)), (1, .int s')] []) (hO0 : ∀ p', o = .inr (.inl p') → UW C X S 71 [] []) (hR : ∀ q', o = .inr (.inr q') → Rt C X cX7_named (some .int) (some (.int q')) S) : UW C X S 2 [(0, .ref (X.1 v0)), (1, .int s2)] [] := by
  unfold bX7_named_2 at hf
  refine u_iload_n hC dX7_named_2 1 rfl rfl ?_
  refine u_aload_n hC dX7_named_3 0 rfl rfl ?_
  refine u_gr hC lf_X7_12 rfl hTv0 dX7_named_4 hf (fun b4 hTb4 hf => ?_)
  refine u_gi hC lf_X7_121 rfl hTb4 dX7_named_7 hf (fun x7 hf => ?_)
  refine u_icmp_ge (tgt := 71) hC dX7_named_10 (by decide) hf (fun h10 hf => ?_) (fun h10 hf => ?_)
  · refine u_sub (lv' := []) [] rfl ?_
    exact hO0 _ (Option.some.inj hf).symm
  · refine u_iconst (v := (1 : Int32)) hC dX7_named_13 (by decide) ?_
    refine u_istore_n (lv' := [(2, .int (1 : Int32)), (0, .ref (X.1 v0)), (1, .int s2)]) hC dX7_named_14 rfl (by decide) rfl ?_
    refine u_iconst (v := (0 : Int32)) hC dX7_named_15 (by decide) ?_
    refine u_istore_n (lv' := [(3, .int (0 : Int32)), (2, .int (1 : Int32)), (0, .ref (X.1 v0)), (1, .int s2)]) hC dX7_named_16 rfl (by decide) rfl ?_
    obtain ⟨r17, hr17, hf⟩ := kc_some hf
    have hk17 : UW C X S 59 [(0, .ref (X.1 v0)), (1, .int s2), (2, .int r17)] [] := by
      refine u_iload_n hC dX7_named_59 2 rfl rfl ?_
      refine u_if_eq (tgt := 65) hC dX7_named_60 (by decide) hf (fun h60 hf => ?_) (fun h60 hf => ?_)
      · refine u_iinc (v := s2 + (1 : Int32)) (lv' := [(1, .int (s2 + (1 : Int32))), (0, .ref (X.1 v0)), (2, .int r17)]) hC dX7_named_65 1 rfl rfl (by decide) rfl ?_
        refine u_goto (tgt := 2) hC dX7_named_68 (by decide) ?_
        refine u_sub (lv' := [(0, .ref (X.1 v0)), (1, .int (s2 + (1 : Int32)))]) [1, 0] rfl ?_
        exact hN _ (Option.some.inj hf).symm
      · refine u_iload_n hC dX7_named_63 1 rfl rfl ?_
        exact hR _ (Option.some.inj hf).symm _ _ dX7_named_64 trivial
    refine u_sub (lv' := [(0, .ref (X.1 v0)), (1, .int s2), (2, .int (1 : Int32)), (3, .int (0 : Int32))]) [2, 3, 1, 0] rfl ?_
    refine iter_ind (P := fun s17 => UW C X S 17 [(0, .ref (X.1 v0)), (1, .int s2), (2, .int s17.1), (3, .int s17.2)] []) (fun s17 o' hb hin hout => ?_) n ((1 : Int32), (0 : Int32)) hr17
    exact wbX7_named_17 hC n S v0 s2 hTv0 s17 hb hin (fun p e => by rw [hout p e]; exact hk17)
theorem wX7_named {C : CT} {X : XT} (hC : CK C RX7 cX7_named 4 (some .int) 2) (n : Nat) (S : PS) (a0 : Nat) (hTa0 : Ty X.2.1 a0 7) {o : Int32} (hf : fX7_named X.2.1 n S a0 = some o) (hR : Rt C X cX7_named (some .int) (some (.int o)) S) : UW C X S 0 [(0, .ref (X.1 a0))] [] := by
  unfold fX7_named at hf
  refine u_iconst (v := (0 : Int32)) hC dX7_named_0 (by decide) ?_
  refine u_istore_n (lv' := [(1, .int (0 : Int32)), (0, .ref (X.1 a0))]) hC dX7_named_1 rfl (by decide) rfl ?_
  obtain ⟨r2, hr2, hf⟩ := kc_some hf
  have hk2_0 : ∀ p2_0, r2 = (.inl p2_0) → UW C X S 71 [] [] := by
    intro p2_0 he
    subst he
    have hf := ks_l hf
    refine u_iconst (v := (-1 : Int32)) hC dX7_named_71 (by decide) ?_
    cases hf
    exact hR _ _ dX7_named_72 trivial
  have hk2_1 : ∀ p2_1, r2 = (.inr p2_1) → Rt C X cX7_named (some .int) (some (.int p2_1)) S := by
    intro p2_1 he
    subst he
    have hf := ks_r hf
    cases hf
    exact hR
  refine u_sub (lv' := [(0, .ref (X.1 a0)), (1, .int (0 : Int32))]) [1, 0] rfl ?_
  refine iter_ind (P := fun s2 => UW C X S 2 [(0, .ref (X.1 a0)), (1, .int s2)] []) (fun s2 o' hb hin hout => ?_) n (0 : Int32) hr2
  exact wbX7_named_2 hC n S a0 hTa0 s2 hb hin (fun p e => hk2_0 p (hout _ e).symm) (fun p e => hk2_1 p (hout _ e).symm)
theorem ctX7_named (l : Launch) (hl : l.stackTraces = false) (G : GT) (ρ : Nat → Nat) (Y : XS) (n : Nat) (S : PS) (a0 : Nat) (hTa0 : Ty Y a0 7) {o : Int32} (hf : fX7_named Y n S a0 = some o) : Mt l G yX7_named cX7_named 4 (some .int) 2 ρ Y [.ref (ρ a0)] S (some (.int o)) S :=
  Mt_of hl (by decide) (Nat.le_of_ble_eq_true rfl) (fun C _ _ hC hR => wX7_named (X := (ρ, Y, 0, 0)) hC n S a0 hTa0 hf hR)
-- X7_readProject
theorem dX7_readProject_0 : decode cX7_readProject 0 = .ok (.aload_n 0, 1) := by decide +kernel
theorem dX7_readProject_1 : decode cX7_readProject 1 = .ok (.getfield 12, 3) := by decide +kernel
theorem dX7_readProject_4 : decode cX7_readProject 4 = .ok (.getfield 121, 3) := by decide +kernel
theorem dX7_readProject_7 : decode cX7_readProject 7 = .ok (.istore_n 1, 1) := by decide +kernel
theorem dX7_readProject_8 : decode cX7_readProject 8 = .ok (.iload_n 1, 1) := by decide +kernel
theorem dX7_readProject_9 : decode cX7_readProject 9 = .ok (.bipush 12, 2) := by decide +kernel
theorem dX7_readProject_11 : decode cX7_readProject 11 = .ok (.if_icmp .lt 9, 3) := by decide +kernel
theorem dX7_readProject_14 : decode cX7_readProject 14 = .ok (.aload_n 0, 1) := by decide +kernel
theorem dX7_readProject_15 : decode cX7_readProject 15 = .ok (.iconst 4, 1) := by decide +kernel
theorem dX7_readProject_16 : decode cX7_readProject 16 = .ok (.invokevirtual 106, 3) := by decide +kernel
theorem dX7_readProject_19 : decode cX7_readProject 19 = .ok (.ireturn, 1) := by decide +kernel
theorem dX7_readProject_20 : decode cX7_readProject 20 = .ok (.aload_n 0, 1) := by decide +kernel
theorem dX7_readProject_21 : decode cX7_readProject 21 = .ok (.invokevirtual 72, 3) := by decide +kernel
theorem dX7_readProject_24 : decode cX7_readProject 24 = .ok (.aload_n 0, 1) := by decide +kernel
theorem dX7_readProject_25 : decode cX7_readProject 25 = .ok (.invokevirtual 124, 3) := by decide +kernel
theorem dX7_readProject_28 : decode cX7_readProject 28 = .ok (.ifCond .ne 9, 3) := by decide +kernel
theorem dX7_readProject_31 : decode cX7_readProject 31 = .ok (.aload_n 0, 1) := by decide +kernel
theorem dX7_readProject_32 : decode cX7_readProject 32 = .ok (.iconst 1, 1) := by decide +kernel
theorem dX7_readProject_33 : decode cX7_readProject 33 = .ok (.invokevirtual 106, 3) := by decide +kernel
theorem dX7_readProject_36 : decode cX7_readProject 36 = .ok (.ireturn, 1) := by decide +kernel
theorem dX7_readProject_37 : decode cX7_readProject 37 = .ok (.aload_n 0, 1) := by decide +kernel
theorem dX7_readProject_38 : decode cX7_readProject 38 = .ok (.invokevirtual 127, 3) := by decide +kernel
theorem dX7_readProject_41 : decode cX7_readProject 41 = .ok (.iconst (-1), 1) := by decide +kernel
theorem dX7_readProject_42 : decode cX7_readProject 42 = .ok (.if_icmp .eq 9, 3) := by decide +kernel
theorem dX7_readProject_45 : decode cX7_readProject 45 = .ok (.aload_n 0, 1) := by decide +kernel
theorem dX7_readProject_46 : decode cX7_readProject 46 = .ok (.iconst 3, 1) := by decide +kernel
theorem dX7_readProject_47 : decode cX7_readProject 47 = .ok (.invokevirtual 106, 3) := by decide +kernel
theorem dX7_readProject_50 : decode cX7_readProject 50 = .ok (.ireturn, 1) := by decide +kernel
theorem dX7_readProject_51 : decode cX7_readProject 51 = .ok (.iconst 0, 1) := by decide +kernel
theorem dX7_readProject_52 : decode cX7_readProject 52 = .ok (.istore_n 2, 1) := by decide +kernel
theorem dX7_readProject_53 : decode cX7_readProject 53 = .ok (.iload_n 2, 1) := by decide +kernel
theorem dX7_readProject_54 : decode cX7_readProject 54 = .ok (.bipush 6, 2) := by decide +kernel
theorem dX7_readProject_56 : decode cX7_readProject 56 = .ok (.if_icmp .ge 28, 3) := by decide +kernel
theorem dX7_readProject_59 : decode cX7_readProject 59 = .ok (.aload_n 0, 1) := by decide +kernel
theorem dX7_readProject_60 : decode cX7_readProject 60 = .ok (.getfield 12, 3) := by decide +kernel
theorem dX7_readProject_63 : decode cX7_readProject 63 = .ok (.getfield 131, 3) := by decide +kernel
theorem dX7_readProject_66 : decode cX7_readProject 66 = .ok (.iload_n 1, 1) := by decide +kernel
theorem dX7_readProject_67 : decode cX7_readProject 67 = .ok (.bipush 6, 2) := by decide +kernel
theorem dX7_readProject_69 : decode cX7_readProject 69 = .ok (.imul, 1) := by decide +kernel
theorem dX7_readProject_70 : decode cX7_readProject 70 = .ok (.iload_n 2, 1) := by decide +kernel
theorem dX7_readProject_71 : decode cX7_readProject 71 = .ok (.iadd, 1) := by decide +kernel
theorem dX7_readProject_72 : decode cX7_readProject 72 = .ok (.aload_n 0, 1) := by decide +kernel
theorem dX7_readProject_73 : decode cX7_readProject 73 = .ok (.iload_n 2, 1) := by decide +kernel
theorem dX7_readProject_74 : decode cX7_readProject 74 = .ok (.invokevirtual 134, 3) := by decide +kernel
theorem dX7_readProject_77 : decode cX7_readProject 77 = .ok (.iastore, 1) := by decide +kernel
theorem dX7_readProject_78 : decode cX7_readProject 78 = .ok (.iinc 2 1, 3) := by decide +kernel
theorem dX7_readProject_81 : decode cX7_readProject 81 = .ok (.goto (-28), 3) := by decide +kernel
theorem dX7_readProject_84 : decode cX7_readProject 84 = .ok (.aload_n 0, 1) := by decide +kernel
theorem dX7_readProject_85 : decode cX7_readProject 85 = .ok (.iconst 1, 1) := by decide +kernel
theorem dX7_readProject_86 : decode cX7_readProject 86 = .ok (.sipush 9999, 3) := by decide +kernel
theorem dX7_readProject_89 : decode cX7_readProject 89 = .ok (.invokevirtual 114, 3) := by decide +kernel
theorem dX7_readProject_92 : decode cX7_readProject 92 = .ok (.ifCond .ne 5, 3) := by decide +kernel
theorem dX7_readProject_95 : decode cX7_readProject 95 = .ok (.iconst 0, 1) := by decide +kernel
theorem dX7_readProject_96 : decode cX7_readProject 96 = .ok (.ireturn, 1) := by decide +kernel
theorem dX7_readProject_97 : decode cX7_readProject 97 = .ok (.aload_n 0, 1) := by decide +kernel
theorem dX7_readProject_98 : decode cX7_readProject 98 = .ok (.getfield 12, 3) := by decide +kernel
theorem dX7_readProject_101 : decode cX7_readProject 101 = .ok (.getfield 138, 3) := by decide +kernel
theorem dX7_readProject_104 : decode cX7_readProject 104 = .ok (.iload_n 1, 1) := by decide +kernel
theorem dX7_readProject_105 : decode cX7_readProject 105 = .ok (.aload_n 0, 1) := by decide +kernel
theorem dX7_readProject_106 : decode cX7_readProject 106 = .ok (.getfield 44, 3) := by decide +kernel
theorem dX7_readProject_109 : decode cX7_readProject 109 = .ok (.iastore, 1) := by decide +kernel
theorem dX7_readProject_110 : decode cX7_readProject 110 = .ok (.aload_n 0, 1) := by decide +kernel
theorem dX7_readProject_111 : decode cX7_readProject 111 = .ok (.getfield 12, 3) := by decide +kernel
theorem dX7_readProject_114 : decode cX7_readProject 114 = .ok (.dup, 1) := by decide +kernel
theorem dX7_readProject_115 : decode cX7_readProject 115 = .ok (.getfield 121, 3) := by decide +kernel
theorem dX7_readProject_118 : decode cX7_readProject 118 = .ok (.iconst 1, 1) := by decide +kernel
theorem dX7_readProject_119 : decode cX7_readProject 119 = .ok (.iadd, 1) := by decide +kernel
theorem dX7_readProject_120 : decode cX7_readProject 120 = .ok (.putfield 121, 3) := by decide +kernel
theorem dX7_readProject_123 : decode cX7_readProject 123 = .ok (.iconst 1, 1) := by decide +kernel
theorem dX7_readProject_124 : decode cX7_readProject 124 = .ok (.ireturn, 1) := by decide +kernel
def bX7_readProject_53 (Y : XS) (n : Nat) (v0 : Nat) (v1 : Int32) (s53 : (Int32 × PS)) : Option ((Int32 × PS) ⊕ PS) :=
  (if (6 : Int32) ≤ s53.1 then some (.inr s53.2) else kgr s53.2 v0 0 (fun b60 => kgr s53.2 b60 5 (fun b63 => kc (fX7_letter Y n s53.2 v0 s53.1) (fun q74 => kwi Y s53.2 b63 ((v1 * (6 : Int32)) + s53.1) q74 (fun S77 => some (.inl (s53.1 + (1 : Int32), S77)))))))
def fX7_readProject (Y : XS) (n : Nat) (S : PS) (a0 : Nat) : Option (Int32 × PS) :=
  kgr S a0 0 (fun b1 => kgi S b1 1 (fun x4 => (if x4 < (12 : Int32) then kc (fX7_next Y n S a0) (fun q21 => kc (fX7_isName Y n q21 a0) (fun q25 => (if q25 = 0 then kc (fX7_wrong Y n q21 a0 (1 : Int32)) (fun q33 => kzr q33.1 (some (q33.1, q33.2))) else kc (fX7_named Y n q21 a0) (fun q38 => (if q38 = (-1 : Int32) then kc (iter (bX7_readProject_53 Y n a0 x4) n ((0 : Int32), q21)) (fun r53 => kc (fX7_readNumber Y n r53 a0 (1 : Int32) (9999 : Int32)) (fun q89 => (if q89.1 = 0 then kzr (0 : Int32) (some ((0 : Int32), q89.2)) else kgr q89.2 a0 0 (fun b98 => kgr q89.2 b98 4 (fun b101 => kgi q89.2 a0 9 (fun x106 => kwi Y q89.2 b101 x4 x106 (fun S109 => kgr S109 a0 0 (fun b111 => kgi S109 b111 1 (fun x115 => kpi S109 b111 1 (x115 + (1 : Int32)) (fun S120 => kzr (1 : Int32) (some ((1 : Int32), S120)))))))))))) else kc (fX7_wrong Y n q21 a0 (3 : Int32)) (fun q47 => kzr q47.1 (some (q47.1, q47.2)))))))) else kc (fX7_wrong Y n S a0 (4 : Int32)) (fun q16 => kzr q16.1 (some (q16.1, q16.2))))))
theorem wbX7_readProject_53 {C : CT} {X : XT} (hC : CK C RX7 cX7_readProject 3 (some .boolean) 7) (n : Nat) (v0 : Nat) (v1 : Int32) (hTv0 : Ty X.2.1 v0 7) (s53 : (Int32 × PS)) {o : (Int32 × PS) ⊕ PS} (hf : bX7_readProject_53 X.2.1 n v0 v1 s53 = some o) (hN : ∀ s', o = .inl s' → UW C X s'.2 53 [(0, .ref (X.1 v0)), (1, .int v1), (2, .int s'.1)] []) (hO0 : ∀ p', o = .inr p' → UW C X p' 84 [(0, .ref (X.1 v0)), (1, .int v1)] []) : UW C X s53.2 53 [(0, .ref (X.1 v0)), (1, .int v1), (2, .int s53.1)] [] := by
  unfold bX7_readProject_53 at hf
  refine u_iload_n hC dX7_readProject_53 2 rfl rfl ?_
  refine u_bipush (v := (6 : Int32)) hC dX7_readProject_54 (by decide) ?_
  refine u_icmp_ge (tgt := 84) hC dX7_readProject_56 (by decide) hf (fun h56 hf => ?_) (fun h56 hf => ?_)
  · refine u_sub (lv' := [(0, .ref (X.1 v0)), (1, .int v1)]) [0, 1] rfl ?_
    exact hO0 _ (Option.some.inj hf).symm
  · refine u_aload_n hC dX7_readProject_59 0 rfl rfl ?_
    refine u_gr hC lf_X7_12 rfl hTv0 dX7_readProject_60 hf (fun b60 hTb60 hf => ?_)
    refine u_gr hC lf_X7_131 rfl hTb60 dX7_readProject_63 hf (fun b63 hTb63 hf => ?_)
    refine u_iload_n hC dX7_readProject_66 1 rfl rfl ?_
    refine u_bipush (v := (6 : Int32)) hC dX7_readProject_67 (by decide) ?_
    refine u_imul hC dX7_readProject_69 ?_
    refine u_iload_n hC dX7_readProject_70 2 rfl rfl ?_
    refine u_iadd hC dX7_readProject_71 ?_
    refine u_aload_n hC dX7_readProject_72 0 rfl rfl ?_
    refine u_iload_n hC dX7_readProject_73 2 rfl rfl ?_
    obtain ⟨q74, hq74, hf⟩ := kc_some hf
    refine u_callV hC (ctX7_letter (cL C) hC.tr (cG C) X.1 X.2.1 n s53.2 v0 s53.1 hTv0 hq74) lk_X7_134 rfl hTv0 (by decide) rfl (by decide) (by decide) rfl rfl (Nat.le_of_ble_eq_true rfl) dX7_readProject_74 ?_
    refine u_wi hC hTb63 dX7_readProject_77 hf (fun S77 hf => ?_)
    refine u_iinc (v := s53.1 + (1 : Int32)) (lv' := [(2, .int (s53.1 + (1 : Int32))), (0, .ref (X.1 v0)), (1, .int v1)]) hC dX7_readProject_78 2 rfl rfl (by decide) rfl ?_
    refine u_goto (tgt := 53) hC dX7_readProject_81 (by decide) ?_
    refine u_sub (lv' := [(0, .ref (X.1 v0)), (1, .int v1), (2, .int (s53.1 + (1 : Int32)))]) [1, 2, 0] rfl ?_
    exact hN _ (Option.some.inj hf).symm
theorem wX7_readProject {C : CT} {X : XT} (hC : CK C RX7 cX7_readProject 3 (some .boolean) 7) (n : Nat) (S : PS) (a0 : Nat) (hTa0 : Ty X.2.1 a0 7) {o : Int32 × PS} (hf : fX7_readProject X.2.1 n S a0 = some o) (hR : Rt C X cX7_readProject (some .boolean) (some (.int o.1)) o.2) : UW C X S 0 [(0, .ref (X.1 a0))] [] := by
  unfold fX7_readProject at hf
  refine u_aload_n hC dX7_readProject_0 0 rfl rfl ?_
  refine u_gr hC lf_X7_12 rfl hTa0 dX7_readProject_1 hf (fun b1 hTb1 hf => ?_)
  refine u_gi hC lf_X7_121 rfl hTb1 dX7_readProject_4 hf (fun x4 hf => ?_)
  refine u_istore_n (lv' := [(1, .int x4), (0, .ref (X.1 a0))]) hC dX7_readProject_7 rfl (by decide) rfl ?_
  refine u_iload_n hC dX7_readProject_8 0 rfl rfl ?_
  refine u_bipush (v := (12 : Int32)) hC dX7_readProject_9 (by decide) ?_
  refine u_icmp_lt (tgt := 20) hC dX7_readProject_11 (by decide) hf (fun h11 hf => ?_) (fun h11 hf => ?_)
  · refine u_aload_n hC dX7_readProject_20 1 rfl rfl ?_
    obtain ⟨q21, hq21, hf⟩ := kc_some hf
    refine u_callV hC (ctX7_next (cL C) hC.tr (cG C) X.1 X.2.1 n S a0 hTa0 hq21) lk_X7_72 rfl hTa0 (by decide) rfl (by decide) (by decide) rfl rfl (Nat.le_of_ble_eq_true rfl) dX7_readProject_21 ?_
    refine u_aload_n hC dX7_readProject_24 1 rfl rfl ?_
    obtain ⟨q25, hq25, hf⟩ := kc_some hf
    refine u_callV hC (ctX7_isName (cL C) hC.tr (cG C) X.1 X.2.1 n q21 a0 hTa0 hq25) lk_X7_124 rfl hTa0 (by decide) rfl (by decide) (by decide) rfl rfl (Nat.le_of_ble_eq_true rfl) dX7_readProject_25 ?_
    refine u_if_ne (tgt := 37) hC dX7_readProject_28 (by decide) hf (fun h28 hf => ?_) (fun h28 hf => ?_)
    · refine u_aload_n hC dX7_readProject_37 1 rfl rfl ?_
      obtain ⟨q38, hq38, hf⟩ := kc_some hf
      refine u_callV hC (ctX7_named (cL C) hC.tr (cG C) X.1 X.2.1 n q21 a0 hTa0 hq38) lk_X7_127 rfl hTa0 (by decide) rfl (by decide) (by decide) rfl rfl (Nat.le_of_ble_eq_true rfl) dX7_readProject_38 ?_
      refine u_iconst (v := (-1 : Int32)) hC dX7_readProject_41 (by decide) ?_
      refine u_icmp_eq (tgt := 51) hC dX7_readProject_42 (by decide) hf (fun h42 hf => ?_) (fun h42 hf => ?_)
      · refine u_iconst (v := (0 : Int32)) hC dX7_readProject_51 (by decide) ?_
        refine u_istore_n (lv' := [(2, .int (0 : Int32)), (1, .int x4), (0, .ref (X.1 a0))]) hC dX7_readProject_52 rfl (by decide) rfl ?_
        obtain ⟨r53, hr53, hf⟩ := kc_some hf
        have hk53 : UW C X r53 84 [(0, .ref (X.1 a0)), (1, .int x4)] [] := by
          refine u_aload_n hC dX7_readProject_84 0 rfl rfl ?_
          refine u_iconst (v := (1 : Int32)) hC dX7_readProject_85 (by decide) ?_
          refine u_sipush (v := (9999 : Int32)) hC dX7_readProject_86 (by decide) ?_
          obtain ⟨q89, hq89, hf⟩ := kc_some hf
          refine u_callV hC (ctX7_readNumber (cL C) hC.tr (cG C) X.1 X.2.1 n r53 a0 (1 : Int32) (9999 : Int32) hTa0 hq89) lk_X7_114 rfl hTa0 (by decide) rfl (by decide) (by decide) rfl rfl (Nat.le_of_ble_eq_true rfl) dX7_readProject_89 ?_
          refine u_if_ne (tgt := 97) hC dX7_readProject_92 (by decide) hf (fun h92 hf => ?_) (fun h92 hf => ?_)
          · refine u_aload_n hC dX7_readProject_97 0 rfl rfl ?_
            refine u_gr hC lf_X7_12 rfl hTa0 dX7_readProject_98 hf (fun b98 hTb98 hf => ?_)
            refine u_gr hC lf_X7_138 rfl hTb98 dX7_readProject_101 hf (fun b101 hTb101 hf => ?_)
            refine u_iload_n hC dX7_readProject_104 1 rfl rfl ?_
            refine u_aload_n hC dX7_readProject_105 0 rfl rfl ?_
            refine u_gi hC lf_X7_44 rfl hTa0 dX7_readProject_106 hf (fun x106 hf => ?_)
            refine u_wi hC hTb101 dX7_readProject_109 hf (fun S109 hf => ?_)
            refine u_aload_n hC dX7_readProject_110 0 rfl rfl ?_
            refine u_gr hC lf_X7_12 rfl hTa0 dX7_readProject_111 hf (fun b111 hTb111 hf => ?_)
            refine u_dup hC dX7_readProject_114 rfl ?_
            refine u_gi hC lf_X7_121 rfl hTb111 dX7_readProject_115 hf (fun x115 hf => ?_)
            refine u_iconst (v := (1 : Int32)) hC dX7_readProject_118 (by decide) ?_
            refine u_iadd hC dX7_readProject_119 ?_
            refine u_pi hC lf_X7_121 rfl rfl rfl hTb111 dX7_readProject_120 hf (fun S120 hf => ?_)
            refine u_iconst (v := (1 : Int32)) hC dX7_readProject_123 (by decide) ?_
            obtain ⟨hz, hf⟩ := kzr_some hf
            cases hf
            exact hR _ _ dX7_readProject_124 hz
          · refine u_iconst (v := (0 : Int32)) hC dX7_readProject_95 (by decide) ?_
            obtain ⟨hz, hf⟩ := kzr_some hf
            cases hf
            exact hR _ _ dX7_readProject_96 hz
        refine u_sub (lv' := [(0, .ref (X.1 a0)), (1, .int x4), (2, .int (0 : Int32))]) [2, 1, 0] rfl ?_
        refine iter_ind (P := fun s53 => UW C X s53.2 53 [(0, .ref (X.1 a0)), (1, .int x4), (2, .int s53.1)] []) (fun s53 o' hb hin hout => ?_) n ((0 : Int32), q21) hr53
        exact wbX7_readProject_53 hC n a0 x4 hTa0 s53 hb hin (fun p e => by rw [hout p e]; exact hk53)
      · refine u_aload_n hC dX7_readProject_45 1 rfl rfl ?_
        refine u_iconst (v := (3 : Int32)) hC dX7_readProject_46 (by decide) ?_
        obtain ⟨q47, hq47, hf⟩ := kc_some hf
        refine u_callV hC (ctX7_wrong (cL C) hC.tr (cG C) X.1 X.2.1 n q21 a0 (3 : Int32) hTa0 hq47) lk_X7_106 rfl hTa0 (by decide) rfl (by decide) (by decide) rfl rfl (Nat.le_of_ble_eq_true rfl) dX7_readProject_47 ?_
        obtain ⟨hz, hf⟩ := kzr_some hf
        cases hf
        exact hR _ _ dX7_readProject_50 hz
    · refine u_aload_n hC dX7_readProject_31 1 rfl rfl ?_
      refine u_iconst (v := (1 : Int32)) hC dX7_readProject_32 (by decide) ?_
      obtain ⟨q33, hq33, hf⟩ := kc_some hf
      refine u_callV hC (ctX7_wrong (cL C) hC.tr (cG C) X.1 X.2.1 n q21 a0 (1 : Int32) hTa0 hq33) lk_X7_106 rfl hTa0 (by decide) rfl (by decide) (by decide) rfl rfl (Nat.le_of_ble_eq_true rfl) dX7_readProject_33 ?_
      obtain ⟨hz, hf⟩ := kzr_some hf
      cases hf
      exact hR _ _ dX7_readProject_36 hz
  · refine u_aload_n hC dX7_readProject_14 1 rfl rfl ?_
    refine u_iconst (v := (4 : Int32)) hC dX7_readProject_15 (by decide) ?_
    obtain ⟨q16, hq16, hf⟩ := kc_some hf
    refine u_callV hC (ctX7_wrong (cL C) hC.tr (cG C) X.1 X.2.1 n S a0 (4 : Int32) hTa0 hq16) lk_X7_106 rfl hTa0 (by decide) rfl (by decide) (by decide) rfl rfl (Nat.le_of_ble_eq_true rfl) dX7_readProject_16 ?_
    obtain ⟨hz, hf⟩ := kzr_some hf
    cases hf
    exact hR _ _ dX7_readProject_19 hz
theorem ctX7_readProject (l : Launch) (hl : l.stackTraces = false) (G : GT) (ρ : Nat → Nat) (Y : XS) (n : Nat) (S : PS) (a0 : Nat) (hTa0 : Ty Y a0 7) {o : Int32 × PS} (hf : fX7_readProject Y n S a0 = some o) : Mt l G yX7_readProject cX7_readProject 3 (some .boolean) 7 ρ Y [.ref (ρ a0)] S (some (.int o.1)) o.2 :=
  Mt_of hl (by decide) (Nat.le_of_ble_eq_true rfl) (fun C _ _ hC hR => wX7_readProject (X := (ρ, Y, 0, 0)) hC n S a0 hTa0 hf hR)
-- X7_readVotes
theorem dX7_readVotes_0 : decode cX7_readVotes 0 = .ok (.aload_n 0, 1) := by decide +kernel
theorem dX7_readVotes_1 : decode cX7_readVotes 1 = .ok (.iconst 1, 1) := by decide +kernel
theorem dX7_readVotes_2 : decode cX7_readVotes 2 = .ok (.bipush 9, 2) := by decide +kernel
theorem dX7_readVotes_4 : decode cX7_readVotes 4 = .ok (.invokevirtual 114, 3) := by decide +kernel
theorem dX7_readVotes_7 : decode cX7_readVotes 7 = .ok (.ifCond .ne 5, 3) := by decide +kernel
theorem dX7_readVotes_10 : decode cX7_readVotes 10 = .ok (.iconst 0, 1) := by decide +kernel
theorem dX7_readVotes_11 : decode cX7_readVotes 11 = .ok (.ireturn, 1) := by decide +kernel
theorem dX7_readVotes_12 : decode cX7_readVotes 12 = .ok (.aload_n 0, 1) := by decide +kernel
theorem dX7_readVotes_13 : decode cX7_readVotes 13 = .ok (.getfield 12, 3) := by decide +kernel
theorem dX7_readVotes_16 : decode cX7_readVotes 16 = .ok (.getfield 141, 3) := by decide +kernel
theorem dX7_readVotes_19 : decode cX7_readVotes 19 = .ok (.istore_n 1, 1) := by decide +kernel
theorem dX7_readVotes_20 : decode cX7_readVotes 20 = .ok (.iload_n 1, 1) := by decide +kernel
theorem dX7_readVotes_21 : decode cX7_readVotes 21 = .ok (.aload_n 0, 1) := by decide +kernel
theorem dX7_readVotes_22 : decode cX7_readVotes 22 = .ok (.getfield 44, 3) := by decide +kernel
theorem dX7_readVotes_25 : decode cX7_readVotes 25 = .ok (.iadd, 1) := by decide +kernel
theorem dX7_readVotes_26 : decode cX7_readVotes 26 = .ok (.istore_n 2, 1) := by decide +kernel
theorem dX7_readVotes_27 : decode cX7_readVotes 27 = .ok (.iload_n 2, 1) := by decide +kernel
theorem dX7_readVotes_28 : decode cX7_readVotes 28 = .ok (.bipush 24, 2) := by decide +kernel
theorem dX7_readVotes_30 : decode cX7_readVotes 30 = .ok (.if_icmp .le 9, 3) := by decide +kernel
theorem dX7_readVotes_33 : decode cX7_readVotes 33 = .ok (.aload_n 0, 1) := by decide +kernel
theorem dX7_readVotes_34 : decode cX7_readVotes 34 = .ok (.iconst 4, 1) := by decide +kernel
theorem dX7_readVotes_35 : decode cX7_readVotes 35 = .ok (.invokevirtual 106, 3) := by decide +kernel
theorem dX7_readVotes_38 : decode cX7_readVotes 38 = .ok (.ireturn, 1) := by decide +kernel
theorem dX7_readVotes_39 : decode cX7_readVotes 39 = .ok (.aload_n 0, 1) := by decide +kernel
theorem dX7_readVotes_40 : decode cX7_readVotes 40 = .ok (.getfield 12, 3) := by decide +kernel
theorem dX7_readVotes_43 : decode cX7_readVotes 43 = .ok (.iload_n 2, 1) := by decide +kernel
theorem dX7_readVotes_44 : decode cX7_readVotes 44 = .ok (.putfield 141, 3) := by decide +kernel
theorem dX7_readVotes_47 : decode cX7_readVotes 47 = .ok (.iconst 0, 1) := by decide +kernel
theorem dX7_readVotes_48 : decode cX7_readVotes 48 = .ok (.istore_n 3, 1) := by decide +kernel
theorem dX7_readVotes_49 : decode cX7_readVotes 49 = .ok (.iconst 0, 1) := by decide +kernel
theorem dX7_readVotes_50 : decode cX7_readVotes 50 = .ok (.istore 4, 2) := by decide +kernel
theorem dX7_readVotes_52 : decode cX7_readVotes 52 = .ok (.iload 4, 2) := by decide +kernel
theorem dX7_readVotes_54 : decode cX7_readVotes 54 = .ok (.bipush 12, 2) := by decide +kernel
theorem dX7_readVotes_56 : decode cX7_readVotes 56 = .ok (.if_icmp .gt 127, 3) := by decide +kernel
theorem dX7_readVotes_59 : decode cX7_readVotes 59 = .ok (.aload_n 0, 1) := by decide +kernel
theorem dX7_readVotes_60 : decode cX7_readVotes 60 = .ok (.invokevirtual 72, 3) := by decide +kernel
theorem dX7_readVotes_63 : decode cX7_readVotes 63 = .ok (.aload_n 0, 1) := by decide +kernel
theorem dX7_readVotes_64 : decode cX7_readVotes 64 = .ok (.bipush 59, 2) := by decide +kernel
theorem dX7_readVotes_66 : decode cX7_readVotes 66 = .ok (.invokevirtual 110, 3) := by decide +kernel
theorem dX7_readVotes_69 : decode cX7_readVotes 69 = .ok (.ifCond .eq 5, 3) := by decide +kernel
theorem dX7_readVotes_72 : decode cX7_readVotes 72 = .ok (.iconst 1, 1) := by decide +kernel
theorem dX7_readVotes_73 : decode cX7_readVotes 73 = .ok (.ireturn, 1) := by decide +kernel
theorem dX7_readVotes_74 : decode cX7_readVotes 74 = .ok (.aload_n 0, 1) := by decide +kernel
theorem dX7_readVotes_75 : decode cX7_readVotes 75 = .ok (.invokevirtual 124, 3) := by decide +kernel
theorem dX7_readVotes_78 : decode cX7_readVotes 78 = .ok (.ifCond .eq 10, 3) := by decide +kernel
theorem dX7_readVotes_81 : decode cX7_readVotes 81 = .ok (.aload_n 0, 1) := by decide +kernel
theorem dX7_readVotes_82 : decode cX7_readVotes 82 = .ok (.invokevirtual 127, 3) := by decide +kernel
theorem dX7_readVotes_85 : decode cX7_readVotes 85 = .ok (.goto 4, 3) := by decide +kernel
theorem dX7_readVotes_88 : decode cX7_readVotes 88 = .ok (.iconst (-1), 1) := by decide +kernel
theorem dX7_readVotes_89 : decode cX7_readVotes 89 = .ok (.istore 5, 2) := by decide +kernel
theorem dX7_readVotes_91 : decode cX7_readVotes 91 = .ok (.iload 5, 2) := by decide +kernel
theorem dX7_readVotes_93 : decode cX7_readVotes 93 = .ok (.iconst (-1), 1) := by decide +kernel
theorem dX7_readVotes_94 : decode cX7_readVotes 94 = .ok (.if_icmp .eq 12, 3) := by decide +kernel
theorem dX7_readVotes_97 : decode cX7_readVotes 97 = .ok (.iload 5, 2) := by decide +kernel
theorem dX7_readVotes_99 : decode cX7_readVotes 99 = .ok (.iload_n 3, 1) := by decide +kernel
theorem dX7_readVotes_100 : decode cX7_readVotes 100 = .ok (.invokestatic 144, 3) := by decide +kernel
theorem dX7_readVotes_103 : decode cX7_readVotes 103 = .ok (.ifCond .eq 20, 3) := by decide +kernel
theorem dX7_readVotes_106 : decode cX7_readVotes 106 = .ok (.aload_n 0, 1) := by decide +kernel
theorem dX7_readVotes_107 : decode cX7_readVotes 107 = .ok (.aload_n 0, 1) := by decide +kernel
theorem dX7_readVotes_108 : decode cX7_readVotes 108 = .ok (.invokevirtual 124, 3) := by decide +kernel
theorem dX7_readVotes_111 : decode cX7_readVotes 111 = .ok (.ifCond .eq 7, 3) := by decide +kernel
theorem dX7_readVotes_114 : decode cX7_readVotes 114 = .ok (.iconst 3, 1) := by decide +kernel
theorem dX7_readVotes_115 : decode cX7_readVotes 115 = .ok (.goto 4, 3) := by decide +kernel
theorem dX7_readVotes_118 : decode cX7_readVotes 118 = .ok (.iconst 1, 1) := by decide +kernel
theorem dX7_readVotes_119 : decode cX7_readVotes 119 = .ok (.invokevirtual 106, 3) := by decide +kernel
theorem dX7_readVotes_122 : decode cX7_readVotes 122 = .ok (.ireturn, 1) := by decide +kernel
theorem dX7_readVotes_123 : decode cX7_readVotes 123 = .ok (.iload_n 3, 1) := by decide +kernel
theorem dX7_readVotes_124 : decode cX7_readVotes 124 = .ok (.iconst 1, 1) := by decide +kernel
theorem dX7_readVotes_125 : decode cX7_readVotes 125 = .ok (.iload 5, 2) := by decide +kernel
theorem dX7_readVotes_127 : decode cX7_readVotes 127 = .ok (.ishl, 1) := by decide +kernel
theorem dX7_readVotes_128 : decode cX7_readVotes 128 = .ok (.ior, 1) := by decide +kernel
theorem dX7_readVotes_129 : decode cX7_readVotes 129 = .ok (.istore_n 3, 1) := by decide +kernel
theorem dX7_readVotes_130 : decode cX7_readVotes 130 = .ok (.aload_n 0, 1) := by decide +kernel
theorem dX7_readVotes_131 : decode cX7_readVotes 131 = .ok (.iconst 0, 1) := by decide +kernel
theorem dX7_readVotes_132 : decode cX7_readVotes 132 = .ok (.bipush 9, 2) := by decide +kernel
theorem dX7_readVotes_134 : decode cX7_readVotes 134 = .ok (.invokevirtual 114, 3) := by decide +kernel
theorem dX7_readVotes_137 : decode cX7_readVotes 137 = .ok (.ifCond .ne 5, 3) := by decide +kernel
theorem dX7_readVotes_140 : decode cX7_readVotes 140 = .ok (.iconst 0, 1) := by decide +kernel
theorem dX7_readVotes_141 : decode cX7_readVotes 141 = .ok (.ireturn, 1) := by decide +kernel
theorem dX7_readVotes_142 : decode cX7_readVotes 142 = .ok (.iload_n 1, 1) := by decide +kernel
theorem dX7_readVotes_143 : decode cX7_readVotes 143 = .ok (.istore 6, 2) := by decide +kernel
theorem dX7_readVotes_145 : decode cX7_readVotes 145 = .ok (.iload 6, 2) := by decide +kernel
theorem dX7_readVotes_147 : decode cX7_readVotes 147 = .ok (.iload_n 2, 1) := by decide +kernel
theorem dX7_readVotes_148 : decode cX7_readVotes 148 = .ok (.if_icmp .ge 29, 3) := by decide +kernel
theorem dX7_readVotes_151 : decode cX7_readVotes 151 = .ok (.aload_n 0, 1) := by decide +kernel
theorem dX7_readVotes_152 : decode cX7_readVotes 152 = .ok (.getfield 12, 3) := by decide +kernel
theorem dX7_readVotes_155 : decode cX7_readVotes 155 = .ok (.getfield 147, 3) := by decide +kernel
theorem dX7_readVotes_158 : decode cX7_readVotes 158 = .ok (.iload 5, 2) := by decide +kernel
theorem dX7_readVotes_160 : decode cX7_readVotes 160 = .ok (.bipush 24, 2) := by decide +kernel
theorem dX7_readVotes_162 : decode cX7_readVotes 162 = .ok (.imul, 1) := by decide +kernel
theorem dX7_readVotes_163 : decode cX7_readVotes 163 = .ok (.iload 6, 2) := by decide +kernel
theorem dX7_readVotes_165 : decode cX7_readVotes 165 = .ok (.iadd, 1) := by decide +kernel
theorem dX7_readVotes_166 : decode cX7_readVotes 166 = .ok (.aload_n 0, 1) := by decide +kernel
theorem dX7_readVotes_167 : decode cX7_readVotes 167 = .ok (.getfield 44, 3) := by decide +kernel
theorem dX7_readVotes_170 : decode cX7_readVotes 170 = .ok (.iastore, 1) := by decide +kernel
theorem dX7_readVotes_171 : decode cX7_readVotes 171 = .ok (.iinc 6 1, 3) := by decide +kernel
theorem dX7_readVotes_174 : decode cX7_readVotes 174 = .ok (.goto (-29), 3) := by decide +kernel
theorem dX7_readVotes_177 : decode cX7_readVotes 177 = .ok (.iinc 4 1, 3) := by decide +kernel
theorem dX7_readVotes_180 : decode cX7_readVotes 180 = .ok (.goto (-128), 3) := by decide +kernel
theorem dX7_readVotes_183 : decode cX7_readVotes 183 = .ok (.aload_n 0, 1) := by decide +kernel
theorem dX7_readVotes_184 : decode cX7_readVotes 184 = .ok (.iconst 1, 1) := by decide +kernel
theorem dX7_readVotes_185 : decode cX7_readVotes 185 = .ok (.invokevirtual 106, 3) := by decide +kernel
theorem dX7_readVotes_188 : decode cX7_readVotes 188 = .ok (.ireturn, 1) := by decide +kernel
def jX7_readVotes_119_52 (Y : XS) (n : Nat) (S : PS) (t0 : Int32) (t1 : Nat) : Option ((Int32 × Int32 × PS) ⊕ (PS ⊕ (Int32 × PS))) :=
  kc (fX7_wrong Y n S t1 t0) (fun q119 => kzr q119.1 (some (.inr (.inr (q119.1, q119.2)))))
def jX7_readVotes_106_52 (Y : XS) (n : Nat) (S : PS) (v0 : Nat) : Option ((Int32 × Int32 × PS) ⊕ (PS ⊕ (Int32 × PS))) :=
  kc (fX7_isName Y n S v0) (fun q108 => (if q108 = 0 then jX7_readVotes_119_52 Y n S (1 : Int32) v0 else jX7_readVotes_119_52 Y n S (3 : Int32) v0))
def bX7_readVotes_145 (Y : XS) (n : Nat) (v0 : Nat) (v1 : Int32) (v2 : Int32) (v3 : Int32) (v4 : Int32) (v5 : Int32) (s145 : (Int32 × PS)) : Option ((Int32 × PS) ⊕ PS) :=
  (if v2 ≤ s145.1 then some (.inr s145.2) else kgr s145.2 v0 0 (fun b152 => kgr s145.2 b152 6 (fun b155 => kgi s145.2 v0 9 (fun x167 => kwi Y s145.2 b155 ((v5 * (24 : Int32)) + s145.1) x167 (fun S170 => some (.inl (s145.1 + (1 : Int32), S170)))))))
def jX7_readVotes_89_52 (Y : XS) (n : Nat) (S : PS) (v0 : Nat) (v1 : Int32) (v2 : Int32) (v3 : Int32) (v4 : Int32) (t0 : Int32) : Option ((Int32 × Int32 × PS) ⊕ (PS ⊕ (Int32 × PS))) :=
  (if t0 = (-1 : Int32) then jX7_readVotes_106_52 Y n S v0 else kc (fX10_isIn Y n S t0 v3) (fun q100 => (if q100 = 0 then kc (fX7_readNumber Y n S v0 (0 : Int32) (9 : Int32)) (fun q134 => (if q134.1 = 0 then kzr (0 : Int32) (some (.inr (.inr ((0 : Int32), q134.2)))) else kc (iter (bX7_readVotes_145 Y n v0 v1 v2 (v3 ||| ((1 : Int32) <<< (t0 &&& 31))) v4 t0) n (v1, q134.2)) (fun r145 => some (.inl (v3 ||| ((1 : Int32) <<< (t0 &&& 31)), v4 + (1 : Int32), r145))))) else jX7_readVotes_106_52 Y n S v0)))
def bX7_readVotes_52 (Y : XS) (n : Nat) (v0 : Nat) (v1 : Int32) (v2 : Int32) (s52 : (Int32 × Int32 × PS)) : Option ((Int32 × Int32 × PS) ⊕ (PS ⊕ (Int32 × PS))) :=
  (if (12 : Int32) < s52.2.1 then some (.inr (.inl s52.2.2)) else kc (fX7_next Y n s52.2.2 v0) (fun q60 => kc (fX7_isSign Y n q60 v0 (59 : Int32)) (fun q66 => (if q66 = 0 then kc (fX7_isName Y n q60 v0) (fun q75 => (if q75 = 0 then jX7_readVotes_89_52 Y n q60 v0 v1 v2 s52.1 s52.2.1 (-1 : Int32) else kc (fX7_named Y n q60 v0) (fun q82 => jX7_readVotes_89_52 Y n q60 v0 v1 v2 s52.1 s52.2.1 q82))) else kzr (1 : Int32) (some (.inr (.inr ((1 : Int32), q60))))))))
def fX7_readVotes (Y : XS) (n : Nat) (S : PS) (a0 : Nat) : Option (Int32 × PS) :=
  kc (fX7_readNumber Y n S a0 (1 : Int32) (9 : Int32)) (fun q4 => (if q4.1 = 0 then kzr (0 : Int32) (some ((0 : Int32), q4.2)) else kgr q4.2 a0 0 (fun b13 => kgi q4.2 b13 2 (fun x16 => kgi q4.2 a0 9 (fun x22 => (if (x16 + x22) ≤ (24 : Int32) then kgr q4.2 a0 0 (fun b40 => kpi q4.2 b40 2 (x16 + x22) (fun S44 => kc (iter (bX7_readVotes_52 Y n a0 x16 (x16 + x22)) n ((0 : Int32), (0 : Int32), S44)) (fun r52 => ks r52 (fun p52_0 => kc (fX7_wrong Y n p52_0 a0 (1 : Int32)) (fun q185 => kzr q185.1 (some (q185.1, q185.2)))) (fun p52_1 => some p52_1)))) else kc (fX7_wrong Y n q4.2 a0 (4 : Int32)) (fun q35 => kzr q35.1 (some (q35.1, q35.2)))))))))
theorem wjX7_readVotes_119_52 {C : CT} {X : XT} (hC : CK C RX7 cX7_readVotes 7 (some .boolean) 7) (n : Nat) (S : PS) (t0 : Int32) (t1 : Nat) (v0 : Nat) (v1 : Int32) (v2 : Int32) (hTt1 : Ty X.2.1 t1 7) {o : (Int32 × Int32 × PS) ⊕ (PS ⊕ (Int32 × PS))} (hf : jX7_readVotes_119_52 X.2.1 n S t0 t1 = some o) (hN : ∀ s', o = .inl s' → UW C X s'.2.2 52 [(0, .ref (X.1 v0)), (1, .int v1), (2, .int v2), (3, .int s'.1), (4, .int s'.2.1)] []) (hO0 : ∀ p', o = .inr (.inl p') → UW C X p' 183 [(0, .ref (X.1 v0))] []) (hR : ∀ q', o = .inr (.inr q') → Rt C X cX7_readVotes (some .boolean) (some (.int q'.1)) q'.2) : UW C X S 119 [] [.int t0, .ref (X.1 t1)] := by
  unfold jX7_readVotes_119_52 at hf
  obtain ⟨q119, hq119, hf⟩ := kc_some hf
  refine u_callV hC (ctX7_wrong (cL C) hC.tr (cG C) X.1 X.2.1 n S t1 t0 hTt1 hq119) lk_X7_106 rfl hTt1 (by decide) rfl (by decide) (by decide) rfl rfl (Nat.le_of_ble_eq_true rfl) dX7_readVotes_119 ?_
  obtain ⟨hz, hf⟩ := kzr_some hf
  exact hR _ (Option.some.inj hf).symm _ _ dX7_readVotes_122 hz
theorem wjX7_readVotes_106_52 {C : CT} {X : XT} (hC : CK C RX7 cX7_readVotes 7 (some .boolean) 7) (n : Nat) (S : PS) (v0 : Nat) (v1 : Int32) (v2 : Int32) (hTv0 : Ty X.2.1 v0 7) {o : (Int32 × Int32 × PS) ⊕ (PS ⊕ (Int32 × PS))} (hf : jX7_readVotes_106_52 X.2.1 n S v0 = some o) (hN : ∀ s', o = .inl s' → UW C X s'.2.2 52 [(0, .ref (X.1 v0)), (1, .int v1), (2, .int v2), (3, .int s'.1), (4, .int s'.2.1)] []) (hO0 : ∀ p', o = .inr (.inl p') → UW C X p' 183 [(0, .ref (X.1 v0))] []) (hR : ∀ q', o = .inr (.inr q') → Rt C X cX7_readVotes (some .boolean) (some (.int q'.1)) q'.2) : UW C X S 106 [(0, .ref (X.1 v0))] [] := by
  unfold jX7_readVotes_106_52 at hf
  refine u_aload_n hC dX7_readVotes_106 0 rfl rfl ?_
  refine u_aload_n hC dX7_readVotes_107 0 rfl rfl ?_
  obtain ⟨q108, hq108, hf⟩ := kc_some hf
  refine u_callV hC (ctX7_isName (cL C) hC.tr (cG C) X.1 X.2.1 n S v0 hTv0 hq108) lk_X7_124 rfl hTv0 (by decide) rfl (by decide) (by decide) rfl rfl (Nat.le_of_ble_eq_true rfl) dX7_readVotes_108 ?_
  refine u_if_eq (tgt := 118) hC dX7_readVotes_111 (by decide) hf (fun h111 hf => ?_) (fun h111 hf => ?_)
  · refine u_iconst (v := (1 : Int32)) hC dX7_readVotes_118 (by decide) ?_
    refine u_sub (lv' := []) [] rfl ?_
    exact wjX7_readVotes_119_52 hC n S (1 : Int32) v0 v0 v1 v2 hTv0 hf hN hO0 hR
  · refine u_iconst (v := (3 : Int32)) hC dX7_readVotes_114 (by decide) ?_
    refine u_goto (tgt := 119) hC dX7_readVotes_115 (by decide) ?_
    refine u_sub (lv' := []) [] rfl ?_
    exact wjX7_readVotes_119_52 hC n S (3 : Int32) v0 v0 v1 v2 hTv0 hf hN hO0 hR
theorem wbX7_readVotes_145 {C : CT} {X : XT} (hC : CK C RX7 cX7_readVotes 7 (some .boolean) 7) (n : Nat) (v0 : Nat) (v1 : Int32) (v2 : Int32) (v3 : Int32) (v4 : Int32) (v5 : Int32) (hTv0 : Ty X.2.1 v0 7) (s145 : (Int32 × PS)) {o : (Int32 × PS) ⊕ PS} (hf : bX7_readVotes_145 X.2.1 n v0 v1 v2 v3 v4 v5 s145 = some o) (hN : ∀ s', o = .inl s' → UW C X s'.2 145 [(0, .ref (X.1 v0)), (1, .int v1), (2, .int v2), (3, .int v3), (4, .int v4), (5, .int v5), (6, .int s'.1)] []) (hO0 : ∀ p', o = .inr p' → UW C X p' 177 [(0, .ref (X.1 v0)), (1, .int v1), (2, .int v2), (3, .int v3), (4, .int v4)] []) : UW C X s145.2 145 [(0, .ref (X.1 v0)), (1, .int v1), (2, .int v2), (3, .int v3), (4, .int v4), (5, .int v5), (6, .int s145.1)] [] := by
  unfold bX7_readVotes_145 at hf
  refine u_iload hC dX7_readVotes_145 6 rfl ?_
  refine u_iload_n hC dX7_readVotes_147 2 rfl rfl ?_
  refine u_icmp_ge (tgt := 177) hC dX7_readVotes_148 (by decide) hf (fun h148 hf => ?_) (fun h148 hf => ?_)
  · refine u_sub (lv' := [(0, .ref (X.1 v0)), (1, .int v1), (2, .int v2), (3, .int v3), (4, .int v4)]) [0, 1, 2, 3, 4] rfl ?_
    exact hO0 _ (Option.some.inj hf).symm
  · refine u_aload_n hC dX7_readVotes_151 0 rfl rfl ?_
    refine u_gr hC lf_X7_12 rfl hTv0 dX7_readVotes_152 hf (fun b152 hTb152 hf => ?_)
    refine u_gr hC lf_X7_147 rfl hTb152 dX7_readVotes_155 hf (fun b155 hTb155 hf => ?_)
    refine u_iload hC dX7_readVotes_158 5 rfl ?_
    refine u_bipush (v := (24 : Int32)) hC dX7_readVotes_160 (by decide) ?_
    refine u_imul hC dX7_readVotes_162 ?_
    refine u_iload hC dX7_readVotes_163 6 rfl ?_
    refine u_iadd hC dX7_readVotes_165 ?_
    refine u_aload_n hC dX7_readVotes_166 0 rfl rfl ?_
    refine u_gi hC lf_X7_44 rfl hTv0 dX7_readVotes_167 hf (fun x167 hf => ?_)
    refine u_wi hC hTb155 dX7_readVotes_170 hf (fun S170 hf => ?_)
    refine u_iinc (v := s145.1 + (1 : Int32)) (lv' := [(6, .int (s145.1 + (1 : Int32))), (0, .ref (X.1 v0)), (1, .int v1), (2, .int v2), (3, .int v3), (4, .int v4), (5, .int v5)]) hC dX7_readVotes_171 6 rfl rfl (by decide) rfl ?_
    refine u_goto (tgt := 145) hC dX7_readVotes_174 (by decide) ?_
    refine u_sub (lv' := [(0, .ref (X.1 v0)), (1, .int v1), (2, .int v2), (3, .int v3), (4, .int v4), (5, .int v5), (6, .int (s145.1 + (1 : Int32)))]) [1, 2, 3, 4, 5, 6, 0] rfl ?_
    exact hN _ (Option.some.inj hf).symm
theorem wjX7_readVotes_89_52 {C : CT} {X : XT} (hC : CK C RX7 cX7_readVotes 7 (some .boolean) 7) (n : Nat) (S : PS) (v0 : Nat) (v1 : Int32) (v2 : Int32) (v3 : Int32) (v4 : Int32) (t0 : Int32)  (hTv0 : Ty X.2.1 v0 7) {o : (Int32 × Int32 × PS) ⊕ (PS ⊕ (Int32 × PS))} (hf : jX7_readVotes_89_52 X.2.1 n S v0 v1 v2 v3 v4 t0 = some o) (hN : ∀ s', o = .inl s' → UW C X s'.2.2 52 [(0, .ref (X.1 v0)), (1, .int v1), (2, .int v2), (3, .int s'.1), (4, .int s'.2.1)] []) (hO0 : ∀ p', o = .inr (.inl p') → UW C X p' 183 [(0, .ref (X.1 v0))] []) (hR : ∀ q', o = .inr (.inr q') → Rt C X cX7_readVotes (some .boolean) (some (.int q'.1)) q'.2) : UW C X S 89 [(0, .ref (X.1 v0)), (1, .int v1), (2, .int v2), (3, .int v3), (4, .int v4)] [.int t0] := by
  unfold jX7_readVotes_89_52 at hf
  refine u_istore (lv' := [(5, .int t0), (0, .ref (X.1 v0)), (1, .int v1), (2, .int v2), (3, .int v3), (4, .int v4)]) hC dX7_readVotes_89 (by decide) rfl ?_
  refine u_iload hC dX7_readVotes_91 0 rfl ?_
  refine u_iconst (v := (-1 : Int32)) hC dX7_readVotes_93 (by decide) ?_
  refine u_icmp_eq (tgt := 106) hC dX7_readVotes_94 (by decide) hf (fun h94 hf => ?_) (fun h94 hf => ?_)
  · refine u_sub (lv' := [(0, .ref (X.1 v0))]) [1] rfl ?_
    exact wjX7_readVotes_106_52 hC n S v0 v1 v2 hTv0 hf hN hO0 hR
  · refine u_iload hC dX7_readVotes_97 0 rfl ?_
    refine u_iload_n hC dX7_readVotes_99 4 rfl rfl ?_
    obtain ⟨q100, hq100, hf⟩ := kc_some hf
    refine u_callSN hC (ctX10_isIn (cL C) hC.tr (cG C) X.1 X.2.1 n S t0 v3  hq100) lk_X7_144 ls_X7_144 (by decide) (by decide) rfl rfl (Nat.le_of_ble_eq_true rfl) dX7_readVotes_100 ?_
    refine u_if_eq (tgt := 123) hC dX7_readVotes_103 (by decide) hf (fun h103 hf => ?_) (fun h103 hf => ?_)
    · refine u_iload_n hC dX7_readVotes_123 4 rfl rfl ?_
      refine u_iconst (v := (1 : Int32)) hC dX7_readVotes_124 (by decide) ?_
      refine u_iload hC dX7_readVotes_125 0 rfl ?_
      refine u_ishl hC dX7_readVotes_127 ?_
      refine u_ior hC dX7_readVotes_128 ?_
      refine u_istore_n (lv' := [(3, .int (v3 ||| ((1 : Int32) <<< (t0 &&& 31)))), (5, .int t0), (0, .ref (X.1 v0)), (1, .int v1), (2, .int v2), (4, .int v4)]) hC dX7_readVotes_129 rfl (by decide) rfl ?_
      refine u_aload_n hC dX7_readVotes_130 2 rfl rfl ?_
      refine u_iconst (v := (0 : Int32)) hC dX7_readVotes_131 (by decide) ?_
      refine u_bipush (v := (9 : Int32)) hC dX7_readVotes_132 (by decide) ?_
      obtain ⟨q134, hq134, hf⟩ := kc_some hf
      refine u_callV hC (ctX7_readNumber (cL C) hC.tr (cG C) X.1 X.2.1 n S v0 (0 : Int32) (9 : Int32) hTv0 hq134) lk_X7_114 rfl hTv0 (by decide) rfl (by decide) (by decide) rfl rfl (Nat.le_of_ble_eq_true rfl) dX7_readVotes_134 ?_
      refine u_if_ne (tgt := 142) hC dX7_readVotes_137 (by decide) hf (fun h137 hf => ?_) (fun h137 hf => ?_)
      · refine u_iload_n hC dX7_readVotes_142 3 rfl rfl ?_
        refine u_istore (lv' := [(6, .int v1), (3, .int (v3 ||| ((1 : Int32) <<< (t0 &&& 31)))), (5, .int t0), (0, .ref (X.1 v0)), (1, .int v1), (2, .int v2), (4, .int v4)]) hC dX7_readVotes_143 (by decide) rfl ?_
        obtain ⟨r145, hr145, hf⟩ := kc_some hf
        have hk145 : UW C X r145 177 [(0, .ref (X.1 v0)), (1, .int v1), (2, .int v2), (3, .int (v3 ||| ((1 : Int32) <<< (t0 &&& 31)))), (4, .int v4)] [] := by
          refine u_iinc (v := v4 + (1 : Int32)) (lv' := [(4, .int (v4 + (1 : Int32))), (0, .ref (X.1 v0)), (1, .int v1), (2, .int v2), (3, .int (v3 ||| ((1 : Int32) <<< (t0 &&& 31))))]) hC dX7_readVotes_177 4 rfl rfl (by decide) rfl ?_
          refine u_goto (tgt := 52) hC dX7_readVotes_180 (by decide) ?_
          refine u_sub (lv' := [(0, .ref (X.1 v0)), (1, .int v1), (2, .int v2), (3, .int (v3 ||| ((1 : Int32) <<< (t0 &&& 31)))), (4, .int (v4 + (1 : Int32)))]) [1, 2, 3, 4, 0] rfl ?_
          exact hN _ (Option.some.inj hf).symm
        refine u_sub (lv' := [(0, .ref (X.1 v0)), (1, .int v1), (2, .int v2), (3, .int (v3 ||| ((1 : Int32) <<< (t0 &&& 31)))), (4, .int v4), (5, .int t0), (6, .int v1)]) [3, 4, 5, 1, 6, 2, 0] rfl ?_
        refine iter_ind (P := fun s145 => UW C X s145.2 145 [(0, .ref (X.1 v0)), (1, .int v1), (2, .int v2), (3, .int (v3 ||| ((1 : Int32) <<< (t0 &&& 31)))), (4, .int v4), (5, .int t0), (6, .int s145.1)] []) (fun s145 o' hb hin hout => ?_) n (v1, q134.2) hr145
        exact wbX7_readVotes_145 hC n v0 v1 v2 (v3 ||| ((1 : Int32) <<< (t0 &&& 31))) v4 t0 hTv0 s145 hb hin (fun p e => by rw [hout p e]; exact hk145)
      · refine u_iconst (v := (0 : Int32)) hC dX7_readVotes_140 (by decide) ?_
        obtain ⟨hz, hf⟩ := kzr_some hf
        exact hR _ (Option.some.inj hf).symm _ _ dX7_readVotes_141 hz
    · refine u_sub (lv' := [(0, .ref (X.1 v0))]) [1] rfl ?_
      exact wjX7_readVotes_106_52 hC n S v0 v1 v2 hTv0 hf hN hO0 hR
theorem wbX7_readVotes_52 {C : CT} {X : XT} (hC : CK C RX7 cX7_readVotes 7 (some .boolean) 7) (n : Nat) (v0 : Nat) (v1 : Int32) (v2 : Int32) (hTv0 : Ty X.2.1 v0 7) (s52 : (Int32 × Int32 × PS)) {o : (Int32 × Int32 × PS) ⊕ (PS ⊕ (Int32 × PS))} (hf : bX7_readVotes_52 X.2.1 n v0 v1 v2 s52 = some o) (hN : ∀ s', o = .inl s' → UW C X s'.2.2 52 [(0, .ref (X.1 v0)), (1, .int v1), (2, .int v2), (3, .int s'.1), (4, .int s'.2.1)] []) (hO0 : ∀ p', o = .inr (.inl p') → UW C X p' 183 [(0, .ref (X.1 v0))] []) (hR : ∀ q', o = .inr (.inr q') → Rt C X cX7_readVotes (some .boolean) (some (.int q'.1)) q'.2) : UW C X s52.2.2 52 [(0, .ref (X.1 v0)), (1, .int v1), (2, .int v2), (3, .int s52.1), (4, .int s52.2.1)] [] := by
  unfold bX7_readVotes_52 at hf
  refine u_iload hC dX7_readVotes_52 4 rfl ?_
  refine u_bipush (v := (12 : Int32)) hC dX7_readVotes_54 (by decide) ?_
  refine u_icmp_gt (tgt := 183) hC dX7_readVotes_56 (by decide) hf (fun h56 hf => ?_) (fun h56 hf => ?_)
  · refine u_sub (lv' := [(0, .ref (X.1 v0))]) [0] rfl ?_
    exact hO0 _ (Option.some.inj hf).symm
  · refine u_aload_n hC dX7_readVotes_59 0 rfl rfl ?_
    obtain ⟨q60, hq60, hf⟩ := kc_some hf
    refine u_callV hC (ctX7_next (cL C) hC.tr (cG C) X.1 X.2.1 n s52.2.2 v0 hTv0 hq60) lk_X7_72 rfl hTv0 (by decide) rfl (by decide) (by decide) rfl rfl (Nat.le_of_ble_eq_true rfl) dX7_readVotes_60 ?_
    refine u_aload_n hC dX7_readVotes_63 0 rfl rfl ?_
    refine u_bipush (v := (59 : Int32)) hC dX7_readVotes_64 (by decide) ?_
    obtain ⟨q66, hq66, hf⟩ := kc_some hf
    refine u_callV hC (ctX7_isSign (cL C) hC.tr (cG C) X.1 X.2.1 n q60 v0 (59 : Int32) hTv0 hq66) lk_X7_110 rfl hTv0 (by decide) rfl (by decide) (by decide) rfl rfl (Nat.le_of_ble_eq_true rfl) dX7_readVotes_66 ?_
    refine u_if_eq (tgt := 74) hC dX7_readVotes_69 (by decide) hf (fun h69 hf => ?_) (fun h69 hf => ?_)
    · refine u_aload_n hC dX7_readVotes_74 0 rfl rfl ?_
      obtain ⟨q75, hq75, hf⟩ := kc_some hf
      refine u_callV hC (ctX7_isName (cL C) hC.tr (cG C) X.1 X.2.1 n q60 v0 hTv0 hq75) lk_X7_124 rfl hTv0 (by decide) rfl (by decide) (by decide) rfl rfl (Nat.le_of_ble_eq_true rfl) dX7_readVotes_75 ?_
      refine u_if_eq (tgt := 88) hC dX7_readVotes_78 (by decide) hf (fun h78 hf => ?_) (fun h78 hf => ?_)
      · refine u_iconst (v := (-1 : Int32)) hC dX7_readVotes_88 (by decide) ?_
        exact wjX7_readVotes_89_52 hC n q60 v0 v1 v2 s52.1 s52.2.1 (-1 : Int32)  hTv0 hf hN hO0 hR
      · refine u_aload_n hC dX7_readVotes_81 0 rfl rfl ?_
        obtain ⟨q82, hq82, hf⟩ := kc_some hf
        refine u_callV hC (ctX7_named (cL C) hC.tr (cG C) X.1 X.2.1 n q60 v0 hTv0 hq82) lk_X7_127 rfl hTv0 (by decide) rfl (by decide) (by decide) rfl rfl (Nat.le_of_ble_eq_true rfl) dX7_readVotes_82 ?_
        refine u_goto (tgt := 89) hC dX7_readVotes_85 (by decide) ?_
        exact wjX7_readVotes_89_52 hC n q60 v0 v1 v2 s52.1 s52.2.1 q82  hTv0 hf hN hO0 hR
    · refine u_iconst (v := (1 : Int32)) hC dX7_readVotes_72 (by decide) ?_
      obtain ⟨hz, hf⟩ := kzr_some hf
      exact hR _ (Option.some.inj hf).symm _ _ dX7_readVotes_73 hz
theorem wX7_readVotes {C : CT} {X : XT} (hC : CK C RX7 cX7_readVotes 7 (some .boolean) 7) (n : Nat) (S : PS) (a0 : Nat) (hTa0 : Ty X.2.1 a0 7) {o : Int32 × PS} (hf : fX7_readVotes X.2.1 n S a0 = some o) (hR : Rt C X cX7_readVotes (some .boolean) (some (.int o.1)) o.2) : UW C X S 0 [(0, .ref (X.1 a0))] [] := by
  unfold fX7_readVotes at hf
  refine u_aload_n hC dX7_readVotes_0 0 rfl rfl ?_
  refine u_iconst (v := (1 : Int32)) hC dX7_readVotes_1 (by decide) ?_
  refine u_bipush (v := (9 : Int32)) hC dX7_readVotes_2 (by decide) ?_
  obtain ⟨q4, hq4, hf⟩ := kc_some hf
  refine u_callV hC (ctX7_readNumber (cL C) hC.tr (cG C) X.1 X.2.1 n S a0 (1 : Int32) (9 : Int32) hTa0 hq4) lk_X7_114 rfl hTa0 (by decide) rfl (by decide) (by decide) rfl rfl (Nat.le_of_ble_eq_true rfl) dX7_readVotes_4 ?_
  refine u_if_ne (tgt := 12) hC dX7_readVotes_7 (by decide) hf (fun h7 hf => ?_) (fun h7 hf => ?_)
  · refine u_aload_n hC dX7_readVotes_12 0 rfl rfl ?_
    refine u_gr hC lf_X7_12 rfl hTa0 dX7_readVotes_13 hf (fun b13 hTb13 hf => ?_)
    refine u_gi hC lf_X7_141 rfl hTb13 dX7_readVotes_16 hf (fun x16 hf => ?_)
    refine u_istore_n (lv' := [(1, .int x16), (0, .ref (X.1 a0))]) hC dX7_readVotes_19 rfl (by decide) rfl ?_
    refine u_iload_n hC dX7_readVotes_20 0 rfl rfl ?_
    refine u_aload_n hC dX7_readVotes_21 1 rfl rfl ?_
    refine u_gi hC lf_X7_44 rfl hTa0 dX7_readVotes_22 hf (fun x22 hf => ?_)
    refine u_iadd hC dX7_readVotes_25 ?_
    refine u_istore_n (lv' := [(2, .int (x16 + x22)), (1, .int x16), (0, .ref (X.1 a0))]) hC dX7_readVotes_26 rfl (by decide) rfl ?_
    refine u_iload_n hC dX7_readVotes_27 0 rfl rfl ?_
    refine u_bipush (v := (24 : Int32)) hC dX7_readVotes_28 (by decide) ?_
    refine u_icmp_le (tgt := 39) hC dX7_readVotes_30 (by decide) hf (fun h30 hf => ?_) (fun h30 hf => ?_)
    · refine u_aload_n hC dX7_readVotes_39 2 rfl rfl ?_
      refine u_gr hC lf_X7_12 rfl hTa0 dX7_readVotes_40 hf (fun b40 hTb40 hf => ?_)
      refine u_iload_n hC dX7_readVotes_43 0 rfl rfl ?_
      refine u_pi hC lf_X7_141 rfl rfl rfl hTb40 dX7_readVotes_44 hf (fun S44 hf => ?_)
      refine u_iconst (v := (0 : Int32)) hC dX7_readVotes_47 (by decide) ?_
      refine u_istore_n (lv' := [(3, .int (0 : Int32)), (2, .int (x16 + x22)), (1, .int x16), (0, .ref (X.1 a0))]) hC dX7_readVotes_48 rfl (by decide) rfl ?_
      refine u_iconst (v := (0 : Int32)) hC dX7_readVotes_49 (by decide) ?_
      refine u_istore (lv' := [(4, .int (0 : Int32)), (3, .int (0 : Int32)), (2, .int (x16 + x22)), (1, .int x16), (0, .ref (X.1 a0))]) hC dX7_readVotes_50 (by decide) rfl ?_
      obtain ⟨r52, hr52, hf⟩ := kc_some hf
      have hk52_0 : ∀ p52_0, r52 = (.inl p52_0) → UW C X p52_0 183 [(0, .ref (X.1 a0))] [] := by
        intro p52_0 he
        subst he
        have hf := ks_l hf
        refine u_aload_n hC dX7_readVotes_183 0 rfl rfl ?_
        refine u_iconst (v := (1 : Int32)) hC dX7_readVotes_184 (by decide) ?_
        obtain ⟨q185, hq185, hf⟩ := kc_some hf
        refine u_callV hC (ctX7_wrong (cL C) hC.tr (cG C) X.1 X.2.1 n p52_0 a0 (1 : Int32) hTa0 hq185) lk_X7_106 rfl hTa0 (by decide) rfl (by decide) (by decide) rfl rfl (Nat.le_of_ble_eq_true rfl) dX7_readVotes_185 ?_
        obtain ⟨hz, hf⟩ := kzr_some hf
        cases hf
        exact hR _ _ dX7_readVotes_188 hz
      have hk52_1 : ∀ p52_1, r52 = (.inr p52_1) → Rt C X cX7_readVotes (some .boolean) (some (.int p52_1.1)) p52_1.2 := by
        intro p52_1 he
        subst he
        have hf := ks_r hf
        cases hf
        exact hR
      refine u_sub (lv' := [(0, .ref (X.1 a0)), (1, .int x16), (2, .int (x16 + x22)), (3, .int (0 : Int32)), (4, .int (0 : Int32))]) [4, 3, 2, 1, 0] rfl ?_
      refine iter_ind (P := fun s52 => UW C X s52.2.2 52 [(0, .ref (X.1 a0)), (1, .int x16), (2, .int (x16 + x22)), (3, .int s52.1), (4, .int s52.2.1)] []) (fun s52 o' hb hin hout => ?_) n ((0 : Int32), (0 : Int32), S44) hr52
      exact wbX7_readVotes_52 hC n a0 x16 (x16 + x22) hTa0 s52 hb hin (fun p e => hk52_0 p (hout _ e).symm) (fun p e => hk52_1 p (hout _ e).symm)
    · refine u_aload_n hC dX7_readVotes_33 2 rfl rfl ?_
      refine u_iconst (v := (4 : Int32)) hC dX7_readVotes_34 (by decide) ?_
      obtain ⟨q35, hq35, hf⟩ := kc_some hf
      refine u_callV hC (ctX7_wrong (cL C) hC.tr (cG C) X.1 X.2.1 n q4.2 a0 (4 : Int32) hTa0 hq35) lk_X7_106 rfl hTa0 (by decide) rfl (by decide) (by decide) rfl rfl (Nat.le_of_ble_eq_true rfl) dX7_readVotes_35 ?_
      obtain ⟨hz, hf⟩ := kzr_some hf
      cases hf
      exact hR _ _ dX7_readVotes_38 hz
  · refine u_iconst (v := (0 : Int32)) hC dX7_readVotes_10 (by decide) ?_
    obtain ⟨hz, hf⟩ := kzr_some hf
    cases hf
    exact hR _ _ dX7_readVotes_11 hz
theorem ctX7_readVotes (l : Launch) (hl : l.stackTraces = false) (G : GT) (ρ : Nat → Nat) (Y : XS) (n : Nat) (S : PS) (a0 : Nat) (hTa0 : Ty Y a0 7) {o : Int32 × PS} (hf : fX7_readVotes Y n S a0 = some o) : Mt l G yX7_readVotes cX7_readVotes 7 (some .boolean) 7 ρ Y [.ref (ρ a0)] S (some (.int o.1)) o.2 :=
  Mt_of hl (by decide) (Nat.le_of_ble_eq_true rfl) (fun C _ _ hC hR => wX7_readVotes (X := (ρ, Y, 0, 0)) hC n S a0 hTa0 hf hR)
-- X7_holdBack
theorem dX7_holdBack_0 : decode cX7_holdBack 0 = .ok (.aload_n 0, 1) := by decide +kernel
theorem dX7_holdBack_1 : decode cX7_holdBack 1 = .ok (.getfield 57, 3) := by decide +kernel
theorem dX7_holdBack_4 : decode cX7_holdBack 4 = .ok (.aload_n 0, 1) := by decide +kernel
theorem dX7_holdBack_5 : decode cX7_holdBack 5 = .ok (.getfield 54, 3) := by decide +kernel
theorem dX7_holdBack_8 : decode cX7_holdBack 8 = .ok (.arraylength, 1) := by decide +kernel
theorem dX7_holdBack_9 : decode cX7_holdBack 9 = .ok (.if_icmp .ge 23, 3) := by decide +kernel
theorem dX7_holdBack_12 : decode cX7_holdBack 12 = .ok (.aload_n 0, 1) := by decide +kernel
theorem dX7_holdBack_13 : decode cX7_holdBack 13 = .ok (.getfield 54, 3) := by decide +kernel
theorem dX7_holdBack_16 : decode cX7_holdBack 16 = .ok (.aload_n 0, 1) := by decide +kernel
theorem dX7_holdBack_17 : decode cX7_holdBack 17 = .ok (.getfield 57, 3) := by decide +kernel
theorem dX7_holdBack_20 : decode cX7_holdBack 20 = .ok (.iload_n 1, 1) := by decide +kernel
theorem dX7_holdBack_21 : decode cX7_holdBack 21 = .ok (.iastore, 1) := by decide +kernel
theorem dX7_holdBack_22 : decode cX7_holdBack 22 = .ok (.aload_n 0, 1) := by decide +kernel
theorem dX7_holdBack_23 : decode cX7_holdBack 23 = .ok (.dup, 1) := by decide +kernel
theorem dX7_holdBack_24 : decode cX7_holdBack 24 = .ok (.getfield 57, 3) := by decide +kernel
theorem dX7_holdBack_27 : decode cX7_holdBack 27 = .ok (.iconst 1, 1) := by decide +kernel
theorem dX7_holdBack_28 : decode cX7_holdBack 28 = .ok (.iadd, 1) := by decide +kernel
theorem dX7_holdBack_29 : decode cX7_holdBack 29 = .ok (.putfield 57, 3) := by decide +kernel
theorem dX7_holdBack_32 : decode cX7_holdBack 32 = .ok (.return_, 1) := by decide +kernel
def jX7_holdBack_32 (Y : XS) (n : Nat) (S : PS)  : Option (PS) :=
  some S
def fX7_holdBack (Y : XS) (n : Nat) (S : PS) (a0 : Nat) (x1_ : Int32) : Option (PS) :=
  kgi S a0 13 (fun x1 => kgr S a0 12 (fun b5 => kln Y b5 (fun x8 => (if x8 ≤ x1 then jX7_holdBack_32 Y n S  else kgr S a0 12 (fun b13 => kgi S a0 13 (fun x17 => kwi Y S b13 x17 x1_ (fun S21 => kgi S21 a0 13 (fun x24 => kpi S21 a0 13 (x24 + (1 : Int32)) (fun S29 => jX7_holdBack_32 Y n S29 )))))))))
theorem wjX7_holdBack_32 {C : CT} {X : XT} (hC : CK C RX7 cX7_holdBack 2 none 1) (n : Nat) (S : PS)    {o : PS} (hf : jX7_holdBack_32 X.2.1 n S  = some o) (hR : Rt C X cX7_holdBack none none o) : UW C X S 32 [] [] := by
  unfold jX7_holdBack_32 at hf
  cases hf
  exact hR _ _ dX7_holdBack_32 trivial
theorem wX7_holdBack {C : CT} {X : XT} (hC : CK C RX7 cX7_holdBack 2 none 1) (n : Nat) (S : PS) (a0 : Nat) (x1_ : Int32) (hTa0 : Ty X.2.1 a0 7) {o : PS} (hf : fX7_holdBack X.2.1 n S a0 x1_ = some o) (hR : Rt C X cX7_holdBack none none o) : UW C X S 0 [(0, .ref (X.1 a0)), (1, .int x1_)] [] := by
  unfold fX7_holdBack at hf
  refine u_aload_n hC dX7_holdBack_0 0 rfl rfl ?_
  refine u_gi hC lf_X7_57 rfl hTa0 dX7_holdBack_1 hf (fun x1 hf => ?_)
  refine u_aload_n hC dX7_holdBack_4 0 rfl rfl ?_
  refine u_gr hC lf_X7_54 rfl hTa0 dX7_holdBack_5 hf (fun b5 hTb5 hf => ?_)
  refine u_ln hC hTb5 dX7_holdBack_8 hf (fun x8 hf => ?_)
  refine u_icmp_ge (tgt := 32) hC dX7_holdBack_9 (by decide) hf (fun h9 hf => ?_) (fun h9 hf => ?_)
  · refine u_sub (lv' := []) [] rfl ?_
    exact wjX7_holdBack_32 hC n S    hf hR
  · refine u_aload_n hC dX7_holdBack_12 0 rfl rfl ?_
    refine u_gr hC lf_X7_54 rfl hTa0 dX7_holdBack_13 hf (fun b13 hTb13 hf => ?_)
    refine u_aload_n hC dX7_holdBack_16 0 rfl rfl ?_
    refine u_gi hC lf_X7_57 rfl hTa0 dX7_holdBack_17 hf (fun x17 hf => ?_)
    refine u_iload_n hC dX7_holdBack_20 1 rfl rfl ?_
    refine u_wi hC hTb13 dX7_holdBack_21 hf (fun S21 hf => ?_)
    refine u_aload_n hC dX7_holdBack_22 0 rfl rfl ?_
    refine u_dup hC dX7_holdBack_23 rfl ?_
    refine u_gi hC lf_X7_57 rfl hTa0 dX7_holdBack_24 hf (fun x24 hf => ?_)
    refine u_iconst (v := (1 : Int32)) hC dX7_holdBack_27 (by decide) ?_
    refine u_iadd hC dX7_holdBack_28 ?_
    refine u_pi hC lf_X7_57 rfl rfl rfl hTa0 dX7_holdBack_29 hf (fun S29 hf => ?_)
    refine u_sub (lv' := []) [] rfl ?_
    exact wjX7_holdBack_32 hC n S29    hf hR
theorem ctX7_holdBack (l : Launch) (hl : l.stackTraces = false) (G : GT) (ρ : Nat → Nat) (Y : XS) (n : Nat) (S : PS) (a0 : Nat) (x1_ : Int32) (hTa0 : Ty Y a0 7) {o : PS} (hf : fX7_holdBack Y n S a0 x1_ = some o) : Mt l G yX7_holdBack cX7_holdBack 2 none 1 ρ Y [.ref (ρ a0), .int x1_] S none o :=
  Mt_of hl (by decide) (Nat.le_of_ble_eq_true rfl) (fun C _ _ hC hR => wX7_holdBack (X := (ρ, Y, 0, 0)) hC n S a0 x1_ hTa0 hf hR)
-- X7_readOpen
theorem dX7_readOpen_0 : decode cX7_readOpen 0 = .ok (.aload_n 0, 1) := by decide +kernel
theorem dX7_readOpen_1 : decode cX7_readOpen 1 = .ok (.getfield 60, 3) := by decide +kernel
theorem dX7_readOpen_4 : decode cX7_readOpen 4 = .ok (.bipush 6, 2) := by decide +kernel
theorem dX7_readOpen_6 : decode cX7_readOpen 6 = .ok (.if_icmp .lt 9, 3) := by decide +kernel
theorem dX7_readOpen_9 : decode cX7_readOpen 9 = .ok (.aload_n 0, 1) := by decide +kernel
theorem dX7_readOpen_10 : decode cX7_readOpen 10 = .ok (.iconst 4, 1) := by decide +kernel
theorem dX7_readOpen_11 : decode cX7_readOpen 11 = .ok (.invokevirtual 106, 3) := by decide +kernel
theorem dX7_readOpen_14 : decode cX7_readOpen 14 = .ok (.ireturn, 1) := by decide +kernel
theorem dX7_readOpen_15 : decode cX7_readOpen 15 = .ok (.aload_n 0, 1) := by decide +kernel
theorem dX7_readOpen_16 : decode cX7_readOpen 16 = .ok (.dup, 1) := by decide +kernel
theorem dX7_readOpen_17 : decode cX7_readOpen 17 = .ok (.getfield 60, 3) := by decide +kernel
theorem dX7_readOpen_20 : decode cX7_readOpen 20 = .ok (.iconst 1, 1) := by decide +kernel
theorem dX7_readOpen_21 : decode cX7_readOpen 21 = .ok (.iadd, 1) := by decide +kernel
theorem dX7_readOpen_22 : decode cX7_readOpen 22 = .ok (.putfield 60, 3) := by decide +kernel
theorem dX7_readOpen_25 : decode cX7_readOpen 25 = .ok (.aload_n 0, 1) := by decide +kernel
theorem dX7_readOpen_26 : decode cX7_readOpen 26 = .ok (.iconst 0, 1) := by decide +kernel
theorem dX7_readOpen_27 : decode cX7_readOpen 27 = .ok (.invokevirtual 183, 3) := by decide +kernel
theorem dX7_readOpen_30 : decode cX7_readOpen 30 = .ok (.iconst 1, 1) := by decide +kernel
theorem dX7_readOpen_31 : decode cX7_readOpen 31 = .ok (.ireturn, 1) := by decide +kernel
def fX7_readOpen (Y : XS) (n : Nat) (S : PS) (a0 : Nat) : Option (Int32 × PS) :=
  kgi S a0 14 (fun x1 => (if x1 < (6 : Int32) then kgi S a0 14 (fun x17 => kpi S a0 14 (x17 + (1 : Int32)) (fun S22 => kc (fX7_holdBack Y n S22 a0 (0 : Int32)) (fun q27 => kzr (1 : Int32) (some ((1 : Int32), q27))))) else kc (fX7_wrong Y n S a0 (4 : Int32)) (fun q11 => kzr q11.1 (some (q11.1, q11.2)))))
theorem wX7_readOpen {C : CT} {X : XT} (hC : CK C RX7 cX7_readOpen 1 (some .boolean) 2) (n : Nat) (S : PS) (a0 : Nat) (hTa0 : Ty X.2.1 a0 7) {o : Int32 × PS} (hf : fX7_readOpen X.2.1 n S a0 = some o) (hR : Rt C X cX7_readOpen (some .boolean) (some (.int o.1)) o.2) : UW C X S 0 [(0, .ref (X.1 a0))] [] := by
  unfold fX7_readOpen at hf
  refine u_aload_n hC dX7_readOpen_0 0 rfl rfl ?_
  refine u_gi hC lf_X7_60 rfl hTa0 dX7_readOpen_1 hf (fun x1 hf => ?_)
  refine u_bipush (v := (6 : Int32)) hC dX7_readOpen_4 (by decide) ?_
  refine u_icmp_lt (tgt := 15) hC dX7_readOpen_6 (by decide) hf (fun h6 hf => ?_) (fun h6 hf => ?_)
  · refine u_aload_n hC dX7_readOpen_15 0 rfl rfl ?_
    refine u_dup hC dX7_readOpen_16 rfl ?_
    refine u_gi hC lf_X7_60 rfl hTa0 dX7_readOpen_17 hf (fun x17 hf => ?_)
    refine u_iconst (v := (1 : Int32)) hC dX7_readOpen_20 (by decide) ?_
    refine u_iadd hC dX7_readOpen_21 ?_
    refine u_pi hC lf_X7_60 rfl rfl rfl hTa0 dX7_readOpen_22 hf (fun S22 hf => ?_)
    refine u_aload_n hC dX7_readOpen_25 0 rfl rfl ?_
    refine u_iconst (v := (0 : Int32)) hC dX7_readOpen_26 (by decide) ?_
    obtain ⟨q27, hq27, hf⟩ := kc_some hf
    refine u_callV hC (ctX7_holdBack (cL C) hC.tr (cG C) X.1 X.2.1 n S22 a0 (0 : Int32) hTa0 hq27) lk_X7_183 rfl hTa0 (by decide) rfl (by decide) (by decide) rfl rfl (Nat.le_of_ble_eq_true rfl) dX7_readOpen_27 ?_
    refine u_iconst (v := (1 : Int32)) hC dX7_readOpen_30 (by decide) ?_
    obtain ⟨hz, hf⟩ := kzr_some hf
    cases hf
    exact hR _ _ dX7_readOpen_31 hz
  · refine u_aload_n hC dX7_readOpen_9 0 rfl rfl ?_
    refine u_iconst (v := (4 : Int32)) hC dX7_readOpen_10 (by decide) ?_
    obtain ⟨q11, hq11, hf⟩ := kc_some hf
    refine u_callV hC (ctX7_wrong (cL C) hC.tr (cG C) X.1 X.2.1 n S a0 (4 : Int32) hTa0 hq11) lk_X7_106 rfl hTa0 (by decide) rfl (by decide) (by decide) rfl rfl (Nat.le_of_ble_eq_true rfl) dX7_readOpen_11 ?_
    obtain ⟨hz, hf⟩ := kzr_some hf
    cases hf
    exact hR _ _ dX7_readOpen_14 hz
theorem ctX7_readOpen (l : Launch) (hl : l.stackTraces = false) (G : GT) (ρ : Nat → Nat) (Y : XS) (n : Nat) (S : PS) (a0 : Nat) (hTa0 : Ty Y a0 7) {o : Int32 × PS} (hf : fX7_readOpen Y n S a0 = some o) : Mt l G yX7_readOpen cX7_readOpen 1 (some .boolean) 2 ρ Y [.ref (ρ a0)] S (some (.int o.1)) o.2 :=
  Mt_of hl (by decide) (Nat.le_of_ble_eq_true rfl) (fun C _ _ hC hR => wX7_readOpen (X := (ρ, Y, 0, 0)) hC n S a0 hTa0 hf hR)
-- X7_put
theorem dX7_put_0 : decode cX7_put 0 = .ok (.aload_n 0, 1) := by decide +kernel
theorem dX7_put_1 : decode cX7_put 1 = .ok (.getfield 51, 3) := by decide +kernel
theorem dX7_put_4 : decode cX7_put 4 = .ok (.aload_n 0, 1) := by decide +kernel
theorem dX7_put_5 : decode cX7_put 5 = .ok (.getfield 47, 3) := by decide +kernel
theorem dX7_put_8 : decode cX7_put 8 = .ok (.arraylength, 1) := by decide +kernel
theorem dX7_put_9 : decode cX7_put 9 = .ok (.if_icmp .ge 23, 3) := by decide +kernel
theorem dX7_put_12 : decode cX7_put 12 = .ok (.aload_n 0, 1) := by decide +kernel
theorem dX7_put_13 : decode cX7_put 13 = .ok (.getfield 47, 3) := by decide +kernel
theorem dX7_put_16 : decode cX7_put 16 = .ok (.aload_n 0, 1) := by decide +kernel
theorem dX7_put_17 : decode cX7_put 17 = .ok (.getfield 51, 3) := by decide +kernel
theorem dX7_put_20 : decode cX7_put 20 = .ok (.iload_n 1, 1) := by decide +kernel
theorem dX7_put_21 : decode cX7_put 21 = .ok (.iastore, 1) := by decide +kernel
theorem dX7_put_22 : decode cX7_put 22 = .ok (.aload_n 0, 1) := by decide +kernel
theorem dX7_put_23 : decode cX7_put 23 = .ok (.dup, 1) := by decide +kernel
theorem dX7_put_24 : decode cX7_put 24 = .ok (.getfield 51, 3) := by decide +kernel
theorem dX7_put_27 : decode cX7_put 27 = .ok (.iconst 1, 1) := by decide +kernel
theorem dX7_put_28 : decode cX7_put 28 = .ok (.iadd, 1) := by decide +kernel
theorem dX7_put_29 : decode cX7_put 29 = .ok (.putfield 51, 3) := by decide +kernel
theorem dX7_put_32 : decode cX7_put 32 = .ok (.return_, 1) := by decide +kernel
def jX7_put_32 (Y : XS) (n : Nat) (S : PS)  : Option (PS) :=
  some S
def fX7_put (Y : XS) (n : Nat) (S : PS) (a0 : Nat) (x1_ : Int32) : Option (PS) :=
  kgi S a0 11 (fun x1 => kgr S a0 10 (fun b5 => kln Y b5 (fun x8 => (if x8 ≤ x1 then jX7_put_32 Y n S  else kgr S a0 10 (fun b13 => kgi S a0 11 (fun x17 => kwi Y S b13 x17 x1_ (fun S21 => kgi S21 a0 11 (fun x24 => kpi S21 a0 11 (x24 + (1 : Int32)) (fun S29 => jX7_put_32 Y n S29 )))))))))
theorem wjX7_put_32 {C : CT} {X : XT} (hC : CK C RX7 cX7_put 2 none 1) (n : Nat) (S : PS)    {o : PS} (hf : jX7_put_32 X.2.1 n S  = some o) (hR : Rt C X cX7_put none none o) : UW C X S 32 [] [] := by
  unfold jX7_put_32 at hf
  cases hf
  exact hR _ _ dX7_put_32 trivial
theorem wX7_put {C : CT} {X : XT} (hC : CK C RX7 cX7_put 2 none 1) (n : Nat) (S : PS) (a0 : Nat) (x1_ : Int32) (hTa0 : Ty X.2.1 a0 7) {o : PS} (hf : fX7_put X.2.1 n S a0 x1_ = some o) (hR : Rt C X cX7_put none none o) : UW C X S 0 [(0, .ref (X.1 a0)), (1, .int x1_)] [] := by
  unfold fX7_put at hf
  refine u_aload_n hC dX7_put_0 0 rfl rfl ?_
  refine u_gi hC lf_X7_51 rfl hTa0 dX7_put_1 hf (fun x1 hf => ?_)
  refine u_aload_n hC dX7_put_4 0 rfl rfl ?_
  refine u_gr hC lf_X7_47 rfl hTa0 dX7_put_5 hf (fun b5 hTb5 hf => ?_)
  refine u_ln hC hTb5 dX7_put_8 hf (fun x8 hf => ?_)
  refine u_icmp_ge (tgt := 32) hC dX7_put_9 (by decide) hf (fun h9 hf => ?_) (fun h9 hf => ?_)
  · refine u_sub (lv' := []) [] rfl ?_
    exact wjX7_put_32 hC n S    hf hR
  · refine u_aload_n hC dX7_put_12 0 rfl rfl ?_
    refine u_gr hC lf_X7_47 rfl hTa0 dX7_put_13 hf (fun b13 hTb13 hf => ?_)
    refine u_aload_n hC dX7_put_16 0 rfl rfl ?_
    refine u_gi hC lf_X7_51 rfl hTa0 dX7_put_17 hf (fun x17 hf => ?_)
    refine u_iload_n hC dX7_put_20 1 rfl rfl ?_
    refine u_wi hC hTb13 dX7_put_21 hf (fun S21 hf => ?_)
    refine u_aload_n hC dX7_put_22 0 rfl rfl ?_
    refine u_dup hC dX7_put_23 rfl ?_
    refine u_gi hC lf_X7_51 rfl hTa0 dX7_put_24 hf (fun x24 hf => ?_)
    refine u_iconst (v := (1 : Int32)) hC dX7_put_27 (by decide) ?_
    refine u_iadd hC dX7_put_28 ?_
    refine u_pi hC lf_X7_51 rfl rfl rfl hTa0 dX7_put_29 hf (fun S29 hf => ?_)
    refine u_sub (lv' := []) [] rfl ?_
    exact wjX7_put_32 hC n S29    hf hR
theorem ctX7_put (l : Launch) (hl : l.stackTraces = false) (G : GT) (ρ : Nat → Nat) (Y : XS) (n : Nat) (S : PS) (a0 : Nat) (x1_ : Int32) (hTa0 : Ty Y a0 7) {o : PS} (hf : fX7_put Y n S a0 x1_ = some o) : Mt l G yX7_put cX7_put 2 none 1 ρ Y [.ref (ρ a0), .int x1_] S none o :=
  Mt_of hl (by decide) (Nat.le_of_ble_eq_true rfl) (fun C _ _ hC hR => wX7_put (X := (ρ, Y, 0, 0)) hC n S a0 x1_ hTa0 hf hR)
-- X7_readPart
theorem dX7_readPart_0 : decode cX7_readPart 0 = .ok (.aload_n 0, 1) := by decide +kernel
theorem dX7_readPart_1 : decode cX7_readPart 1 = .ok (.getfield 38, 3) := by decide +kernel
theorem dX7_readPart_4 : decode cX7_readPart 4 = .ok (.iconst 2, 1) := by decide +kernel
theorem dX7_readPart_5 : decode cX7_readPart 5 = .ok (.if_icmp .ne 35, 3) := by decide +kernel
theorem dX7_readPart_8 : decode cX7_readPart 8 = .ok (.aload_n 0, 1) := by decide +kernel
theorem dX7_readPart_9 : decode cX7_readPart 9 = .ok (.aload_n 0, 1) := by decide +kernel
theorem dX7_readPart_10 : decode cX7_readPart 10 = .ok (.getfield 44, 3) := by decide +kernel
theorem dX7_readPart_13 : decode cX7_readPart 13 = .ok (.invokevirtual 186, 3) := by decide +kernel
theorem dX7_readPart_16 : decode cX7_readPart 16 = .ok (.aload_n 0, 1) := by decide +kernel
theorem dX7_readPart_17 : decode cX7_readPart 17 = .ok (.getfield 44, 3) := by decide +kernel
theorem dX7_readPart_20 : decode cX7_readPart 20 = .ok (.sipush 9999, 3) := by decide +kernel
theorem dX7_readPart_23 : decode cX7_readPart 23 = .ok (.if_icmp .le 11, 3) := by decide +kernel
theorem dX7_readPart_26 : decode cX7_readPart 26 = .ok (.aload_n 0, 1) := by decide +kernel
theorem dX7_readPart_27 : decode cX7_readPart 27 = .ok (.iconst 2, 1) := by decide +kernel
theorem dX7_readPart_28 : decode cX7_readPart 28 = .ok (.invokevirtual 106, 3) := by decide +kernel
theorem dX7_readPart_31 : decode cX7_readPart 31 = .ok (.ifCond .eq 7, 3) := by decide +kernel
theorem dX7_readPart_34 : decode cX7_readPart 34 = .ok (.iconst 1, 1) := by decide +kernel
theorem dX7_readPart_35 : decode cX7_readPart 35 = .ok (.goto 4, 3) := by decide +kernel
theorem dX7_readPart_38 : decode cX7_readPart 38 = .ok (.iconst 0, 1) := by decide +kernel
theorem dX7_readPart_39 : decode cX7_readPart 39 = .ok (.ireturn, 1) := by decide +kernel
theorem dX7_readPart_40 : decode cX7_readPart 40 = .ok (.aload_n 0, 1) := by decide +kernel
theorem dX7_readPart_41 : decode cX7_readPart 41 = .ok (.ldc 189, 2) := by decide +kernel
theorem dX7_readPart_43 : decode cX7_readPart 43 = .ok (.invokevirtual 81, 3) := by decide +kernel
theorem dX7_readPart_46 : decode cX7_readPart 46 = .ok (.ifCond .eq 7, 3) := by decide +kernel
theorem dX7_readPart_49 : decode cX7_readPart 49 = .ok (.iconst (-1), 1) := by decide +kernel
theorem dX7_readPart_50 : decode cX7_readPart 50 = .ok (.goto 46, 3) := by decide +kernel
theorem dX7_readPart_53 : decode cX7_readPart 53 = .ok (.aload_n 0, 1) := by decide +kernel
theorem dX7_readPart_54 : decode cX7_readPart 54 = .ok (.ldc 191, 2) := by decide +kernel
theorem dX7_readPart_56 : decode cX7_readPart 56 = .ok (.invokevirtual 81, 3) := by decide +kernel
theorem dX7_readPart_59 : decode cX7_readPart 59 = .ok (.ifCond .eq 8, 3) := by decide +kernel
theorem dX7_readPart_62 : decode cX7_readPart 62 = .ok (.bipush (-2), 2) := by decide +kernel
theorem dX7_readPart_64 : decode cX7_readPart 64 = .ok (.goto 32, 3) := by decide +kernel
theorem dX7_readPart_67 : decode cX7_readPart 67 = .ok (.aload_n 0, 1) := by decide +kernel
theorem dX7_readPart_68 : decode cX7_readPart 68 = .ok (.ldc 193, 2) := by decide +kernel
theorem dX7_readPart_70 : decode cX7_readPart 70 = .ok (.invokevirtual 81, 3) := by decide +kernel
theorem dX7_readPart_73 : decode cX7_readPart 73 = .ok (.ifCond .eq 8, 3) := by decide +kernel
theorem dX7_readPart_76 : decode cX7_readPart 76 = .ok (.bipush (-3), 2) := by decide +kernel
theorem dX7_readPart_78 : decode cX7_readPart 78 = .ok (.goto 18, 3) := by decide +kernel
theorem dX7_readPart_81 : decode cX7_readPart 81 = .ok (.aload_n 0, 1) := by decide +kernel
theorem dX7_readPart_82 : decode cX7_readPart 82 = .ok (.ldc 195, 2) := by decide +kernel
theorem dX7_readPart_84 : decode cX7_readPart 84 = .ok (.invokevirtual 81, 3) := by decide +kernel
theorem dX7_readPart_87 : decode cX7_readPart 87 = .ok (.ifCond .eq 8, 3) := by decide +kernel
theorem dX7_readPart_90 : decode cX7_readPart 90 = .ok (.bipush (-4), 2) := by decide +kernel
theorem dX7_readPart_92 : decode cX7_readPart 92 = .ok (.goto 4, 3) := by decide +kernel
theorem dX7_readPart_95 : decode cX7_readPart 95 = .ok (.iconst 0, 1) := by decide +kernel
theorem dX7_readPart_96 : decode cX7_readPart 96 = .ok (.istore_n 1, 1) := by decide +kernel
theorem dX7_readPart_97 : decode cX7_readPart 97 = .ok (.aload_n 0, 1) := by decide +kernel
theorem dX7_readPart_98 : decode cX7_readPart 98 = .ok (.iload_n 1, 1) := by decide +kernel
theorem dX7_readPart_99 : decode cX7_readPart 99 = .ok (.invokevirtual 186, 3) := by decide +kernel
theorem dX7_readPart_102 : decode cX7_readPart 102 = .ok (.iload_n 1, 1) := by decide +kernel
theorem dX7_readPart_103 : decode cX7_readPart 103 = .ok (.ifCond .ne 11, 3) := by decide +kernel
theorem dX7_readPart_106 : decode cX7_readPart 106 = .ok (.aload_n 0, 1) := by decide +kernel
theorem dX7_readPart_107 : decode cX7_readPart 107 = .ok (.iconst 1, 1) := by decide +kernel
theorem dX7_readPart_108 : decode cX7_readPart 108 = .ok (.invokevirtual 106, 3) := by decide +kernel
theorem dX7_readPart_111 : decode cX7_readPart 111 = .ok (.ifCond .eq 7, 3) := by decide +kernel
theorem dX7_readPart_114 : decode cX7_readPart 114 = .ok (.iconst 1, 1) := by decide +kernel
theorem dX7_readPart_115 : decode cX7_readPart 115 = .ok (.goto 4, 3) := by decide +kernel
theorem dX7_readPart_118 : decode cX7_readPart 118 = .ok (.iconst 0, 1) := by decide +kernel
theorem dX7_readPart_119 : decode cX7_readPart 119 = .ok (.ireturn, 1) := by decide +kernel
def jX7_readPart_119 (Y : XS) (n : Nat) (S : PS) (t0 : Int32) : Option (Int32 × PS) :=
  kzr t0 (some (t0, S))
def jX7_readPart_114 (Y : XS) (n : Nat) (S : PS)  : Option (Int32 × PS) :=
  jX7_readPart_119 Y n S (1 : Int32)
def jX7_readPart_96 (Y : XS) (n : Nat) (S : PS) (v0 : Nat) (t0 : Int32) : Option (Int32 × PS) :=
  kc (fX7_put Y n S v0 t0) (fun q99 => (if t0 = 0 then kc (fX7_wrong Y n q99 v0 (1 : Int32)) (fun q108 => (if q108.1 = 0 then jX7_readPart_119 Y n q108.2 (0 : Int32) else jX7_readPart_114 Y n q108.2 )) else jX7_readPart_114 Y n q99 ))
def jX7_readPart_39 (Y : XS) (n : Nat) (S : PS) (t0 : Int32) : Option (Int32 × PS) :=
  kzr t0 (some (t0, S))
def jX7_readPart_34 (Y : XS) (n : Nat) (S : PS)  : Option (Int32 × PS) :=
  jX7_readPart_39 Y n S (1 : Int32)
def fX7_readPart (Y : XS) (n : Nat) (S : PS) (a0 : Nat) : Option (Int32 × PS) :=
  kgi S a0 7 (fun x1 => (if x1 = (2 : Int32) then kgi S a0 9 (fun x10 => kc (fX7_put Y n S a0 x10) (fun q13 => kgi q13 a0 9 (fun x17 => (if x17 ≤ (9999 : Int32) then jX7_readPart_34 Y n q13  else kc (fX7_wrong Y n q13 a0 (2 : Int32)) (fun q28 => (if q28.1 = 0 then jX7_readPart_39 Y n q28.2 (0 : Int32) else jX7_readPart_34 Y n q28.2 )))))) else kc (fX7_isWord Y n S a0 5) (fun q43 => (if q43 = 0 then kc (fX7_isWord Y n S a0 6) (fun q56 => (if q56 = 0 then kc (fX7_isWord Y n S a0 7) (fun q70 => (if q70 = 0 then kc (fX7_isWord Y n S a0 8) (fun q84 => (if q84 = 0 then jX7_readPart_96 Y n S a0 (0 : Int32) else jX7_readPart_96 Y n S a0 (-4 : Int32))) else jX7_readPart_96 Y n S a0 (-3 : Int32))) else jX7_readPart_96 Y n S a0 (-2 : Int32))) else jX7_readPart_96 Y n S a0 (-1 : Int32)))))
theorem wjX7_readPart_119 {C : CT} {X : XT} (hC : CK C RX7 cX7_readPart 2 (some .boolean) 6) (n : Nat) (S : PS) (t0 : Int32)   {o : Int32 × PS} (hf : jX7_readPart_119 X.2.1 n S t0 = some o) (hR : Rt C X cX7_readPart (some .boolean) (some (.int o.1)) o.2) : UW C X S 119 [] [.int t0] := by
  unfold jX7_readPart_119 at hf
  obtain ⟨hz, hf⟩ := kzr_some hf
  cases hf
  exact hR _ _ dX7_readPart_119 hz
theorem wjX7_readPart_114 {C : CT} {X : XT} (hC : CK C RX7 cX7_readPart 2 (some .boolean) 6) (n : Nat) (S : PS)    {o : Int32 × PS} (hf : jX7_readPart_114 X.2.1 n S  = some o) (hR : Rt C X cX7_readPart (some .boolean) (some (.int o.1)) o.2) : UW C X S 114 [] [] := by
  unfold jX7_readPart_114 at hf
  refine u_iconst (v := (1 : Int32)) hC dX7_readPart_114 (by decide) ?_
  refine u_goto (tgt := 119) hC dX7_readPart_115 (by decide) ?_
  exact wjX7_readPart_119 hC n S (1 : Int32)   hf hR
theorem wjX7_readPart_96 {C : CT} {X : XT} (hC : CK C RX7 cX7_readPart 2 (some .boolean) 6) (n : Nat) (S : PS) (v0 : Nat) (t0 : Int32)  (hTv0 : Ty X.2.1 v0 7) {o : Int32 × PS} (hf : jX7_readPart_96 X.2.1 n S v0 t0 = some o) (hR : Rt C X cX7_readPart (some .boolean) (some (.int o.1)) o.2) : UW C X S 96 [(0, .ref (X.1 v0))] [.int t0] := by
  unfold jX7_readPart_96 at hf
  refine u_istore_n (lv' := [(1, .int t0), (0, .ref (X.1 v0))]) hC dX7_readPart_96 rfl (by decide) rfl ?_
  refine u_aload_n hC dX7_readPart_97 1 rfl rfl ?_
  refine u_iload_n hC dX7_readPart_98 0 rfl rfl ?_
  obtain ⟨q99, hq99, hf⟩ := kc_some hf
  refine u_callV hC (ctX7_put (cL C) hC.tr (cG C) X.1 X.2.1 n S v0 t0 hTv0 hq99) lk_X7_186 rfl hTv0 (by decide) rfl (by decide) (by decide) rfl rfl (Nat.le_of_ble_eq_true rfl) dX7_readPart_99 ?_
  refine u_iload_n hC dX7_readPart_102 0 rfl rfl ?_
  refine u_if_ne (tgt := 114) hC dX7_readPart_103 (by decide) hf (fun h103 hf => ?_) (fun h103 hf => ?_)
  · refine u_sub (lv' := []) [] rfl ?_
    exact wjX7_readPart_114 hC n q99    hf hR
  · refine u_aload_n hC dX7_readPart_106 1 rfl rfl ?_
    refine u_iconst (v := (1 : Int32)) hC dX7_readPart_107 (by decide) ?_
    obtain ⟨q108, hq108, hf⟩ := kc_some hf
    refine u_callV hC (ctX7_wrong (cL C) hC.tr (cG C) X.1 X.2.1 n q99 v0 (1 : Int32) hTv0 hq108) lk_X7_106 rfl hTv0 (by decide) rfl (by decide) (by decide) rfl rfl (Nat.le_of_ble_eq_true rfl) dX7_readPart_108 ?_
    refine u_if_eq (tgt := 118) hC dX7_readPart_111 (by decide) hf (fun h111 hf => ?_) (fun h111 hf => ?_)
    · refine u_iconst (v := (0 : Int32)) hC dX7_readPart_118 (by decide) ?_
      refine u_sub (lv' := []) [] rfl ?_
      exact wjX7_readPart_119 hC n q108.2 (0 : Int32)   hf hR
    · refine u_sub (lv' := []) [] rfl ?_
      exact wjX7_readPart_114 hC n q108.2    hf hR
theorem wjX7_readPart_39 {C : CT} {X : XT} (hC : CK C RX7 cX7_readPart 2 (some .boolean) 6) (n : Nat) (S : PS) (t0 : Int32)   {o : Int32 × PS} (hf : jX7_readPart_39 X.2.1 n S t0 = some o) (hR : Rt C X cX7_readPart (some .boolean) (some (.int o.1)) o.2) : UW C X S 39 [] [.int t0] := by
  unfold jX7_readPart_39 at hf
  obtain ⟨hz, hf⟩ := kzr_some hf
  cases hf
  exact hR _ _ dX7_readPart_39 hz
theorem wjX7_readPart_34 {C : CT} {X : XT} (hC : CK C RX7 cX7_readPart 2 (some .boolean) 6) (n : Nat) (S : PS)    {o : Int32 × PS} (hf : jX7_readPart_34 X.2.1 n S  = some o) (hR : Rt C X cX7_readPart (some .boolean) (some (.int o.1)) o.2) : UW C X S 34 [] [] := by
  unfold jX7_readPart_34 at hf
  refine u_iconst (v := (1 : Int32)) hC dX7_readPart_34 (by decide) ?_
  refine u_goto (tgt := 39) hC dX7_readPart_35 (by decide) ?_
  exact wjX7_readPart_39 hC n S (1 : Int32)   hf hR
theorem wX7_readPart {C : CT} {X : XT} (hC : CK C RX7 cX7_readPart 2 (some .boolean) 6) (n : Nat) (S : PS) (a0 : Nat) (hTa0 : Ty X.2.1 a0 7) {o : Int32 × PS} (hf : fX7_readPart X.2.1 n S a0 = some o) (hR : Rt C X cX7_readPart (some .boolean) (some (.int o.1)) o.2) : UW C X S 0 [(0, .ref (X.1 a0))] [] := by
  unfold fX7_readPart at hf
  refine u_aload_n hC dX7_readPart_0 0 rfl rfl ?_
  refine u_gi hC lf_X7_38 rfl hTa0 dX7_readPart_1 hf (fun x1 hf => ?_)
  refine u_iconst (v := (2 : Int32)) hC dX7_readPart_4 (by decide) ?_
  refine u_icmp_ne (tgt := 40) hC dX7_readPart_5 (by decide) hf (fun h5 hf => ?_) (fun h5 hf => ?_)
  · refine u_aload_n hC dX7_readPart_40 0 rfl rfl ?_
    refine u_lds (i := 5) hC (by decide) rfl rfl dX7_readPart_41 ?_
    obtain ⟨q43, hq43, hf⟩ := kc_some hf
    refine u_callV hC (ctX7_isWord (cL C) hC.tr (cG C) X.1 X.2.1 n S a0 5 hTa0 (show 5 < nStr by decide) hq43) lk_X7_81 rfl hTa0 (by decide) rfl (by decide) (by decide) rfl rfl (Nat.le_of_ble_eq_true rfl) dX7_readPart_43 ?_
    refine u_if_eq (tgt := 53) hC dX7_readPart_46 (by decide) hf (fun h46 hf => ?_) (fun h46 hf => ?_)
    · refine u_aload_n hC dX7_readPart_53 0 rfl rfl ?_
      refine u_lds (i := 6) hC (by decide) rfl rfl dX7_readPart_54 ?_
      obtain ⟨q56, hq56, hf⟩ := kc_some hf
      refine u_callV hC (ctX7_isWord (cL C) hC.tr (cG C) X.1 X.2.1 n S a0 6 hTa0 (show 6 < nStr by decide) hq56) lk_X7_81 rfl hTa0 (by decide) rfl (by decide) (by decide) rfl rfl (Nat.le_of_ble_eq_true rfl) dX7_readPart_56 ?_
      refine u_if_eq (tgt := 67) hC dX7_readPart_59 (by decide) hf (fun h59 hf => ?_) (fun h59 hf => ?_)
      · refine u_aload_n hC dX7_readPart_67 0 rfl rfl ?_
        refine u_lds (i := 7) hC (by decide) rfl rfl dX7_readPart_68 ?_
        obtain ⟨q70, hq70, hf⟩ := kc_some hf
        refine u_callV hC (ctX7_isWord (cL C) hC.tr (cG C) X.1 X.2.1 n S a0 7 hTa0 (show 7 < nStr by decide) hq70) lk_X7_81 rfl hTa0 (by decide) rfl (by decide) (by decide) rfl rfl (Nat.le_of_ble_eq_true rfl) dX7_readPart_70 ?_
        refine u_if_eq (tgt := 81) hC dX7_readPart_73 (by decide) hf (fun h73 hf => ?_) (fun h73 hf => ?_)
        · refine u_aload_n hC dX7_readPart_81 0 rfl rfl ?_
          refine u_lds (i := 8) hC (by decide) rfl rfl dX7_readPart_82 ?_
          obtain ⟨q84, hq84, hf⟩ := kc_some hf
          refine u_callV hC (ctX7_isWord (cL C) hC.tr (cG C) X.1 X.2.1 n S a0 8 hTa0 (show 8 < nStr by decide) hq84) lk_X7_81 rfl hTa0 (by decide) rfl (by decide) (by decide) rfl rfl (Nat.le_of_ble_eq_true rfl) dX7_readPart_84 ?_
          refine u_if_eq (tgt := 95) hC dX7_readPart_87 (by decide) hf (fun h87 hf => ?_) (fun h87 hf => ?_)
          · refine u_iconst (v := (0 : Int32)) hC dX7_readPart_95 (by decide) ?_
            exact wjX7_readPart_96 hC n S a0 (0 : Int32)  hTa0 hf hR
          · refine u_bipush (v := (-4 : Int32)) hC dX7_readPart_90 (by decide) ?_
            refine u_goto (tgt := 96) hC dX7_readPart_92 (by decide) ?_
            exact wjX7_readPart_96 hC n S a0 (-4 : Int32)  hTa0 hf hR
        · refine u_bipush (v := (-3 : Int32)) hC dX7_readPart_76 (by decide) ?_
          refine u_goto (tgt := 96) hC dX7_readPart_78 (by decide) ?_
          exact wjX7_readPart_96 hC n S a0 (-3 : Int32)  hTa0 hf hR
      · refine u_bipush (v := (-2 : Int32)) hC dX7_readPart_62 (by decide) ?_
        refine u_goto (tgt := 96) hC dX7_readPart_64 (by decide) ?_
        exact wjX7_readPart_96 hC n S a0 (-2 : Int32)  hTa0 hf hR
    · refine u_iconst (v := (-1 : Int32)) hC dX7_readPart_49 (by decide) ?_
      refine u_goto (tgt := 96) hC dX7_readPart_50 (by decide) ?_
      exact wjX7_readPart_96 hC n S a0 (-1 : Int32)  hTa0 hf hR
  · refine u_aload_n hC dX7_readPart_8 0 rfl rfl ?_
    refine u_aload_n hC dX7_readPart_9 0 rfl rfl ?_
    refine u_gi hC lf_X7_44 rfl hTa0 dX7_readPart_10 hf (fun x10 hf => ?_)
    obtain ⟨q13, hq13, hf⟩ := kc_some hf
    refine u_callV hC (ctX7_put (cL C) hC.tr (cG C) X.1 X.2.1 n S a0 x10 hTa0 hq13) lk_X7_186 rfl hTa0 (by decide) rfl (by decide) (by decide) rfl rfl (Nat.le_of_ble_eq_true rfl) dX7_readPart_13 ?_
    refine u_aload_n hC dX7_readPart_16 0 rfl rfl ?_
    refine u_gi hC lf_X7_44 rfl hTa0 dX7_readPart_17 hf (fun x17 hf => ?_)
    refine u_sipush (v := (9999 : Int32)) hC dX7_readPart_20 (by decide) ?_
    refine u_icmp_le (tgt := 34) hC dX7_readPart_23 (by decide) hf (fun h23 hf => ?_) (fun h23 hf => ?_)
    · refine u_sub (lv' := []) [] rfl ?_
      exact wjX7_readPart_34 hC n q13    hf hR
    · refine u_aload_n hC dX7_readPart_26 0 rfl rfl ?_
      refine u_iconst (v := (2 : Int32)) hC dX7_readPart_27 (by decide) ?_
      obtain ⟨q28, hq28, hf⟩ := kc_some hf
      refine u_callV hC (ctX7_wrong (cL C) hC.tr (cG C) X.1 X.2.1 n q13 a0 (2 : Int32) hTa0 hq28) lk_X7_106 rfl hTa0 (by decide) rfl (by decide) (by decide) rfl rfl (Nat.le_of_ble_eq_true rfl) dX7_readPart_28 ?_
      refine u_if_eq (tgt := 38) hC dX7_readPart_31 (by decide) hf (fun h31 hf => ?_) (fun h31 hf => ?_)
      · refine u_iconst (v := (0 : Int32)) hC dX7_readPart_38 (by decide) ?_
        refine u_sub (lv' := []) [] rfl ?_
        exact wjX7_readPart_39 hC n q28.2 (0 : Int32)   hf hR
      · refine u_sub (lv' := []) [] rfl ?_
        exact wjX7_readPart_34 hC n q28.2    hf hR
theorem ctX7_readPart (l : Launch) (hl : l.stackTraces = false) (G : GT) (ρ : Nat → Nat) (Y : XS) (n : Nat) (S : PS) (a0 : Nat) (hTa0 : Ty Y a0 7) {o : Int32 × PS} (hf : fX7_readPart Y n S a0 = some o) : Mt l G yX7_readPart cX7_readPart 2 (some .boolean) 6 ρ Y [.ref (ρ a0)] S (some (.int o.1)) o.2 :=
  Mt_of hl (by decide) (Nat.le_of_ble_eq_true rfl) (fun C _ _ hC hR => wX7_readPart (X := (ρ, Y, 0, 0)) hC n S a0 hTa0 hf hR)
-- X7_strength
theorem dX7_strength_0 : decode cX7_strength 0 = .ok (.iload_n 0, 1) := by decide +kernel
theorem dX7_strength_1 : decode cX7_strength 1 = .ok (.ifCond .ne 7, 3) := by decide +kernel
theorem dX7_strength_4 : decode cX7_strength 4 = .ok (.iconst 0, 1) := by decide +kernel
theorem dX7_strength_5 : decode cX7_strength 5 = .ok (.goto 20, 3) := by decide +kernel
theorem dX7_strength_8 : decode cX7_strength 8 = .ok (.iload_n 0, 1) := by decide +kernel
theorem dX7_strength_9 : decode cX7_strength 9 = .ok (.bipush (-5), 2) := by decide +kernel
theorem dX7_strength_11 : decode cX7_strength 11 = .ok (.if_icmp .eq 9, 3) := by decide +kernel
theorem dX7_strength_14 : decode cX7_strength 14 = .ok (.iload_n 0, 1) := by decide +kernel
theorem dX7_strength_15 : decode cX7_strength 15 = .ok (.bipush (-6), 2) := by decide +kernel
theorem dX7_strength_17 : decode cX7_strength 17 = .ok (.if_icmp .ne 7, 3) := by decide +kernel
theorem dX7_strength_20 : decode cX7_strength 20 = .ok (.iconst 1, 1) := by decide +kernel
theorem dX7_strength_21 : decode cX7_strength 21 = .ok (.goto 4, 3) := by decide +kernel
theorem dX7_strength_24 : decode cX7_strength 24 = .ok (.iconst 2, 1) := by decide +kernel
theorem dX7_strength_25 : decode cX7_strength 25 = .ok (.ireturn, 1) := by decide +kernel
def jX7_strength_25 (Y : XS) (n : Nat) (S : PS) (t0 : Int32) : Option (Int32) :=
  some t0
def jX7_strength_20 (Y : XS) (n : Nat) (S : PS)  : Option (Int32) :=
  jX7_strength_25 Y n S (1 : Int32)
def fX7_strength (Y : XS) (n : Nat) (S : PS) (x0_ : Int32) : Option (Int32) :=
  (if x0_ = 0 then jX7_strength_25 Y n S (0 : Int32) else (if x0_ = (-5 : Int32) then jX7_strength_20 Y n S  else (if x0_ = (-6 : Int32) then jX7_strength_20 Y n S  else jX7_strength_25 Y n S (2 : Int32))))
theorem wjX7_strength_25 {C : CT} {X : XT} (hC : CK C RX7 cX7_strength 1 (some .int) 1) (n : Nat) (S : PS) (t0 : Int32)   {o : Int32} (hf : jX7_strength_25 X.2.1 n S t0 = some o) (hR : Rt C X cX7_strength (some .int) (some (.int o)) S) : UW C X S 25 [] [.int t0] := by
  unfold jX7_strength_25 at hf
  cases hf
  exact hR _ _ dX7_strength_25 trivial
theorem wjX7_strength_20 {C : CT} {X : XT} (hC : CK C RX7 cX7_strength 1 (some .int) 1) (n : Nat) (S : PS)    {o : Int32} (hf : jX7_strength_20 X.2.1 n S  = some o) (hR : Rt C X cX7_strength (some .int) (some (.int o)) S) : UW C X S 20 [] [] := by
  unfold jX7_strength_20 at hf
  refine u_iconst (v := (1 : Int32)) hC dX7_strength_20 (by decide) ?_
  refine u_goto (tgt := 25) hC dX7_strength_21 (by decide) ?_
  exact wjX7_strength_25 hC n S (1 : Int32)   hf hR
theorem wX7_strength {C : CT} {X : XT} (hC : CK C RX7 cX7_strength 1 (some .int) 1) (n : Nat) (S : PS) (x0_ : Int32)  {o : Int32} (hf : fX7_strength X.2.1 n S x0_ = some o) (hR : Rt C X cX7_strength (some .int) (some (.int o)) S) : UW C X S 0 [(0, .int x0_)] [] := by
  unfold fX7_strength at hf
  refine u_iload_n hC dX7_strength_0 0 rfl rfl ?_
  refine u_if_ne (tgt := 8) hC dX7_strength_1 (by decide) hf (fun h1 hf => ?_) (fun h1 hf => ?_)
  · refine u_iload_n hC dX7_strength_8 0 rfl rfl ?_
    refine u_bipush (v := (-5 : Int32)) hC dX7_strength_9 (by decide) ?_
    refine u_icmp_eq (tgt := 20) hC dX7_strength_11 (by decide) hf (fun h11 hf => ?_) (fun h11 hf => ?_)
    · refine u_sub (lv' := []) [] rfl ?_
      exact wjX7_strength_20 hC n S    hf hR
    · refine u_iload_n hC dX7_strength_14 0 rfl rfl ?_
      refine u_bipush (v := (-6 : Int32)) hC dX7_strength_15 (by decide) ?_
      refine u_icmp_ne (tgt := 24) hC dX7_strength_17 (by decide) hf (fun h17 hf => ?_) (fun h17 hf => ?_)
      · refine u_iconst (v := (2 : Int32)) hC dX7_strength_24 (by decide) ?_
        refine u_sub (lv' := []) [] rfl ?_
        exact wjX7_strength_25 hC n S (2 : Int32)   hf hR
      · refine u_sub (lv' := []) [] rfl ?_
        exact wjX7_strength_20 hC n S    hf hR
  · refine u_iconst (v := (0 : Int32)) hC dX7_strength_4 (by decide) ?_
    refine u_goto (tgt := 25) hC dX7_strength_5 (by decide) ?_
    refine u_sub (lv' := []) [] rfl ?_
    exact wjX7_strength_25 hC n S (0 : Int32)   hf hR
theorem ctX7_strength (l : Launch) (hl : l.stackTraces = false) (G : GT) (ρ : Nat → Nat) (Y : XS) (n : Nat) (S : PS) (x0_ : Int32)  {o : Int32} (hf : fX7_strength Y n S x0_ = some o) : Mt l G yX7_strength cX7_strength 1 (some .int) 1 ρ Y [.int x0_] S (some (.int o)) S :=
  Mt_of hl (by decide) (Nat.le_of_ble_eq_true rfl) (fun C _ _ hC hR => wX7_strength (X := (ρ, Y, 0, 0)) hC n S x0_  hf hR)
-- X7_putWaiting
theorem dX7_putWaiting_0 : decode cX7_putWaiting 0 = .ok (.aload_n 0, 1) := by decide +kernel
theorem dX7_putWaiting_1 : decode cX7_putWaiting 1 = .ok (.getfield 57, 3) := by decide +kernel
theorem dX7_putWaiting_4 : decode cX7_putWaiting 4 = .ok (.iconst 1, 1) := by decide +kernel
theorem dX7_putWaiting_5 : decode cX7_putWaiting 5 = .ok (.isub, 1) := by decide +kernel
theorem dX7_putWaiting_6 : decode cX7_putWaiting 6 = .ok (.istore_n 2, 1) := by decide +kernel
theorem dX7_putWaiting_7 : decode cX7_putWaiting 7 = .ok (.iload_n 2, 1) := by decide +kernel
theorem dX7_putWaiting_8 : decode cX7_putWaiting 8 = .ok (.ifCond .lt 46, 3) := by decide +kernel
theorem dX7_putWaiting_11 : decode cX7_putWaiting 11 = .ok (.iload_n 2, 1) := by decide +kernel
theorem dX7_putWaiting_12 : decode cX7_putWaiting 12 = .ok (.aload_n 0, 1) := by decide +kernel
theorem dX7_putWaiting_13 : decode cX7_putWaiting 13 = .ok (.getfield 54, 3) := by decide +kernel
theorem dX7_putWaiting_16 : decode cX7_putWaiting 16 = .ok (.arraylength, 1) := by decide +kernel
theorem dX7_putWaiting_17 : decode cX7_putWaiting 17 = .ok (.if_icmp .ge 37, 3) := by decide +kernel
theorem dX7_putWaiting_20 : decode cX7_putWaiting 20 = .ok (.aload_n 0, 1) := by decide +kernel
theorem dX7_putWaiting_21 : decode cX7_putWaiting 21 = .ok (.getfield 54, 3) := by decide +kernel
theorem dX7_putWaiting_24 : decode cX7_putWaiting 24 = .ok (.iload_n 2, 1) := by decide +kernel
theorem dX7_putWaiting_25 : decode cX7_putWaiting 25 = .ok (.iaload, 1) := by decide +kernel
theorem dX7_putWaiting_26 : decode cX7_putWaiting 26 = .ok (.invokestatic 199, 3) := by decide +kernel
theorem dX7_putWaiting_29 : decode cX7_putWaiting 29 = .ok (.iload_n 1, 1) := by decide +kernel
theorem dX7_putWaiting_30 : decode cX7_putWaiting 30 = .ok (.if_icmp .lt 24, 3) := by decide +kernel
theorem dX7_putWaiting_33 : decode cX7_putWaiting 33 = .ok (.aload_n 0, 1) := by decide +kernel
theorem dX7_putWaiting_34 : decode cX7_putWaiting 34 = .ok (.aload_n 0, 1) := by decide +kernel
theorem dX7_putWaiting_35 : decode cX7_putWaiting 35 = .ok (.getfield 54, 3) := by decide +kernel
theorem dX7_putWaiting_38 : decode cX7_putWaiting 38 = .ok (.iload_n 2, 1) := by decide +kernel
theorem dX7_putWaiting_39 : decode cX7_putWaiting 39 = .ok (.iaload, 1) := by decide +kernel
theorem dX7_putWaiting_40 : decode cX7_putWaiting 40 = .ok (.invokevirtual 186, 3) := by decide +kernel
theorem dX7_putWaiting_43 : decode cX7_putWaiting 43 = .ok (.aload_n 0, 1) := by decide +kernel
theorem dX7_putWaiting_44 : decode cX7_putWaiting 44 = .ok (.iload_n 2, 1) := by decide +kernel
theorem dX7_putWaiting_45 : decode cX7_putWaiting 45 = .ok (.putfield 57, 3) := by decide +kernel
theorem dX7_putWaiting_48 : decode cX7_putWaiting 48 = .ok (.iinc 2 (-1), 3) := by decide +kernel
theorem dX7_putWaiting_51 : decode cX7_putWaiting 51 = .ok (.goto (-44), 3) := by decide +kernel
theorem dX7_putWaiting_54 : decode cX7_putWaiting 54 = .ok (.return_, 1) := by decide +kernel
def bX7_putWaiting_7 (Y : XS) (n : Nat) (v0 : Nat) (v1 : Int32) (s7 : (Int32 × PS)) : Option ((Int32 × PS) ⊕ PS) :=
  (if s7.1 < 0 then some (.inr s7.2) else kgr s7.2 v0 12 (fun b13 => kln Y b13 (fun x16 => (if x16 ≤ s7.1 then some (.inr s7.2) else kgr s7.2 v0 12 (fun b21 => kai Y s7.2 b21 s7.1 (fun x25 => kc (fX7_strength Y n s7.2 x25) (fun q26 => (if q26 < v1 then some (.inr s7.2) else kgr s7.2 v0 12 (fun b35 => kai Y s7.2 b35 s7.1 (fun x39 => kc (fX7_put Y n s7.2 v0 x39) (fun q40 => kpi q40 v0 13 s7.1 (fun S45 => some (.inl (s7.1 + (-1 : Int32), S45))))))))))))))
def jX7_putWaiting_54 (Y : XS) (n : Nat) (S : PS)  : Option (PS) :=
  some S
def fX7_putWaiting (Y : XS) (n : Nat) (S : PS) (a0 : Nat) (x1_ : Int32) : Option (PS) :=
  kgi S a0 13 (fun x1 => kc (iter (bX7_putWaiting_7 Y n a0 x1_) n (x1 - (1 : Int32), S)) (fun r7 => jX7_putWaiting_54 Y n r7 ))
theorem wbX7_putWaiting_7 {C : CT} {X : XT} (hC : CK C RX7 cX7_putWaiting 3 none 2) (n : Nat) (v0 : Nat) (v1 : Int32) (hTv0 : Ty X.2.1 v0 7) (s7 : (Int32 × PS)) {o : (Int32 × PS) ⊕ PS} (hf : bX7_putWaiting_7 X.2.1 n v0 v1 s7 = some o) (hN : ∀ s', o = .inl s' → UW C X s'.2 7 [(0, .ref (X.1 v0)), (1, .int v1), (2, .int s'.1)] []) (hO0 : ∀ p', o = .inr p' → UW C X p' 54 [] []) : UW C X s7.2 7 [(0, .ref (X.1 v0)), (1, .int v1), (2, .int s7.1)] [] := by
  unfold bX7_putWaiting_7 at hf
  refine u_iload_n hC dX7_putWaiting_7 2 rfl rfl ?_
  refine u_if_lt (tgt := 54) hC dX7_putWaiting_8 (by decide) hf (fun h8 hf => ?_) (fun h8 hf => ?_)
  · refine u_sub (lv' := []) [] rfl ?_
    exact hO0 _ (Option.some.inj hf).symm
  · refine u_iload_n hC dX7_putWaiting_11 2 rfl rfl ?_
    refine u_aload_n hC dX7_putWaiting_12 0 rfl rfl ?_
    refine u_gr hC lf_X7_54 rfl hTv0 dX7_putWaiting_13 hf (fun b13 hTb13 hf => ?_)
    refine u_ln hC hTb13 dX7_putWaiting_16 hf (fun x16 hf => ?_)
    refine u_icmp_ge (tgt := 54) hC dX7_putWaiting_17 (by decide) hf (fun h17 hf => ?_) (fun h17 hf => ?_)
    · refine u_sub (lv' := []) [] rfl ?_
      exact hO0 _ (Option.some.inj hf).symm
    · refine u_aload_n hC dX7_putWaiting_20 0 rfl rfl ?_
      refine u_gr hC lf_X7_54 rfl hTv0 dX7_putWaiting_21 hf (fun b21 hTb21 hf => ?_)
      refine u_iload_n hC dX7_putWaiting_24 2 rfl rfl ?_
      refine u_ai hC hTb21 dX7_putWaiting_25 hf (fun x25 hf => ?_)
      obtain ⟨q26, hq26, hf⟩ := kc_some hf
      refine u_callS hC (ctX7_strength (cL C) hC.tr (cG C) X.1 X.2.1 n s7.2 x25  hq26) lk_X7_199 (by decide) (by decide) rfl rfl (Nat.le_of_ble_eq_true rfl) dX7_putWaiting_26 ?_
      refine u_iload_n hC dX7_putWaiting_29 1 rfl rfl ?_
      refine u_icmp_lt (tgt := 54) hC dX7_putWaiting_30 (by decide) hf (fun h30 hf => ?_) (fun h30 hf => ?_)
      · refine u_sub (lv' := []) [] rfl ?_
        exact hO0 _ (Option.some.inj hf).symm
      · refine u_aload_n hC dX7_putWaiting_33 0 rfl rfl ?_
        refine u_aload_n hC dX7_putWaiting_34 0 rfl rfl ?_
        refine u_gr hC lf_X7_54 rfl hTv0 dX7_putWaiting_35 hf (fun b35 hTb35 hf => ?_)
        refine u_iload_n hC dX7_putWaiting_38 2 rfl rfl ?_
        refine u_ai hC hTb35 dX7_putWaiting_39 hf (fun x39 hf => ?_)
        obtain ⟨q40, hq40, hf⟩ := kc_some hf
        refine u_callV hC (ctX7_put (cL C) hC.tr (cG C) X.1 X.2.1 n s7.2 v0 x39 hTv0 hq40) lk_X7_186 rfl hTv0 (by decide) rfl (by decide) (by decide) rfl rfl (Nat.le_of_ble_eq_true rfl) dX7_putWaiting_40 ?_
        refine u_aload_n hC dX7_putWaiting_43 0 rfl rfl ?_
        refine u_iload_n hC dX7_putWaiting_44 2 rfl rfl ?_
        refine u_pi hC lf_X7_57 rfl rfl rfl hTv0 dX7_putWaiting_45 hf (fun S45 hf => ?_)
        refine u_iinc (v := s7.1 + (-1 : Int32)) (lv' := [(2, .int (s7.1 + (-1 : Int32))), (0, .ref (X.1 v0)), (1, .int v1)]) hC dX7_putWaiting_48 2 rfl rfl (by decide) rfl ?_
        refine u_goto (tgt := 7) hC dX7_putWaiting_51 (by decide) ?_
        refine u_sub (lv' := [(0, .ref (X.1 v0)), (1, .int v1), (2, .int (s7.1 + (-1 : Int32)))]) [1, 2, 0] rfl ?_
        exact hN _ (Option.some.inj hf).symm
theorem wjX7_putWaiting_54 {C : CT} {X : XT} (hC : CK C RX7 cX7_putWaiting 3 none 2) (n : Nat) (S : PS)    {o : PS} (hf : jX7_putWaiting_54 X.2.1 n S  = some o) (hR : Rt C X cX7_putWaiting none none o) : UW C X S 54 [] [] := by
  unfold jX7_putWaiting_54 at hf
  cases hf
  exact hR _ _ dX7_putWaiting_54 trivial
theorem wX7_putWaiting {C : CT} {X : XT} (hC : CK C RX7 cX7_putWaiting 3 none 2) (n : Nat) (S : PS) (a0 : Nat) (x1_ : Int32) (hTa0 : Ty X.2.1 a0 7) {o : PS} (hf : fX7_putWaiting X.2.1 n S a0 x1_ = some o) (hR : Rt C X cX7_putWaiting none none o) : UW C X S 0 [(0, .ref (X.1 a0)), (1, .int x1_)] [] := by
  unfold fX7_putWaiting at hf
  refine u_aload_n hC dX7_putWaiting_0 0 rfl rfl ?_
  refine u_gi hC lf_X7_57 rfl hTa0 dX7_putWaiting_1 hf (fun x1 hf => ?_)
  refine u_iconst (v := (1 : Int32)) hC dX7_putWaiting_4 (by decide) ?_
  refine u_isub hC dX7_putWaiting_5 ?_
  refine u_istore_n (lv' := [(2, .int (x1 - (1 : Int32))), (0, .ref (X.1 a0)), (1, .int x1_)]) hC dX7_putWaiting_6 rfl (by decide) rfl ?_
  obtain ⟨r7, hr7, hf⟩ := kc_some hf
  have hk7 : UW C X r7 54 [] [] := by
    exact wjX7_putWaiting_54 hC n r7    hf hR
  refine u_sub (lv' := [(0, .ref (X.1 a0)), (1, .int x1_), (2, .int (x1 - (1 : Int32)))]) [1, 2, 0] rfl ?_
  refine iter_ind (P := fun s7 => UW C X s7.2 7 [(0, .ref (X.1 a0)), (1, .int x1_), (2, .int s7.1)] []) (fun s7 o' hb hin hout => ?_) n (x1 - (1 : Int32), S) hr7
  exact wbX7_putWaiting_7 hC n a0 x1_ hTa0 s7 hb hin (fun p e => by rw [hout p e]; exact hk7)
theorem ctX7_putWaiting (l : Launch) (hl : l.stackTraces = false) (G : GT) (ρ : Nat → Nat) (Y : XS) (n : Nat) (S : PS) (a0 : Nat) (x1_ : Int32) (hTa0 : Ty Y a0 7) {o : PS} (hf : fX7_putWaiting Y n S a0 x1_ = some o) : Mt l G yX7_putWaiting cX7_putWaiting 3 none 2 ρ Y [.ref (ρ a0), .int x1_] S none o :=
  Mt_of hl (by decide) (Nat.le_of_ble_eq_true rfl) (fun C _ _ hC hR => wX7_putWaiting (X := (ρ, Y, 0, 0)) hC n S a0 x1_ hTa0 hf hR)
-- X7_readClose
theorem dX7_readClose_0 : decode cX7_readClose 0 = .ok (.aload_n 0, 1) := by decide +kernel
theorem dX7_readClose_1 : decode cX7_readClose 1 = .ok (.iconst 1, 1) := by decide +kernel
theorem dX7_readClose_2 : decode cX7_readClose 2 = .ok (.invokevirtual 159, 3) := by decide +kernel
theorem dX7_readClose_5 : decode cX7_readClose 5 = .ok (.aload_n 0, 1) := by decide +kernel
theorem dX7_readClose_6 : decode cX7_readClose 6 = .ok (.iconst 0, 1) := by decide +kernel
theorem dX7_readClose_7 : decode cX7_readClose 7 = .ok (.aload_n 0, 1) := by decide +kernel
theorem dX7_readClose_8 : decode cX7_readClose 8 = .ok (.getfield 57, 3) := by decide +kernel
theorem dX7_readClose_11 : decode cX7_readClose 11 = .ok (.iconst 1, 1) := by decide +kernel
theorem dX7_readClose_12 : decode cX7_readClose 12 = .ok (.isub, 1) := by decide +kernel
theorem dX7_readClose_13 : decode cX7_readClose 13 = .ok (.invokestatic 196, 3) := by decide +kernel
theorem dX7_readClose_16 : decode cX7_readClose 16 = .ok (.putfield 57, 3) := by decide +kernel
theorem dX7_readClose_19 : decode cX7_readClose 19 = .ok (.aload_n 0, 1) := by decide +kernel
theorem dX7_readClose_20 : decode cX7_readClose 20 = .ok (.dup, 1) := by decide +kernel
theorem dX7_readClose_21 : decode cX7_readClose 21 = .ok (.getfield 60, 3) := by decide +kernel
theorem dX7_readClose_24 : decode cX7_readClose 24 = .ok (.iconst 1, 1) := by decide +kernel
theorem dX7_readClose_25 : decode cX7_readClose 25 = .ok (.isub, 1) := by decide +kernel
theorem dX7_readClose_26 : decode cX7_readClose 26 = .ok (.putfield 60, 3) := by decide +kernel
theorem dX7_readClose_29 : decode cX7_readClose 29 = .ok (.return_, 1) := by decide +kernel
def fX7_readClose (Y : XS) (n : Nat) (S : PS) (a0 : Nat) : Option (PS) :=
  kc (fX7_putWaiting Y n S a0 (1 : Int32)) (fun q2 => kgi q2 a0 13 (fun x8 => kpi q2 a0 13 (imax (0 : Int32) (x8 - (1 : Int32))) (fun S16 => kgi S16 a0 14 (fun x21 => kpi S16 a0 14 (x21 - (1 : Int32)) (fun S26 => some S26)))))
theorem wX7_readClose {C : CT} {X : XT} (hC : CK C RX7 cX7_readClose 1 none 3) (n : Nat) (S : PS) (a0 : Nat) (hTa0 : Ty X.2.1 a0 7) {o : PS} (hf : fX7_readClose X.2.1 n S a0 = some o) (hR : Rt C X cX7_readClose none none o) : UW C X S 0 [(0, .ref (X.1 a0))] [] := by
  unfold fX7_readClose at hf
  refine u_aload_n hC dX7_readClose_0 0 rfl rfl ?_
  refine u_iconst (v := (1 : Int32)) hC dX7_readClose_1 (by decide) ?_
  obtain ⟨q2, hq2, hf⟩ := kc_some hf
  refine u_callV hC (ctX7_putWaiting (cL C) hC.tr (cG C) X.1 X.2.1 n S a0 (1 : Int32) hTa0 hq2) lk_X7_159 rfl hTa0 (by decide) rfl (by decide) (by decide) rfl rfl (Nat.le_of_ble_eq_true rfl) dX7_readClose_2 ?_
  refine u_aload_n hC dX7_readClose_5 0 rfl rfl ?_
  refine u_iconst (v := (0 : Int32)) hC dX7_readClose_6 (by decide) ?_
  refine u_aload_n hC dX7_readClose_7 0 rfl rfl ?_
  refine u_gi hC lf_X7_57 rfl hTa0 dX7_readClose_8 hf (fun x8 hf => ?_)
  refine u_iconst (v := (1 : Int32)) hC dX7_readClose_11 (by decide) ?_
  refine u_isub hC dX7_readClose_12 ?_
  refine u_mmax hC (tb_4 41 rfl rfl) (by decide) (Nat.le_of_ble_eq_true rfl) dX7_readClose_13 ?_
  refine u_pi hC lf_X7_57 rfl rfl rfl hTa0 dX7_readClose_16 hf (fun S16 hf => ?_)
  refine u_aload_n hC dX7_readClose_19 0 rfl rfl ?_
  refine u_dup hC dX7_readClose_20 rfl ?_
  refine u_gi hC lf_X7_60 rfl hTa0 dX7_readClose_21 hf (fun x21 hf => ?_)
  refine u_iconst (v := (1 : Int32)) hC dX7_readClose_24 (by decide) ?_
  refine u_isub hC dX7_readClose_25 ?_
  refine u_pi hC lf_X7_60 rfl rfl rfl hTa0 dX7_readClose_26 hf (fun S26 hf => ?_)
  cases hf
  exact hR _ _ dX7_readClose_29 trivial
theorem ctX7_readClose (l : Launch) (hl : l.stackTraces = false) (G : GT) (ρ : Nat → Nat) (Y : XS) (n : Nat) (S : PS) (a0 : Nat) (hTa0 : Ty Y a0 7) {o : PS} (hf : fX7_readClose Y n S a0 = some o) : Mt l G yX7_readClose cX7_readClose 1 none 3 ρ Y [.ref (ρ a0)] S none o :=
  Mt_of hl (by decide) (Nat.le_of_ble_eq_true rfl) (fun C _ _ hC hR => wX7_readClose (X := (ρ, Y, 0, 0)) hC n S a0 hTa0 hf hR)
-- X7_readOperator
theorem dX7_readOperator_0 : decode cX7_readOperator 0 = .ok (.aload_n 0, 1) := by decide +kernel
theorem dX7_readOperator_1 : decode cX7_readOperator 1 = .ok (.iload_n 1, 1) := by decide +kernel
theorem dX7_readOperator_2 : decode cX7_readOperator 2 = .ok (.invokestatic 199, 3) := by decide +kernel
theorem dX7_readOperator_5 : decode cX7_readOperator 5 = .ok (.invokevirtual 159, 3) := by decide +kernel
theorem dX7_readOperator_8 : decode cX7_readOperator 8 = .ok (.aload_n 0, 1) := by decide +kernel
theorem dX7_readOperator_9 : decode cX7_readOperator 9 = .ok (.iload_n 1, 1) := by decide +kernel
theorem dX7_readOperator_10 : decode cX7_readOperator 10 = .ok (.invokevirtual 183, 3) := by decide +kernel
theorem dX7_readOperator_13 : decode cX7_readOperator 13 = .ok (.return_, 1) := by decide +kernel
def fX7_readOperator (Y : XS) (n : Nat) (S : PS) (a0 : Nat) (x1_ : Int32) : Option (PS) :=
  kc (fX7_strength Y n S x1_) (fun q2 => kc (fX7_putWaiting Y n S a0 q2) (fun q5 => kc (fX7_holdBack Y n q5 a0 x1_) (fun q10 => some q10)))
theorem wX7_readOperator {C : CT} {X : XT} (hC : CK C RX7 cX7_readOperator 2 none 3) (n : Nat) (S : PS) (a0 : Nat) (x1_ : Int32) (hTa0 : Ty X.2.1 a0 7) {o : PS} (hf : fX7_readOperator X.2.1 n S a0 x1_ = some o) (hR : Rt C X cX7_readOperator none none o) : UW C X S 0 [(0, .ref (X.1 a0)), (1, .int x1_)] [] := by
  unfold fX7_readOperator at hf
  refine u_aload_n hC dX7_readOperator_0 0 rfl rfl ?_
  refine u_iload_n hC dX7_readOperator_1 1 rfl rfl ?_
  obtain ⟨q2, hq2, hf⟩ := kc_some hf
  refine u_callS hC (ctX7_strength (cL C) hC.tr (cG C) X.1 X.2.1 n S x1_  hq2) lk_X7_199 (by decide) (by decide) rfl rfl (Nat.le_of_ble_eq_true rfl) dX7_readOperator_2 ?_
  obtain ⟨q5, hq5, hf⟩ := kc_some hf
  refine u_callV hC (ctX7_putWaiting (cL C) hC.tr (cG C) X.1 X.2.1 n S a0 q2 hTa0 hq5) lk_X7_159 rfl hTa0 (by decide) rfl (by decide) (by decide) rfl rfl (Nat.le_of_ble_eq_true rfl) dX7_readOperator_5 ?_
  refine u_aload_n hC dX7_readOperator_8 0 rfl rfl ?_
  refine u_iload_n hC dX7_readOperator_9 1 rfl rfl ?_
  obtain ⟨q10, hq10, hf⟩ := kc_some hf
  refine u_callV hC (ctX7_holdBack (cL C) hC.tr (cG C) X.1 X.2.1 n q5 a0 x1_ hTa0 hq10) lk_X7_183 rfl hTa0 (by decide) rfl (by decide) (by decide) rfl rfl (Nat.le_of_ble_eq_true rfl) dX7_readOperator_10 ?_
  cases hf
  exact hR _ _ dX7_readOperator_13 trivial
theorem ctX7_readOperator (l : Launch) (hl : l.stackTraces = false) (G : GT) (ρ : Nat → Nat) (Y : XS) (n : Nat) (S : PS) (a0 : Nat) (x1_ : Int32) (hTa0 : Ty Y a0 7) {o : PS} (hf : fX7_readOperator Y n S a0 x1_ = some o) : Mt l G yX7_readOperator cX7_readOperator 2 none 3 ρ Y [.ref (ρ a0), .int x1_] S none o :=
  Mt_of hl (by decide) (Nat.le_of_ble_eq_true rfl) (fun C _ _ hC hR => wX7_readOperator (X := (ρ, Y, 0, 0)) hC n S a0 x1_ hTa0 hf hR)
-- X7_operator
theorem dX7_operator_0 : decode cX7_operator 0 = .ok (.aload_n 0, 1) := by decide +kernel
theorem dX7_operator_1 : decode cX7_operator 1 = .ok (.getfield 38, 3) := by decide +kernel
theorem dX7_operator_4 : decode cX7_operator 4 = .ok (.iconst 3, 1) := by decide +kernel
theorem dX7_operator_5 : decode cX7_operator 5 = .ok (.if_icmp .eq 5, 3) := by decide +kernel
theorem dX7_operator_8 : decode cX7_operator 8 = .ok (.iconst 0, 1) := by decide +kernel
theorem dX7_operator_9 : decode cX7_operator 9 = .ok (.ireturn, 1) := by decide +kernel
theorem dX7_operator_10 : decode cX7_operator 10 = .ok (.aload_n 0, 1) := by decide +kernel
theorem dX7_operator_11 : decode cX7_operator 11 = .ok (.getfield 44, 3) := by decide +kernel
theorem dX7_operator_14 : decode cX7_operator 14 = .ok (.tableswitch 50 42 47 #[44, 38, 50, 41, 50, 47], 38) := by decide +kernel
theorem dX7_operator_52 : decode cX7_operator 52 = .ok (.bipush (-5), 2) := by decide +kernel
theorem dX7_operator_54 : decode cX7_operator 54 = .ok (.ireturn, 1) := by decide +kernel
theorem dX7_operator_55 : decode cX7_operator 55 = .ok (.bipush (-6), 2) := by decide +kernel
theorem dX7_operator_57 : decode cX7_operator 57 = .ok (.ireturn, 1) := by decide +kernel
theorem dX7_operator_58 : decode cX7_operator 58 = .ok (.bipush (-7), 2) := by decide +kernel
theorem dX7_operator_60 : decode cX7_operator 60 = .ok (.ireturn, 1) := by decide +kernel
theorem dX7_operator_61 : decode cX7_operator 61 = .ok (.bipush (-8), 2) := by decide +kernel
theorem dX7_operator_63 : decode cX7_operator 63 = .ok (.ireturn, 1) := by decide +kernel
theorem dX7_operator_64 : decode cX7_operator 64 = .ok (.iconst 0, 1) := by decide +kernel
theorem dX7_operator_65 : decode cX7_operator 65 = .ok (.ireturn, 1) := by decide +kernel
def fX7_operator (Y : XS) (n : Nat) (S : PS) (a0 : Nat) : Option (Int32) :=
  kgi S a0 7 (fun x1 => (if x1 = (3 : Int32) then kgi S a0 9 (fun x11 => (if x11 = (42 : Int32) then some (-7 : Int32) else (if x11 = (43 : Int32) then some (-5 : Int32) else (if x11 = (45 : Int32) then some (-6 : Int32) else (if x11 = (47 : Int32) then some (-8 : Int32) else some (0 : Int32)))))) else some (0 : Int32)))
theorem wX7_operator {C : CT} {X : XT} (hC : CK C RX7 cX7_operator 1 (some .int) 1) (n : Nat) (S : PS) (a0 : Nat) (hTa0 : Ty X.2.1 a0 7) {o : Int32} (hf : fX7_operator X.2.1 n S a0 = some o) (hR : Rt C X cX7_operator (some .int) (some (.int o)) S) : UW C X S 0 [(0, .ref (X.1 a0))] [] := by
  unfold fX7_operator at hf
  refine u_aload_n hC dX7_operator_0 0 rfl rfl ?_
  refine u_gi hC lf_X7_38 rfl hTa0 dX7_operator_1 hf (fun x1 hf => ?_)
  refine u_iconst (v := (3 : Int32)) hC dX7_operator_4 (by decide) ?_
  refine u_icmp_eq (tgt := 10) hC dX7_operator_5 (by decide) hf (fun h5 hf => ?_) (fun h5 hf => ?_)
  · refine u_aload_n hC dX7_operator_10 0 rfl rfl ?_
    refine u_gi hC lf_X7_44 rfl hTa0 dX7_operator_11 hf (fun x11 hf => ?_)
    by_cases hs14_0 : x11 = (42 : Int32)
    · rw [if_pos hs14_0] at hf
      refine u_tin (tgt := 58) hC dX7_operator_14 (by rw [hs14_0]; decide) (by rw [hs14_0]; decide) (by rw [hs14_0]; rfl) (by decide) ?_
      refine u_bipush (v := (-7 : Int32)) hC dX7_operator_58 (by decide) ?_
      cases hf
      exact hR _ _ dX7_operator_60 trivial
    rw [if_neg hs14_0] at hf
    by_cases hs14_1 : x11 = (43 : Int32)
    · rw [if_pos hs14_1] at hf
      refine u_tin (tgt := 52) hC dX7_operator_14 (by rw [hs14_1]; decide) (by rw [hs14_1]; decide) (by rw [hs14_1]; rfl) (by decide) ?_
      refine u_bipush (v := (-5 : Int32)) hC dX7_operator_52 (by decide) ?_
      cases hf
      exact hR _ _ dX7_operator_54 trivial
    rw [if_neg hs14_1] at hf
    by_cases hs14_2 : x11 = (45 : Int32)
    · rw [if_pos hs14_2] at hf
      refine u_tin (tgt := 55) hC dX7_operator_14 (by rw [hs14_2]; decide) (by rw [hs14_2]; decide) (by rw [hs14_2]; rfl) (by decide) ?_
      refine u_bipush (v := (-6 : Int32)) hC dX7_operator_55 (by decide) ?_
      cases hf
      exact hR _ _ dX7_operator_57 trivial
    rw [if_neg hs14_2] at hf
    by_cases hs14_3 : x11 = (47 : Int32)
    · rw [if_pos hs14_3] at hf
      refine u_tin (tgt := 61) hC dX7_operator_14 (by rw [hs14_3]; decide) (by rw [hs14_3]; decide) (by rw [hs14_3]; rfl) (by decide) ?_
      refine u_bipush (v := (-8 : Int32)) hC dX7_operator_61 (by decide) ?_
      cases hf
      exact hR _ _ dX7_operator_63 trivial
    rw [if_neg hs14_3] at hf
    have hz14_0 := lv_neT (a := 42) hs14_0 (by decide)
    have hz14_1 := lv_neT (a := 43) hs14_1 (by decide)
    have hz14_2 := lv_neT (a := 45) hs14_2 (by decide)
    have hz14_3 := lv_neT (a := 47) hs14_3 (by decide)
    by_cases ho14 : x11.toInt < 42 ∨ 47 < x11.toInt
    · refine u_tout (tgt := 64) hC dX7_operator_14 ho14 (by decide) ?_
      refine u_iconst (v := (0 : Int32)) hC dX7_operator_64 (by decide) ?_
      cases hf
      exact hR _ _ dX7_operator_65 trivial
    rcases (show x11.toInt = 44 ∨ x11.toInt = 46 by omega) with hh | hh
    · refine u_tin (tgt := 64) hC dX7_operator_14 (by omega) (by omega) (by rw [hh]; rfl) (by decide) ?_
      refine u_iconst (v := (0 : Int32)) hC dX7_operator_64 (by decide) ?_
      cases hf
      exact hR _ _ dX7_operator_65 trivial
    · refine u_tin (tgt := 64) hC dX7_operator_14 (by omega) (by omega) (by rw [hh]; rfl) (by decide) ?_
      refine u_iconst (v := (0 : Int32)) hC dX7_operator_64 (by decide) ?_
      cases hf
      exact hR _ _ dX7_operator_65 trivial
  · refine u_iconst (v := (0 : Int32)) hC dX7_operator_8 (by decide) ?_
    cases hf
    exact hR _ _ dX7_operator_9 trivial
theorem ctX7_operator (l : Launch) (hl : l.stackTraces = false) (G : GT) (ρ : Nat → Nat) (Y : XS) (n : Nat) (S : PS) (a0 : Nat) (hTa0 : Ty Y a0 7) {o : Int32} (hf : fX7_operator Y n S a0 = some o) : Mt l G yX7_operator cX7_operator 1 (some .int) 1 ρ Y [.ref (ρ a0)] S (some (.int o)) S :=
  Mt_of hl (by decide) (Nat.le_of_ble_eq_true rfl) (fun C _ _ hC hR => wX7_operator (X := (ρ, Y, 0, 0)) hC n S a0 hTa0 hf hR)
