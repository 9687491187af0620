-- X11_takes
theorem dX11_takes_0 : decode cX11_takes 0 = .ok (.iconst 0, 1) := by decide +kernel
theorem dX11_takes_1 : decode cX11_takes 1 = .ok (.istore_n 2, 1) := by decide +kernel
theorem dX11_takes_2 : decode cX11_takes 2 = .ok (.iload_n 2, 1) := by decide +kernel
theorem dX11_takes_3 : decode cX11_takes 3 = .ok (.aload_n 0, 1) := by decide +kernel
theorem dX11_takes_4 : decode cX11_takes 4 = .ok (.invokevirtual 77, 3) := by decide +kernel
theorem dX11_takes_7 : decode cX11_takes 7 = .ok (.if_icmp .ge 22, 3) := by decide +kernel
theorem dX11_takes_10 : decode cX11_takes 10 = .ok (.iload_n 1, 1) := by decide +kernel
theorem dX11_takes_11 : decode cX11_takes 11 = .ok (.iload_n 2, 1) := by decide +kernel
theorem dX11_takes_12 : decode cX11_takes 12 = .ok (.invokestatic 147, 3) := by decide +kernel
theorem dX11_takes_15 : decode cX11_takes 15 = .ok (.ifCond .eq 8, 3) := by decide +kernel
theorem dX11_takes_18 : decode cX11_takes 18 = .ok (.aload_n 0, 1) := by decide +kernel
theorem dX11_takes_19 : decode cX11_takes 19 = .ok (.iload_n 2, 1) := by decide +kernel
theorem dX11_takes_20 : decode cX11_takes 20 = .ok (.invokevirtual 169, 3) := by decide +kernel
theorem dX11_takes_23 : decode cX11_takes 23 = .ok (.iinc 2 1, 3) := by decide +kernel
theorem dX11_takes_26 : decode cX11_takes 26 = .ok (.goto (-24), 3) := by decide +kernel
theorem dX11_takes_29 : decode cX11_takes 29 = .ok (.return_, 1) := by decide +kernel
def jX11_takes_23_2 (Y : XS) (n : Nat) (S : PS) (v0 : Nat) (v1 : Int32) (v2 : Int32) : Option ((Int32 × PS) ⊕ PS) :=
  some (.inl (v2 + (1 : Int32), S))
def bX11_takes_2 (Y : XS) (n : Nat) (v0 : Nat) (v1 : Int32) (s2 : (Int32 × PS)) : Option ((Int32 × PS) ⊕ PS) :=
  kc (fX11_many Y n s2.2 v0) (fun q4 => (if q4 ≤ s2.1 then some (.inr s2.2) else kc (fX11_isOf Y n s2.2 v1 s2.1) (fun q12 => (if q12 = 0 then jX11_takes_23_2 Y n s2.2 v0 v1 s2.1 else kc (fX11_choose Y n s2.2 v0 s2.1) (fun q20 => jX11_takes_23_2 Y n q20 v0 v1 s2.1)))))
def fX11_takes (Y : XS) (n : Nat) (S : PS) (a0 : Nat) (x1_ : Int32) : Option (PS) :=
  kc (iter (bX11_takes_2 Y n a0 x1_) n ((0 : Int32), S)) (fun r2 => some r2)
theorem wjX11_takes_23_2 {C : CT} {X : XT} (hC : CK C RX11 cX11_takes 3 none 2) (n : Nat) (S : PS) (v0 : Nat) (v1 : Int32) (v2 : Int32)  (hTv0 : Ty X.2.1 v0 11) {o : (Int32 × PS) ⊕ PS} (hf : jX11_takes_23_2 X.2.1 n S v0 v1 v2 = some o) (hN : ∀ s', o = .inl s' → UW C X s'.2 2 [(0, .ref (X.1 v0)), (1, .int v1), (2, .int s'.1)] []) (hO0 : ∀ p', o = .inr p' → UW C X p' 29 [] []) : UW C X S 23 [(0, .ref (X.1 v0)), (1, .int v1), (2, .int v2)] [] := by
  unfold jX11_takes_23_2 at hf
  refine u_iinc (v := v2 + (1 : Int32)) (lv' := [(2, .int (v2 + (1 : Int32))), (0, .ref (X.1 v0)), (1, .int v1)]) hC dX11_takes_23 2 rfl rfl (by decide) rfl ?_
  refine u_goto (tgt := 2) hC dX11_takes_26 (by decide) ?_
  refine u_sub (lv' := [(0, .ref (X.1 v0)), (1, .int v1), (2, .int (v2 + (1 : Int32)))]) [1, 2, 0] rfl ?_
  exact hN _ (Option.some.inj hf).symm
theorem wbX11_takes_2 {C : CT} {X : XT} (hC : CK C RX11 cX11_takes 3 none 2) (n : Nat) (v0 : Nat) (v1 : Int32) (hTv0 : Ty X.2.1 v0 11) (s2 : (Int32 × PS)) {o : (Int32 × PS) ⊕ PS} (hf : bX11_takes_2 X.2.1 n v0 v1 s2 = some o) (hN : ∀ s', o = .inl s' → UW C X s'.2 2 [(0, .ref (X.1 v0)), (1, .int v1), (2, .int s'.1)] []) (hO0 : ∀ p', o = .inr p' → UW C X p' 29 [] []) : UW C X s2.2 2 [(0, .ref (X.1 v0)), (1, .int v1), (2, .int s2.1)] [] := by
  unfold bX11_takes_2 at hf
  refine u_iload_n hC dX11_takes_2 2 rfl rfl ?_
  refine u_aload_n hC dX11_takes_3 0 rfl rfl ?_
  obtain ⟨q4, hq4, hf⟩ := kc_some hf
  refine u_callV hC (ctX11_many (cL C) hC.tr (cG C) X.1 X.2.1 n s2.2 v0 hTv0 hq4) lk_X11_77 rfl hTv0 (by decide) rfl (by decide) (by decide) rfl rfl (Nat.le_of_ble_eq_true rfl) dX11_takes_4 ?_
  refine u_icmp_ge (tgt := 29) hC dX11_takes_7 (by decide) hf (fun h7 hf => ?_) (fun h7 hf => ?_)
  · refine u_sub (lv' := []) [] rfl ?_
    exact hO0 _ (Option.some.inj hf).symm
  · refine u_iload_n hC dX11_takes_10 1 rfl rfl ?_
    refine u_iload_n hC dX11_takes_11 2 rfl rfl ?_
    obtain ⟨q12, hq12, hf⟩ := kc_some hf
    refine u_callS hC (ctX11_isOf (cL C) hC.tr (cG C) X.1 X.2.1 n s2.2 v1 s2.1  hq12) lk_X11_147 (by decide) (by decide) rfl rfl (Nat.le_of_ble_eq_true rfl) dX11_takes_12 ?_
    refine u_if_eq (tgt := 23) hC dX11_takes_15 (by decide) hf (fun h15 hf => ?_) (fun h15 hf => ?_)
    · exact wjX11_takes_23_2 hC n s2.2 v0 v1 s2.1  hTv0 hf hN hO0
    · refine u_aload_n hC dX11_takes_18 0 rfl rfl ?_
      refine u_iload_n hC dX11_takes_19 2 rfl rfl ?_
      obtain ⟨q20, hq20, hf⟩ := kc_some hf
      refine u_callV hC (ctX11_choose (cL C) hC.tr (cG C) X.1 X.2.1 n s2.2 v0 s2.1 hTv0 hq20) lk_X11_169 rfl hTv0 (by decide) rfl (by decide) (by decide) rfl rfl (Nat.le_of_ble_eq_true rfl) dX11_takes_20 ?_
      exact wjX11_takes_23_2 hC n q20 v0 v1 s2.1  hTv0 hf hN hO0
theorem wX11_takes {C : CT} {X : XT} (hC : CK C RX11 cX11_takes 3 none 2) (n : Nat) (S : PS) (a0 : Nat) (x1_ : Int32) (hTa0 : Ty X.2.1 a0 11) {o : PS} (hf : fX11_takes X.2.1 n S a0 x1_ = some o) (hR : Rt C X cX11_takes none none o) : UW C X S 0 [(0, .ref (X.1 a0)), (1, .int x1_)] [] := by
  unfold fX11_takes at hf
  refine u_iconst (v := (0 : Int32)) hC dX11_takes_0 (by decide) ?_
  refine u_istore_n (lv' := [(2, .int (0 : Int32)), (0, .ref (X.1 a0)), (1, .int x1_)]) hC dX11_takes_1 rfl (by decide) rfl ?_
  obtain ⟨r2, hr2, hf⟩ := kc_some hf
  have hk2 : UW C X r2 29 [] [] := by
    cases hf
    exact hR _ _ dX11_takes_29 trivial
  refine u_sub (lv' := [(0, .ref (X.1 a0)), (1, .int x1_), (2, .int (0 : Int32))]) [1, 2, 0] rfl ?_
  refine iter_ind (P := fun s2 => UW C X s2.2 2 [(0, .ref (X.1 a0)), (1, .int x1_), (2, .int s2.1)] []) (fun s2 o' hb hin hout => ?_) n ((0 : Int32), S) hr2
  exact wbX11_takes_2 hC n a0 x1_ hTa0 s2 hb hin (fun p e => by rw [hout p e]; exact hk2)
theorem ctX11_takes (l : Launch) (hl : l.stackTraces = false) (G : GT) (ρ : Nat → Nat) (Y : XS) (n : Nat) (S : PS) (a0 : Nat) (x1_ : Int32) (hTa0 : Ty Y a0 11) {o : PS} (hf : fX11_takes Y n S a0 x1_ = some o) : Mt l G yX11_takes cX11_takes 3 none 2 ρ Y [.ref (ρ a0), .int x1_] S none o :=
  Mt_of hl (by decide) (Nat.le_of_ble_eq_true rfl) (fun C _ _ hC hR => wX11_takes (X := (ρ, Y, 0, 0)) hC n S a0 x1_ hTa0 hf hR)
-- X11_dueOf
theorem dX11_dueOf_0 : decode cX11_dueOf 0 = .ok (.ldc2_w 160, 3) := by decide +kernel
theorem dX11_dueOf_3 : decode cX11_dueOf 3 = .ok (.aload_n 0, 1) := by decide +kernel
theorem dX11_dueOf_4 : decode cX11_dueOf 4 = .ok (.iload_n 1, 1) := by decide +kernel
theorem dX11_dueOf_5 : decode cX11_dueOf 5 = .ok (.invokevirtual 134, 3) := by decide +kernel
theorem dX11_dueOf_8 : decode cX11_dueOf 8 = .ok (.i2l, 1) := by decide +kernel
theorem dX11_dueOf_9 : decode cX11_dueOf 9 = .ok (.lmul, 1) := by decide +kernel
theorem dX11_dueOf_10 : decode cX11_dueOf 10 = .ok (.lstore 4, 2) := by decide +kernel
theorem dX11_dueOf_12 : decode cX11_dueOf 12 = .ok (.iconst 0, 1) := by decide +kernel
theorem dX11_dueOf_13 : decode cX11_dueOf 13 = .ok (.istore 6, 2) := by decide +kernel
theorem dX11_dueOf_15 : decode cX11_dueOf 15 = .ok (.iload 6, 2) := by decide +kernel
theorem dX11_dueOf_17 : decode cX11_dueOf 17 = .ok (.aload_n 0, 1) := by decide +kernel
theorem dX11_dueOf_18 : decode cX11_dueOf 18 = .ok (.invokevirtual 85, 3) := by decide +kernel
theorem dX11_dueOf_21 : decode cX11_dueOf 21 = .ok (.if_icmp .ge 35, 3) := by decide +kernel
theorem dX11_dueOf_24 : decode cX11_dueOf 24 = .ok (.lload 4, 2) := by decide +kernel
theorem dX11_dueOf_26 : decode cX11_dueOf 26 = .ok (.aload_n 0, 1) := by decide +kernel
theorem dX11_dueOf_27 : decode cX11_dueOf 27 = .ok (.iload 6, 2) := by decide +kernel
theorem dX11_dueOf_29 : decode cX11_dueOf 29 = .ok (.iload_n 1, 1) := by decide +kernel
theorem dX11_dueOf_30 : decode cX11_dueOf 30 = .ok (.invokevirtual 88, 3) := by decide +kernel
theorem dX11_dueOf_33 : decode cX11_dueOf 33 = .ok (.ifCond .le 13, 3) := by decide +kernel
theorem dX11_dueOf_36 : decode cX11_dueOf 36 = .ok (.aload_n 0, 1) := by decide +kernel
theorem dX11_dueOf_37 : decode cX11_dueOf 37 = .ok (.getfield 56, 3) := by decide +kernel
theorem dX11_dueOf_40 : decode cX11_dueOf 40 = .ok (.iload 6, 2) := by decide +kernel
theorem dX11_dueOf_42 : decode cX11_dueOf 42 = .ok (.laload, 1) := by decide +kernel
theorem dX11_dueOf_43 : decode cX11_dueOf 43 = .ok (.goto 4, 3) := by decide +kernel
theorem dX11_dueOf_46 : decode cX11_dueOf 46 = .ok (.lconst 0, 1) := by decide +kernel
theorem dX11_dueOf_47 : decode cX11_dueOf 47 = .ok (.ladd, 1) := by decide +kernel
theorem dX11_dueOf_48 : decode cX11_dueOf 48 = .ok (.lstore 4, 2) := by decide +kernel
theorem dX11_dueOf_50 : decode cX11_dueOf 50 = .ok (.iinc 6 1, 3) := by decide +kernel
theorem dX11_dueOf_53 : decode cX11_dueOf 53 = .ok (.goto (-38), 3) := by decide +kernel
theorem dX11_dueOf_56 : decode cX11_dueOf 56 = .ok (.lload_n 2, 1) := by decide +kernel
theorem dX11_dueOf_57 : decode cX11_dueOf 57 = .ok (.lload 4, 2) := by decide +kernel
theorem dX11_dueOf_59 : decode cX11_dueOf 59 = .ok (.aload_n 0, 1) := by decide +kernel
theorem dX11_dueOf_60 : decode cX11_dueOf 60 = .ok (.getfield 28, 3) := by decide +kernel
theorem dX11_dueOf_63 : decode cX11_dueOf 63 = .ok (.iload_n 1, 1) := by decide +kernel
theorem dX11_dueOf_64 : decode cX11_dueOf 64 = .ok (.iaload, 1) := by decide +kernel
theorem dX11_dueOf_65 : decode cX11_dueOf 65 = .ok (.i2l, 1) := by decide +kernel
theorem dX11_dueOf_66 : decode cX11_dueOf 66 = .ok (.ladd, 1) := by decide +kernel
theorem dX11_dueOf_67 : decode cX11_dueOf 67 = .ok (.lconst 1, 1) := by decide +kernel
theorem dX11_dueOf_68 : decode cX11_dueOf 68 = .ok (.lsub, 1) := by decide +kernel
theorem dX11_dueOf_69 : decode cX11_dueOf 69 = .ok (.aload_n 0, 1) := by decide +kernel
theorem dX11_dueOf_70 : decode cX11_dueOf 70 = .ok (.getfield 28, 3) := by decide +kernel
theorem dX11_dueOf_73 : decode cX11_dueOf 73 = .ok (.iload_n 1, 1) := by decide +kernel
theorem dX11_dueOf_74 : decode cX11_dueOf 74 = .ok (.iaload, 1) := by decide +kernel
theorem dX11_dueOf_75 : decode cX11_dueOf 75 = .ok (.i2l, 1) := by decide +kernel
theorem dX11_dueOf_76 : decode cX11_dueOf 76 = .ok (.ldiv, 1) := by decide +kernel
theorem dX11_dueOf_77 : decode cX11_dueOf 77 = .ok (.invokestatic 219, 3) := by decide +kernel
theorem dX11_dueOf_80 : decode cX11_dueOf 80 = .ok (.lreturn, 1) := by decide +kernel
def jX11_dueOf_47_15 (Y : XS) (n : Nat) (S : PS) (v0 : Nat) (v1 : Int32) (v2 : Int64) (v6 : Int32) (t0 : Int64) (t1 : Int64) : Option ((Int64 × Int32) ⊕ Int64) :=
  some (.inl (t1 + t0, v6 + (1 : Int32)))
def bX11_dueOf_15 (Y : XS) (n : Nat) (S : PS) (v0 : Nat) (v1 : Int32) (v2 : Int64) (s15 : (Int64 × Int32)) : Option ((Int64 × Int32) ⊕ Int64) :=
  kc (fX11_people Y n S v0) (fun q18 => (if q18 ≤ s15.2 then some (.inr s15.1) else kc (fX11_scoreOf Y n S v0 s15.2 v1) (fun q30 => (if q30 ≤ 0 then jX11_dueOf_47_15 Y n S v0 v1 v2 s15.2 (0 : Int64) s15.1 else kgr S v0 25 (fun b37 => kal Y S b37 s15.2 (fun x42 => jX11_dueOf_47_15 Y n S v0 v1 v2 s15.2 x42 s15.1))))))
def fX11_dueOf (Y : XS) (n : Nat) (S : PS) (a0 : Nat) (x1_ : Int32) (x2_ : Int64) : Option (Int64) :=
  kc (fX11_costOf Y n S a0 x1_) (fun q5 => kc (iter (bX11_dueOf_15 Y n S a0 x1_ x2_) n ((1000 : Int64) * (Int32.toInt64 q5), (0 : Int32))) (fun r15 => kgr S a0 13 (fun b60 => kai Y S b60 x1_ (fun x64 => kgr S a0 13 (fun b70 => kai Y S b70 x1_ (fun x74 => kldiv ((r15 + (Int32.toInt64 x64)) - (1 : Int64)) (Int32.toInt64 x74) (fun z76 => some (lmax x2_ z76))))))))
theorem wjX11_dueOf_47_15 {C : CT} {X : XT} (hC : CK C RX11 cX11_dueOf 7 (some .long) 3) (n : Nat) (S : PS) (v0 : Nat) (v1 : Int32) (v2 : Int64) (v6 : Int32) (t0 : Int64) (t1 : Int64)  (hTv0 : Ty X.2.1 v0 11) {o : (Int64 × Int32) ⊕ Int64} (hf : jX11_dueOf_47_15 X.2.1 n S v0 v1 v2 v6 t0 t1 = some o) (hN : ∀ s', o = .inl s' → UW C X S 15 [(0, .ref (X.1 v0)), (1, .int v1), (2, .long v2), (4, .long s'.1), (6, .int s'.2)] []) (hO0 : ∀ p', o = .inr p' → UW C X S 56 [(0, .ref (X.1 v0)), (1, .int v1), (2, .long v2), (4, .long p')] []) : UW C X S 47 [(0, .ref (X.1 v0)), (1, .int v1), (2, .long v2), (6, .int v6)] [.long t0, .long t1] := by
  unfold jX11_dueOf_47_15 at hf
  refine u_ladd hC dX11_dueOf_47 ?_
  refine u_lstore (lv' := [(4, .long (t1 + t0)), (0, .ref (X.1 v0)), (1, .int v1), (2, .long v2), (6, .int v6)]) hC dX11_dueOf_48 (by decide) rfl ?_
  refine u_iinc (v := v6 + (1 : Int32)) (lv' := [(6, .int (v6 + (1 : Int32))), (4, .long (t1 + t0)), (0, .ref (X.1 v0)), (1, .int v1), (2, .long v2)]) hC dX11_dueOf_50 4 rfl rfl (by decide) rfl ?_
  refine u_goto (tgt := 15) hC dX11_dueOf_53 (by decide) ?_
  refine u_sub (lv' := [(0, .ref (X.1 v0)), (1, .int v1), (2, .long v2), (4, .long (t1 + t0)), (6, .int (v6 + (1 : Int32)))]) [2, 3, 4, 1, 0] rfl ?_
  exact hN _ (Option.some.inj hf).symm
theorem wbX11_dueOf_15 {C : CT} {X : XT} (hC : CK C RX11 cX11_dueOf 7 (some .long) 3) (n : Nat) (S : PS) (v0 : Nat) (v1 : Int32) (v2 : Int64) (hTv0 : Ty X.2.1 v0 11) (s15 : (Int64 × Int32)) {o : (Int64 × Int32) ⊕ Int64} (hf : bX11_dueOf_15 X.2.1 n S v0 v1 v2 s15 = some o) (hN : ∀ s', o = .inl s' → UW C X S 15 [(0, .ref (X.1 v0)), (1, .int v1), (2, .long v2), (4, .long s'.1), (6, .int s'.2)] []) (hO0 : ∀ p', o = .inr p' → UW C X S 56 [(0, .ref (X.1 v0)), (1, .int v1), (2, .long v2), (4, .long p')] []) : UW C X S 15 [(0, .ref (X.1 v0)), (1, .int v1), (2, .long v2), (4, .long s15.1), (6, .int s15.2)] [] := by
  unfold bX11_dueOf_15 at hf
  refine u_iload hC dX11_dueOf_15 4 rfl ?_
  refine u_aload_n hC dX11_dueOf_17 0 rfl rfl ?_
  obtain ⟨q18, hq18, hf⟩ := kc_some hf
  refine u_callV hC (ctX11_people (cL C) hC.tr (cG C) X.1 X.2.1 n S v0 hTv0 hq18) lk_X11_85 rfl hTv0 (by decide) rfl (by decide) (by decide) rfl rfl (Nat.le_of_ble_eq_true rfl) dX11_dueOf_18 ?_
  refine u_icmp_ge (tgt := 56) hC dX11_dueOf_21 (by decide) hf (fun h21 hf => ?_) (fun h21 hf => ?_)
  · refine u_sub (lv' := [(0, .ref (X.1 v0)), (1, .int v1), (2, .long v2), (4, .long s15.1)]) [0, 1, 2, 3] rfl ?_
    exact hO0 _ (Option.some.inj hf).symm
  · refine u_lload hC dX11_dueOf_24 3 rfl ?_
    refine u_aload_n hC dX11_dueOf_26 0 rfl rfl ?_
    refine u_iload hC dX11_dueOf_27 4 rfl ?_
    refine u_iload_n hC dX11_dueOf_29 1 rfl rfl ?_
    obtain ⟨q30, hq30, hf⟩ := kc_some hf
    refine u_callV hC (ctX11_scoreOf (cL C) hC.tr (cG C) X.1 X.2.1 n S v0 s15.2 v1 hTv0 hq30) lk_X11_88 rfl hTv0 (by decide) rfl (by decide) (by decide) rfl rfl (Nat.le_of_ble_eq_true rfl) dX11_dueOf_30 ?_
    refine u_if_le (tgt := 46) hC dX11_dueOf_33 (by decide) hf (fun h33 hf => ?_) (fun h33 hf => ?_)
    · refine u_lconst (v := (0 : Int64)) hC dX11_dueOf_46 (by decide) ?_
      refine u_sub (lv' := [(0, .ref (X.1 v0)), (1, .int v1), (2, .long v2), (6, .int s15.2)]) [0, 1, 2, 4] rfl ?_
      exact wjX11_dueOf_47_15 hC n S v0 v1 v2 s15.2 (0 : Int64) s15.1  hTv0 hf hN hO0
    · refine u_aload_n hC dX11_dueOf_36 0 rfl rfl ?_
      refine u_gr hC lf_X11_56 rfl hTv0 dX11_dueOf_37 hf (fun b37 hTb37 hf => ?_)
      refine u_iload hC dX11_dueOf_40 4 rfl ?_
      refine u_al hC hTb37 dX11_dueOf_42 hf (fun x42 hf => ?_)
      refine u_goto (tgt := 47) hC dX11_dueOf_43 (by decide) ?_
      refine u_sub (lv' := [(0, .ref (X.1 v0)), (1, .int v1), (2, .long v2), (6, .int s15.2)]) [0, 1, 2, 4] rfl ?_
      exact wjX11_dueOf_47_15 hC n S v0 v1 v2 s15.2 x42 s15.1  hTv0 hf hN hO0
theorem wX11_dueOf {C : CT} {X : XT} (hC : CK C RX11 cX11_dueOf 7 (some .long) 3) (n : Nat) (S : PS) (a0 : Nat) (x1_ : Int32) (x2_ : Int64) (hTa0 : Ty X.2.1 a0 11) {o : Int64} (hf : fX11_dueOf X.2.1 n S a0 x1_ x2_ = some o) (hR : Rt C X cX11_dueOf (some .long) (some (.long o)) S) : UW C X S 0 [(0, .ref (X.1 a0)), (1, .int x1_), (2, .long x2_)] [] := by
  unfold fX11_dueOf at hf
  refine u_ldc2 (v := (1000 : Int64)) hC dX11_dueOf_0 (tb_7 30 rfl rfl) ?_
  refine u_aload_n hC dX11_dueOf_3 0 rfl rfl ?_
  refine u_iload_n hC dX11_dueOf_4 1 rfl rfl ?_
  obtain ⟨q5, hq5, hf⟩ := kc_some hf
  refine u_callV hC (ctX11_costOf (cL C) hC.tr (cG C) X.1 X.2.1 n S a0 x1_ hTa0 hq5) lk_X11_134 rfl hTa0 (by decide) rfl (by decide) (by decide) rfl rfl (Nat.le_of_ble_eq_true rfl) dX11_dueOf_5 ?_
  refine u_i2l hC dX11_dueOf_8 ?_
  refine u_lmul hC dX11_dueOf_9 ?_
  refine u_lstore (lv' := [(4, .long ((1000 : Int64) * (Int32.toInt64 q5))), (0, .ref (X.1 a0)), (1, .int x1_), (2, .long x2_)]) hC dX11_dueOf_10 (by decide) rfl ?_
  refine u_iconst (v := (0 : Int32)) hC dX11_dueOf_12 (by decide) ?_
  refine u_istore (lv' := [(6, .int (0 : Int32)), (4, .long ((1000 : Int64) * (Int32.toInt64 q5))), (0, .ref (X.1 a0)), (1, .int x1_), (2, .long x2_)]) hC dX11_dueOf_13 (by decide) rfl ?_
  obtain ⟨r15, hr15, hf⟩ := kc_some hf
  have hk15 : UW C X S 56 [(0, .ref (X.1 a0)), (1, .int x1_), (2, .long x2_), (4, .long r15)] [] := by
    refine u_lload_n hC dX11_dueOf_56 2 rfl rfl ?_
    refine u_lload hC dX11_dueOf_57 3 rfl ?_
    refine u_aload_n hC dX11_dueOf_59 0 rfl rfl ?_
    refine u_gr hC lf_X11_28 rfl hTa0 dX11_dueOf_60 hf (fun b60 hTb60 hf => ?_)
    refine u_iload_n hC dX11_dueOf_63 1 rfl rfl ?_
    refine u_ai hC hTb60 dX11_dueOf_64 hf (fun x64 hf => ?_)
    refine u_i2l hC dX11_dueOf_65 ?_
    refine u_ladd hC dX11_dueOf_66 ?_
    refine u_lconst (v := (1 : Int64)) hC dX11_dueOf_67 (by decide) ?_
    refine u_lsub hC dX11_dueOf_68 ?_
    refine u_aload_n hC dX11_dueOf_69 0 rfl rfl ?_
    refine u_gr hC lf_X11_28 rfl hTa0 dX11_dueOf_70 hf (fun b70 hTb70 hf => ?_)
    refine u_iload_n hC dX11_dueOf_73 1 rfl rfl ?_
    refine u_ai hC hTb70 dX11_dueOf_74 hf (fun x74 hf => ?_)
    refine u_i2l hC dX11_dueOf_75 ?_
    refine u_ldiv hC dX11_dueOf_76 hf (fun z76 hf => ?_)
    refine u_mmaxl hC (tb_7 104 rfl rfl) (by decide) (Nat.le_of_ble_eq_true rfl) dX11_dueOf_77 ?_
    cases hf
    exact hR _ _ dX11_dueOf_80 trivial
  refine u_sub (lv' := [(0, .ref (X.1 a0)), (1, .int x1_), (2, .long x2_), (4, .long ((1000 : Int64) * (Int32.toInt64 q5))), (6, .int (0 : Int32))]) [2, 3, 4, 1, 0] rfl ?_
  refine iter_ind (P := fun s15 => UW C X S 15 [(0, .ref (X.1 a0)), (1, .int x1_), (2, .long x2_), (4, .long s15.1), (6, .int s15.2)] []) (fun s15 o' hb hin hout => ?_) n ((1000 : Int64) * (Int32.toInt64 q5), (0 : Int32)) hr15
  exact wbX11_dueOf_15 hC n S a0 x1_ x2_ hTa0 s15 hb hin (fun p e => by rw [hout p e]; exact hk15)
theorem ctX11_dueOf (l : Launch) (hl : l.stackTraces = false) (G : GT) (ρ : Nat → Nat) (Y : XS) (n : Nat) (S : PS) (a0 : Nat) (x1_ : Int32) (x2_ : Int64) (hTa0 : Ty Y a0 11) {o : Int64} (hf : fX11_dueOf Y n S a0 x1_ x2_ = some o) : Mt l G yX11_dueOf cX11_dueOf 7 (some .long) 3 ρ Y [.ref (ρ a0), .int x1_, .long x2_] S (some (.long o)) S :=
  Mt_of hl (by decide) (Nat.le_of_ble_eq_true rfl) (fun C _ _ hC hR => wX11_dueOf (X := (ρ, Y, 0, 0)) hC n S a0 x1_ x2_ hTa0 hf hR)
-- X11_earns
theorem dX11_earns_0 : decode cX11_earns 0 = .ok (.iconst 0, 1) := by decide +kernel
theorem dX11_earns_1 : decode cX11_earns 1 = .ok (.istore_n 1, 1) := by decide +kernel
theorem dX11_earns_2 : decode cX11_earns 2 = .ok (.iload_n 1, 1) := by decide +kernel
theorem dX11_earns_3 : decode cX11_earns 3 = .ok (.bipush 24, 2) := by decide +kernel
theorem dX11_earns_5 : decode cX11_earns 5 = .ok (.if_icmp .ge 16, 3) := by decide +kernel
theorem dX11_earns_8 : decode cX11_earns 8 = .ok (.aload_n 0, 1) := by decide +kernel
theorem dX11_earns_9 : decode cX11_earns 9 = .ok (.getfield 56, 3) := by decide +kernel
theorem dX11_earns_12 : decode cX11_earns 12 = .ok (.iload_n 1, 1) := by decide +kernel
theorem dX11_earns_13 : decode cX11_earns 13 = .ok (.lconst 0, 1) := by decide +kernel
theorem dX11_earns_14 : decode cX11_earns 14 = .ok (.lastore, 1) := by decide +kernel
theorem dX11_earns_15 : decode cX11_earns 15 = .ok (.iinc 1 1, 3) := by decide +kernel
theorem dX11_earns_18 : decode cX11_earns 18 = .ok (.goto (-16), 3) := by decide +kernel
theorem dX11_earns_21 : decode cX11_earns 21 = .ok (.lconst 0, 1) := by decide +kernel
theorem dX11_earns_22 : decode cX11_earns 22 = .ok (.lstore_n 1, 1) := by decide +kernel
theorem dX11_earns_23 : decode cX11_earns 23 = .ok (.iconst 1, 1) := by decide +kernel
theorem dX11_earns_24 : decode cX11_earns 24 = .ok (.istore_n 3, 1) := by decide +kernel
theorem dX11_earns_25 : decode cX11_earns 25 = .ok (.iload_n 3, 1) := by decide +kernel
theorem dX11_earns_26 : decode cX11_earns 26 = .ok (.ifCond .eq 185, 3) := by decide +kernel
theorem dX11_earns_29 : decode cX11_earns 29 = .ok (.iconst (-1), 1) := by decide +kernel
theorem dX11_earns_30 : decode cX11_earns 30 = .ok (.istore 4, 2) := by decide +kernel
theorem dX11_earns_32 : decode cX11_earns 32 = .ok (.lconst 0, 1) := by decide +kernel
theorem dX11_earns_33 : decode cX11_earns 33 = .ok (.lstore 5, 2) := by decide +kernel
theorem dX11_earns_35 : decode cX11_earns 35 = .ok (.iconst 0, 1) := by decide +kernel
theorem dX11_earns_36 : decode cX11_earns 36 = .ok (.istore 7, 2) := by decide +kernel
theorem dX11_earns_38 : decode cX11_earns 38 = .ok (.iload 7, 2) := by decide +kernel
theorem dX11_earns_40 : decode cX11_earns 40 = .ok (.aload_n 0, 1) := by decide +kernel
theorem dX11_earns_41 : decode cX11_earns 41 = .ok (.invokevirtual 77, 3) := by decide +kernel
theorem dX11_earns_44 : decode cX11_earns 44 = .ok (.if_icmp .ge 75, 3) := by decide +kernel
theorem dX11_earns_47 : decode cX11_earns 47 = .ok (.aload_n 0, 1) := by decide +kernel
theorem dX11_earns_48 : decode cX11_earns 48 = .ok (.getfield 154, 3) := by decide +kernel
theorem dX11_earns_51 : decode cX11_earns 51 = .ok (.iload 7, 2) := by decide +kernel
theorem dX11_earns_53 : decode cX11_earns 53 = .ok (.invokestatic 147, 3) := by decide +kernel
theorem dX11_earns_56 : decode cX11_earns 56 = .ok (.ifCond .ne 57, 3) := by decide +kernel
theorem dX11_earns_59 : decode cX11_earns 59 = .ok (.aload_n 0, 1) := by decide +kernel
theorem dX11_earns_60 : decode cX11_earns 60 = .ok (.getfield 28, 3) := by decide +kernel
theorem dX11_earns_63 : decode cX11_earns 63 = .ok (.iload 7, 2) := by decide +kernel
theorem dX11_earns_65 : decode cX11_earns 65 = .ok (.iaload, 1) := by decide +kernel
theorem dX11_earns_66 : decode cX11_earns 66 = .ok (.ifCond .ne 6, 3) := by decide +kernel
theorem dX11_earns_69 : decode cX11_earns 69 = .ok (.goto 44, 3) := by decide +kernel
theorem dX11_earns_72 : decode cX11_earns 72 = .ok (.aload_n 0, 1) := by decide +kernel
theorem dX11_earns_73 : decode cX11_earns 73 = .ok (.iload 7, 2) := by decide +kernel
theorem dX11_earns_75 : decode cX11_earns 75 = .ok (.lload_n 1, 1) := by decide +kernel
theorem dX11_earns_76 : decode cX11_earns 76 = .ok (.invokevirtual 221, 3) := by decide +kernel
theorem dX11_earns_79 : decode cX11_earns 79 = .ok (.lstore 8, 2) := by decide +kernel
theorem dX11_earns_81 : decode cX11_earns 81 = .ok (.iload 4, 2) := by decide +kernel
theorem dX11_earns_83 : decode cX11_earns 83 = .ok (.iconst (-1), 1) := by decide +kernel
theorem dX11_earns_84 : decode cX11_earns 84 = .ok (.if_icmp .eq 21, 3) := by decide +kernel
theorem dX11_earns_87 : decode cX11_earns 87 = .ok (.aload_n 0, 1) := by decide +kernel
theorem dX11_earns_88 : decode cX11_earns 88 = .ok (.lload 8, 2) := by decide +kernel
theorem dX11_earns_90 : decode cX11_earns 90 = .ok (.iload 7, 2) := by decide +kernel
theorem dX11_earns_92 : decode cX11_earns 92 = .ok (.lload 5, 2) := by decide +kernel
theorem dX11_earns_94 : decode cX11_earns 94 = .ok (.iload 4, 2) := by decide +kernel
theorem dX11_earns_96 : decode cX11_earns 96 = .ok (.invokevirtual 182, 3) := by decide +kernel
theorem dX11_earns_99 : decode cX11_earns 99 = .ok (.ifCond .ne 6, 3) := by decide +kernel
theorem dX11_earns_102 : decode cX11_earns 102 = .ok (.goto 11, 3) := by decide +kernel
theorem dX11_earns_105 : decode cX11_earns 105 = .ok (.iload 7, 2) := by decide +kernel
theorem dX11_earns_107 : decode cX11_earns 107 = .ok (.istore 4, 2) := by decide +kernel
theorem dX11_earns_109 : decode cX11_earns 109 = .ok (.lload 8, 2) := by decide +kernel
theorem dX11_earns_111 : decode cX11_earns 111 = .ok (.lstore 5, 2) := by decide +kernel
theorem dX11_earns_113 : decode cX11_earns 113 = .ok (.iinc 7 1, 3) := by decide +kernel
theorem dX11_earns_116 : decode cX11_earns 116 = .ok (.goto (-78), 3) := by decide +kernel
theorem dX11_earns_119 : decode cX11_earns 119 = .ok (.iload 4, 2) := by decide +kernel
theorem dX11_earns_121 : decode cX11_earns 121 = .ok (.iconst (-1), 1) := by decide +kernel
theorem dX11_earns_122 : decode cX11_earns 122 = .ok (.if_icmp .eq 31, 3) := by decide +kernel
theorem dX11_earns_125 : decode cX11_earns 125 = .ok (.aload_n 0, 1) := by decide +kernel
theorem dX11_earns_126 : decode cX11_earns 126 = .ok (.aload_n 0, 1) := by decide +kernel
theorem dX11_earns_127 : decode cX11_earns 127 = .ok (.getfield 154, 3) := by decide +kernel
theorem dX11_earns_130 : decode cX11_earns 130 = .ok (.invokevirtual 196, 3) := by decide +kernel
theorem dX11_earns_133 : decode cX11_earns 133 = .ok (.aload_n 0, 1) := by decide +kernel
theorem dX11_earns_134 : decode cX11_earns 134 = .ok (.iload 4, 2) := by decide +kernel
theorem dX11_earns_136 : decode cX11_earns 136 = .ok (.invokevirtual 134, 3) := by decide +kernel
theorem dX11_earns_139 : decode cX11_earns 139 = .ok (.iadd, 1) := by decide +kernel
theorem dX11_earns_140 : decode cX11_earns 140 = .ok (.aload_n 0, 1) := by decide +kernel
theorem dX11_earns_141 : decode cX11_earns 141 = .ok (.getfield 9, 3) := by decide +kernel
theorem dX11_earns_144 : decode cX11_earns 144 = .ok (.iconst 0, 1) := by decide +kernel
theorem dX11_earns_145 : decode cX11_earns 145 = .ok (.iaload, 1) := by decide +kernel
theorem dX11_earns_146 : decode cX11_earns 146 = .ok (.if_icmp .gt 7, 3) := by decide +kernel
theorem dX11_earns_149 : decode cX11_earns 149 = .ok (.iconst 1, 1) := by decide +kernel
theorem dX11_earns_150 : decode cX11_earns 150 = .ok (.goto 4, 3) := by decide +kernel
theorem dX11_earns_153 : decode cX11_earns 153 = .ok (.iconst 0, 1) := by decide +kernel
theorem dX11_earns_154 : decode cX11_earns 154 = .ok (.istore_n 3, 1) := by decide +kernel
theorem dX11_earns_155 : decode cX11_earns 155 = .ok (.iload_n 3, 1) := by decide +kernel
theorem dX11_earns_156 : decode cX11_earns 156 = .ok (.ifCond .ne 6, 3) := by decide +kernel
theorem dX11_earns_159 : decode cX11_earns 159 = .ok (.goto (-134), 3) := by decide +kernel
theorem dX11_earns_162 : decode cX11_earns 162 = .ok (.lload 5, 2) := by decide +kernel
theorem dX11_earns_164 : decode cX11_earns 164 = .ok (.lstore_n 1, 1) := by decide +kernel
theorem dX11_earns_165 : decode cX11_earns 165 = .ok (.aload_n 0, 1) := by decide +kernel
theorem dX11_earns_166 : decode cX11_earns 166 = .ok (.iload 4, 2) := by decide +kernel
theorem dX11_earns_168 : decode cX11_earns 168 = .ok (.invokevirtual 169, 3) := by decide +kernel
theorem dX11_earns_171 : decode cX11_earns 171 = .ok (.iconst 0, 1) := by decide +kernel
theorem dX11_earns_172 : decode cX11_earns 172 = .ok (.istore 7, 2) := by decide +kernel
theorem dX11_earns_174 : decode cX11_earns 174 = .ok (.iload 7, 2) := by decide +kernel
theorem dX11_earns_176 : decode cX11_earns 176 = .ok (.aload_n 0, 1) := by decide +kernel
theorem dX11_earns_177 : decode cX11_earns 177 = .ok (.invokevirtual 85, 3) := by decide +kernel
theorem dX11_earns_180 : decode cX11_earns 180 = .ok (.if_icmp .ge 28, 3) := by decide +kernel
theorem dX11_earns_183 : decode cX11_earns 183 = .ok (.aload_n 0, 1) := by decide +kernel
theorem dX11_earns_184 : decode cX11_earns 184 = .ok (.iload 7, 2) := by decide +kernel
theorem dX11_earns_186 : decode cX11_earns 186 = .ok (.iload 4, 2) := by decide +kernel
theorem dX11_earns_188 : decode cX11_earns 188 = .ok (.invokevirtual 88, 3) := by decide +kernel
theorem dX11_earns_191 : decode cX11_earns 191 = .ok (.ifCond .le 11, 3) := by decide +kernel
theorem dX11_earns_194 : decode cX11_earns 194 = .ok (.aload_n 0, 1) := by decide +kernel
theorem dX11_earns_195 : decode cX11_earns 195 = .ok (.getfield 56, 3) := by decide +kernel
theorem dX11_earns_198 : decode cX11_earns 198 = .ok (.iload 7, 2) := by decide +kernel
theorem dX11_earns_200 : decode cX11_earns 200 = .ok (.lload_n 1, 1) := by decide +kernel
theorem dX11_earns_201 : decode cX11_earns 201 = .ok (.lastore, 1) := by decide +kernel
theorem dX11_earns_202 : decode cX11_earns 202 = .ok (.iinc 7 1, 3) := by decide +kernel
theorem dX11_earns_205 : decode cX11_earns 205 = .ok (.goto (-31), 3) := by decide +kernel
theorem dX11_earns_208 : decode cX11_earns 208 = .ok (.goto (-183), 3) := by decide +kernel
theorem dX11_earns_211 : decode cX11_earns 211 = .ok (.return_, 1) := by decide +kernel
def bX11_earns_2 (Y : XS) (n : Nat) (v0 : Nat) (s2 : (Int32 × PS)) : Option ((Int32 × PS) ⊕ PS) :=
  (if (24 : Int32) ≤ s2.1 then some (.inr s2.2) else kgr s2.2 v0 25 (fun b9 => kwl Y s2.2 b9 s2.1 (0 : Int64) (fun S14 => some (.inl (s2.1 + (1 : Int32), S14)))))
def jX11_earns_113_38 (Y : XS) (n : Nat) (S : PS) (v0 : Nat) (v1 : Int64) (v4 : Int32) (v5 : Int64) (v7 : Int32) : Option ((Int32 × Int64 × Int32) ⊕ (Int32 × Int64)) :=
  some (.inl (v4, v5, v7 + (1 : Int32)))
def jX11_earns_105_38 (Y : XS) (n : Nat) (S : PS) (v0 : Nat) (v1 : Int64) (v7 : Int32) (v8 : Int64) : Option ((Int32 × Int64 × Int32) ⊕ (Int32 × Int64)) :=
  jX11_earns_113_38 Y n S v0 v1 v7 v8 v7
def bX11_earns_38 (Y : XS) (n : Nat) (S : PS) (v0 : Nat) (v1 : Int64) (s38 : (Int32 × Int64 × Int32)) : Option ((Int32 × Int64 × Int32) ⊕ (Int32 × Int64)) :=
  kc (fX11_many Y n S v0) (fun q41 => (if q41 ≤ s38.2.2 then some (.inr (s38.1, s38.2.1)) else kgi S v0 21 (fun x48 => kc (fX11_isOf Y n S x48 s38.2.2) (fun q53 => (if q53 = 0 then kgr S v0 13 (fun b60 => kai Y S b60 s38.2.2 (fun x65 => (if x65 = 0 then jX11_earns_113_38 Y n S v0 v1 s38.1 s38.2.1 s38.2.2 else kc (fX11_dueOf Y n S v0 s38.2.2 v1) (fun q76 => (if s38.1 = (-1 : Int32) then jX11_earns_105_38 Y n S v0 v1 s38.2.2 q76 else kc (fX11_isFirst Y n S v0 q76 s38.2.2 s38.2.1 s38.1) (fun q96 => (if q96 = 0 then jX11_earns_113_38 Y n S v0 v1 s38.1 s38.2.1 s38.2.2 else jX11_earns_105_38 Y n S v0 v1 s38.2.2 q76))))))) else jX11_earns_113_38 Y n S v0 v1 s38.1 s38.2.1 s38.2.2)))))
def jX11_earns_202_174 (Y : XS) (n : Nat) (S : PS) (v0 : Nat) (v1 : Int64) (v3 : Int32) (v4 : Int32) (v7 : Int32) : Option ((Int32 × PS) ⊕ PS) :=
  some (.inl (v7 + (1 : Int32), S))
def bX11_earns_174 (Y : XS) (n : Nat) (v0 : Nat) (v1 : Int64) (v3 : Int32) (v4 : Int32) (s174 : (Int32 × PS)) : Option ((Int32 × PS) ⊕ PS) :=
  kc (fX11_people Y n s174.2 v0) (fun q177 => (if q177 ≤ s174.1 then some (.inr s174.2) else kc (fX11_scoreOf Y n s174.2 v0 s174.1 v4) (fun q188 => (if q188 ≤ 0 then jX11_earns_202_174 Y n s174.2 v0 v1 v3 v4 s174.1 else kgr s174.2 v0 25 (fun b195 => kwl Y s174.2 b195 s174.1 v1 (fun S201 => jX11_earns_202_174 Y n S201 v0 v1 v3 v4 s174.1))))))
def jX11_earns_154_25 (Y : XS) (n : Nat) (S : PS) (v0 : Nat) (v1 : Int64) (v4 : Int32) (v5 : Int64) (t0 : Int32) : Option ((Int64 × Int32 × PS) ⊕ PS) :=
  (if t0 = 0 then some (.inl (v1, t0, S)) else kc (fX11_choose Y n S v0 v4) (fun q168 => kc (iter (bX11_earns_174 Y n v0 v5 t0 v4) n ((0 : Int32), q168)) (fun r174 => some (.inl (v5, t0, r174)))))
def jX11_earns_153_25 (Y : XS) (n : Nat) (S : PS) (v0 : Nat) (v1 : Int64) (v4 : Int32) (v5 : Int64) : Option ((Int64 × Int32 × PS) ⊕ PS) :=
  jX11_earns_154_25 Y n S v0 v1 v4 v5 (0 : Int32)
def bX11_earns_25 (Y : XS) (n : Nat) (v0 : Nat) (s25 : (Int64 × Int32 × PS)) : Option ((Int64 × Int32 × PS) ⊕ PS) :=
  (if s25.2.1 = 0 then some (.inr s25.2.2) else kc (iter (bX11_earns_38 Y n s25.2.2 v0 s25.1) n ((-1 : Int32), (0 : Int64), (0 : Int32))) (fun r38 => (if r38.1 = (-1 : Int32) then jX11_earns_153_25 Y n s25.2.2 v0 s25.1 r38.1 r38.2 else kgi s25.2.2 v0 21 (fun x127 => kc (fX11_costsOf Y n s25.2.2 v0 x127) (fun q130 => kc (fX11_costOf Y n s25.2.2 v0 r38.1) (fun q136 => kgr s25.2.2 v0 0 (fun b141 => kai Y s25.2.2 b141 (0 : Int32) (fun x145 => (if x145 < (q130 + q136) then jX11_earns_153_25 Y n s25.2.2 v0 s25.1 r38.1 r38.2 else jX11_earns_154_25 Y n s25.2.2 v0 s25.1 r38.1 r38.2 (1 : Int32))))))))))
def fX11_earns (Y : XS) (n : Nat) (S : PS) (a0 : Nat) : Option (PS) :=
  kc (iter (bX11_earns_2 Y n a0) n ((0 : Int32), S)) (fun r2 => kc (iter (bX11_earns_25 Y n a0) n ((0 : Int64), (1 : Int32), r2)) (fun r25 => some r25))
theorem wbX11_earns_2 {C : CT} {X : XT} (hC : CK C RX11 cX11_earns 10 none 4) (n : Nat) (v0 : Nat) (hTv0 : Ty X.2.1 v0 11) (s2 : (Int32 × PS)) {o : (Int32 × PS) ⊕ PS} (hf : bX11_earns_2 X.2.1 n v0 s2 = some o) (hN : ∀ s', o = .inl s' → UW C X s'.2 2 [(0, .ref (X.1 v0)), (1, .int s'.1)] []) (hO0 : ∀ p', o = .inr p' → UW C X p' 21 [(0, .ref (X.1 v0))] []) : UW C X s2.2 2 [(0, .ref (X.1 v0)), (1, .int s2.1)] [] := by
  unfold bX11_earns_2 at hf
  refine u_iload_n hC dX11_earns_2 1 rfl rfl ?_
  refine u_bipush (v := (24 : Int32)) hC dX11_earns_3 (by decide) ?_
  refine u_icmp_ge (tgt := 21) hC dX11_earns_5 (by decide) hf (fun h5 hf => ?_) (fun h5 hf => ?_)
  · refine u_sub (lv' := [(0, .ref (X.1 v0))]) [0] rfl ?_
    exact hO0 _ (Option.some.inj hf).symm
  · refine u_aload_n hC dX11_earns_8 0 rfl rfl ?_
    refine u_gr hC lf_X11_56 rfl hTv0 dX11_earns_9 hf (fun b9 hTb9 hf => ?_)
    refine u_iload_n hC dX11_earns_12 1 rfl rfl ?_
    refine u_lconst (v := (0 : Int64)) hC dX11_earns_13 (by decide) ?_
    refine u_wl hC hTb9 dX11_earns_14 hf (fun S14 hf => ?_)
    refine u_iinc (v := s2.1 + (1 : Int32)) (lv' := [(1, .int (s2.1 + (1 : Int32))), (0, .ref (X.1 v0))]) hC dX11_earns_15 1 rfl rfl (by decide) rfl ?_
    refine u_goto (tgt := 2) hC dX11_earns_18 (by decide) ?_
    refine u_sub (lv' := [(0, .ref (X.1 v0)), (1, .int (s2.1 + (1 : Int32)))]) [1, 0] rfl ?_
    exact hN _ (Option.some.inj hf).symm
theorem wjX11_earns_113_38 {C : CT} {X : XT} (hC : CK C RX11 cX11_earns 10 none 4) (n : Nat) (S : PS) (v0 : Nat) (v1 : Int64) (v4 : Int32) (v5 : Int64) (v7 : Int32)  (hTv0 : Ty X.2.1 v0 11) {o : (Int32 × Int64 × Int32) ⊕ (Int32 × Int64)} (hf : jX11_earns_113_38 X.2.1 n S v0 v1 v4 v5 v7 = some o) (hN : ∀ s', o = .inl s' → UW C X S 38 [(0, .ref (X.1 v0)), (1, .long v1), (4, .int s'.1), (5, .long s'.2.1), (7, .int s'.2.2)] []) (hO0 : ∀ p', o = .inr p' → UW C X S 119 [(0, .ref (X.1 v0)), (1, .long v1), (4, .int p'.1), (5, .long p'.2)] []) : UW C X S 113 [(0, .ref (X.1 v0)), (1, .long v1), (4, .int v4), (5, .long v5), (7, .int v7)] [] := by
  unfold jX11_earns_113_38 at hf
  refine u_iinc (v := v7 + (1 : Int32)) (lv' := [(7, .int (v7 + (1 : Int32))), (0, .ref (X.1 v0)), (1, .long v1), (4, .int v4), (5, .long v5)]) hC dX11_earns_113 4 rfl rfl (by decide) rfl ?_
  refine u_goto (tgt := 38) hC dX11_earns_116 (by decide) ?_
  refine u_sub (lv' := [(0, .ref (X.1 v0)), (1, .long v1), (4, .int v4), (5, .long v5), (7, .int (v7 + (1 : Int32)))]) [1, 2, 3, 4, 0] rfl ?_
  exact hN _ (Option.some.inj hf).symm
theorem wjX11_earns_105_38 {C : CT} {X : XT} (hC : CK C RX11 cX11_earns 10 none 4) (n : Nat) (S : PS) (v0 : Nat) (v1 : Int64) (v7 : Int32) (v8 : Int64)  (hTv0 : Ty X.2.1 v0 11) {o : (Int32 × Int64 × Int32) ⊕ (Int32 × Int64)} (hf : jX11_earns_105_38 X.2.1 n S v0 v1 v7 v8 = some o) (hN : ∀ s', o = .inl s' → UW C X S 38 [(0, .ref (X.1 v0)), (1, .long v1), (4, .int s'.1), (5, .long s'.2.1), (7, .int s'.2.2)] []) (hO0 : ∀ p', o = .inr p' → UW C X S 119 [(0, .ref (X.1 v0)), (1, .long v1), (4, .int p'.1), (5, .long p'.2)] []) : UW C X S 105 [(0, .ref (X.1 v0)), (1, .long v1), (7, .int v7), (8, .long v8)] [] := by
  unfold jX11_earns_105_38 at hf
  refine u_iload hC dX11_earns_105 2 rfl ?_
  refine u_istore (lv' := [(4, .int v7), (0, .ref (X.1 v0)), (1, .long v1), (7, .int v7), (8, .long v8)]) hC dX11_earns_107 (by decide) rfl ?_
  refine u_lload hC dX11_earns_109 4 rfl ?_
  refine u_lstore (lv' := [(5, .long v8), (4, .int v7), (0, .ref (X.1 v0)), (1, .long v1), (7, .int v7), (8, .long v8)]) hC dX11_earns_111 (by decide) rfl ?_
  refine u_sub (lv' := [(0, .ref (X.1 v0)), (1, .long v1), (4, .int v7), (5, .long v8), (7, .int v7)]) [2, 3, 1, 0, 4] rfl ?_
  exact wjX11_earns_113_38 hC n S v0 v1 v7 v8 v7  hTv0 hf hN hO0
theorem wbX11_earns_38 {C : CT} {X : XT} (hC : CK C RX11 cX11_earns 10 none 4) (n : Nat) (S : PS) (v0 : Nat) (v1 : Int64) (hTv0 : Ty X.2.1 v0 11) (s38 : (Int32 × Int64 × Int32)) {o : (Int32 × Int64 × Int32) ⊕ (Int32 × Int64)} (hf : bX11_earns_38 X.2.1 n S v0 v1 s38 = some o) (hN : ∀ s', o = .inl s' → UW C X S 38 [(0, .ref (X.1 v0)), (1, .long v1), (4, .int s'.1), (5, .long s'.2.1), (7, .int s'.2.2)] []) (hO0 : ∀ p', o = .inr p' → UW C X S 119 [(0, .ref (X.1 v0)), (1, .long v1), (4, .int p'.1), (5, .long p'.2)] []) : UW C X S 38 [(0, .ref (X.1 v0)), (1, .long v1), (4, .int s38.1), (5, .long s38.2.1), (7, .int s38.2.2)] [] := by
  unfold bX11_earns_38 at hf
  refine u_iload hC dX11_earns_38 4 rfl ?_
  refine u_aload_n hC dX11_earns_40 0 rfl rfl ?_
  obtain ⟨q41, hq41, hf⟩ := kc_some hf
  refine u_callV hC (ctX11_many (cL C) hC.tr (cG C) X.1 X.2.1 n S v0 hTv0 hq41) lk_X11_77 rfl hTv0 (by decide) rfl (by decide) (by decide) rfl rfl (Nat.le_of_ble_eq_true rfl) dX11_earns_41 ?_
  refine u_icmp_ge (tgt := 119) hC dX11_earns_44 (by decide) hf (fun h44 hf => ?_) (fun h44 hf => ?_)
  · refine u_sub (lv' := [(0, .ref (X.1 v0)), (1, .long v1), (4, .int s38.1), (5, .long s38.2.1)]) [0, 1, 2, 3] rfl ?_
    exact hO0 _ (Option.some.inj hf).symm
  · refine u_aload_n hC dX11_earns_47 0 rfl rfl ?_
    refine u_gi hC lf_X11_154 rfl hTv0 dX11_earns_48 hf (fun x48 hf => ?_)
    refine u_iload hC dX11_earns_51 4 rfl ?_
    obtain ⟨q53, hq53, hf⟩ := kc_some hf
    refine u_callS hC (ctX11_isOf (cL C) hC.tr (cG C) X.1 X.2.1 n S x48 s38.2.2  hq53) lk_X11_147 (by decide) (by decide) rfl rfl (Nat.le_of_ble_eq_true rfl) dX11_earns_53 ?_
    refine u_if_ne (tgt := 113) hC dX11_earns_56 (by decide) hf (fun h56 hf => ?_) (fun h56 hf => ?_)
    · exact wjX11_earns_113_38 hC n S v0 v1 s38.1 s38.2.1 s38.2.2  hTv0 hf hN hO0
    · refine u_aload_n hC dX11_earns_59 0 rfl rfl ?_
      refine u_gr hC lf_X11_28 rfl hTv0 dX11_earns_60 hf (fun b60 hTb60 hf => ?_)
      refine u_iload hC dX11_earns_63 4 rfl ?_
      refine u_ai hC hTb60 dX11_earns_65 hf (fun x65 hf => ?_)
      refine u_if_ne (tgt := 72) hC dX11_earns_66 (by decide) hf (fun h66 hf => ?_) (fun h66 hf => ?_)
      · refine u_aload_n hC dX11_earns_72 0 rfl rfl ?_
        refine u_iload hC dX11_earns_73 4 rfl ?_
        refine u_lload_n hC dX11_earns_75 1 rfl rfl ?_
        obtain ⟨q76, hq76, hf⟩ := kc_some hf
        refine u_callV hC (ctX11_dueOf (cL C) hC.tr (cG C) X.1 X.2.1 n S v0 s38.2.2 v1 hTv0 hq76) lk_X11_221 rfl hTv0 (by decide) rfl (by decide) (by decide) rfl rfl (Nat.le_of_ble_eq_true rfl) dX11_earns_76 ?_
        refine u_lstore (lv' := [(8, .long q76), (0, .ref (X.1 v0)), (1, .long v1), (4, .int s38.1), (5, .long s38.2.1), (7, .int s38.2.2)]) hC dX11_earns_79 (by decide) rfl ?_
        refine u_iload hC dX11_earns_81 3 rfl ?_
        refine u_iconst (v := (-1 : Int32)) hC dX11_earns_83 (by decide) ?_
        refine u_icmp_eq (tgt := 105) hC dX11_earns_84 (by decide) hf (fun h84 hf => ?_) (fun h84 hf => ?_)
        · refine u_sub (lv' := [(0, .ref (X.1 v0)), (1, .long v1), (7, .int s38.2.2), (8, .long q76)]) [1, 2, 5, 0] rfl ?_
          exact wjX11_earns_105_38 hC n S v0 v1 s38.2.2 q76  hTv0 hf hN hO0
        · refine u_aload_n hC dX11_earns_87 1 rfl rfl ?_
          refine u_lload hC dX11_earns_88 0 rfl ?_
          refine u_iload hC dX11_earns_90 5 rfl ?_
          refine u_lload hC dX11_earns_92 4 rfl ?_
          refine u_iload hC dX11_earns_94 3 rfl ?_
          obtain ⟨q96, hq96, hf⟩ := kc_some hf
          refine u_callV hC (ctX11_isFirst (cL C) hC.tr (cG C) X.1 X.2.1 n S v0 q76 s38.2.2 s38.2.1 s38.1 hTv0 hq96) lk_X11_182 rfl hTv0 (by decide) rfl (by decide) (by decide) rfl rfl (Nat.le_of_ble_eq_true rfl) dX11_earns_96 ?_
          refine u_if_ne (tgt := 105) hC dX11_earns_99 (by decide) hf (fun h99 hf => ?_) (fun h99 hf => ?_)
          · refine u_sub (lv' := [(0, .ref (X.1 v0)), (1, .long v1), (7, .int s38.2.2), (8, .long q76)]) [1, 2, 5, 0] rfl ?_
            exact wjX11_earns_105_38 hC n S v0 v1 s38.2.2 q76  hTv0 hf hN hO0
          · refine u_goto (tgt := 113) hC dX11_earns_102 (by decide) ?_
            refine u_sub (lv' := [(0, .ref (X.1 v0)), (1, .long v1), (4, .int s38.1), (5, .long s38.2.1), (7, .int s38.2.2)]) [1, 2, 3, 4, 5] rfl ?_
            exact wjX11_earns_113_38 hC n S v0 v1 s38.1 s38.2.1 s38.2.2  hTv0 hf hN hO0
      · refine u_goto (tgt := 113) hC dX11_earns_69 (by decide) ?_
        exact wjX11_earns_113_38 hC n S v0 v1 s38.1 s38.2.1 s38.2.2  hTv0 hf hN hO0
theorem wjX11_earns_202_174 {C : CT} {X : XT} (hC : CK C RX11 cX11_earns 10 none 4) (n : Nat) (S : PS) (v0 : Nat) (v1 : Int64) (v3 : Int32) (v4 : Int32) (v7 : Int32)  (hTv0 : Ty X.2.1 v0 11) {o : (Int32 × PS) ⊕ PS} (hf : jX11_earns_202_174 X.2.1 n S v0 v1 v3 v4 v7 = some o) (hN : ∀ s', o = .inl s' → UW C X s'.2 174 [(0, .ref (X.1 v0)), (1, .long v1), (3, .int v3), (4, .int v4), (7, .int s'.1)] []) (hO0 : ∀ p', o = .inr p' → UW C X p' 208 [(0, .ref (X.1 v0)), (1, .long v1), (3, .int v3)] []) : UW C X S 202 [(0, .ref (X.1 v0)), (1, .long v1), (3, .int v3), (4, .int v4), (7, .int v7)] [] := by
  unfold jX11_earns_202_174 at hf
  refine u_iinc (v := v7 + (1 : Int32)) (lv' := [(7, .int (v7 + (1 : Int32))), (0, .ref (X.1 v0)), (1, .long v1), (3, .int v3), (4, .int v4)]) hC dX11_earns_202 4 rfl rfl (by decide) rfl ?_
  refine u_goto (tgt := 174) hC dX11_earns_205 (by decide) ?_
  refine u_sub (lv' := [(0, .ref (X.1 v0)), (1, .long v1), (3, .int v3), (4, .int v4), (7, .int (v7 + (1 : Int32)))]) [1, 2, 3, 4, 0] rfl ?_
  exact hN _ (Option.some.inj hf).symm
theorem wbX11_earns_174 {C : CT} {X : XT} (hC : CK C RX11 cX11_earns 10 none 4) (n : Nat) (v0 : Nat) (v1 : Int64) (v3 : Int32) (v4 : Int32) (hTv0 : Ty X.2.1 v0 11) (s174 : (Int32 × PS)) {o : (Int32 × PS) ⊕ PS} (hf : bX11_earns_174 X.2.1 n v0 v1 v3 v4 s174 = some o) (hN : ∀ s', o = .inl s' → UW C X s'.2 174 [(0, .ref (X.1 v0)), (1, .long v1), (3, .int v3), (4, .int v4), (7, .int s'.1)] []) (hO0 : ∀ p', o = .inr p' → UW C X p' 208 [(0, .ref (X.1 v0)), (1, .long v1), (3, .int v3)] []) : UW C X s174.2 174 [(0, .ref (X.1 v0)), (1, .long v1), (3, .int v3), (4, .int v4), (7, .int s174.1)] [] := by
  unfold bX11_earns_174 at hf
  refine u_iload hC dX11_earns_174 4 rfl ?_
  refine u_aload_n hC dX11_earns_176 0 rfl rfl ?_
  obtain ⟨q177, hq177, hf⟩ := kc_some hf
  refine u_callV hC (ctX11_people (cL C) hC.tr (cG C) X.1 X.2.1 n s174.2 v0 hTv0 hq177) lk_X11_85 rfl hTv0 (by decide) rfl (by decide) (by decide) rfl rfl (Nat.le_of_ble_eq_true rfl) dX11_earns_177 ?_
  refine u_icmp_ge (tgt := 208) hC dX11_earns_180 (by decide) hf (fun h180 hf => ?_) (fun h180 hf => ?_)
  · refine u_sub (lv' := [(0, .ref (X.1 v0)), (1, .long v1), (3, .int v3)]) [0, 1, 2] rfl ?_
    exact hO0 _ (Option.some.inj hf).symm
  · refine u_aload_n hC dX11_earns_183 0 rfl rfl ?_
    refine u_iload hC dX11_earns_184 4 rfl ?_
    refine u_iload hC dX11_earns_186 3 rfl ?_
    obtain ⟨q188, hq188, hf⟩ := kc_some hf
    refine u_callV hC (ctX11_scoreOf (cL C) hC.tr (cG C) X.1 X.2.1 n s174.2 v0 s174.1 v4 hTv0 hq188) lk_X11_88 rfl hTv0 (by decide) rfl (by decide) (by decide) rfl rfl (Nat.le_of_ble_eq_true rfl) dX11_earns_188 ?_
    refine u_if_le (tgt := 202) hC dX11_earns_191 (by decide) hf (fun h191 hf => ?_) (fun h191 hf => ?_)
    · exact wjX11_earns_202_174 hC n s174.2 v0 v1 v3 v4 s174.1  hTv0 hf hN hO0
    · refine u_aload_n hC dX11_earns_194 0 rfl rfl ?_
      refine u_gr hC lf_X11_56 rfl hTv0 dX11_earns_195 hf (fun b195 hTb195 hf => ?_)
      refine u_iload hC dX11_earns_198 4 rfl ?_
      refine u_lload_n hC dX11_earns_200 1 rfl rfl ?_
      refine u_wl hC hTb195 dX11_earns_201 hf (fun S201 hf => ?_)
      exact wjX11_earns_202_174 hC n S201 v0 v1 v3 v4 s174.1  hTv0 hf hN hO0
theorem wjX11_earns_154_25 {C : CT} {X : XT} (hC : CK C RX11 cX11_earns 10 none 4) (n : Nat) (S : PS) (v0 : Nat) (v1 : Int64) (v4 : Int32) (v5 : Int64) (t0 : Int32)  (hTv0 : Ty X.2.1 v0 11) {o : (Int64 × Int32 × PS) ⊕ PS} (hf : jX11_earns_154_25 X.2.1 n S v0 v1 v4 v5 t0 = some o) (hN : ∀ s', o = .inl s' → UW C X s'.2.2 25 [(0, .ref (X.1 v0)), (1, .long s'.1), (3, .int s'.2.1)] []) (hO0 : ∀ p', o = .inr p' → UW C X p' 211 [] []) : UW C X S 154 [(0, .ref (X.1 v0)), (1, .long v1), (4, .int v4), (5, .long v5)] [.int t0] := by
  unfold jX11_earns_154_25 at hf
  refine u_istore_n (lv' := [(3, .int t0), (0, .ref (X.1 v0)), (1, .long v1), (4, .int v4), (5, .long v5)]) hC dX11_earns_154 rfl (by decide) rfl ?_
  refine u_iload_n hC dX11_earns_155 0 rfl rfl ?_
  refine u_if_ne (tgt := 162) hC dX11_earns_156 (by decide) hf (fun h156 hf => ?_) (fun h156 hf => ?_)
  · refine u_lload hC dX11_earns_162 4 rfl ?_
    refine u_lstore_n (lv' := [(1, .long v5), (3, .int t0), (0, .ref (X.1 v0)), (4, .int v4), (5, .long v5)]) hC dX11_earns_164 rfl (by decide) rfl ?_
    refine u_aload_n hC dX11_earns_165 2 rfl rfl ?_
    refine u_iload hC dX11_earns_166 3 rfl ?_
    obtain ⟨q168, hq168, hf⟩ := kc_some hf
    refine u_callV hC (ctX11_choose (cL C) hC.tr (cG C) X.1 X.2.1 n S v0 v4 hTv0 hq168) lk_X11_169 rfl hTv0 (by decide) rfl (by decide) (by decide) rfl rfl (Nat.le_of_ble_eq_true rfl) dX11_earns_168 ?_
    refine u_iconst (v := (0 : Int32)) hC dX11_earns_171 (by decide) ?_
    refine u_istore (lv' := [(7, .int (0 : Int32)), (1, .long v5), (3, .int t0), (0, .ref (X.1 v0)), (4, .int v4), (5, .long v5)]) hC dX11_earns_172 (by decide) rfl ?_
    obtain ⟨r174, hr174, hf⟩ := kc_some hf
    have hk174 : UW C X r174 208 [(0, .ref (X.1 v0)), (1, .long v5), (3, .int t0)] [] := by
      refine u_goto (tgt := 25) hC dX11_earns_208 (by decide) ?_
      exact hN _ (Option.some.inj hf).symm
    refine u_sub (lv' := [(0, .ref (X.1 v0)), (1, .long v5), (3, .int t0), (4, .int v4), (7, .int (0 : Int32))]) [3, 1, 2, 4, 0] rfl ?_
    refine iter_ind (P := fun s174 => UW C X s174.2 174 [(0, .ref (X.1 v0)), (1, .long v5), (3, .int t0), (4, .int v4), (7, .int s174.1)] []) (fun s174 o' hb hin hout => ?_) n ((0 : Int32), q168) hr174
    exact wbX11_earns_174 hC n v0 v5 t0 v4 hTv0 s174 hb hin (fun p e => by rw [hout p e]; exact hk174)
  · refine u_goto (tgt := 25) hC dX11_earns_159 (by decide) ?_
    refine u_sub (lv' := [(0, .ref (X.1 v0)), (1, .long v1), (3, .int t0)]) [1, 2, 0] rfl ?_
    exact hN _ (Option.some.inj hf).symm
theorem wjX11_earns_153_25 {C : CT} {X : XT} (hC : CK C RX11 cX11_earns 10 none 4) (n : Nat) (S : PS) (v0 : Nat) (v1 : Int64) (v4 : Int32) (v5 : Int64)  (hTv0 : Ty X.2.1 v0 11) {o : (Int64 × Int32 × PS) ⊕ PS} (hf : jX11_earns_153_25 X.2.1 n S v0 v1 v4 v5 = some o) (hN : ∀ s', o = .inl s' → UW C X s'.2.2 25 [(0, .ref (X.1 v0)), (1, .long s'.1), (3, .int s'.2.1)] []) (hO0 : ∀ p', o = .inr p' → UW C X p' 211 [] []) : UW C X S 153 [(0, .ref (X.1 v0)), (1, .long v1), (4, .int v4), (5, .long v5)] [] := by
  unfold jX11_earns_153_25 at hf
  refine u_iconst (v := (0 : Int32)) hC dX11_earns_153 (by decide) ?_
  exact wjX11_earns_154_25 hC n S v0 v1 v4 v5 (0 : Int32)  hTv0 hf hN hO0
theorem wbX11_earns_25 {C : CT} {X : XT} (hC : CK C RX11 cX11_earns 10 none 4) (n : Nat) (v0 : Nat) (hTv0 : Ty X.2.1 v0 11) (s25 : (Int64 × Int32 × PS)) {o : (Int64 × Int32 × PS) ⊕ PS} (hf : bX11_earns_25 X.2.1 n v0 s25 = some o) (hN : ∀ s', o = .inl s' → UW C X s'.2.2 25 [(0, .ref (X.1 v0)), (1, .long s'.1), (3, .int s'.2.1)] []) (hO0 : ∀ p', o = .inr p' → UW C X p' 211 [] []) : UW C X s25.2.2 25 [(0, .ref (X.1 v0)), (1, .long s25.1), (3, .int s25.2.1)] [] := by
  unfold bX11_earns_25 at hf
  refine u_iload_n hC dX11_earns_25 2 rfl rfl ?_
  refine u_if_eq (tgt := 211) hC dX11_earns_26 (by decide) hf (fun h26 hf => ?_) (fun h26 hf => ?_)
  · refine u_sub (lv' := []) [] rfl ?_
    exact hO0 _ (Option.some.inj hf).symm
  · refine u_iconst (v := (-1 : Int32)) hC dX11_earns_29 (by decide) ?_
    refine u_istore (lv' := [(4, .int (-1 : Int32)), (0, .ref (X.1 v0)), (1, .long s25.1), (3, .int s25.2.1)]) hC dX11_earns_30 (by decide) rfl ?_
    refine u_lconst (v := (0 : Int64)) hC dX11_earns_32 (by decide) ?_
    refine u_lstore (lv' := [(5, .long (0 : Int64)), (4, .int (-1 : Int32)), (0, .ref (X.1 v0)), (1, .long s25.1), (3, .int s25.2.1)]) hC dX11_earns_33 (by decide) rfl ?_
    refine u_iconst (v := (0 : Int32)) hC dX11_earns_35 (by decide) ?_
    refine u_istore (lv' := [(7, .int (0 : Int32)), (5, .long (0 : Int64)), (4, .int (-1 : Int32)), (0, .ref (X.1 v0)), (1, .long s25.1), (3, .int s25.2.1)]) hC dX11_earns_36 (by decide) rfl ?_
    obtain ⟨r38, hr38, hf⟩ := kc_some hf
    have hk38 : UW C X s25.2.2 119 [(0, .ref (X.1 v0)), (1, .long s25.1), (4, .int r38.1), (5, .long r38.2)] [] := by
      refine u_iload hC dX11_earns_119 2 rfl ?_
      refine u_iconst (v := (-1 : Int32)) hC dX11_earns_121 (by decide) ?_
      refine u_icmp_eq (tgt := 153) hC dX11_earns_122 (by decide) hf (fun h122 hf => ?_) (fun h122 hf => ?_)
      · exact wjX11_earns_153_25 hC n s25.2.2 v0 s25.1 r38.1 r38.2  hTv0 hf hN hO0
      · refine u_aload_n hC dX11_earns_125 0 rfl rfl ?_
        refine u_aload_n hC dX11_earns_126 0 rfl rfl ?_
        refine u_gi hC lf_X11_154 rfl hTv0 dX11_earns_127 hf (fun x127 hf => ?_)
        obtain ⟨q130, hq130, hf⟩ := kc_some hf
        refine u_callV hC (ctX11_costsOf (cL C) hC.tr (cG C) X.1 X.2.1 n s25.2.2 v0 x127 hTv0 hq130) lk_X11_196 rfl hTv0 (by decide) rfl (by decide) (by decide) rfl rfl (Nat.le_of_ble_eq_true rfl) dX11_earns_130 ?_
        refine u_aload_n hC dX11_earns_133 0 rfl rfl ?_
        refine u_iload hC dX11_earns_134 2 rfl ?_
        obtain ⟨q136, hq136, hf⟩ := kc_some hf
        refine u_callV hC (ctX11_costOf (cL C) hC.tr (cG C) X.1 X.2.1 n s25.2.2 v0 r38.1 hTv0 hq136) lk_X11_134 rfl hTv0 (by decide) rfl (by decide) (by decide) rfl rfl (Nat.le_of_ble_eq_true rfl) dX11_earns_136 ?_
        refine u_iadd hC dX11_earns_139 ?_
        refine u_aload_n hC dX11_earns_140 0 rfl rfl ?_
        refine u_gr hC lf_X11_9 rfl hTv0 dX11_earns_141 hf (fun b141 hTb141 hf => ?_)
        refine u_iconst (v := (0 : Int32)) hC dX11_earns_144 (by decide) ?_
        refine u_ai hC hTb141 dX11_earns_145 hf (fun x145 hf => ?_)
        refine u_icmp_gt (tgt := 153) hC dX11_earns_146 (by decide) hf (fun h146 hf => ?_) (fun h146 hf => ?_)
        · exact wjX11_earns_153_25 hC n s25.2.2 v0 s25.1 r38.1 r38.2  hTv0 hf hN hO0
        · refine u_iconst (v := (1 : Int32)) hC dX11_earns_149 (by decide) ?_
          refine u_goto (tgt := 154) hC dX11_earns_150 (by decide) ?_
          exact wjX11_earns_154_25 hC n s25.2.2 v0 s25.1 r38.1 r38.2 (1 : Int32)  hTv0 hf hN hO0
    refine u_sub (lv' := [(0, .ref (X.1 v0)), (1, .long s25.1), (4, .int (-1 : Int32)), (5, .long (0 : Int64)), (7, .int (0 : Int32))]) [3, 4, 2, 1, 0] rfl ?_
    refine iter_ind (P := fun s38 => UW C X s25.2.2 38 [(0, .ref (X.1 v0)), (1, .long s25.1), (4, .int s38.1), (5, .long s38.2.1), (7, .int s38.2.2)] []) (fun s38 o' hb hin hout => ?_) n ((-1 : Int32), (0 : Int64), (0 : Int32)) hr38
    exact wbX11_earns_38 hC n s25.2.2 v0 s25.1 hTv0 s38 hb hin (fun p e => by rw [hout p e]; exact hk38)
theorem wX11_earns {C : CT} {X : XT} (hC : CK C RX11 cX11_earns 10 none 4) (n : Nat) (S : PS) (a0 : Nat) (hTa0 : Ty X.2.1 a0 11) {o : PS} (hf : fX11_earns X.2.1 n S a0 = some o) (hR : Rt C X cX11_earns none none o) : UW C X S 0 [(0, .ref (X.1 a0))] [] := by
  unfold fX11_earns at hf
  refine u_iconst (v := (0 : Int32)) hC dX11_earns_0 (by decide) ?_
  refine u_istore_n (lv' := [(1, .int (0 : Int32)), (0, .ref (X.1 a0))]) hC dX11_earns_1 rfl (by decide) rfl ?_
  obtain ⟨r2, hr2, hf⟩ := kc_some hf
  have hk2 : UW C X r2 21 [(0, .ref (X.1 a0))] [] := by
    refine u_lconst (v := (0 : Int64)) hC dX11_earns_21 (by decide) ?_
    refine u_lstore_n (lv' := [(1, .long (0 : Int64)), (0, .ref (X.1 a0))]) hC dX11_earns_22 rfl (by decide) rfl ?_
    refine u_iconst (v := (1 : Int32)) hC dX11_earns_23 (by decide) ?_
    refine u_istore_n (lv' := [(3, .int (1 : Int32)), (1, .long (0 : Int64)), (0, .ref (X.1 a0))]) hC dX11_earns_24 rfl (by decide) rfl ?_
    obtain ⟨r25, hr25, hf⟩ := kc_some hf
    have hk25 : UW C X r25 211 [] [] := by
      cases hf
      exact hR _ _ dX11_earns_211 trivial
    refine u_sub (lv' := [(0, .ref (X.1 a0)), (1, .long (0 : Int64)), (3, .int (1 : Int32))]) [2, 1, 0] rfl ?_
    refine iter_ind (P := fun s25 => UW C X s25.2.2 25 [(0, .ref (X.1 a0)), (1, .long s25.1), (3, .int s25.2.1)] []) (fun s25 o' hb hin hout => ?_) n ((0 : Int64), (1 : Int32), r2) hr25
    exact wbX11_earns_25 hC n a0 hTa0 s25 hb hin (fun p e => by rw [hout p e]; exact hk25)
  refine u_sub (lv' := [(0, .ref (X.1 a0)), (1, .int (0 : Int32))]) [1, 0] rfl ?_
  refine iter_ind (P := fun s2 => UW C X s2.2 2 [(0, .ref (X.1 a0)), (1, .int s2.1)] []) (fun s2 o' hb hin hout => ?_) n ((0 : Int32), S) hr2
  exact wbX11_earns_2 hC n a0 hTa0 s2 hb hin (fun p e => by rw [hout p e]; exact hk2)
theorem ctX11_earns (l : Launch) (hl : l.stackTraces = false) (G : GT) (ρ : Nat → Nat) (Y : XS) (n : Nat) (S : PS) (a0 : Nat) (hTa0 : Ty Y a0 11) {o : PS} (hf : fX11_earns Y n S a0 = some o) : Mt l G yX11_earns cX11_earns 10 none 4 ρ Y [.ref (ρ a0)] S none o :=
  Mt_of hl (by decide) (Nat.le_of_ble_eq_true rfl) (fun C _ _ hC hR => wX11_earns (X := (ρ, Y, 0, 0)) hC n S a0 hTa0 hf hR)
-- X11_goes
theorem dX11_goes_0 : decode cX11_goes 0 = .ok (.aload_n 0, 1) := by decide +kernel
theorem dX11_goes_1 : decode cX11_goes 1 = .ok (.invokevirtual 224, 3) := by decide +kernel
theorem dX11_goes_4 : decode cX11_goes 4 = .ok (.aload_n 0, 1) := by decide +kernel
theorem dX11_goes_5 : decode cX11_goes 5 = .ok (.iconst 0, 1) := by decide +kernel
theorem dX11_goes_6 : decode cX11_goes 6 = .ok (.putfield 190, 3) := by decide +kernel
theorem dX11_goes_9 : decode cX11_goes 9 = .ok (.aload_n 0, 1) := by decide +kernel
theorem dX11_goes_10 : decode cX11_goes 10 = .ok (.invokevirtual 173, 3) := by decide +kernel
theorem dX11_goes_13 : decode cX11_goes 13 = .ok (.iload_n 1, 1) := by decide +kernel
theorem dX11_goes_14 : decode cX11_goes 14 = .ok (.tableswitch 102 0 7 #[46, 46, 56, 56, 63, 63, 80, 91], 46) := by decide +kernel
theorem dX11_goes_60 : decode cX11_goes 60 = .ok (.aload_n 0, 1) := by decide +kernel
theorem dX11_goes_61 : decode cX11_goes 61 = .ok (.iconst 0, 1) := by decide +kernel
theorem dX11_goes_62 : decode cX11_goes 62 = .ok (.bipush 12, 2) := by decide +kernel
theorem dX11_goes_64 : decode cX11_goes 64 = .ok (.invokevirtual 193, 3) := by decide +kernel
theorem dX11_goes_67 : decode cX11_goes 67 = .ok (.goto 53, 3) := by decide +kernel
theorem dX11_goes_70 : decode cX11_goes 70 = .ok (.aload_n 0, 1) := by decide +kernel
theorem dX11_goes_71 : decode cX11_goes 71 = .ok (.invokevirtual 227, 3) := by decide +kernel
theorem dX11_goes_74 : decode cX11_goes 74 = .ok (.goto 46, 3) := by decide +kernel
theorem dX11_goes_77 : decode cX11_goes 77 = .ok (.aload_n 0, 1) := by decide +kernel
theorem dX11_goes_78 : decode cX11_goes 78 = .ok (.iload_n 1, 1) := by decide +kernel
theorem dX11_goes_79 : decode cX11_goes 79 = .ok (.iconst 5, 1) := by decide +kernel
theorem dX11_goes_80 : decode cX11_goes 80 = .ok (.if_icmp .ne 7, 3) := by decide +kernel
theorem dX11_goes_83 : decode cX11_goes 83 = .ok (.iconst 1, 1) := by decide +kernel
theorem dX11_goes_84 : decode cX11_goes 84 = .ok (.goto 4, 3) := by decide +kernel
theorem dX11_goes_87 : decode cX11_goes 87 = .ok (.iconst 0, 1) := by decide +kernel
theorem dX11_goes_88 : decode cX11_goes 88 = .ok (.invokevirtual 230, 3) := by decide +kernel
theorem dX11_goes_91 : decode cX11_goes 91 = .ok (.goto 29, 3) := by decide +kernel
theorem dX11_goes_94 : decode cX11_goes 94 = .ok (.aload_n 0, 1) := by decide +kernel
theorem dX11_goes_95 : decode cX11_goes 95 = .ok (.aload_n 0, 1) := by decide +kernel
theorem dX11_goes_96 : decode cX11_goes 96 = .ok (.invokevirtual 234, 3) := by decide +kernel
theorem dX11_goes_99 : decode cX11_goes 99 = .ok (.invokevirtual 237, 3) := by decide +kernel
theorem dX11_goes_102 : decode cX11_goes 102 = .ok (.goto 18, 3) := by decide +kernel
theorem dX11_goes_105 : decode cX11_goes 105 = .ok (.aload_n 0, 1) := by decide +kernel
theorem dX11_goes_106 : decode cX11_goes 106 = .ok (.aload_n 0, 1) := by decide +kernel
theorem dX11_goes_107 : decode cX11_goes 107 = .ok (.invokevirtual 240, 3) := by decide +kernel
theorem dX11_goes_110 : decode cX11_goes 110 = .ok (.invokevirtual 237, 3) := by decide +kernel
theorem dX11_goes_113 : decode cX11_goes 113 = .ok (.goto 7, 3) := by decide +kernel
theorem dX11_goes_116 : decode cX11_goes 116 = .ok (.aload_n 0, 1) := by decide +kernel
theorem dX11_goes_117 : decode cX11_goes 117 = .ok (.invokevirtual 243, 3) := by decide +kernel
theorem dX11_goes_120 : decode cX11_goes 120 = .ok (.iload_n 1, 1) := by decide +kernel
theorem dX11_goes_121 : decode cX11_goes 121 = .ok (.iconst 1, 1) := by decide +kernel
theorem dX11_goes_122 : decode cX11_goes 122 = .ok (.if_icmp .eq 8, 3) := by decide +kernel
theorem dX11_goes_125 : decode cX11_goes 125 = .ok (.iload_n 1, 1) := by decide +kernel
theorem dX11_goes_126 : decode cX11_goes 126 = .ok (.iconst 3, 1) := by decide +kernel
theorem dX11_goes_127 : decode cX11_goes 127 = .ok (.if_icmp .ne 8, 3) := by decide +kernel
theorem dX11_goes_130 : decode cX11_goes 130 = .ok (.aload_n 0, 1) := by decide +kernel
theorem dX11_goes_131 : decode cX11_goes 131 = .ok (.iconst 0, 1) := by decide +kernel
theorem dX11_goes_132 : decode cX11_goes 132 = .ok (.invokevirtual 230, 3) := by decide +kernel
theorem dX11_goes_135 : decode cX11_goes 135 = .ok (.return_, 1) := by decide +kernel
def jX11_goes_135 (Y : XS) (n : Nat) (S : PS)  : Option (PS) :=
  some S
def jX11_goes_130 (Y : XS) (n : Nat) (S : PS) (v0 : Nat) : Option (PS) :=
  kc (fX11_fills Y n S v0 (0 : Int32)) (fun q132 => jX11_goes_135 Y n q132 )
def jX11_goes_120 (Y : XS) (n : Nat) (S : PS) (v0 : Nat) (v1 : Int32) : Option (PS) :=
  (if v1 = (1 : Int32) then jX11_goes_130 Y n S v0 else (if v1 = (3 : Int32) then jX11_goes_130 Y n S v0 else jX11_goes_135 Y n S ))
def jX11_goes_88 (Y : XS) (n : Nat) (S : PS) (v0 : Nat) (v1 : Int32) (t0 : Int32) (t1 : Nat) : Option (PS) :=
  kc (fX11_fills Y n S t1 t0) (fun q88 => jX11_goes_120 Y n q88 v0 v1)
def fX11_goes (Y : XS) (n : Nat) (S : PS) (a0 : Nat) (x1_ : Int32) : Option (PS) :=
  kc (fX11_layWorths Y n S a0) (fun q1 => kpi q1 a0 23 (0 : Int32) (fun S6 => kc (fX11_clear Y n S6 a0) (fun q10 => (if x1_ = (0 : Int32) then kc (fX11_shares Y n q10 a0 (0 : Int32) (12 : Int32)) (fun q64 => jX11_goes_120 Y n q64 a0 x1_) else (if x1_ = (1 : Int32) then kc (fX11_shares Y n q10 a0 (0 : Int32) (12 : Int32)) (fun q64 => jX11_goes_120 Y n q64 a0 x1_) else (if x1_ = (2 : Int32) then kc (fX11_raises Y n q10 a0) (fun q71 => jX11_goes_120 Y n q71 a0 x1_) else (if x1_ = (3 : Int32) then kc (fX11_raises Y n q10 a0) (fun q71 => jX11_goes_120 Y n q71 a0 x1_) else (if x1_ = (4 : Int32) then (if x1_ = (5 : Int32) then jX11_goes_88 Y n q10 a0 x1_ (1 : Int32) a0 else jX11_goes_88 Y n q10 a0 x1_ (0 : Int32) a0) else (if x1_ = (5 : Int32) then (if x1_ = (5 : Int32) then jX11_goes_88 Y n q10 a0 x1_ (1 : Int32) a0 else jX11_goes_88 Y n q10 a0 x1_ (0 : Int32) a0) else (if x1_ = (6 : Int32) then kc (fX11_mostWorth Y n q10 a0) (fun q96 => kc (fX11_takes Y n q10 a0 q96) (fun q99 => jX11_goes_120 Y n q99 a0 x1_)) else (if x1_ = (7 : Int32) then kc (fX11_worstFirst Y n q10 a0) (fun q107 => kc (fX11_takes Y n q10 a0 q107) (fun q110 => jX11_goes_120 Y n q110 a0 x1_)) else kc (fX11_earns Y n q10 a0) (fun q117 => jX11_goes_120 Y n q117 a0 x1_))))))))))))
theorem wjX11_goes_135 {C : CT} {X : XT} (hC : CK C RX11 cX11_goes 2 none 53) (n : Nat) (S : PS)    {o : PS} (hf : jX11_goes_135 X.2.1 n S  = some o) (hR : Rt C X cX11_goes none none o) : UW C X S 135 [] [] := by
  unfold jX11_goes_135 at hf
  cases hf
  exact hR _ _ dX11_goes_135 trivial
theorem wjX11_goes_130 {C : CT} {X : XT} (hC : CK C RX11 cX11_goes 2 none 53) (n : Nat) (S : PS) (v0 : Nat)  (hTv0 : Ty X.2.1 v0 11) {o : PS} (hf : jX11_goes_130 X.2.1 n S v0 = some o) (hR : Rt C X cX11_goes none none o) : UW C X S 130 [(0, .ref (X.1 v0))] [] := by
  unfold jX11_goes_130 at hf
  refine u_aload_n hC dX11_goes_130 0 rfl rfl ?_
  refine u_iconst (v := (0 : Int32)) hC dX11_goes_131 (by decide) ?_
  obtain ⟨q132, hq132, hf⟩ := kc_some hf
  refine u_callV hC (ctX11_fills (cL C) hC.tr (cG C) X.1 X.2.1 n S v0 (0 : Int32) hTv0 hq132) lk_X11_230 rfl hTv0 (by decide) rfl (by decide) (by decide) rfl rfl (Nat.le_of_ble_eq_true rfl) dX11_goes_132 ?_
  refine u_sub (lv' := []) [] rfl ?_
  exact wjX11_goes_135 hC n q132    hf hR
theorem wjX11_goes_120 {C : CT} {X : XT} (hC : CK C RX11 cX11_goes 2 none 53) (n : Nat) (S : PS) (v0 : Nat) (v1 : Int32)  (hTv0 : Ty X.2.1 v0 11) {o : PS} (hf : jX11_goes_120 X.2.1 n S v0 v1 = some o) (hR : Rt C X cX11_goes none none o) : UW C X S 120 [(0, .ref (X.1 v0)), (1, .int v1)] [] := by
  unfold jX11_goes_120 at hf
  refine u_iload_n hC dX11_goes_120 1 rfl rfl ?_
  refine u_iconst (v := (1 : Int32)) hC dX11_goes_121 (by decide) ?_
  refine u_icmp_eq (tgt := 130) hC dX11_goes_122 (by decide) hf (fun h122 hf => ?_) (fun h122 hf => ?_)
  · refine u_sub (lv' := [(0, .ref (X.1 v0))]) [0] rfl ?_
    exact wjX11_goes_130 hC n S v0  hTv0 hf hR
  · refine u_iload_n hC dX11_goes_125 1 rfl rfl ?_
    refine u_iconst (v := (3 : Int32)) hC dX11_goes_126 (by decide) ?_
    refine u_icmp_ne (tgt := 135) hC dX11_goes_127 (by decide) hf (fun h127 hf => ?_) (fun h127 hf => ?_)
    · refine u_sub (lv' := []) [] rfl ?_
      exact wjX11_goes_135 hC n S    hf hR
    · refine u_sub (lv' := [(0, .ref (X.1 v0))]) [0] rfl ?_
      exact wjX11_goes_130 hC n S v0  hTv0 hf hR
theorem wjX11_goes_88 {C : CT} {X : XT} (hC : CK C RX11 cX11_goes 2 none 53) (n : Nat) (S : PS) (v0 : Nat) (v1 : Int32) (t0 : Int32) (t1 : Nat)  (hTv0 : Ty X.2.1 v0 11) (hTt1 : Ty X.2.1 t1 11) {o : PS} (hf : jX11_goes_88 X.2.1 n S v0 v1 t0 t1 = some o) (hR : Rt C X cX11_goes none none o) : UW C X S 88 [(0, .ref (X.1 v0)), (1, .int v1)] [.int t0, .ref (X.1 t1)] := by
  unfold jX11_goes_88 at hf
  obtain ⟨q88, hq88, hf⟩ := kc_some hf
  refine u_callV hC (ctX11_fills (cL C) hC.tr (cG C) X.1 X.2.1 n S t1 t0 hTt1 hq88) lk_X11_230 rfl hTt1 (by decide) rfl (by decide) (by decide) rfl rfl (Nat.le_of_ble_eq_true rfl) dX11_goes_88 ?_
  refine u_goto (tgt := 120) hC dX11_goes_91 (by decide) ?_
  exact wjX11_goes_120 hC n q88 v0 v1  hTv0 hf hR
theorem wX11_goes {C : CT} {X : XT} (hC : CK C RX11 cX11_goes 2 none 53) (n : Nat) (S : PS) (a0 : Nat) (x1_ : Int32) (hTa0 : Ty X.2.1 a0 11) {o : PS} (hf : fX11_goes X.2.1 n S a0 x1_ = some o) (hR : Rt C X cX11_goes none none o) : UW C X S 0 [(0, .ref (X.1 a0)), (1, .int x1_)] [] := by
  unfold fX11_goes at hf
  refine u_aload_n hC dX11_goes_0 0 rfl rfl ?_
  obtain ⟨q1, hq1, hf⟩ := kc_some hf
  refine u_callV hC (ctX11_layWorths (cL C) hC.tr (cG C) X.1 X.2.1 n S a0 hTa0 hq1) lk_X11_224 rfl hTa0 (by decide) rfl (by decide) (by decide) rfl rfl (Nat.le_of_ble_eq_true rfl) dX11_goes_1 ?_
  refine u_aload_n hC dX11_goes_4 0 rfl rfl ?_
  refine u_iconst (v := (0 : Int32)) hC dX11_goes_5 (by decide) ?_
  refine u_pi hC lf_X11_190 rfl rfl rfl hTa0 dX11_goes_6 hf (fun S6 hf => ?_)
  refine u_aload_n hC dX11_goes_9 0 rfl rfl ?_
  obtain ⟨q10, hq10, hf⟩ := kc_some hf
  refine u_callV hC (ctX11_clear (cL C) hC.tr (cG C) X.1 X.2.1 n S6 a0 hTa0 hq10) lk_X11_173 rfl hTa0 (by decide) rfl (by decide) (by decide) rfl rfl (Nat.le_of_ble_eq_true rfl) dX11_goes_10 ?_
  refine u_iload_n hC dX11_goes_13 1 rfl rfl ?_
  by_cases hs14_0 : x1_ = (0 : Int32)
  · rw [if_pos hs14_0] at hf
    refine u_tin (tgt := 60) hC dX11_goes_14 (by rw [hs14_0]; decide) (by rw [hs14_0]; decide) (by rw [hs14_0]; rfl) (by decide) ?_
    refine u_aload_n hC dX11_goes_60 0 rfl rfl ?_
    refine u_iconst (v := (0 : Int32)) hC dX11_goes_61 (by decide) ?_
    refine u_bipush (v := (12 : Int32)) hC dX11_goes_62 (by decide) ?_
    obtain ⟨q64, hq64, hf⟩ := kc_some hf
    refine u_callV hC (ctX11_shares (cL C) hC.tr (cG C) X.1 X.2.1 n q10 a0 (0 : Int32) (12 : Int32) hTa0 hq64) lk_X11_193 rfl hTa0 (by decide) rfl (by decide) (by decide) rfl rfl (Nat.le_of_ble_eq_true rfl) dX11_goes_64 ?_
    refine u_goto (tgt := 120) hC dX11_goes_67 (by decide) ?_
    exact wjX11_goes_120 hC n q64 a0 x1_  hTa0 hf hR
  rw [if_neg hs14_0] at hf
  by_cases hs14_1 : x1_ = (1 : Int32)
  · rw [if_pos hs14_1] at hf
    refine u_tin (tgt := 60) hC dX11_goes_14 (by rw [hs14_1]; decide) (by rw [hs14_1]; decide) (by rw [hs14_1]; rfl) (by decide) ?_
    refine u_aload_n hC dX11_goes_60 0 rfl rfl ?_
    refine u_iconst (v := (0 : Int32)) hC dX11_goes_61 (by decide) ?_
    refine u_bipush (v := (12 : Int32)) hC dX11_goes_62 (by decide) ?_
    obtain ⟨q64, hq64, hf⟩ := kc_some hf
    refine u_callV hC (ctX11_shares (cL C) hC.tr (cG C) X.1 X.2.1 n q10 a0 (0 : Int32) (12 : Int32) hTa0 hq64) lk_X11_193 rfl hTa0 (by decide) rfl (by decide) (by decide) rfl rfl (Nat.le_of_ble_eq_true rfl) dX11_goes_64 ?_
    refine u_goto (tgt := 120) hC dX11_goes_67 (by decide) ?_
    exact wjX11_goes_120 hC n q64 a0 x1_  hTa0 hf hR
  rw [if_neg hs14_1] at hf
  by_cases hs14_2 : x1_ = (2 : Int32)
  · rw [if_pos hs14_2] at hf
    refine u_tin (tgt := 70) hC dX11_goes_14 (by rw [hs14_2]; decide) (by rw [hs14_2]; decide) (by rw [hs14_2]; rfl) (by decide) ?_
    refine u_aload_n hC dX11_goes_70 0 rfl rfl ?_
    obtain ⟨q71, hq71, hf⟩ := kc_some hf
    refine u_callV hC (ctX11_raises (cL C) hC.tr (cG C) X.1 X.2.1 n q10 a0 hTa0 hq71) lk_X11_227 rfl hTa0 (by decide) rfl (by decide) (by decide) rfl rfl (Nat.le_of_ble_eq_true rfl) dX11_goes_71 ?_
    refine u_goto (tgt := 120) hC dX11_goes_74 (by decide) ?_
    exact wjX11_goes_120 hC n q71 a0 x1_  hTa0 hf hR
  rw [if_neg hs14_2] at hf
  by_cases hs14_3 : x1_ = (3 : Int32)
  · rw [if_pos hs14_3] at hf
    refine u_tin (tgt := 70) hC dX11_goes_14 (by rw [hs14_3]; decide) (by rw [hs14_3]; decide) (by rw [hs14_3]; rfl) (by decide) ?_
    refine u_aload_n hC dX11_goes_70 0 rfl rfl ?_
    obtain ⟨q71, hq71, hf⟩ := kc_some hf
    refine u_callV hC (ctX11_raises (cL C) hC.tr (cG C) X.1 X.2.1 n q10 a0 hTa0 hq71) lk_X11_227 rfl hTa0 (by decide) rfl (by decide) (by decide) rfl rfl (Nat.le_of_ble_eq_true rfl) dX11_goes_71 ?_
    refine u_goto (tgt := 120) hC dX11_goes_74 (by decide) ?_
    exact wjX11_goes_120 hC n q71 a0 x1_  hTa0 hf hR
  rw [if_neg hs14_3] at hf
  by_cases hs14_4 : x1_ = (4 : Int32)
  · rw [if_pos hs14_4] at hf
    refine u_tin (tgt := 77) hC dX11_goes_14 (by rw [hs14_4]; decide) (by rw [hs14_4]; decide) (by rw [hs14_4]; rfl) (by decide) ?_
    refine u_aload_n hC dX11_goes_77 0 rfl rfl ?_
    refine u_iload_n hC dX11_goes_78 1 rfl rfl ?_
    refine u_iconst (v := (5 : Int32)) hC dX11_goes_79 (by decide) ?_
    refine u_icmp_ne (tgt := 87) hC dX11_goes_80 (by decide) hf (fun h80 hf => ?_) (fun h80 hf => ?_)
    · refine u_iconst (v := (0 : Int32)) hC dX11_goes_87 (by decide) ?_
      exact wjX11_goes_88 hC n q10 a0 x1_ (0 : Int32) a0  hTa0 hTa0 hf hR
    · refine u_iconst (v := (1 : Int32)) hC dX11_goes_83 (by decide) ?_
      refine u_goto (tgt := 88) hC dX11_goes_84 (by decide) ?_
      exact wjX11_goes_88 hC n q10 a0 x1_ (1 : Int32) a0  hTa0 hTa0 hf hR
  rw [if_neg hs14_4] at hf
  by_cases hs14_5 : x1_ = (5 : Int32)
  · rw [if_pos hs14_5] at hf
    refine u_tin (tgt := 77) hC dX11_goes_14 (by rw [hs14_5]; decide) (by rw [hs14_5]; decide) (by rw [hs14_5]; rfl) (by decide) ?_
    refine u_aload_n hC dX11_goes_77 0 rfl rfl ?_
    refine u_iload_n hC dX11_goes_78 1 rfl rfl ?_
    refine u_iconst (v := (5 : Int32)) hC dX11_goes_79 (by decide) ?_
    refine u_icmp_ne (tgt := 87) hC dX11_goes_80 (by decide) hf (fun h80 hf => ?_) (fun h80 hf => ?_)
    · refine u_iconst (v := (0 : Int32)) hC dX11_goes_87 (by decide) ?_
      exact wjX11_goes_88 hC n q10 a0 x1_ (0 : Int32) a0  hTa0 hTa0 hf hR
    · refine u_iconst (v := (1 : Int32)) hC dX11_goes_83 (by decide) ?_
      refine u_goto (tgt := 88) hC dX11_goes_84 (by decide) ?_
      exact wjX11_goes_88 hC n q10 a0 x1_ (1 : Int32) a0  hTa0 hTa0 hf hR
  rw [if_neg hs14_5] at hf
  by_cases hs14_6 : x1_ = (6 : Int32)
  · rw [if_pos hs14_6] at hf
    refine u_tin (tgt := 94) hC dX11_goes_14 (by rw [hs14_6]; decide) (by rw [hs14_6]; decide) (by rw [hs14_6]; rfl) (by decide) ?_
    refine u_aload_n hC dX11_goes_94 0 rfl rfl ?_
    refine u_aload_n hC dX11_goes_95 0 rfl rfl ?_
    obtain ⟨q96, hq96, hf⟩ := kc_some hf
    refine u_callV hC (ctX11_mostWorth (cL C) hC.tr (cG C) X.1 X.2.1 n q10 a0 hTa0 hq96) lk_X11_234 rfl hTa0 (by decide) rfl (by decide) (by decide) rfl rfl (Nat.le_of_ble_eq_true rfl) dX11_goes_96 ?_
    obtain ⟨q99, hq99, hf⟩ := kc_some hf
    refine u_callV hC (ctX11_takes (cL C) hC.tr (cG C) X.1 X.2.1 n q10 a0 q96 hTa0 hq99) lk_X11_237 rfl hTa0 (by decide) rfl (by decide) (by decide) rfl rfl (Nat.le_of_ble_eq_true rfl) dX11_goes_99 ?_
    refine u_goto (tgt := 120) hC dX11_goes_102 (by decide) ?_
    exact wjX11_goes_120 hC n q99 a0 x1_  hTa0 hf hR
  rw [if_neg hs14_6] at hf
  by_cases hs14_7 : x1_ = (7 : Int32)
  · rw [if_pos hs14_7] at hf
    refine u_tin (tgt := 105) hC dX11_goes_14 (by rw [hs14_7]; decide) (by rw [hs14_7]; decide) (by rw [hs14_7]; rfl) (by decide) ?_
    refine u_aload_n hC dX11_goes_105 0 rfl rfl ?_
    refine u_aload_n hC dX11_goes_106 0 rfl rfl ?_
    obtain ⟨q107, hq107, hf⟩ := kc_some hf
    refine u_callV hC (ctX11_worstFirst (cL C) hC.tr (cG C) X.1 X.2.1 n q10 a0 hTa0 hq107) lk_X11_240 rfl hTa0 (by decide) rfl (by decide) (by decide) rfl rfl (Nat.le_of_ble_eq_true rfl) dX11_goes_107 ?_
    obtain ⟨q110, hq110, hf⟩ := kc_some hf
    refine u_callV hC (ctX11_takes (cL C) hC.tr (cG C) X.1 X.2.1 n q10 a0 q107 hTa0 hq110) lk_X11_237 rfl hTa0 (by decide) rfl (by decide) (by decide) rfl rfl (Nat.le_of_ble_eq_true rfl) dX11_goes_110 ?_
    refine u_goto (tgt := 120) hC dX11_goes_113 (by decide) ?_
    exact wjX11_goes_120 hC n q110 a0 x1_  hTa0 hf hR
  rw [if_neg hs14_7] at hf
  have hz14_0 := lv_neT (a := 0) hs14_0 (by decide)
  have hz14_1 := lv_neT (a := 1) hs14_1 (by decide)
  have hz14_2 := lv_neT (a := 2) hs14_2 (by decide)
  have hz14_3 := lv_neT (a := 3) hs14_3 (by decide)
  have hz14_4 := lv_neT (a := 4) hs14_4 (by decide)
  have hz14_5 := lv_neT (a := 5) hs14_5 (by decide)
  have hz14_6 := lv_neT (a := 6) hs14_6 (by decide)
  have hz14_7 := lv_neT (a := 7) hs14_7 (by decide)
  refine u_tout (tgt := 116) hC dX11_goes_14 (by omega) (by decide) ?_
  refine u_aload_n hC dX11_goes_116 0 rfl rfl ?_
  obtain ⟨q117, hq117, hf⟩ := kc_some hf
  refine u_callV hC (ctX11_earns (cL C) hC.tr (cG C) X.1 X.2.1 n q10 a0 hTa0 hq117) lk_X11_243 rfl hTa0 (by decide) rfl (by decide) (by decide) rfl rfl (Nat.le_of_ble_eq_true rfl) dX11_goes_117 ?_
  exact wjX11_goes_120 hC n q117 a0 x1_  hTa0 hf hR
theorem ctX11_goes (l : Launch) (hl : l.stackTraces = false) (G : GT) (ρ : Nat → Nat) (Y : XS) (n : Nat) (S : PS) (a0 : Nat) (x1_ : Int32) (hTa0 : Ty Y a0 11) {o : PS} (hf : fX11_goes Y n S a0 x1_ = some o) : Mt l G yX11_goes cX11_goes 2 none 53 ρ Y [.ref (ρ a0), .int x1_] S none o :=
  Mt_of hl (by decide) (Nat.le_of_ble_eq_true rfl) (fun C _ _ hC hR => wX11_goes (X := (ρ, Y, 0, 0)) hC n S a0 x1_ hTa0 hf hR)
-- X11_count
theorem dX11_count_0 : decode cX11_count 0 = .ok (.aload_n 0, 1) := by decide +kernel
theorem dX11_count_1 : decode cX11_count 1 = .ok (.iconst 0, 1) := by decide +kernel
theorem dX11_count_2 : decode cX11_count 2 = .ok (.putfield 70, 3) := by decide +kernel
theorem dX11_count_5 : decode cX11_count 5 = .ok (.iload_n 1, 1) := by decide +kernel
theorem dX11_count_6 : decode cX11_count 6 = .ok (.tableswitch 86 0 6 #[42, 47, 52, 59, 67, 72, 77], 42) := by decide +kernel
theorem dX11_count_48 : decode cX11_count 48 = .ok (.aload_n 0, 1) := by decide +kernel
theorem dX11_count_49 : decode cX11_count 49 = .ok (.invokevirtual 77, 3) := by decide +kernel
theorem dX11_count_52 : decode cX11_count 52 = .ok (.ireturn, 1) := by decide +kernel
theorem dX11_count_53 : decode cX11_count 53 = .ok (.aload_n 0, 1) := by decide +kernel
theorem dX11_count_54 : decode cX11_count 54 = .ok (.invokevirtual 85, 3) := by decide +kernel
theorem dX11_count_57 : decode cX11_count 57 = .ok (.ireturn, 1) := by decide +kernel
theorem dX11_count_58 : decode cX11_count 58 = .ok (.aload_n 0, 1) := by decide +kernel
theorem dX11_count_59 : decode cX11_count 59 = .ok (.getfield 9, 3) := by decide +kernel
theorem dX11_count_62 : decode cX11_count 62 = .ok (.iconst 0, 1) := by decide +kernel
theorem dX11_count_63 : decode cX11_count 63 = .ok (.iaload, 1) := by decide +kernel
theorem dX11_count_64 : decode cX11_count 64 = .ok (.ireturn, 1) := by decide +kernel
theorem dX11_count_65 : decode cX11_count 65 = .ok (.aload_n 0, 1) := by decide +kernel
theorem dX11_count_66 : decode cX11_count 66 = .ok (.sipush 4095, 3) := by decide +kernel
theorem dX11_count_69 : decode cX11_count 69 = .ok (.invokevirtual 196, 3) := by decide +kernel
theorem dX11_count_72 : decode cX11_count 72 = .ok (.ireturn, 1) := by decide +kernel
theorem dX11_count_73 : decode cX11_count 73 = .ok (.aload_n 0, 1) := by decide +kernel
theorem dX11_count_74 : decode cX11_count 74 = .ok (.getfield 246, 3) := by decide +kernel
theorem dX11_count_77 : decode cX11_count 77 = .ok (.ireturn, 1) := by decide +kernel
theorem dX11_count_78 : decode cX11_count 78 = .ok (.aload_n 0, 1) := by decide +kernel
theorem dX11_count_79 : decode cX11_count 79 = .ok (.getfield 249, 3) := by decide +kernel
theorem dX11_count_82 : decode cX11_count 82 = .ok (.ireturn, 1) := by decide +kernel
theorem dX11_count_83 : decode cX11_count 83 = .ok (.aload_n 0, 1) := by decide +kernel
theorem dX11_count_84 : decode cX11_count 84 = .ok (.getfield 9, 3) := by decide +kernel
theorem dX11_count_87 : decode cX11_count 87 = .ok (.sipush 375, 3) := by decide +kernel
theorem dX11_count_90 : decode cX11_count 90 = .ok (.iaload, 1) := by decide +kernel
theorem dX11_count_91 : decode cX11_count 91 = .ok (.ireturn, 1) := by decide +kernel
theorem dX11_count_92 : decode cX11_count 92 = .ok (.aload_n 0, 1) := by decide +kernel
theorem dX11_count_93 : decode cX11_count 93 = .ok (.iconst 1, 1) := by decide +kernel
theorem dX11_count_94 : decode cX11_count 94 = .ok (.invokevirtual 252, 3) := by decide +kernel
theorem dX11_count_97 : decode cX11_count 97 = .ok (.ireturn, 1) := by decide +kernel
def fX11_count (Y : XS) (n : Nat) (S : PS) (a0 : Nat) (x1_ : Int32) : Option (Int32 × PS) :=
  kpi S a0 7 (0 : Int32) (fun S2 => (if x1_ = (0 : Int32) then kc (fX11_many Y n S2 a0) (fun q49 => some (q49, S2)) else (if x1_ = (1 : Int32) then kc (fX11_people Y n S2 a0) (fun q54 => some (q54, S2)) else (if x1_ = (2 : Int32) then kgr S2 a0 0 (fun b59 => kai Y S2 b59 (0 : Int32) (fun x63 => some (x63, S2))) else (if x1_ = (3 : Int32) then kc (fX11_costsOf Y n S2 a0 (4095 : Int32)) (fun q69 => some (q69, S2)) else (if x1_ = (4 : Int32) then kgi S2 a0 6 (fun x74 => some (x74, S2)) else (if x1_ = (5 : Int32) then kgi S2 a0 28 (fun x79 => some (x79, S2)) else (if x1_ = (6 : Int32) then kgr S2 a0 0 (fun b84 => kai Y S2 b84 (375 : Int32) (fun x90 => some (x90, S2))) else kc (fX11_fail Y n S2 a0 (1 : Int32)) (fun q94 => some (q94.1, q94.2))))))))))
theorem wX11_count {C : CT} {X : XT} (hC : CK C RX11 cX11_count 2 (some .int) 3) (n : Nat) (S : PS) (a0 : Nat) (x1_ : Int32) (hTa0 : Ty X.2.1 a0 11) {o : Int32 × PS} (hf : fX11_count X.2.1 n S a0 x1_ = some o) (hR : Rt C X cX11_count (some .int) (some (.int o.1)) o.2) : UW C X S 0 [(0, .ref (X.1 a0)), (1, .int x1_)] [] := by
  unfold fX11_count at hf
  refine u_aload_n hC dX11_count_0 0 rfl rfl ?_
  refine u_iconst (v := (0 : Int32)) hC dX11_count_1 (by decide) ?_
  refine u_pi hC lf_X11_70 rfl rfl rfl hTa0 dX11_count_2 hf (fun S2 hf => ?_)
  refine u_iload_n hC dX11_count_5 1 rfl rfl ?_
  by_cases hs6_0 : x1_ = (0 : Int32)
  · rw [if_pos hs6_0] at hf
    refine u_tin (tgt := 48) hC dX11_count_6 (by rw [hs6_0]; decide) (by rw [hs6_0]; decide) (by rw [hs6_0]; rfl) (by decide) ?_
    refine u_aload_n hC dX11_count_48 0 rfl rfl ?_
    obtain ⟨q49, hq49, hf⟩ := kc_some hf
    refine u_callV hC (ctX11_many (cL C) hC.tr (cG C) X.1 X.2.1 n S2 a0 hTa0 hq49) lk_X11_77 rfl hTa0 (by decide) rfl (by decide) (by decide) rfl rfl (Nat.le_of_ble_eq_true rfl) dX11_count_49 ?_
    cases hf
    exact hR _ _ dX11_count_52 trivial
  rw [if_neg hs6_0] at hf
  by_cases hs6_1 : x1_ = (1 : Int32)
  · rw [if_pos hs6_1] at hf
    refine u_tin (tgt := 53) hC dX11_count_6 (by rw [hs6_1]; decide) (by rw [hs6_1]; decide) (by rw [hs6_1]; rfl) (by decide) ?_
    refine u_aload_n hC dX11_count_53 0 rfl rfl ?_
    obtain ⟨q54, hq54, hf⟩ := kc_some hf
    refine u_callV hC (ctX11_people (cL C) hC.tr (cG C) X.1 X.2.1 n S2 a0 hTa0 hq54) lk_X11_85 rfl hTa0 (by decide) rfl (by decide) (by decide) rfl rfl (Nat.le_of_ble_eq_true rfl) dX11_count_54 ?_
    cases hf
    exact hR _ _ dX11_count_57 trivial
  rw [if_neg hs6_1] at hf
  by_cases hs6_2 : x1_ = (2 : Int32)
  · rw [if_pos hs6_2] at hf
    refine u_tin (tgt := 58) hC dX11_count_6 (by rw [hs6_2]; decide) (by rw [hs6_2]; decide) (by rw [hs6_2]; rfl) (by decide) ?_
    refine u_aload_n hC dX11_count_58 0 rfl rfl ?_
    refine u_gr hC lf_X11_9 rfl hTa0 dX11_count_59 hf (fun b59 hTb59 hf => ?_)
    refine u_iconst (v := (0 : Int32)) hC dX11_count_62 (by decide) ?_
    refine u_ai hC hTb59 dX11_count_63 hf (fun x63 hf => ?_)
    cases hf
    exact hR _ _ dX11_count_64 trivial
  rw [if_neg hs6_2] at hf
  by_cases hs6_3 : x1_ = (3 : Int32)
  · rw [if_pos hs6_3] at hf
    refine u_tin (tgt := 65) hC dX11_count_6 (by rw [hs6_3]; decide) (by rw [hs6_3]; decide) (by rw [hs6_3]; rfl) (by decide) ?_
    refine u_aload_n hC dX11_count_65 0 rfl rfl ?_
    refine u_sipush (v := (4095 : Int32)) hC dX11_count_66 (by decide) ?_
    obtain ⟨q69, hq69, hf⟩ := kc_some hf
    refine u_callV hC (ctX11_costsOf (cL C) hC.tr (cG C) X.1 X.2.1 n S2 a0 (4095 : Int32) hTa0 hq69) lk_X11_196 rfl hTa0 (by decide) rfl (by decide) (by decide) rfl rfl (Nat.le_of_ble_eq_true rfl) dX11_count_69 ?_
    cases hf
    exact hR _ _ dX11_count_72 trivial
  rw [if_neg hs6_3] at hf
  by_cases hs6_4 : x1_ = (4 : Int32)
  · rw [if_pos hs6_4] at hf
    refine u_tin (tgt := 73) hC dX11_count_6 (by rw [hs6_4]; decide) (by rw [hs6_4]; decide) (by rw [hs6_4]; rfl) (by decide) ?_
    refine u_aload_n hC dX11_count_73 0 rfl rfl ?_
    refine u_gi hC lf_X11_246 rfl hTa0 dX11_count_74 hf (fun x74 hf => ?_)
    cases hf
    exact hR _ _ dX11_count_77 trivial
  rw [if_neg hs6_4] at hf
  by_cases hs6_5 : x1_ = (5 : Int32)
  · rw [if_pos hs6_5] at hf
    refine u_tin (tgt := 78) hC dX11_count_6 (by rw [hs6_5]; decide) (by rw [hs6_5]; decide) (by rw [hs6_5]; rfl) (by decide) ?_
    refine u_aload_n hC dX11_count_78 0 rfl rfl ?_
    refine u_gi hC lf_X11_249 rfl hTa0 dX11_count_79 hf (fun x79 hf => ?_)
    cases hf
    exact hR _ _ dX11_count_82 trivial
  rw [if_neg hs6_5] at hf
  by_cases hs6_6 : x1_ = (6 : Int32)
  · rw [if_pos hs6_6] at hf
    refine u_tin (tgt := 83) hC dX11_count_6 (by rw [hs6_6]; decide) (by rw [hs6_6]; decide) (by rw [hs6_6]; rfl) (by decide) ?_
    refine u_aload_n hC dX11_count_83 0 rfl rfl ?_
    refine u_gr hC lf_X11_9 rfl hTa0 dX11_count_84 hf (fun b84 hTb84 hf => ?_)
    refine u_sipush (v := (375 : Int32)) hC dX11_count_87 (by decide) ?_
    refine u_ai hC hTb84 dX11_count_90 hf (fun x90 hf => ?_)
    cases hf
    exact hR _ _ dX11_count_91 trivial
  rw [if_neg hs6_6] at hf
  have hz6_0 := lv_neT (a := 0) hs6_0 (by decide)
  have hz6_1 := lv_neT (a := 1) hs6_1 (by decide)
  have hz6_2 := lv_neT (a := 2) hs6_2 (by decide)
  have hz6_3 := lv_neT (a := 3) hs6_3 (by decide)
  have hz6_4 := lv_neT (a := 4) hs6_4 (by decide)
  have hz6_5 := lv_neT (a := 5) hs6_5 (by decide)
  have hz6_6 := lv_neT (a := 6) hs6_6 (by decide)
  refine u_tout (tgt := 92) hC dX11_count_6 (by omega) (by decide) ?_
  refine u_aload_n hC dX11_count_92 0 rfl rfl ?_
  refine u_iconst (v := (1 : Int32)) hC dX11_count_93 (by decide) ?_
  obtain ⟨q94, hq94, hf⟩ := kc_some hf
  refine u_callV hC (ctX11_fail (cL C) hC.tr (cG C) X.1 X.2.1 n S2 a0 (1 : Int32) hTa0 hq94) lk_X11_252 rfl hTa0 (by decide) rfl (by decide) (by decide) rfl rfl (Nat.le_of_ble_eq_true rfl) dX11_count_94 ?_
  cases hf
  exact hR _ _ dX11_count_97 trivial
theorem ctX11_count (l : Launch) (hl : l.stackTraces = false) (G : GT) (ρ : Nat → Nat) (Y : XS) (n : Nat) (S : PS) (a0 : Nat) (x1_ : Int32) (hTa0 : Ty Y a0 11) {o : Int32 × PS} (hf : fX11_count Y n S a0 x1_ = some o) : Mt l G yX11_count cX11_count 2 (some .int) 3 ρ Y [.ref (ρ a0), .int x1_] S (some (.int o.1)) o.2 :=
  Mt_of hl (by decide) (Nat.le_of_ble_eq_true rfl) (fun C _ _ hC hR => wX11_count (X := (ρ, Y, 0, 0)) hC n S a0 x1_ hTa0 hf hR)
-- X11_project
theorem dX11_project_0 : decode cX11_project 0 = .ok (.aload_n 0, 1) := by decide +kernel
theorem dX11_project_1 : decode cX11_project 1 = .ok (.iconst 0, 1) := by decide +kernel
theorem dX11_project_2 : decode cX11_project 2 = .ok (.putfield 70, 3) := by decide +kernel
theorem dX11_project_5 : decode cX11_project 5 = .ok (.aload_n 0, 1) := by decide +kernel
theorem dX11_project_6 : decode cX11_project 6 = .ok (.iload_n 1, 1) := by decide +kernel
theorem dX11_project_7 : decode cX11_project 7 = .ok (.invokevirtual 255, 3) := by decide +kernel
theorem dX11_project_10 : decode cX11_project 10 = .ok (.ifCond .eq 13, 3) := by decide +kernel
theorem dX11_project_13 : decode cX11_project 13 = .ok (.iload_n 2, 1) := by decide +kernel
theorem dX11_project_14 : decode cX11_project 14 = .ok (.iconst 0, 1) := by decide +kernel
theorem dX11_project_15 : decode cX11_project 15 = .ok (.bipush 8, 2) := by decide +kernel
theorem dX11_project_17 : decode cX11_project 17 = .ok (.invokestatic 81, 3) := by decide +kernel
theorem dX11_project_20 : decode cX11_project 20 = .ok (.ifCond .ne 9, 3) := by decide +kernel
theorem dX11_project_23 : decode cX11_project 23 = .ok (.aload_n 0, 1) := by decide +kernel
theorem dX11_project_24 : decode cX11_project 24 = .ok (.iconst 1, 1) := by decide +kernel
theorem dX11_project_25 : decode cX11_project 25 = .ok (.invokevirtual 252, 3) := by decide +kernel
theorem dX11_project_28 : decode cX11_project 28 = .ok (.ireturn, 1) := by decide +kernel
theorem dX11_project_29 : decode cX11_project 29 = .ok (.iload_n 2, 1) := by decide +kernel
theorem dX11_project_30 : decode cX11_project 30 = .ok (.iconst 2, 1) := by decide +kernel
theorem dX11_project_31 : decode cX11_project 31 = .ok (.if_icmp .le 20, 3) := by decide +kernel
theorem dX11_project_34 : decode cX11_project 34 = .ok (.aload_n 0, 1) := by decide +kernel
theorem dX11_project_35 : decode cX11_project 35 = .ok (.getfield 9, 3) := by decide +kernel
theorem dX11_project_38 : decode cX11_project 38 = .ok (.bipush 15, 2) := by decide +kernel
theorem dX11_project_40 : decode cX11_project 40 = .ok (.bipush 6, 2) := by decide +kernel
theorem dX11_project_42 : decode cX11_project 42 = .ok (.iload_n 1, 1) := by decide +kernel
theorem dX11_project_43 : decode cX11_project 43 = .ok (.imul, 1) := by decide +kernel
theorem dX11_project_44 : decode cX11_project 44 = .ok (.iadd, 1) := by decide +kernel
theorem dX11_project_45 : decode cX11_project 45 = .ok (.iload_n 2, 1) := by decide +kernel
theorem dX11_project_46 : decode cX11_project 46 = .ok (.iadd, 1) := by decide +kernel
theorem dX11_project_47 : decode cX11_project 47 = .ok (.iconst 3, 1) := by decide +kernel
theorem dX11_project_48 : decode cX11_project 48 = .ok (.isub, 1) := by decide +kernel
theorem dX11_project_49 : decode cX11_project 49 = .ok (.iaload, 1) := by decide +kernel
theorem dX11_project_50 : decode cX11_project 50 = .ok (.ireturn, 1) := by decide +kernel
theorem dX11_project_51 : decode cX11_project 51 = .ok (.aload_n 0, 1) := by decide +kernel
theorem dX11_project_52 : decode cX11_project 52 = .ok (.invokevirtual 224, 3) := by decide +kernel
theorem dX11_project_55 : decode cX11_project 55 = .ok (.iload_n 2, 1) := by decide +kernel
theorem dX11_project_56 : decode cX11_project 56 = .ok (.ifCond .ne 11, 3) := by decide +kernel
theorem dX11_project_59 : decode cX11_project 59 = .ok (.aload_n 0, 1) := by decide +kernel
theorem dX11_project_60 : decode cX11_project 60 = .ok (.iload_n 1, 1) := by decide +kernel
theorem dX11_project_61 : decode cX11_project 61 = .ok (.invokevirtual 134, 3) := by decide +kernel
theorem dX11_project_64 : decode cX11_project 64 = .ok (.goto 23, 3) := by decide +kernel
theorem dX11_project_67 : decode cX11_project 67 = .ok (.iload_n 2, 1) := by decide +kernel
theorem dX11_project_68 : decode cX11_project 68 = .ok (.iconst 1, 1) := by decide +kernel
theorem dX11_project_69 : decode cX11_project 69 = .ok (.if_icmp .ne 12, 3) := by decide +kernel
theorem dX11_project_72 : decode cX11_project 72 = .ok (.aload_n 0, 1) := by decide +kernel
theorem dX11_project_73 : decode cX11_project 73 = .ok (.getfield 28, 3) := by decide +kernel
theorem dX11_project_76 : decode cX11_project 76 = .ok (.iload_n 1, 1) := by decide +kernel
theorem dX11_project_77 : decode cX11_project 77 = .ok (.iaload, 1) := by decide +kernel
theorem dX11_project_78 : decode cX11_project 78 = .ok (.goto 9, 3) := by decide +kernel
theorem dX11_project_81 : decode cX11_project 81 = .ok (.aload_n 0, 1) := by decide +kernel
theorem dX11_project_82 : decode cX11_project 82 = .ok (.getfield 31, 3) := by decide +kernel
theorem dX11_project_85 : decode cX11_project 85 = .ok (.iload_n 1, 1) := by decide +kernel
theorem dX11_project_86 : decode cX11_project 86 = .ok (.iaload, 1) := by decide +kernel
theorem dX11_project_87 : decode cX11_project 87 = .ok (.ireturn, 1) := by decide +kernel
def jX11_project_23 (Y : XS) (n : Nat) (S : PS) (v0 : Nat) : Option (Int32 × PS) :=
  kc (fX11_fail Y n S v0 (1 : Int32)) (fun q25 => some (q25.1, q25.2))
def jX11_project_87 (Y : XS) (n : Nat) (S : PS) (t0 : Int32) : Option (Int32 × PS) :=
  some (t0, S)
def fX11_project (Y : XS) (n : Nat) (S : PS) (a0 : Nat) (x1_ : Int32) (x2_ : Int32) : Option (Int32 × PS) :=
  kpi S a0 7 (0 : Int32) (fun S2 => kc (fX11_isProject Y n S2 a0 x1_) (fun q7 => (if q7 = 0 then jX11_project_23 Y n S2 a0 else kc (fX11_isIn Y n S2 x2_ (0 : Int32) (8 : Int32)) (fun q17 => (if q17 = 0 then jX11_project_23 Y n S2 a0 else (if x2_ ≤ (2 : Int32) then kc (fX11_layWorths Y n S2 a0) (fun q52 => (if x2_ = 0 then kc (fX11_costOf Y n q52 a0 x1_) (fun q61 => jX11_project_87 Y n q52 q61) else (if x2_ = (1 : Int32) then kgr q52 a0 13 (fun b73 => kai Y q52 b73 x1_ (fun x77 => jX11_project_87 Y n q52 x77)) else kgr q52 a0 14 (fun b82 => kai Y q52 b82 x1_ (fun x86 => jX11_project_87 Y n q52 x86))))) else kgr S2 a0 0 (fun b35 => kai Y S2 b35 ((((15 : Int32) + ((6 : Int32) * x1_)) + x2_) - (3 : Int32)) (fun x49 => some (x49, S2)))))))))
theorem wjX11_project_23 {C : CT} {X : XT} (hC : CK C RX11 cX11_project 3 (some .int) 53) (n : Nat) (S : PS) (v0 : Nat)  (hTv0 : Ty X.2.1 v0 11) {o : Int32 × PS} (hf : jX11_project_23 X.2.1 n S v0 = some o) (hR : Rt C X cX11_project (some .int) (some (.int o.1)) o.2) : UW C X S 23 [(0, .ref (X.1 v0))] [] := by
  unfold jX11_project_23 at hf
  refine u_aload_n hC dX11_project_23 0 rfl rfl ?_
  refine u_iconst (v := (1 : Int32)) hC dX11_project_24 (by decide) ?_
  obtain ⟨q25, hq25, hf⟩ := kc_some hf
  refine u_callV hC (ctX11_fail (cL C) hC.tr (cG C) X.1 X.2.1 n S v0 (1 : Int32) hTv0 hq25) lk_X11_252 rfl hTv0 (by decide) rfl (by decide) (by decide) rfl rfl (Nat.le_of_ble_eq_true rfl) dX11_project_25 ?_
  cases hf
  exact hR _ _ dX11_project_28 trivial
theorem wjX11_project_87 {C : CT} {X : XT} (hC : CK C RX11 cX11_project 3 (some .int) 53) (n : Nat) (S : PS) (t0 : Int32)   {o : Int32 × PS} (hf : jX11_project_87 X.2.1 n S t0 = some o) (hR : Rt C X cX11_project (some .int) (some (.int o.1)) o.2) : UW C X S 87 [] [.int t0] := by
  unfold jX11_project_87 at hf
  cases hf
  exact hR _ _ dX11_project_87 trivial
theorem wX11_project {C : CT} {X : XT} (hC : CK C RX11 cX11_project 3 (some .int) 53) (n : Nat) (S : PS) (a0 : Nat) (x1_ : Int32) (x2_ : Int32) (hTa0 : Ty X.2.1 a0 11) {o : Int32 × PS} (hf : fX11_project X.2.1 n S a0 x1_ x2_ = some o) (hR : Rt C X cX11_project (some .int) (some (.int o.1)) o.2) : UW C X S 0 [(0, .ref (X.1 a0)), (1, .int x1_), (2, .int x2_)] [] := by
  unfold fX11_project at hf
  refine u_aload_n hC dX11_project_0 0 rfl rfl ?_
  refine u_iconst (v := (0 : Int32)) hC dX11_project_1 (by decide) ?_
  refine u_pi hC lf_X11_70 rfl rfl rfl hTa0 dX11_project_2 hf (fun S2 hf => ?_)
  refine u_aload_n hC dX11_project_5 0 rfl rfl ?_
  refine u_iload_n hC dX11_project_6 1 rfl rfl ?_
  obtain ⟨q7, hq7, hf⟩ := kc_some hf
  refine u_callV hC (ctX11_isProject (cL C) hC.tr (cG C) X.1 X.2.1 n S2 a0 x1_ hTa0 hq7) lk_X11_255 rfl hTa0 (by decide) rfl (by decide) (by decide) rfl rfl (Nat.le_of_ble_eq_true rfl) dX11_project_7 ?_
  refine u_if_eq (tgt := 23) hC dX11_project_10 (by decide) hf (fun h10 hf => ?_) (fun h10 hf => ?_)
  · refine u_sub (lv' := [(0, .ref (X.1 a0))]) [0] rfl ?_
    exact wjX11_project_23 hC n S2 a0  hTa0 hf hR
  · refine u_iload_n hC dX11_project_13 2 rfl rfl ?_
    refine u_iconst (v := (0 : Int32)) hC dX11_project_14 (by decide) ?_
    refine u_bipush (v := (8 : Int32)) hC dX11_project_15 (by decide) ?_
    obtain ⟨q17, hq17, hf⟩ := kc_some hf
    refine u_callS hC (ctX11_isIn (cL C) hC.tr (cG C) X.1 X.2.1 n S2 x2_ (0 : Int32) (8 : Int32)  hq17) lk_X11_81 (by decide) (by decide) rfl rfl (Nat.le_of_ble_eq_true rfl) dX11_project_17 ?_
    refine u_if_ne (tgt := 29) hC dX11_project_20 (by decide) hf (fun h20 hf => ?_) (fun h20 hf => ?_)
    · refine u_iload_n hC dX11_project_29 2 rfl rfl ?_
      refine u_iconst (v := (2 : Int32)) hC dX11_project_30 (by decide) ?_
      refine u_icmp_le (tgt := 51) hC dX11_project_31 (by decide) hf (fun h31 hf => ?_) (fun h31 hf => ?_)
      · refine u_aload_n hC dX11_project_51 0 rfl rfl ?_
        obtain ⟨q52, hq52, hf⟩ := kc_some hf
        refine u_callV hC (ctX11_layWorths (cL C) hC.tr (cG C) X.1 X.2.1 n S2 a0 hTa0 hq52) lk_X11_224 rfl hTa0 (by decide) rfl (by decide) (by decide) rfl rfl (Nat.le_of_ble_eq_true rfl) dX11_project_52 ?_
        refine u_iload_n hC dX11_project_55 2 rfl rfl ?_
        refine u_if_ne (tgt := 67) hC dX11_project_56 (by decide) hf (fun h56 hf => ?_) (fun h56 hf => ?_)
        · refine u_iload_n hC dX11_project_67 2 rfl rfl ?_
          refine u_iconst (v := (1 : Int32)) hC dX11_project_68 (by decide) ?_
          refine u_icmp_ne (tgt := 81) hC dX11_project_69 (by decide) hf (fun h69 hf => ?_) (fun h69 hf => ?_)
          · refine u_aload_n hC dX11_project_81 0 rfl rfl ?_
            refine u_gr hC lf_X11_31 rfl hTa0 dX11_project_82 hf (fun b82 hTb82 hf => ?_)
            refine u_iload_n hC dX11_project_85 1 rfl rfl ?_
            refine u_ai hC hTb82 dX11_project_86 hf (fun x86 hf => ?_)
            refine u_sub (lv' := []) [] rfl ?_
            exact wjX11_project_87 hC n q52 x86   hf hR
          · refine u_aload_n hC dX11_project_72 0 rfl rfl ?_
            refine u_gr hC lf_X11_28 rfl hTa0 dX11_project_73 hf (fun b73 hTb73 hf => ?_)
            refine u_iload_n hC dX11_project_76 1 rfl rfl ?_
            refine u_ai hC hTb73 dX11_project_77 hf (fun x77 hf => ?_)
            refine u_goto (tgt := 87) hC dX11_project_78 (by decide) ?_
            refine u_sub (lv' := []) [] rfl ?_
            exact wjX11_project_87 hC n q52 x77   hf hR
        · refine u_aload_n hC dX11_project_59 0 rfl rfl ?_
          refine u_iload_n hC dX11_project_60 1 rfl rfl ?_
          obtain ⟨q61, hq61, hf⟩ := kc_some hf
          refine u_callV hC (ctX11_costOf (cL C) hC.tr (cG C) X.1 X.2.1 n q52 a0 x1_ hTa0 hq61) lk_X11_134 rfl hTa0 (by decide) rfl (by decide) (by decide) rfl rfl (Nat.le_of_ble_eq_true rfl) dX11_project_61 ?_
          refine u_goto (tgt := 87) hC dX11_project_64 (by decide) ?_
          refine u_sub (lv' := []) [] rfl ?_
          exact wjX11_project_87 hC n q52 q61   hf hR
      · refine u_aload_n hC dX11_project_34 0 rfl rfl ?_
        refine u_gr hC lf_X11_9 rfl hTa0 dX11_project_35 hf (fun b35 hTb35 hf => ?_)
        refine u_bipush (v := (15 : Int32)) hC dX11_project_38 (by decide) ?_
        refine u_bipush (v := (6 : Int32)) hC dX11_project_40 (by decide) ?_
        refine u_iload_n hC dX11_project_42 1 rfl rfl ?_
        refine u_imul hC dX11_project_43 ?_
        refine u_iadd hC dX11_project_44 ?_
        refine u_iload_n hC dX11_project_45 2 rfl rfl ?_
        refine u_iadd hC dX11_project_46 ?_
        refine u_iconst (v := (3 : Int32)) hC dX11_project_47 (by decide) ?_
        refine u_isub hC dX11_project_48 ?_
        refine u_ai hC hTb35 dX11_project_49 hf (fun x49 hf => ?_)
        cases hf
        exact hR _ _ dX11_project_50 trivial
    · refine u_sub (lv' := [(0, .ref (X.1 a0))]) [0] rfl ?_
      exact wjX11_project_23 hC n S2 a0  hTa0 hf hR
theorem ctX11_project (l : Launch) (hl : l.stackTraces = false) (G : GT) (ρ : Nat → Nat) (Y : XS) (n : Nat) (S : PS) (a0 : Nat) (x1_ : Int32) (x2_ : Int32) (hTa0 : Ty Y a0 11) {o : Int32 × PS} (hf : fX11_project Y n S a0 x1_ x2_ = some o) : Mt l G yX11_project cX11_project 3 (some .int) 53 ρ Y [.ref (ρ a0), .int x1_, .int x2_] S (some (.int o.1)) o.2 :=
  Mt_of hl (by decide) (Nat.le_of_ble_eq_true rfl) (fun C _ _ hC hR => wX11_project (X := (ρ, Y, 0, 0)) hC n S a0 x1_ x2_ hTa0 hf hR)
-- X11_vote
theorem dX11_vote_0 : decode cX11_vote 0 = .ok (.aload_n 0, 1) := by decide +kernel
theorem dX11_vote_1 : decode cX11_vote 1 = .ok (.iconst 0, 1) := by decide +kernel
theorem dX11_vote_2 : decode cX11_vote 2 = .ok (.putfield 70, 3) := by decide +kernel
theorem dX11_vote_5 : decode cX11_vote 5 = .ok (.aload_n 0, 1) := by decide +kernel
theorem dX11_vote_6 : decode cX11_vote 6 = .ok (.iload_n 1, 1) := by decide +kernel
theorem dX11_vote_7 : decode cX11_vote 7 = .ok (.invokevirtual 258, 3) := by decide +kernel
theorem dX11_vote_10 : decode cX11_vote 10 = .ok (.ifCond .eq 11, 3) := by decide +kernel
theorem dX11_vote_13 : decode cX11_vote 13 = .ok (.aload_n 0, 1) := by decide +kernel
theorem dX11_vote_14 : decode cX11_vote 14 = .ok (.iload_n 2, 1) := by decide +kernel
theorem dX11_vote_15 : decode cX11_vote 15 = .ok (.invokevirtual 255, 3) := by decide +kernel
theorem dX11_vote_18 : decode cX11_vote 18 = .ok (.ifCond .ne 9, 3) := by decide +kernel
theorem dX11_vote_21 : decode cX11_vote 21 = .ok (.aload_n 0, 1) := by decide +kernel
theorem dX11_vote_22 : decode cX11_vote 22 = .ok (.iconst 1, 1) := by decide +kernel
theorem dX11_vote_23 : decode cX11_vote 23 = .ok (.invokevirtual 252, 3) := by decide +kernel
theorem dX11_vote_26 : decode cX11_vote 26 = .ok (.ireturn, 1) := by decide +kernel
theorem dX11_vote_27 : decode cX11_vote 27 = .ok (.iload_n 3, 1) := by decide +kernel
theorem dX11_vote_28 : decode cX11_vote 28 = .ok (.ifCond .eq 17, 3) := by decide +kernel
theorem dX11_vote_31 : decode cX11_vote 31 = .ok (.aload_n 0, 1) := by decide +kernel
theorem dX11_vote_32 : decode cX11_vote 32 = .ok (.iload_n 1, 1) := by decide +kernel
theorem dX11_vote_33 : decode cX11_vote 33 = .ok (.iload_n 2, 1) := by decide +kernel
theorem dX11_vote_34 : decode cX11_vote 34 = .ok (.aload_n 0, 1) := by decide +kernel
theorem dX11_vote_35 : decode cX11_vote 35 = .ok (.iload_n 2, 1) := by decide +kernel
theorem dX11_vote_36 : decode cX11_vote 36 = .ok (.invokevirtual 140, 3) := by decide +kernel
theorem dX11_vote_39 : decode cX11_vote 39 = .ok (.invokevirtual 143, 3) := by decide +kernel
theorem dX11_vote_42 : decode cX11_vote 42 = .ok (.goto 9, 3) := by decide +kernel
theorem dX11_vote_45 : decode cX11_vote 45 = .ok (.aload_n 0, 1) := by decide +kernel
theorem dX11_vote_46 : decode cX11_vote 46 = .ok (.iload_n 1, 1) := by decide +kernel
theorem dX11_vote_47 : decode cX11_vote 47 = .ok (.iload_n 2, 1) := by decide +kernel
theorem dX11_vote_48 : decode cX11_vote 48 = .ok (.invokevirtual 88, 3) := by decide +kernel
theorem dX11_vote_51 : decode cX11_vote 51 = .ok (.ireturn, 1) := by decide +kernel
def jX11_vote_21 (Y : XS) (n : Nat) (S : PS) (v0 : Nat) : Option (Int32 × PS) :=
  kc (fX11_fail Y n S v0 (1 : Int32)) (fun q23 => some (q23.1, q23.2))
def jX11_vote_51 (Y : XS) (n : Nat) (S : PS) (t0 : Int32) : Option (Int32 × PS) :=
  some (t0, S)
def fX11_vote (Y : XS) (n : Nat) (S : PS) (a0 : Nat) (x1_ : Int32) (x2_ : Int32) (x3_ : Int32) : Option (Int32 × PS) :=
  kpi S a0 7 (0 : Int32) (fun S2 => kc (fX11_isVoter Y n S2 a0 x1_) (fun q7 => (if q7 = 0 then jX11_vote_21 Y n S2 a0 else kc (fX11_isProject Y n S2 a0 x2_) (fun q15 => (if q15 = 0 then jX11_vote_21 Y n S2 a0 else (if x3_ = 0 then kc (fX11_scoreOf Y n S2 a0 x1_ x2_) (fun q48 => jX11_vote_51 Y n S2 q48) else kc (fX11_likedOf Y n S2 a0 x2_) (fun q36 => kc (fX11_worthOf Y n S2 a0 x1_ x2_ q36) (fun q39 => jX11_vote_51 Y n q39.2 q39.1))))))))
theorem wjX11_vote_21 {C : CT} {X : XT} (hC : CK C RX11 cX11_vote 4 (some .int) 52) (n : Nat) (S : PS) (v0 : Nat)  (hTv0 : Ty X.2.1 v0 11) {o : Int32 × PS} (hf : jX11_vote_21 X.2.1 n S v0 = some o) (hR : Rt C X cX11_vote (some .int) (some (.int o.1)) o.2) : UW C X S 21 [(0, .ref (X.1 v0))] [] := by
  unfold jX11_vote_21 at hf
  refine u_aload_n hC dX11_vote_21 0 rfl rfl ?_
  refine u_iconst (v := (1 : Int32)) hC dX11_vote_22 (by decide) ?_
  obtain ⟨q23, hq23, hf⟩ := kc_some hf
  refine u_callV hC (ctX11_fail (cL C) hC.tr (cG C) X.1 X.2.1 n S v0 (1 : Int32) hTv0 hq23) lk_X11_252 rfl hTv0 (by decide) rfl (by decide) (by decide) rfl rfl (Nat.le_of_ble_eq_true rfl) dX11_vote_23 ?_
  cases hf
  exact hR _ _ dX11_vote_26 trivial
theorem wjX11_vote_51 {C : CT} {X : XT} (hC : CK C RX11 cX11_vote 4 (some .int) 52) (n : Nat) (S : PS) (t0 : Int32)   {o : Int32 × PS} (hf : jX11_vote_51 X.2.1 n S t0 = some o) (hR : Rt C X cX11_vote (some .int) (some (.int o.1)) o.2) : UW C X S 51 [] [.int t0] := by
  unfold jX11_vote_51 at hf
  cases hf
  exact hR _ _ dX11_vote_51 trivial
theorem wX11_vote {C : CT} {X : XT} (hC : CK C RX11 cX11_vote 4 (some .int) 52) (n : Nat) (S : PS) (a0 : Nat) (x1_ : Int32) (x2_ : Int32) (x3_ : Int32) (hTa0 : Ty X.2.1 a0 11) {o : Int32 × PS} (hf : fX11_vote X.2.1 n S a0 x1_ x2_ x3_ = some o) (hR : Rt C X cX11_vote (some .int) (some (.int o.1)) o.2) : UW C X S 0 [(0, .ref (X.1 a0)), (1, .int x1_), (2, .int x2_), (3, .int x3_)] [] := by
  unfold fX11_vote at hf
  refine u_aload_n hC dX11_vote_0 0 rfl rfl ?_
  refine u_iconst (v := (0 : Int32)) hC dX11_vote_1 (by decide) ?_
  refine u_pi hC lf_X11_70 rfl rfl rfl hTa0 dX11_vote_2 hf (fun S2 hf => ?_)
  refine u_aload_n hC dX11_vote_5 0 rfl rfl ?_
  refine u_iload_n hC dX11_vote_6 1 rfl rfl ?_
  obtain ⟨q7, hq7, hf⟩ := kc_some hf
  refine u_callV hC (ctX11_isVoter (cL C) hC.tr (cG C) X.1 X.2.1 n S2 a0 x1_ hTa0 hq7) lk_X11_258 rfl hTa0 (by decide) rfl (by decide) (by decide) rfl rfl (Nat.le_of_ble_eq_true rfl) dX11_vote_7 ?_
  refine u_if_eq (tgt := 21) hC dX11_vote_10 (by decide) hf (fun h10 hf => ?_) (fun h10 hf => ?_)
  · refine u_sub (lv' := [(0, .ref (X.1 a0))]) [0] rfl ?_
    exact wjX11_vote_21 hC n S2 a0  hTa0 hf hR
  · refine u_aload_n hC dX11_vote_13 0 rfl rfl ?_
    refine u_iload_n hC dX11_vote_14 2 rfl rfl ?_
    obtain ⟨q15, hq15, hf⟩ := kc_some hf
    refine u_callV hC (ctX11_isProject (cL C) hC.tr (cG C) X.1 X.2.1 n S2 a0 x2_ hTa0 hq15) lk_X11_255 rfl hTa0 (by decide) rfl (by decide) (by decide) rfl rfl (Nat.le_of_ble_eq_true rfl) dX11_vote_15 ?_
    refine u_if_ne (tgt := 27) hC dX11_vote_18 (by decide) hf (fun h18 hf => ?_) (fun h18 hf => ?_)
    · refine u_iload_n hC dX11_vote_27 3 rfl rfl ?_
      refine u_if_eq (tgt := 45) hC dX11_vote_28 (by decide) hf (fun h28 hf => ?_) (fun h28 hf => ?_)
      · refine u_aload_n hC dX11_vote_45 0 rfl rfl ?_
        refine u_iload_n hC dX11_vote_46 1 rfl rfl ?_
        refine u_iload_n hC dX11_vote_47 2 rfl rfl ?_
        obtain ⟨q48, hq48, hf⟩ := kc_some hf
        refine u_callV hC (ctX11_scoreOf (cL C) hC.tr (cG C) X.1 X.2.1 n S2 a0 x1_ x2_ hTa0 hq48) lk_X11_88 rfl hTa0 (by decide) rfl (by decide) (by decide) rfl rfl (Nat.le_of_ble_eq_true rfl) dX11_vote_48 ?_
        refine u_sub (lv' := []) [] rfl ?_
        exact wjX11_vote_51 hC n S2 q48   hf hR
      · refine u_aload_n hC dX11_vote_31 0 rfl rfl ?_
        refine u_iload_n hC dX11_vote_32 1 rfl rfl ?_
        refine u_iload_n hC dX11_vote_33 2 rfl rfl ?_
        refine u_aload_n hC dX11_vote_34 0 rfl rfl ?_
        refine u_iload_n hC dX11_vote_35 2 rfl rfl ?_
        obtain ⟨q36, hq36, hf⟩ := kc_some hf
        refine u_callV hC (ctX11_likedOf (cL C) hC.tr (cG C) X.1 X.2.1 n S2 a0 x2_ hTa0 hq36) lk_X11_140 rfl hTa0 (by decide) rfl (by decide) (by decide) rfl rfl (Nat.le_of_ble_eq_true rfl) dX11_vote_36 ?_
        obtain ⟨q39, hq39, hf⟩ := kc_some hf
        refine u_callV hC (ctX11_worthOf (cL C) hC.tr (cG C) X.1 X.2.1 n S2 a0 x1_ x2_ q36 hTa0 hq39) lk_X11_143 rfl hTa0 (by decide) rfl (by decide) (by decide) rfl rfl (Nat.le_of_ble_eq_true rfl) dX11_vote_39 ?_
        refine u_goto (tgt := 51) hC dX11_vote_42 (by decide) ?_
        refine u_sub (lv' := []) [] rfl ?_
        exact wjX11_vote_51 hC n q39.2 q39.1   hf hR
    · refine u_sub (lv' := [(0, .ref (X.1 a0))]) [0] rfl ?_
      exact wjX11_vote_21 hC n S2 a0  hTa0 hf hR
theorem ctX11_vote (l : Launch) (hl : l.stackTraces = false) (G : GT) (ρ : Nat → Nat) (Y : XS) (n : Nat) (S : PS) (a0 : Nat) (x1_ : Int32) (x2_ : Int32) (x3_ : Int32) (hTa0 : Ty Y a0 11) {o : Int32 × PS} (hf : fX11_vote Y n S a0 x1_ x2_ x3_ = some o) : Mt l G yX11_vote cX11_vote 4 (some .int) 52 ρ Y [.ref (ρ a0), .int x1_, .int x2_, .int x3_] S (some (.int o.1)) o.2 :=
  Mt_of hl (by decide) (Nat.le_of_ble_eq_true rfl) (fun C _ _ hC hR => wX11_vote (X := (ρ, Y, 0, 0)) hC n S a0 x1_ x2_ x3_ hTa0 hf hR)
-- X11_unserved
theorem dX11_unserved_0 : decode cX11_unserved 0 = .ok (.iconst 0, 1) := by decide +kernel
theorem dX11_unserved_1 : decode cX11_unserved 1 = .ok (.istore_n 1, 1) := by decide +kernel
theorem dX11_unserved_2 : decode cX11_unserved 2 = .ok (.iconst 0, 1) := by decide +kernel
theorem dX11_unserved_3 : decode cX11_unserved 3 = .ok (.istore_n 2, 1) := by decide +kernel
theorem dX11_unserved_4 : decode cX11_unserved 4 = .ok (.iload_n 2, 1) := by decide +kernel
theorem dX11_unserved_5 : decode cX11_unserved 5 = .ok (.aload_n 0, 1) := by decide +kernel
theorem dX11_unserved_6 : decode cX11_unserved 6 = .ok (.invokevirtual 85, 3) := by decide +kernel
theorem dX11_unserved_9 : decode cX11_unserved 9 = .ok (.if_icmp .ge 29, 3) := by decide +kernel
theorem dX11_unserved_12 : decode cX11_unserved 12 = .ok (.iload_n 1, 1) := by decide +kernel
theorem dX11_unserved_13 : decode cX11_unserved 13 = .ok (.aload_n 0, 1) := by decide +kernel
theorem dX11_unserved_14 : decode cX11_unserved 14 = .ok (.iload_n 2, 1) := by decide +kernel
theorem dX11_unserved_15 : decode cX11_unserved 15 = .ok (.aload_n 0, 1) := by decide +kernel
theorem dX11_unserved_16 : decode cX11_unserved 16 = .ok (.getfield 154, 3) := by decide +kernel
theorem dX11_unserved_19 : decode cX11_unserved 19 = .ok (.invokevirtual 151, 3) := by decide +kernel
theorem dX11_unserved_22 : decode cX11_unserved 22 = .ok (.ifCond .ne 7, 3) := by decide +kernel
theorem dX11_unserved_25 : decode cX11_unserved 25 = .ok (.iconst 1, 1) := by decide +kernel
theorem dX11_unserved_26 : decode cX11_unserved 26 = .ok (.goto 4, 3) := by decide +kernel
theorem dX11_unserved_29 : decode cX11_unserved 29 = .ok (.iconst 0, 1) := by decide +kernel
theorem dX11_unserved_30 : decode cX11_unserved 30 = .ok (.iadd, 1) := by decide +kernel
theorem dX11_unserved_31 : decode cX11_unserved 31 = .ok (.istore_n 1, 1) := by decide +kernel
theorem dX11_unserved_32 : decode cX11_unserved 32 = .ok (.iinc 2 1, 3) := by decide +kernel
theorem dX11_unserved_35 : decode cX11_unserved 35 = .ok (.goto (-31), 3) := by decide +kernel
theorem dX11_unserved_38 : decode cX11_unserved 38 = .ok (.iload_n 1, 1) := by decide +kernel
theorem dX11_unserved_39 : decode cX11_unserved 39 = .ok (.ireturn, 1) := by decide +kernel
def jX11_unserved_30_4 (Y : XS) (n : Nat) (S : PS) (v0 : Nat) (v2 : Int32) (t0 : Int32) (t1 : Int32) : Option ((Int32 × Int32) ⊕ Int32) :=
  some (.inl (t1 + t0, v2 + (1 : Int32)))
def bX11_unserved_4 (Y : XS) (n : Nat) (S : PS) (v0 : Nat) (s4 : (Int32 × Int32)) : Option ((Int32 × Int32) ⊕ Int32) :=
  kc (fX11_people Y n S v0) (fun q6 => (if q6 ≤ s4.2 then some (.inr s4.1) else kgi S v0 21 (fun x16 => kc (fX11_worthTo Y n S v0 s4.2 x16) (fun q19 => (if q19 = 0 then jX11_unserved_30_4 Y n S v0 s4.2 (1 : Int32) s4.1 else jX11_unserved_30_4 Y n S v0 s4.2 (0 : Int32) s4.1)))))
def fX11_unserved (Y : XS) (n : Nat) (S : PS) (a0 : Nat) : Option (Int32) :=
  kc (iter (bX11_unserved_4 Y n S a0) n ((0 : Int32), (0 : Int32))) (fun r4 => some r4)
theorem wjX11_unserved_30_4 {C : CT} {X : XT} (hC : CK C RX11 cX11_unserved 3 (some .int) 3) (n : Nat) (S : PS) (v0 : Nat) (v2 : Int32) (t0 : Int32) (t1 : Int32)  (hTv0 : Ty X.2.1 v0 11) {o : (Int32 × Int32) ⊕ Int32} (hf : jX11_unserved_30_4 X.2.1 n S v0 v2 t0 t1 = some o) (hN : ∀ s', o = .inl s' → UW C X S 4 [(0, .ref (X.1 v0)), (1, .int s'.1), (2, .int s'.2)] []) (hO0 : ∀ p', o = .inr p' → UW C X S 38 [(1, .int p')] []) : UW C X S 30 [(0, .ref (X.1 v0)), (2, .int v2)] [.int t0, .int t1] := by
  unfold jX11_unserved_30_4 at hf
  refine u_iadd hC dX11_unserved_30 ?_
  refine u_istore_n (lv' := [(1, .int (t1 + t0)), (0, .ref (X.1 v0)), (2, .int v2)]) hC dX11_unserved_31 rfl (by decide) rfl ?_
  refine u_iinc (v := v2 + (1 : Int32)) (lv' := [(2, .int (v2 + (1 : Int32))), (1, .int (t1 + t0)), (0, .ref (X.1 v0))]) hC dX11_unserved_32 2 rfl rfl (by decide) rfl ?_
  refine u_goto (tgt := 4) hC dX11_unserved_35 (by decide) ?_
  refine u_sub (lv' := [(0, .ref (X.1 v0)), (1, .int (t1 + t0)), (2, .int (v2 + (1 : Int32)))]) [2, 1, 0] rfl ?_
  exact hN _ (Option.some.inj hf).symm
theorem wbX11_unserved_4 {C : CT} {X : XT} (hC : CK C RX11 cX11_unserved 3 (some .int) 3) (n : Nat) (S : PS) (v0 : Nat) (hTv0 : Ty X.2.1 v0 11) (s4 : (Int32 × Int32)) {o : (Int32 × Int32) ⊕ Int32} (hf : bX11_unserved_4 X.2.1 n S v0 s4 = some o) (hN : ∀ s', o = .inl s' → UW C X S 4 [(0, .ref (X.1 v0)), (1, .int s'.1), (2, .int s'.2)] []) (hO0 : ∀ p', o = .inr p' → UW C X S 38 [(1, .int p')] []) : UW C X S 4 [(0, .ref (X.1 v0)), (1, .int s4.1), (2, .int s4.2)] [] := by
  unfold bX11_unserved_4 at hf
  refine u_iload_n hC dX11_unserved_4 2 rfl rfl ?_
  refine u_aload_n hC dX11_unserved_5 0 rfl rfl ?_
  obtain ⟨q6, hq6, hf⟩ := kc_some hf
  refine u_callV hC (ctX11_people (cL C) hC.tr (cG C) X.1 X.2.1 n S v0 hTv0 hq6) lk_X11_85 rfl hTv0 (by decide) rfl (by decide) (by decide) rfl rfl (Nat.le_of_ble_eq_true rfl) dX11_unserved_6 ?_
  refine u_icmp_ge (tgt := 38) hC dX11_unserved_9 (by decide) hf (fun h9 hf => ?_) (fun h9 hf => ?_)
  · refine u_sub (lv' := [(1, .int s4.1)]) [1] rfl ?_
    exact hO0 _ (Option.some.inj hf).symm
  · refine u_iload_n hC dX11_unserved_12 1 rfl rfl ?_
    refine u_aload_n hC dX11_unserved_13 0 rfl rfl ?_
    refine u_iload_n hC dX11_unserved_14 2 rfl rfl ?_
    refine u_aload_n hC dX11_unserved_15 0 rfl rfl ?_
    refine u_gi hC lf_X11_154 rfl hTv0 dX11_unserved_16 hf (fun x16 hf => ?_)
    obtain ⟨q19, hq19, hf⟩ := kc_some hf
    refine u_callV hC (ctX11_worthTo (cL C) hC.tr (cG C) X.1 X.2.1 n S v0 s4.2 x16 hTv0 hq19) lk_X11_151 rfl hTv0 (by decide) rfl (by decide) (by decide) rfl rfl (Nat.le_of_ble_eq_true rfl) dX11_unserved_19 ?_
    refine u_if_ne (tgt := 29) hC dX11_unserved_22 (by decide) hf (fun h22 hf => ?_) (fun h22 hf => ?_)
    · refine u_iconst (v := (0 : Int32)) hC dX11_unserved_29 (by decide) ?_
      refine u_sub (lv' := [(0, .ref (X.1 v0)), (2, .int s4.2)]) [0, 2] rfl ?_
      exact wjX11_unserved_30_4 hC n S v0 s4.2 (0 : Int32) s4.1  hTv0 hf hN hO0
    · refine u_iconst (v := (1 : Int32)) hC dX11_unserved_25 (by decide) ?_
      refine u_goto (tgt := 30) hC dX11_unserved_26 (by decide) ?_
      refine u_sub (lv' := [(0, .ref (X.1 v0)), (2, .int s4.2)]) [0, 2] rfl ?_
      exact wjX11_unserved_30_4 hC n S v0 s4.2 (1 : Int32) s4.1  hTv0 hf hN hO0
theorem wX11_unserved {C : CT} {X : XT} (hC : CK C RX11 cX11_unserved 3 (some .int) 3) (n : Nat) (S : PS) (a0 : Nat) (hTa0 : Ty X.2.1 a0 11) {o : Int32} (hf : fX11_unserved X.2.1 n S a0 = some o) (hR : Rt C X cX11_unserved (some .int) (some (.int o)) S) : UW C X S 0 [(0, .ref (X.1 a0))] [] := by
  unfold fX11_unserved at hf
  refine u_iconst (v := (0 : Int32)) hC dX11_unserved_0 (by decide) ?_
  refine u_istore_n (lv' := [(1, .int (0 : Int32)), (0, .ref (X.1 a0))]) hC dX11_unserved_1 rfl (by decide) rfl ?_
  refine u_iconst (v := (0 : Int32)) hC dX11_unserved_2 (by decide) ?_
  refine u_istore_n (lv' := [(2, .int (0 : Int32)), (1, .int (0 : Int32)), (0, .ref (X.1 a0))]) hC dX11_unserved_3 rfl (by decide) rfl ?_
  obtain ⟨r4, hr4, hf⟩ := kc_some hf
  have hk4 : UW C X S 38 [(1, .int r4)] [] := by
    refine u_iload_n hC dX11_unserved_38 0 rfl rfl ?_
    cases hf
    exact hR _ _ dX11_unserved_39 trivial
  refine u_sub (lv' := [(0, .ref (X.1 a0)), (1, .int (0 : Int32)), (2, .int (0 : Int32))]) [2, 1, 0] rfl ?_
  refine iter_ind (P := fun s4 => UW C X S 4 [(0, .ref (X.1 a0)), (1, .int s4.1), (2, .int s4.2)] []) (fun s4 o' hb hin hout => ?_) n ((0 : Int32), (0 : Int32)) hr4
  exact wbX11_unserved_4 hC n S a0 hTa0 s4 hb hin (fun p e => by rw [hout p e]; exact hk4)
theorem ctX11_unserved (l : Launch) (hl : l.stackTraces = false) (G : GT) (ρ : Nat → Nat) (Y : XS) (n : Nat) (S : PS) (a0 : Nat) (hTa0 : Ty Y a0 11) {o : Int32} (hf : fX11_unserved Y n S a0 = some o) : Mt l G yX11_unserved cX11_unserved 3 (some .int) 3 ρ Y [.ref (ρ a0)] S (some (.int o)) S :=
  Mt_of hl (by decide) (Nat.le_of_ble_eq_true rfl) (fun C _ _ hC hR => wX11_unserved (X := (ρ, Y, 0, 0)) hC n S a0 hTa0 hf hR)
-- X11_outcome
theorem dX11_outcome_0 : decode cX11_outcome 0 = .ok (.aload_n 0, 1) := by decide +kernel
theorem dX11_outcome_1 : decode cX11_outcome 1 = .ok (.iconst 0, 1) := by decide +kernel
theorem dX11_outcome_2 : decode cX11_outcome 2 = .ok (.putfield 70, 3) := by decide +kernel
theorem dX11_outcome_5 : decode cX11_outcome 5 = .ok (.iload_n 1, 1) := by decide +kernel
theorem dX11_outcome_6 : decode cX11_outcome 6 = .ok (.invokestatic 261, 3) := by decide +kernel
theorem dX11_outcome_9 : decode cX11_outcome 9 = .ok (.ifCond .eq 13, 3) := by decide +kernel
theorem dX11_outcome_12 : decode cX11_outcome 12 = .ok (.iload_n 2, 1) := by decide +kernel
theorem dX11_outcome_13 : decode cX11_outcome 13 = .ok (.iconst 0, 1) := by decide +kernel
theorem dX11_outcome_14 : decode cX11_outcome 14 = .ok (.bipush 6, 2) := by decide +kernel
theorem dX11_outcome_16 : decode cX11_outcome 16 = .ok (.invokestatic 81, 3) := by decide +kernel
theorem dX11_outcome_19 : decode cX11_outcome 19 = .ok (.ifCond .ne 9, 3) := by decide +kernel
theorem dX11_outcome_22 : decode cX11_outcome 22 = .ok (.aload_n 0, 1) := by decide +kernel
theorem dX11_outcome_23 : decode cX11_outcome 23 = .ok (.iconst 1, 1) := by decide +kernel
theorem dX11_outcome_24 : decode cX11_outcome 24 = .ok (.invokevirtual 252, 3) := by decide +kernel
theorem dX11_outcome_27 : decode cX11_outcome 27 = .ok (.ireturn, 1) := by decide +kernel
theorem dX11_outcome_28 : decode cX11_outcome 28 = .ok (.aload_n 0, 1) := by decide +kernel
theorem dX11_outcome_29 : decode cX11_outcome 29 = .ok (.iload_n 1, 1) := by decide +kernel
theorem dX11_outcome_30 : decode cX11_outcome 30 = .ok (.invokevirtual 264, 3) := by decide +kernel
theorem dX11_outcome_33 : decode cX11_outcome 33 = .ok (.iload_n 2, 1) := by decide +kernel
theorem dX11_outcome_34 : decode cX11_outcome 34 = .ok (.tableswitch 80 0 5 #[38, 43, 48, 57, 66, 75], 38) := by decide +kernel
theorem dX11_outcome_72 : decode cX11_outcome 72 = .ok (.aload_n 0, 1) := by decide +kernel
theorem dX11_outcome_73 : decode cX11_outcome 73 = .ok (.getfield 154, 3) := by decide +kernel
theorem dX11_outcome_76 : decode cX11_outcome 76 = .ok (.ireturn, 1) := by decide +kernel
theorem dX11_outcome_77 : decode cX11_outcome 77 = .ok (.aload_n 0, 1) := by decide +kernel
theorem dX11_outcome_78 : decode cX11_outcome 78 = .ok (.getfield 157, 3) := by decide +kernel
theorem dX11_outcome_81 : decode cX11_outcome 81 = .ok (.ireturn, 1) := by decide +kernel
theorem dX11_outcome_82 : decode cX11_outcome 82 = .ok (.aload_n 0, 1) := by decide +kernel
theorem dX11_outcome_83 : decode cX11_outcome 83 = .ok (.aload_n 0, 1) := by decide +kernel
theorem dX11_outcome_84 : decode cX11_outcome 84 = .ok (.getfield 154, 3) := by decide +kernel
theorem dX11_outcome_87 : decode cX11_outcome 87 = .ok (.invokevirtual 196, 3) := by decide +kernel
theorem dX11_outcome_90 : decode cX11_outcome 90 = .ok (.ireturn, 1) := by decide +kernel
theorem dX11_outcome_91 : decode cX11_outcome 91 = .ok (.aload_n 0, 1) := by decide +kernel
theorem dX11_outcome_92 : decode cX11_outcome 92 = .ok (.aload_n 0, 1) := by decide +kernel
theorem dX11_outcome_93 : decode cX11_outcome 93 = .ok (.getfield 154, 3) := by decide +kernel
theorem dX11_outcome_96 : decode cX11_outcome 96 = .ok (.invokevirtual 210, 3) := by decide +kernel
theorem dX11_outcome_99 : decode cX11_outcome 99 = .ok (.ireturn, 1) := by decide +kernel
theorem dX11_outcome_100 : decode cX11_outcome 100 = .ok (.aload_n 0, 1) := by decide +kernel
theorem dX11_outcome_101 : decode cX11_outcome 101 = .ok (.aload_n 0, 1) := by decide +kernel
theorem dX11_outcome_102 : decode cX11_outcome 102 = .ok (.getfield 154, 3) := by decide +kernel
theorem dX11_outcome_105 : decode cX11_outcome 105 = .ok (.invokevirtual 216, 3) := by decide +kernel
theorem dX11_outcome_108 : decode cX11_outcome 108 = .ok (.ireturn, 1) := by decide +kernel
theorem dX11_outcome_109 : decode cX11_outcome 109 = .ok (.aload_n 0, 1) := by decide +kernel
theorem dX11_outcome_110 : decode cX11_outcome 110 = .ok (.invokevirtual 267, 3) := by decide +kernel
theorem dX11_outcome_113 : decode cX11_outcome 113 = .ok (.ireturn, 1) := by decide +kernel
theorem dX11_outcome_114 : decode cX11_outcome 114 = .ok (.aload_n 0, 1) := by decide +kernel
theorem dX11_outcome_115 : decode cX11_outcome 115 = .ok (.getfield 190, 3) := by decide +kernel
theorem dX11_outcome_118 : decode cX11_outcome 118 = .ok (.ireturn, 1) := by decide +kernel
def jX11_outcome_22 (Y : XS) (n : Nat) (S : PS) (v0 : Nat) : Option (Int32 × PS) :=
  kc (fX11_fail Y n S v0 (1 : Int32)) (fun q24 => some (q24.1, q24.2))
def fX11_outcome (Y : XS) (n : Nat) (S : PS) (a0 : Nat) (x1_ : Int32) (x2_ : Int32) : Option (Int32 × PS) :=
  kpi S a0 7 (0 : Int32) (fun S2 => kc (fX11_isRule Y n S2 x1_) (fun q6 => (if q6 = 0 then jX11_outcome_22 Y n S2 a0 else kc (fX11_isIn Y n S2 x2_ (0 : Int32) (6 : Int32)) (fun q16 => (if q16 = 0 then jX11_outcome_22 Y n S2 a0 else kc (fX11_goes Y n S2 a0 x1_) (fun q30 => (if x2_ = (0 : Int32) then kgi q30 a0 21 (fun x73 => some (x73, q30)) else (if x2_ = (1 : Int32) then kgi q30 a0 22 (fun x78 => some (x78, q30)) else (if x2_ = (2 : Int32) then kgi q30 a0 21 (fun x84 => kc (fX11_costsOf Y n q30 a0 x84) (fun q87 => some (q87, q30))) else (if x2_ = (3 : Int32) then kgi q30 a0 21 (fun x93 => kc (fX11_worthToAll Y n q30 a0 x93) (fun q96 => some (q96, q30))) else (if x2_ = (4 : Int32) then kgi q30 a0 21 (fun x102 => kc (fX11_leastWorth Y n q30 a0 x102) (fun q105 => some (q105, q30))) else (if x2_ = (5 : Int32) then kc (fX11_unserved Y n q30 a0) (fun q110 => some (q110, q30)) else kgi q30 a0 23 (fun x115 => some (x115, q30))))))))))))))
theorem wjX11_outcome_22 {C : CT} {X : XT} (hC : CK C RX11 cX11_outcome 3 (some .int) 54) (n : Nat) (S : PS) (v0 : Nat)  (hTv0 : Ty X.2.1 v0 11) {o : Int32 × PS} (hf : jX11_outcome_22 X.2.1 n S v0 = some o) (hR : Rt C X cX11_outcome (some .int) (some (.int o.1)) o.2) : UW C X S 22 [(0, .ref (X.1 v0))] [] := by
  unfold jX11_outcome_22 at hf
  refine u_aload_n hC dX11_outcome_22 0 rfl rfl ?_
  refine u_iconst (v := (1 : Int32)) hC dX11_outcome_23 (by decide) ?_
  obtain ⟨q24, hq24, hf⟩ := kc_some hf
  refine u_callV hC (ctX11_fail (cL C) hC.tr (cG C) X.1 X.2.1 n S v0 (1 : Int32) hTv0 hq24) lk_X11_252 rfl hTv0 (by decide) rfl (by decide) (by decide) rfl rfl (Nat.le_of_ble_eq_true rfl) dX11_outcome_24 ?_
  cases hf
  exact hR _ _ dX11_outcome_27 trivial
theorem wX11_outcome {C : CT} {X : XT} (hC : CK C RX11 cX11_outcome 3 (some .int) 54) (n : Nat) (S : PS) (a0 : Nat) (x1_ : Int32) (x2_ : Int32) (hTa0 : Ty X.2.1 a0 11) {o : Int32 × PS} (hf : fX11_outcome X.2.1 n S a0 x1_ x2_ = some o) (hR : Rt C X cX11_outcome (some .int) (some (.int o.1)) o.2) : UW C X S 0 [(0, .ref (X.1 a0)), (1, .int x1_), (2, .int x2_)] [] := by
  unfold fX11_outcome at hf
  refine u_aload_n hC dX11_outcome_0 0 rfl rfl ?_
  refine u_iconst (v := (0 : Int32)) hC dX11_outcome_1 (by decide) ?_
  refine u_pi hC lf_X11_70 rfl rfl rfl hTa0 dX11_outcome_2 hf (fun S2 hf => ?_)
  refine u_iload_n hC dX11_outcome_5 1 rfl rfl ?_
  obtain ⟨q6, hq6, hf⟩ := kc_some hf
  refine u_callS hC (ctX11_isRule (cL C) hC.tr (cG C) X.1 X.2.1 n S2 x1_  hq6) lk_X11_261 (by decide) (by decide) rfl rfl (Nat.le_of_ble_eq_true rfl) dX11_outcome_6 ?_
  refine u_if_eq (tgt := 22) hC dX11_outcome_9 (by decide) hf (fun h9 hf => ?_) (fun h9 hf => ?_)
  · refine u_sub (lv' := [(0, .ref (X.1 a0))]) [0] rfl ?_
    exact wjX11_outcome_22 hC n S2 a0  hTa0 hf hR
  · refine u_iload_n hC dX11_outcome_12 2 rfl rfl ?_
    refine u_iconst (v := (0 : Int32)) hC dX11_outcome_13 (by decide) ?_
    refine u_bipush (v := (6 : Int32)) hC dX11_outcome_14 (by decide) ?_
    obtain ⟨q16, hq16, hf⟩ := kc_some hf
    refine u_callS hC (ctX11_isIn (cL C) hC.tr (cG C) X.1 X.2.1 n S2 x2_ (0 : Int32) (6 : Int32)  hq16) lk_X11_81 (by decide) (by decide) rfl rfl (Nat.le_of_ble_eq_true rfl) dX11_outcome_16 ?_
    refine u_if_ne (tgt := 28) hC dX11_outcome_19 (by decide) hf (fun h19 hf => ?_) (fun h19 hf => ?_)
    · refine u_aload_n hC dX11_outcome_28 0 rfl rfl ?_
      refine u_iload_n hC dX11_outcome_29 1 rfl rfl ?_
      obtain ⟨q30, hq30, hf⟩ := kc_some hf
      refine u_callV hC (ctX11_goes (cL C) hC.tr (cG C) X.1 X.2.1 n S2 a0 x1_ hTa0 hq30) lk_X11_264 rfl hTa0 (by decide) rfl (by decide) (by decide) rfl rfl (Nat.le_of_ble_eq_true rfl) dX11_outcome_30 ?_
      refine u_iload_n hC dX11_outcome_33 2 rfl rfl ?_
      by_cases hs34_0 : x2_ = (0 : Int32)
      · rw [if_pos hs34_0] at hf
        refine u_tin (tgt := 72) hC dX11_outcome_34 (by rw [hs34_0]; decide) (by rw [hs34_0]; decide) (by rw [hs34_0]; rfl) (by decide) ?_
        refine u_aload_n hC dX11_outcome_72 0 rfl rfl ?_
        refine u_gi hC lf_X11_154 rfl hTa0 dX11_outcome_73 hf (fun x73 hf => ?_)
        cases hf
        exact hR _ _ dX11_outcome_76 trivial
      rw [if_neg hs34_0] at hf
      by_cases hs34_1 : x2_ = (1 : Int32)
      · rw [if_pos hs34_1] at hf
        refine u_tin (tgt := 77) hC dX11_outcome_34 (by rw [hs34_1]; decide) (by rw [hs34_1]; decide) (by rw [hs34_1]; rfl) (by decide) ?_
        refine u_aload_n hC dX11_outcome_77 0 rfl rfl ?_
        refine u_gi hC lf_X11_157 rfl hTa0 dX11_outcome_78 hf (fun x78 hf => ?_)
        cases hf
        exact hR _ _ dX11_outcome_81 trivial
      rw [if_neg hs34_1] at hf
      by_cases hs34_2 : x2_ = (2 : Int32)
      · rw [if_pos hs34_2] at hf
        refine u_tin (tgt := 82) hC dX11_outcome_34 (by rw [hs34_2]; decide) (by rw [hs34_2]; decide) (by rw [hs34_2]; rfl) (by decide) ?_
        refine u_aload_n hC dX11_outcome_82 0 rfl rfl ?_
        refine u_aload_n hC dX11_outcome_83 0 rfl rfl ?_
        refine u_gi hC lf_X11_154 rfl hTa0 dX11_outcome_84 hf (fun x84 hf => ?_)
        obtain ⟨q87, hq87, hf⟩ := kc_some hf
        refine u_callV hC (ctX11_costsOf (cL C) hC.tr (cG C) X.1 X.2.1 n q30 a0 x84 hTa0 hq87) lk_X11_196 rfl hTa0 (by decide) rfl (by decide) (by decide) rfl rfl (Nat.le_of_ble_eq_true rfl) dX11_outcome_87 ?_
        cases hf
        exact hR _ _ dX11_outcome_90 trivial
      rw [if_neg hs34_2] at hf
      by_cases hs34_3 : x2_ = (3 : Int32)
      · rw [if_pos hs34_3] at hf
        refine u_tin (tgt := 91) hC dX11_outcome_34 (by rw [hs34_3]; decide) (by rw [hs34_3]; decide) (by rw [hs34_3]; rfl) (by decide) ?_
        refine u_aload_n hC dX11_outcome_91 0 rfl rfl ?_
        refine u_aload_n hC dX11_outcome_92 0 rfl rfl ?_
        refine u_gi hC lf_X11_154 rfl hTa0 dX11_outcome_93 hf (fun x93 hf => ?_)
        obtain ⟨q96, hq96, hf⟩ := kc_some hf
        refine u_callV hC (ctX11_worthToAll (cL C) hC.tr (cG C) X.1 X.2.1 n q30 a0 x93 hTa0 hq96) lk_X11_210 rfl hTa0 (by decide) rfl (by decide) (by decide) rfl rfl (Nat.le_of_ble_eq_true rfl) dX11_outcome_96 ?_
        cases hf
        exact hR _ _ dX11_outcome_99 trivial
      rw [if_neg hs34_3] at hf
      by_cases hs34_4 : x2_ = (4 : Int32)
      · rw [if_pos hs34_4] at hf
        refine u_tin (tgt := 100) hC dX11_outcome_34 (by rw [hs34_4]; decide) (by rw [hs34_4]; decide) (by rw [hs34_4]; rfl) (by decide) ?_
        refine u_aload_n hC dX11_outcome_100 0 rfl rfl ?_
        refine u_aload_n hC dX11_outcome_101 0 rfl rfl ?_
        refine u_gi hC lf_X11_154 rfl hTa0 dX11_outcome_102 hf (fun x102 hf => ?_)
        obtain ⟨q105, hq105, hf⟩ := kc_some hf
        refine u_callV hC (ctX11_leastWorth (cL C) hC.tr (cG C) X.1 X.2.1 n q30 a0 x102 hTa0 hq105) lk_X11_216 rfl hTa0 (by decide) rfl (by decide) (by decide) rfl rfl (Nat.le_of_ble_eq_true rfl) dX11_outcome_105 ?_
        cases hf
        exact hR _ _ dX11_outcome_108 trivial
      rw [if_neg hs34_4] at hf
      by_cases hs34_5 : x2_ = (5 : Int32)
      · rw [if_pos hs34_5] at hf
        refine u_tin (tgt := 109) hC dX11_outcome_34 (by rw [hs34_5]; decide) (by rw [hs34_5]; decide) (by rw [hs34_5]; rfl) (by decide) ?_
        refine u_aload_n hC dX11_outcome_109 0 rfl rfl ?_
        obtain ⟨q110, hq110, hf⟩ := kc_some hf
        refine u_callV hC (ctX11_unserved (cL C) hC.tr (cG C) X.1 X.2.1 n q30 a0 hTa0 hq110) lk_X11_267 rfl hTa0 (by decide) rfl (by decide) (by decide) rfl rfl (Nat.le_of_ble_eq_true rfl) dX11_outcome_110 ?_
        cases hf
        exact hR _ _ dX11_outcome_113 trivial
      rw [if_neg hs34_5] at hf
      have hz34_0 := lv_neT (a := 0) hs34_0 (by decide)
      have hz34_1 := lv_neT (a := 1) hs34_1 (by decide)
      have hz34_2 := lv_neT (a := 2) hs34_2 (by decide)
      have hz34_3 := lv_neT (a := 3) hs34_3 (by decide)
      have hz34_4 := lv_neT (a := 4) hs34_4 (by decide)
      have hz34_5 := lv_neT (a := 5) hs34_5 (by decide)
      refine u_tout (tgt := 114) hC dX11_outcome_34 (by omega) (by decide) ?_
      refine u_aload_n hC dX11_outcome_114 0 rfl rfl ?_
      refine u_gi hC lf_X11_190 rfl hTa0 dX11_outcome_115 hf (fun x115 hf => ?_)
      cases hf
      exact hR _ _ dX11_outcome_118 trivial
    · refine u_sub (lv' := [(0, .ref (X.1 a0))]) [0] rfl ?_
      exact wjX11_outcome_22 hC n S2 a0  hTa0 hf hR
theorem ctX11_outcome (l : Launch) (hl : l.stackTraces = false) (G : GT) (ρ : Nat → Nat) (Y : XS) (n : Nat) (S : PS) (a0 : Nat) (x1_ : Int32) (x2_ : Int32) (hTa0 : Ty Y a0 11) {o : Int32 × PS} (hf : fX11_outcome Y n S a0 x1_ x2_ = some o) : Mt l G yX11_outcome cX11_outcome 3 (some .int) 54 ρ Y [.ref (ρ a0), .int x1_, .int x2_] S (some (.int o.1)) o.2 :=
  Mt_of hl (by decide) (Nat.le_of_ble_eq_true rfl) (fun C _ _ hC hR => wX11_outcome (X := (ρ, Y, 0, 0)) hC n S a0 x1_ x2_ hTa0 hf hR)
-- X11_chosen
theorem dX11_chosen_0 : decode cX11_chosen 0 = .ok (.aload_n 0, 1) := by decide +kernel
theorem dX11_chosen_1 : decode cX11_chosen 1 = .ok (.iconst 0, 1) := by decide +kernel
theorem dX11_chosen_2 : decode cX11_chosen 2 = .ok (.putfield 70, 3) := by decide +kernel
theorem dX11_chosen_5 : decode cX11_chosen 5 = .ok (.iload_n 1, 1) := by decide +kernel
theorem dX11_chosen_6 : decode cX11_chosen 6 = .ok (.invokestatic 261, 3) := by decide +kernel
theorem dX11_chosen_9 : decode cX11_chosen 9 = .ok (.ifCond .ne 9, 3) := by decide +kernel
theorem dX11_chosen_12 : decode cX11_chosen 12 = .ok (.aload_n 0, 1) := by decide +kernel
theorem dX11_chosen_13 : decode cX11_chosen 13 = .ok (.iconst 1, 1) := by decide +kernel
theorem dX11_chosen_14 : decode cX11_chosen 14 = .ok (.invokevirtual 252, 3) := by decide +kernel
theorem dX11_chosen_17 : decode cX11_chosen 17 = .ok (.ireturn, 1) := by decide +kernel
theorem dX11_chosen_18 : decode cX11_chosen 18 = .ok (.aload_n 0, 1) := by decide +kernel
theorem dX11_chosen_19 : decode cX11_chosen 19 = .ok (.iload_n 1, 1) := by decide +kernel
theorem dX11_chosen_20 : decode cX11_chosen 20 = .ok (.invokevirtual 264, 3) := by decide +kernel
theorem dX11_chosen_23 : decode cX11_chosen 23 = .ok (.iload_n 2, 1) := by decide +kernel
theorem dX11_chosen_24 : decode cX11_chosen 24 = .ok (.iconst 0, 1) := by decide +kernel
theorem dX11_chosen_25 : decode cX11_chosen 25 = .ok (.aload_n 0, 1) := by decide +kernel
theorem dX11_chosen_26 : decode cX11_chosen 26 = .ok (.getfield 157, 3) := by decide +kernel
theorem dX11_chosen_29 : decode cX11_chosen 29 = .ok (.iconst 1, 1) := by decide +kernel
theorem dX11_chosen_30 : decode cX11_chosen 30 = .ok (.isub, 1) := by decide +kernel
theorem dX11_chosen_31 : decode cX11_chosen 31 = .ok (.invokestatic 81, 3) := by decide +kernel
theorem dX11_chosen_34 : decode cX11_chosen 34 = .ok (.ifCond .eq 12, 3) := by decide +kernel
theorem dX11_chosen_37 : decode cX11_chosen 37 = .ok (.aload_n 0, 1) := by decide +kernel
theorem dX11_chosen_38 : decode cX11_chosen 38 = .ok (.getfield 34, 3) := by decide +kernel
theorem dX11_chosen_41 : decode cX11_chosen 41 = .ok (.iload_n 2, 1) := by decide +kernel
theorem dX11_chosen_42 : decode cX11_chosen 42 = .ok (.iaload, 1) := by decide +kernel
theorem dX11_chosen_43 : decode cX11_chosen 43 = .ok (.goto 8, 3) := by decide +kernel
theorem dX11_chosen_46 : decode cX11_chosen 46 = .ok (.aload_n 0, 1) := by decide +kernel
theorem dX11_chosen_47 : decode cX11_chosen 47 = .ok (.iconst 1, 1) := by decide +kernel
theorem dX11_chosen_48 : decode cX11_chosen 48 = .ok (.invokevirtual 252, 3) := by decide +kernel
theorem dX11_chosen_51 : decode cX11_chosen 51 = .ok (.ireturn, 1) := by decide +kernel
def jX11_chosen_51 (Y : XS) (n : Nat) (S : PS) (t0 : Int32) : Option (Int32 × PS) :=
  some (t0, S)
def fX11_chosen (Y : XS) (n : Nat) (S : PS) (a0 : Nat) (x1_ : Int32) (x2_ : Int32) : Option (Int32 × PS) :=
  kpi S a0 7 (0 : Int32) (fun S2 => kc (fX11_isRule Y n S2 x1_) (fun q6 => (if q6 = 0 then kc (fX11_fail Y n S2 a0 (1 : Int32)) (fun q14 => some (q14.1, q14.2)) else kc (fX11_goes Y n S2 a0 x1_) (fun q20 => kgi q20 a0 22 (fun x26 => kc (fX11_isIn Y n q20 x2_ (0 : Int32) (x26 - (1 : Int32))) (fun q31 => (if q31 = 0 then kc (fX11_fail Y n q20 a0 (1 : Int32)) (fun q48 => jX11_chosen_51 Y n q48.2 q48.1) else kgr q20 a0 15 (fun b38 => kai Y q20 b38 x2_ (fun x42 => jX11_chosen_51 Y n q20 x42)))))))))
theorem wjX11_chosen_51 {C : CT} {X : XT} (hC : CK C RX11 cX11_chosen 3 (some .int) 54) (n : Nat) (S : PS) (t0 : Int32)   {o : Int32 × PS} (hf : jX11_chosen_51 X.2.1 n S t0 = some o) (hR : Rt C X cX11_chosen (some .int) (some (.int o.1)) o.2) : UW C X S 51 [] [.int t0] := by
  unfold jX11_chosen_51 at hf
  cases hf
  exact hR _ _ dX11_chosen_51 trivial
theorem wX11_chosen {C : CT} {X : XT} (hC : CK C RX11 cX11_chosen 3 (some .int) 54) (n : Nat) (S : PS) (a0 : Nat) (x1_ : Int32) (x2_ : Int32) (hTa0 : Ty X.2.1 a0 11) {o : Int32 × PS} (hf : fX11_chosen X.2.1 n S a0 x1_ x2_ = some o) (hR : Rt C X cX11_chosen (some .int) (some (.int o.1)) o.2) : UW C X S 0 [(0, .ref (X.1 a0)), (1, .int x1_), (2, .int x2_)] [] := by
  unfold fX11_chosen at hf
  refine u_aload_n hC dX11_chosen_0 0 rfl rfl ?_
  refine u_iconst (v := (0 : Int32)) hC dX11_chosen_1 (by decide) ?_
  refine u_pi hC lf_X11_70 rfl rfl rfl hTa0 dX11_chosen_2 hf (fun S2 hf => ?_)
  refine u_iload_n hC dX11_chosen_5 1 rfl rfl ?_
  obtain ⟨q6, hq6, hf⟩ := kc_some hf
  refine u_callS hC (ctX11_isRule (cL C) hC.tr (cG C) X.1 X.2.1 n S2 x1_  hq6) lk_X11_261 (by decide) (by decide) rfl rfl (Nat.le_of_ble_eq_true rfl) dX11_chosen_6 ?_
  refine u_if_ne (tgt := 18) hC dX11_chosen_9 (by decide) hf (fun h9 hf => ?_) (fun h9 hf => ?_)
  · refine u_aload_n hC dX11_chosen_18 0 rfl rfl ?_
    refine u_iload_n hC dX11_chosen_19 1 rfl rfl ?_
    obtain ⟨q20, hq20, hf⟩ := kc_some hf
    refine u_callV hC (ctX11_goes (cL C) hC.tr (cG C) X.1 X.2.1 n S2 a0 x1_ hTa0 hq20) lk_X11_264 rfl hTa0 (by decide) rfl (by decide) (by decide) rfl rfl (Nat.le_of_ble_eq_true rfl) dX11_chosen_20 ?_
    refine u_iload_n hC dX11_chosen_23 2 rfl rfl ?_
    refine u_iconst (v := (0 : Int32)) hC dX11_chosen_24 (by decide) ?_
    refine u_aload_n hC dX11_chosen_25 0 rfl rfl ?_
    refine u_gi hC lf_X11_157 rfl hTa0 dX11_chosen_26 hf (fun x26 hf => ?_)
    refine u_iconst (v := (1 : Int32)) hC dX11_chosen_29 (by decide) ?_
    refine u_isub hC dX11_chosen_30 ?_
    obtain ⟨q31, hq31, hf⟩ := kc_some hf
    refine u_callS hC (ctX11_isIn (cL C) hC.tr (cG C) X.1 X.2.1 n q20 x2_ (0 : Int32) (x26 - (1 : Int32))  hq31) lk_X11_81 (by decide) (by decide) rfl rfl (Nat.le_of_ble_eq_true rfl) dX11_chosen_31 ?_
    refine u_if_eq (tgt := 46) hC dX11_chosen_34 (by decide) hf (fun h34 hf => ?_) (fun h34 hf => ?_)
    · refine u_aload_n hC dX11_chosen_46 0 rfl rfl ?_
      refine u_iconst (v := (1 : Int32)) hC dX11_chosen_47 (by decide) ?_
      obtain ⟨q48, hq48, hf⟩ := kc_some hf
      refine u_callV hC (ctX11_fail (cL C) hC.tr (cG C) X.1 X.2.1 n q20 a0 (1 : Int32) hTa0 hq48) lk_X11_252 rfl hTa0 (by decide) rfl (by decide) (by decide) rfl rfl (Nat.le_of_ble_eq_true rfl) dX11_chosen_48 ?_
      refine u_sub (lv' := []) [] rfl ?_
      exact wjX11_chosen_51 hC n q48.2 q48.1   hf hR
    · refine u_aload_n hC dX11_chosen_37 0 rfl rfl ?_
      refine u_gr hC lf_X11_34 rfl hTa0 dX11_chosen_38 hf (fun b38 hTb38 hf => ?_)
      refine u_iload_n hC dX11_chosen_41 2 rfl rfl ?_
      refine u_ai hC hTb38 dX11_chosen_42 hf (fun x42 hf => ?_)
      refine u_goto (tgt := 51) hC dX11_chosen_43 (by decide) ?_
      refine u_sub (lv' := []) [] rfl ?_
      exact wjX11_chosen_51 hC n q20 x42   hf hR
  · refine u_aload_n hC dX11_chosen_12 0 rfl rfl ?_
    refine u_iconst (v := (1 : Int32)) hC dX11_chosen_13 (by decide) ?_
    obtain ⟨q14, hq14, hf⟩ := kc_some hf
    refine u_callV hC (ctX11_fail (cL C) hC.tr (cG C) X.1 X.2.1 n S2 a0 (1 : Int32) hTa0 hq14) lk_X11_252 rfl hTa0 (by decide) rfl (by decide) (by decide) rfl rfl (Nat.le_of_ble_eq_true rfl) dX11_chosen_14 ?_
    cases hf
    exact hR _ _ dX11_chosen_17 trivial
theorem ctX11_chosen (l : Launch) (hl : l.stackTraces = false) (G : GT) (ρ : Nat → Nat) (Y : XS) (n : Nat) (S : PS) (a0 : Nat) (x1_ : Int32) (x2_ : Int32) (hTa0 : Ty Y a0 11) {o : Int32 × PS} (hf : fX11_chosen Y n S a0 x1_ x2_ = some o) : Mt l G yX11_chosen cX11_chosen 3 (some .int) 54 ρ Y [.ref (ρ a0), .int x1_, .int x2_] S (some (.int o.1)) o.2 :=
  Mt_of hl (by decide) (Nat.le_of_ble_eq_true rfl) (fun C _ _ hC hR => wX11_chosen (X := (ρ, Y, 0, 0)) hC n S a0 x1_ x2_ hTa0 hf hR)
-- X11_served
theorem dX11_served_0 : decode cX11_served 0 = .ok (.aload_n 0, 1) := by decide +kernel
theorem dX11_served_1 : decode cX11_served 1 = .ok (.iconst 0, 1) := by decide +kernel
theorem dX11_served_2 : decode cX11_served 2 = .ok (.putfield 70, 3) := by decide +kernel
theorem dX11_served_5 : decode cX11_served 5 = .ok (.iload_n 1, 1) := by decide +kernel
theorem dX11_served_6 : decode cX11_served 6 = .ok (.invokestatic 261, 3) := by decide +kernel
theorem dX11_served_9 : decode cX11_served 9 = .ok (.ifCond .eq 11, 3) := by decide +kernel
theorem dX11_served_12 : decode cX11_served 12 = .ok (.aload_n 0, 1) := by decide +kernel
theorem dX11_served_13 : decode cX11_served 13 = .ok (.iload_n 2, 1) := by decide +kernel
theorem dX11_served_14 : decode cX11_served 14 = .ok (.invokevirtual 258, 3) := by decide +kernel
theorem dX11_served_17 : decode cX11_served 17 = .ok (.ifCond .ne 9, 3) := by decide +kernel
theorem dX11_served_20 : decode cX11_served 20 = .ok (.aload_n 0, 1) := by decide +kernel
theorem dX11_served_21 : decode cX11_served 21 = .ok (.iconst 1, 1) := by decide +kernel
theorem dX11_served_22 : decode cX11_served 22 = .ok (.invokevirtual 252, 3) := by decide +kernel
theorem dX11_served_25 : decode cX11_served 25 = .ok (.ireturn, 1) := by decide +kernel
theorem dX11_served_26 : decode cX11_served 26 = .ok (.aload_n 0, 1) := by decide +kernel
theorem dX11_served_27 : decode cX11_served 27 = .ok (.iload_n 1, 1) := by decide +kernel
theorem dX11_served_28 : decode cX11_served 28 = .ok (.invokevirtual 264, 3) := by decide +kernel
theorem dX11_served_31 : decode cX11_served 31 = .ok (.aload_n 0, 1) := by decide +kernel
theorem dX11_served_32 : decode cX11_served 32 = .ok (.iload_n 2, 1) := by decide +kernel
theorem dX11_served_33 : decode cX11_served 33 = .ok (.aload_n 0, 1) := by decide +kernel
theorem dX11_served_34 : decode cX11_served 34 = .ok (.getfield 154, 3) := by decide +kernel
theorem dX11_served_37 : decode cX11_served 37 = .ok (.invokevirtual 151, 3) := by decide +kernel
theorem dX11_served_40 : decode cX11_served 40 = .ok (.ireturn, 1) := by decide +kernel
def jX11_served_20 (Y : XS) (n : Nat) (S : PS) (v0 : Nat) : Option (Int32 × PS) :=
  kc (fX11_fail Y n S v0 (1 : Int32)) (fun q22 => some (q22.1, q22.2))
def fX11_served (Y : XS) (n : Nat) (S : PS) (a0 : Nat) (x1_ : Int32) (x2_ : Int32) : Option (Int32 × PS) :=
  kpi S a0 7 (0 : Int32) (fun S2 => kc (fX11_isRule Y n S2 x1_) (fun q6 => (if q6 = 0 then jX11_served_20 Y n S2 a0 else kc (fX11_isVoter Y n S2 a0 x2_) (fun q14 => (if q14 = 0 then jX11_served_20 Y n S2 a0 else kc (fX11_goes Y n S2 a0 x1_) (fun q28 => kgi q28 a0 21 (fun x34 => kc (fX11_worthTo Y n q28 a0 x2_ x34) (fun q37 => some (q37, q28)))))))))
theorem wjX11_served_20 {C : CT} {X : XT} (hC : CK C RX11 cX11_served 3 (some .int) 54) (n : Nat) (S : PS) (v0 : Nat)  (hTv0 : Ty X.2.1 v0 11) {o : Int32 × PS} (hf : jX11_served_20 X.2.1 n S v0 = some o) (hR : Rt C X cX11_served (some .int) (some (.int o.1)) o.2) : UW C X S 20 [(0, .ref (X.1 v0))] [] := by
  unfold jX11_served_20 at hf
  refine u_aload_n hC dX11_served_20 0 rfl rfl ?_
  refine u_iconst (v := (1 : Int32)) hC dX11_served_21 (by decide) ?_
  obtain ⟨q22, hq22, hf⟩ := kc_some hf
  refine u_callV hC (ctX11_fail (cL C) hC.tr (cG C) X.1 X.2.1 n S v0 (1 : Int32) hTv0 hq22) lk_X11_252 rfl hTv0 (by decide) rfl (by decide) (by decide) rfl rfl (Nat.le_of_ble_eq_true rfl) dX11_served_22 ?_
  cases hf
  exact hR _ _ dX11_served_25 trivial
theorem wX11_served {C : CT} {X : XT} (hC : CK C RX11 cX11_served 3 (some .int) 54) (n : Nat) (S : PS) (a0 : Nat) (x1_ : Int32) (x2_ : Int32) (hTa0 : Ty X.2.1 a0 11) {o : Int32 × PS} (hf : fX11_served X.2.1 n S a0 x1_ x2_ = some o) (hR : Rt C X cX11_served (some .int) (some (.int o.1)) o.2) : UW C X S 0 [(0, .ref (X.1 a0)), (1, .int x1_), (2, .int x2_)] [] := by
  unfold fX11_served at hf
  refine u_aload_n hC dX11_served_0 0 rfl rfl ?_
  refine u_iconst (v := (0 : Int32)) hC dX11_served_1 (by decide) ?_
  refine u_pi hC lf_X11_70 rfl rfl rfl hTa0 dX11_served_2 hf (fun S2 hf => ?_)
  refine u_iload_n hC dX11_served_5 1 rfl rfl ?_
  obtain ⟨q6, hq6, hf⟩ := kc_some hf
  refine u_callS hC (ctX11_isRule (cL C) hC.tr (cG C) X.1 X.2.1 n S2 x1_  hq6) lk_X11_261 (by decide) (by decide) rfl rfl (Nat.le_of_ble_eq_true rfl) dX11_served_6 ?_
  refine u_if_eq (tgt := 20) hC dX11_served_9 (by decide) hf (fun h9 hf => ?_) (fun h9 hf => ?_)
  · refine u_sub (lv' := [(0, .ref (X.1 a0))]) [0] rfl ?_
    exact wjX11_served_20 hC n S2 a0  hTa0 hf hR
  · refine u_aload_n hC dX11_served_12 0 rfl rfl ?_
    refine u_iload_n hC dX11_served_13 2 rfl rfl ?_
    obtain ⟨q14, hq14, hf⟩ := kc_some hf
    refine u_callV hC (ctX11_isVoter (cL C) hC.tr (cG C) X.1 X.2.1 n S2 a0 x2_ hTa0 hq14) lk_X11_258 rfl hTa0 (by decide) rfl (by decide) (by decide) rfl rfl (Nat.le_of_ble_eq_true rfl) dX11_served_14 ?_
    refine u_if_ne (tgt := 26) hC dX11_served_17 (by decide) hf (fun h17 hf => ?_) (fun h17 hf => ?_)
    · refine u_aload_n hC dX11_served_26 0 rfl rfl ?_
      refine u_iload_n hC dX11_served_27 1 rfl rfl ?_
      obtain ⟨q28, hq28, hf⟩ := kc_some hf
      refine u_callV hC (ctX11_goes (cL C) hC.tr (cG C) X.1 X.2.1 n S2 a0 x1_ hTa0 hq28) lk_X11_264 rfl hTa0 (by decide) rfl (by decide) (by decide) rfl rfl (Nat.le_of_ble_eq_true rfl) dX11_served_28 ?_
      refine u_aload_n hC dX11_served_31 0 rfl rfl ?_
      refine u_iload_n hC dX11_served_32 2 rfl rfl ?_
      refine u_aload_n hC dX11_served_33 0 rfl rfl ?_
      refine u_gi hC lf_X11_154 rfl hTa0 dX11_served_34 hf (fun x34 hf => ?_)
      obtain ⟨q37, hq37, hf⟩ := kc_some hf
      refine u_callV hC (ctX11_worthTo (cL C) hC.tr (cG C) X.1 X.2.1 n q28 a0 x2_ x34 hTa0 hq37) lk_X11_151 rfl hTa0 (by decide) rfl (by decide) (by decide) rfl rfl (Nat.le_of_ble_eq_true rfl) dX11_served_37 ?_
      cases hf
      exact hR _ _ dX11_served_40 trivial
    · refine u_sub (lv' := [(0, .ref (X.1 a0))]) [0] rfl ?_
      exact wjX11_served_20 hC n S2 a0  hTa0 hf hR
theorem ctX11_served (l : Launch) (hl : l.stackTraces = false) (G : GT) (ρ : Nat → Nat) (Y : XS) (n : Nat) (S : PS) (a0 : Nat) (x1_ : Int32) (x2_ : Int32) (hTa0 : Ty Y a0 11) {o : Int32 × PS} (hf : fX11_served Y n S a0 x1_ x2_ = some o) : Mt l G yX11_served cX11_served 3 (some .int) 54 ρ Y [.ref (ρ a0), .int x1_, .int x2_] S (some (.int o.1)) o.2 :=
  Mt_of hl (by decide) (Nat.le_of_ble_eq_true rfl) (fun C _ _ hC hR => wX11_served (X := (ρ, Y, 0, 0)) hC n S a0 x1_ x2_ hTa0 hf hR)
-- X11_paidInAll
theorem dX11_paidInAll_0 : decode cX11_paidInAll 0 = .ok (.iconst 0, 1) := by decide +kernel
theorem dX11_paidInAll_1 : decode cX11_paidInAll 1 = .ok (.istore_n 2, 1) := by decide +kernel
theorem dX11_paidInAll_2 : decode cX11_paidInAll 2 = .ok (.iconst 0, 1) := by decide +kernel
theorem dX11_paidInAll_3 : decode cX11_paidInAll 3 = .ok (.istore_n 3, 1) := by decide +kernel
theorem dX11_paidInAll_4 : decode cX11_paidInAll 4 = .ok (.iload_n 3, 1) := by decide +kernel
theorem dX11_paidInAll_5 : decode cX11_paidInAll 5 = .ok (.aload_n 0, 1) := by decide +kernel
theorem dX11_paidInAll_6 : decode cX11_paidInAll 6 = .ok (.invokevirtual 77, 3) := by decide +kernel
theorem dX11_paidInAll_9 : decode cX11_paidInAll 9 = .ok (.if_icmp .ge 23, 3) := by decide +kernel
theorem dX11_paidInAll_12 : decode cX11_paidInAll 12 = .ok (.iload_n 2, 1) := by decide +kernel
theorem dX11_paidInAll_13 : decode cX11_paidInAll 13 = .ok (.aload_n 0, 1) := by decide +kernel
theorem dX11_paidInAll_14 : decode cX11_paidInAll 14 = .ok (.getfield 40, 3) := by decide +kernel
theorem dX11_paidInAll_17 : decode cX11_paidInAll 17 = .ok (.bipush 12, 2) := by decide +kernel
theorem dX11_paidInAll_19 : decode cX11_paidInAll 19 = .ok (.iload_n 1, 1) := by decide +kernel
theorem dX11_paidInAll_20 : decode cX11_paidInAll 20 = .ok (.imul, 1) := by decide +kernel
theorem dX11_paidInAll_21 : decode cX11_paidInAll 21 = .ok (.iload_n 3, 1) := by decide +kernel
theorem dX11_paidInAll_22 : decode cX11_paidInAll 22 = .ok (.iadd, 1) := by decide +kernel
theorem dX11_paidInAll_23 : decode cX11_paidInAll 23 = .ok (.iaload, 1) := by decide +kernel
theorem dX11_paidInAll_24 : decode cX11_paidInAll 24 = .ok (.iadd, 1) := by decide +kernel
theorem dX11_paidInAll_25 : decode cX11_paidInAll 25 = .ok (.istore_n 2, 1) := by decide +kernel
theorem dX11_paidInAll_26 : decode cX11_paidInAll 26 = .ok (.iinc 3 1, 3) := by decide +kernel
theorem dX11_paidInAll_29 : decode cX11_paidInAll 29 = .ok (.goto (-25), 3) := by decide +kernel
theorem dX11_paidInAll_32 : decode cX11_paidInAll 32 = .ok (.iload_n 2, 1) := by decide +kernel
theorem dX11_paidInAll_33 : decode cX11_paidInAll 33 = .ok (.ireturn, 1) := by decide +kernel
def bX11_paidInAll_4 (Y : XS) (n : Nat) (S : PS) (v0 : Nat) (v1 : Int32) (s4 : (Int32 × Int32)) : Option ((Int32 × Int32) ⊕ Int32) :=
  kc (fX11_many Y n S v0) (fun q6 => (if q6 ≤ s4.2 then some (.inr s4.1) else kgr S v0 17 (fun b14 => kai Y S b14 (((12 : Int32) * v1) + s4.2) (fun x23 => some (.inl (s4.1 + x23, s4.2 + (1 : Int32)))))))
def fX11_paidInAll (Y : XS) (n : Nat) (S : PS) (a0 : Nat) (x1_ : Int32) : Option (Int32) :=
  kc (iter (bX11_paidInAll_4 Y n S a0 x1_) n ((0 : Int32), (0 : Int32))) (fun r4 => some r4)
theorem wbX11_paidInAll_4 {C : CT} {X : XT} (hC : CK C RX11 cX11_paidInAll 4 (some .int) 2) (n : Nat) (S : PS) (v0 : Nat) (v1 : Int32) (hTv0 : Ty X.2.1 v0 11) (s4 : (Int32 × Int32)) {o : (Int32 × Int32) ⊕ Int32} (hf : bX11_paidInAll_4 X.2.1 n S v0 v1 s4 = some o) (hN : ∀ s', o = .inl s' → UW C X S 4 [(0, .ref (X.1 v0)), (1, .int v1), (2, .int s'.1), (3, .int s'.2)] []) (hO0 : ∀ p', o = .inr p' → UW C X S 32 [(2, .int p')] []) : UW C X S 4 [(0, .ref (X.1 v0)), (1, .int v1), (2, .int s4.1), (3, .int s4.2)] [] := by
  unfold bX11_paidInAll_4 at hf
  refine u_iload_n hC dX11_paidInAll_4 3 rfl rfl ?_
  refine u_aload_n hC dX11_paidInAll_5 0 rfl rfl ?_
  obtain ⟨q6, hq6, hf⟩ := kc_some hf
  refine u_callV hC (ctX11_many (cL C) hC.tr (cG C) X.1 X.2.1 n S v0 hTv0 hq6) lk_X11_77 rfl hTv0 (by decide) rfl (by decide) (by decide) rfl rfl (Nat.le_of_ble_eq_true rfl) dX11_paidInAll_6 ?_
  refine u_icmp_ge (tgt := 32) hC dX11_paidInAll_9 (by decide) hf (fun h9 hf => ?_) (fun h9 hf => ?_)
  · refine u_sub (lv' := [(2, .int s4.1)]) [2] rfl ?_
    exact hO0 _ (Option.some.inj hf).symm
  · refine u_iload_n hC dX11_paidInAll_12 2 rfl rfl ?_
    refine u_aload_n hC dX11_paidInAll_13 0 rfl rfl ?_
    refine u_gr hC lf_X11_40 rfl hTv0 dX11_paidInAll_14 hf (fun b14 hTb14 hf => ?_)
    refine u_bipush (v := (12 : Int32)) hC dX11_paidInAll_17 (by decide) ?_
    refine u_iload_n hC dX11_paidInAll_19 1 rfl rfl ?_
    refine u_imul hC dX11_paidInAll_20 ?_
    refine u_iload_n hC dX11_paidInAll_21 3 rfl rfl ?_
    refine u_iadd hC dX11_paidInAll_22 ?_
    refine u_ai hC hTb14 dX11_paidInAll_23 hf (fun x23 hf => ?_)
    refine u_iadd hC dX11_paidInAll_24 ?_
    refine u_istore_n (lv' := [(2, .int (s4.1 + x23)), (0, .ref (X.1 v0)), (1, .int v1), (3, .int s4.2)]) hC dX11_paidInAll_25 rfl (by decide) rfl ?_
    refine u_iinc (v := s4.2 + (1 : Int32)) (lv' := [(3, .int (s4.2 + (1 : Int32))), (2, .int (s4.1 + x23)), (0, .ref (X.1 v0)), (1, .int v1)]) hC dX11_paidInAll_26 3 rfl rfl (by decide) rfl ?_
    refine u_goto (tgt := 4) hC dX11_paidInAll_29 (by decide) ?_
    refine u_sub (lv' := [(0, .ref (X.1 v0)), (1, .int v1), (2, .int (s4.1 + x23)), (3, .int (s4.2 + (1 : Int32)))]) [2, 3, 1, 0] rfl ?_
    exact hN _ (Option.some.inj hf).symm
theorem wX11_paidInAll {C : CT} {X : XT} (hC : CK C RX11 cX11_paidInAll 4 (some .int) 2) (n : Nat) (S : PS) (a0 : Nat) (x1_ : Int32) (hTa0 : Ty X.2.1 a0 11) {o : Int32} (hf : fX11_paidInAll X.2.1 n S a0 x1_ = some o) (hR : Rt C X cX11_paidInAll (some .int) (some (.int o)) S) : UW C X S 0 [(0, .ref (X.1 a0)), (1, .int x1_)] [] := by
  unfold fX11_paidInAll at hf
  refine u_iconst (v := (0 : Int32)) hC dX11_paidInAll_0 (by decide) ?_
  refine u_istore_n (lv' := [(2, .int (0 : Int32)), (0, .ref (X.1 a0)), (1, .int x1_)]) hC dX11_paidInAll_1 rfl (by decide) rfl ?_
  refine u_iconst (v := (0 : Int32)) hC dX11_paidInAll_2 (by decide) ?_
  refine u_istore_n (lv' := [(3, .int (0 : Int32)), (2, .int (0 : Int32)), (0, .ref (X.1 a0)), (1, .int x1_)]) hC dX11_paidInAll_3 rfl (by decide) rfl ?_
  obtain ⟨r4, hr4, hf⟩ := kc_some hf
  have hk4 : UW C X S 32 [(2, .int r4)] [] := by
    refine u_iload_n hC dX11_paidInAll_32 0 rfl rfl ?_
    cases hf
    exact hR _ _ dX11_paidInAll_33 trivial
  refine u_sub (lv' := [(0, .ref (X.1 a0)), (1, .int x1_), (2, .int (0 : Int32)), (3, .int (0 : Int32))]) [2, 3, 1, 0] rfl ?_
  refine iter_ind (P := fun s4 => UW C X S 4 [(0, .ref (X.1 a0)), (1, .int x1_), (2, .int s4.1), (3, .int s4.2)] []) (fun s4 o' hb hin hout => ?_) n ((0 : Int32), (0 : Int32)) hr4
  exact wbX11_paidInAll_4 hC n S a0 x1_ hTa0 s4 hb hin (fun p e => by rw [hout p e]; exact hk4)
theorem ctX11_paidInAll (l : Launch) (hl : l.stackTraces = false) (G : GT) (ρ : Nat → Nat) (Y : XS) (n : Nat) (S : PS) (a0 : Nat) (x1_ : Int32) (hTa0 : Ty Y a0 11) {o : Int32} (hf : fX11_paidInAll Y n S a0 x1_ = some o) : Mt l G yX11_paidInAll cX11_paidInAll 4 (some .int) 2 ρ Y [.ref (ρ a0), .int x1_] S (some (.int o)) S :=
  Mt_of hl (by decide) (Nat.le_of_ble_eq_true rfl) (fun C _ _ hC hR => wX11_paidInAll (X := (ρ, Y, 0, 0)) hC n S a0 x1_ hTa0 hf hR)
-- X11_paid
theorem dX11_paid_0 : decode cX11_paid 0 = .ok (.aload_n 0, 1) := by decide +kernel
theorem dX11_paid_1 : decode cX11_paid 1 = .ok (.iconst 0, 1) := by decide +kernel
theorem dX11_paid_2 : decode cX11_paid 2 = .ok (.putfield 70, 3) := by decide +kernel
theorem dX11_paid_5 : decode cX11_paid 5 = .ok (.iload_n 1, 1) := by decide +kernel
theorem dX11_paid_6 : decode cX11_paid 6 = .ok (.iconst 0, 1) := by decide +kernel
theorem dX11_paid_7 : decode cX11_paid 7 = .ok (.iconst 3, 1) := by decide +kernel
theorem dX11_paid_8 : decode cX11_paid 8 = .ok (.invokestatic 81, 3) := by decide +kernel
theorem dX11_paid_11 : decode cX11_paid 11 = .ok (.ifCond .eq 24, 3) := by decide +kernel
theorem dX11_paid_14 : decode cX11_paid 14 = .ok (.aload_n 0, 1) := by decide +kernel
theorem dX11_paid_15 : decode cX11_paid 15 = .ok (.iload_n 2, 1) := by decide +kernel
theorem dX11_paid_16 : decode cX11_paid 16 = .ok (.invokevirtual 258, 3) := by decide +kernel
theorem dX11_paid_19 : decode cX11_paid 19 = .ok (.ifCond .eq 16, 3) := by decide +kernel
theorem dX11_paid_22 : decode cX11_paid 22 = .ok (.iload_n 3, 1) := by decide +kernel
theorem dX11_paid_23 : decode cX11_paid 23 = .ok (.iconst (-1), 1) := by decide +kernel
theorem dX11_paid_24 : decode cX11_paid 24 = .ok (.if_icmp .eq 17, 3) := by decide +kernel
theorem dX11_paid_27 : decode cX11_paid 27 = .ok (.aload_n 0, 1) := by decide +kernel
theorem dX11_paid_28 : decode cX11_paid 28 = .ok (.iload_n 3, 1) := by decide +kernel
theorem dX11_paid_29 : decode cX11_paid 29 = .ok (.invokevirtual 255, 3) := by decide +kernel
theorem dX11_paid_32 : decode cX11_paid 32 = .ok (.ifCond .ne 9, 3) := by decide +kernel
theorem dX11_paid_35 : decode cX11_paid 35 = .ok (.aload_n 0, 1) := by decide +kernel
theorem dX11_paid_36 : decode cX11_paid 36 = .ok (.iconst 1, 1) := by decide +kernel
theorem dX11_paid_37 : decode cX11_paid 37 = .ok (.invokevirtual 252, 3) := by decide +kernel
theorem dX11_paid_40 : decode cX11_paid 40 = .ok (.ireturn, 1) := by decide +kernel
theorem dX11_paid_41 : decode cX11_paid 41 = .ok (.aload_n 0, 1) := by decide +kernel
theorem dX11_paid_42 : decode cX11_paid 42 = .ok (.iload_n 1, 1) := by decide +kernel
theorem dX11_paid_43 : decode cX11_paid 43 = .ok (.invokevirtual 264, 3) := by decide +kernel
theorem dX11_paid_46 : decode cX11_paid 46 = .ok (.iload_n 3, 1) := by decide +kernel
theorem dX11_paid_47 : decode cX11_paid 47 = .ok (.iconst (-1), 1) := by decide +kernel
theorem dX11_paid_48 : decode cX11_paid 48 = .ok (.if_icmp .ne 11, 3) := by decide +kernel
theorem dX11_paid_51 : decode cX11_paid 51 = .ok (.aload_n 0, 1) := by decide +kernel
theorem dX11_paid_52 : decode cX11_paid 52 = .ok (.iload_n 2, 1) := by decide +kernel
theorem dX11_paid_53 : decode cX11_paid 53 = .ok (.invokevirtual 270, 3) := by decide +kernel
theorem dX11_paid_56 : decode cX11_paid 56 = .ok (.goto 14, 3) := by decide +kernel
theorem dX11_paid_59 : decode cX11_paid 59 = .ok (.aload_n 0, 1) := by decide +kernel
theorem dX11_paid_60 : decode cX11_paid 60 = .ok (.getfield 40, 3) := by decide +kernel
theorem dX11_paid_63 : decode cX11_paid 63 = .ok (.bipush 12, 2) := by decide +kernel
theorem dX11_paid_65 : decode cX11_paid 65 = .ok (.iload_n 2, 1) := by decide +kernel
theorem dX11_paid_66 : decode cX11_paid 66 = .ok (.imul, 1) := by decide +kernel
theorem dX11_paid_67 : decode cX11_paid 67 = .ok (.iload_n 3, 1) := by decide +kernel
theorem dX11_paid_68 : decode cX11_paid 68 = .ok (.iadd, 1) := by decide +kernel
theorem dX11_paid_69 : decode cX11_paid 69 = .ok (.iaload, 1) := by decide +kernel
theorem dX11_paid_70 : decode cX11_paid 70 = .ok (.ireturn, 1) := by decide +kernel
def jX11_paid_35 (Y : XS) (n : Nat) (S : PS) (v0 : Nat) : Option (Int32 × PS) :=
  kc (fX11_fail Y n S v0 (1 : Int32)) (fun q37 => some (q37.1, q37.2))
def jX11_paid_70 (Y : XS) (n : Nat) (S : PS) (t0 : Int32) : Option (Int32 × PS) :=
  some (t0, S)
def jX11_paid_41 (Y : XS) (n : Nat) (S : PS) (v0 : Nat) (v1 : Int32) (v2 : Int32) (v3 : Int32) : Option (Int32 × PS) :=
  kc (fX11_goes Y n S v0 v1) (fun q43 => (if v3 = (-1 : Int32) then kc (fX11_paidInAll Y n q43 v0 v2) (fun q53 => jX11_paid_70 Y n q43 q53) else kgr q43 v0 17 (fun b60 => kai Y q43 b60 (((12 : Int32) * v2) + v3) (fun x69 => jX11_paid_70 Y n q43 x69))))
def fX11_paid (Y : XS) (n : Nat) (S : PS) (a0 : Nat) (x1_ : Int32) (x2_ : Int32) (x3_ : Int32) : Option (Int32 × PS) :=
  kpi S a0 7 (0 : Int32) (fun S2 => kc (fX11_isIn Y n S2 x1_ (0 : Int32) (3 : Int32)) (fun q8 => (if q8 = 0 then jX11_paid_35 Y n S2 a0 else kc (fX11_isVoter Y n S2 a0 x2_) (fun q16 => (if q16 = 0 then jX11_paid_35 Y n S2 a0 else (if x3_ = (-1 : Int32) then jX11_paid_41 Y n S2 a0 x1_ x2_ x3_ else kc (fX11_isProject Y n S2 a0 x3_) (fun q29 => (if q29 = 0 then jX11_paid_35 Y n S2 a0 else jX11_paid_41 Y n S2 a0 x1_ x2_ x3_))))))))
theorem wjX11_paid_35 {C : CT} {X : XT} (hC : CK C RX11 cX11_paid 4 (some .int) 54) (n : Nat) (S : PS) (v0 : Nat)  (hTv0 : Ty X.2.1 v0 11) {o : Int32 × PS} (hf : jX11_paid_35 X.2.1 n S v0 = some o) (hR : Rt C X cX11_paid (some .int) (some (.int o.1)) o.2) : UW C X S 35 [(0, .ref (X.1 v0))] [] := by
  unfold jX11_paid_35 at hf
  refine u_aload_n hC dX11_paid_35 0 rfl rfl ?_
  refine u_iconst (v := (1 : Int32)) hC dX11_paid_36 (by decide) ?_
  obtain ⟨q37, hq37, hf⟩ := kc_some hf
  refine u_callV hC (ctX11_fail (cL C) hC.tr (cG C) X.1 X.2.1 n S v0 (1 : Int32) hTv0 hq37) lk_X11_252 rfl hTv0 (by decide) rfl (by decide) (by decide) rfl rfl (Nat.le_of_ble_eq_true rfl) dX11_paid_37 ?_
  cases hf
  exact hR _ _ dX11_paid_40 trivial
theorem wjX11_paid_70 {C : CT} {X : XT} (hC : CK C RX11 cX11_paid 4 (some .int) 54) (n : Nat) (S : PS) (t0 : Int32)   {o : Int32 × PS} (hf : jX11_paid_70 X.2.1 n S t0 = some o) (hR : Rt C X cX11_paid (some .int) (some (.int o.1)) o.2) : UW C X S 70 [] [.int t0] := by
  unfold jX11_paid_70 at hf
  cases hf
  exact hR _ _ dX11_paid_70 trivial
theorem wjX11_paid_41 {C : CT} {X : XT} (hC : CK C RX11 cX11_paid 4 (some .int) 54) (n : Nat) (S : PS) (v0 : Nat) (v1 : Int32) (v2 : Int32) (v3 : Int32)  (hTv0 : Ty X.2.1 v0 11) {o : Int32 × PS} (hf : jX11_paid_41 X.2.1 n S v0 v1 v2 v3 = some o) (hR : Rt C X cX11_paid (some .int) (some (.int o.1)) o.2) : UW C X S 41 [(0, .ref (X.1 v0)), (1, .int v1), (2, .int v2), (3, .int v3)] [] := by
  unfold jX11_paid_41 at hf
  refine u_aload_n hC dX11_paid_41 0 rfl rfl ?_
  refine u_iload_n hC dX11_paid_42 1 rfl rfl ?_
  obtain ⟨q43, hq43, hf⟩ := kc_some hf
  refine u_callV hC (ctX11_goes (cL C) hC.tr (cG C) X.1 X.2.1 n S v0 v1 hTv0 hq43) lk_X11_264 rfl hTv0 (by decide) rfl (by decide) (by decide) rfl rfl (Nat.le_of_ble_eq_true rfl) dX11_paid_43 ?_
  refine u_iload_n hC dX11_paid_46 3 rfl rfl ?_
  refine u_iconst (v := (-1 : Int32)) hC dX11_paid_47 (by decide) ?_
  refine u_icmp_ne (tgt := 59) hC dX11_paid_48 (by decide) hf (fun h48 hf => ?_) (fun h48 hf => ?_)
  · refine u_aload_n hC dX11_paid_59 0 rfl rfl ?_
    refine u_gr hC lf_X11_40 rfl hTv0 dX11_paid_60 hf (fun b60 hTb60 hf => ?_)
    refine u_bipush (v := (12 : Int32)) hC dX11_paid_63 (by decide) ?_
    refine u_iload_n hC dX11_paid_65 2 rfl rfl ?_
    refine u_imul hC dX11_paid_66 ?_
    refine u_iload_n hC dX11_paid_67 3 rfl rfl ?_
    refine u_iadd hC dX11_paid_68 ?_
    refine u_ai hC hTb60 dX11_paid_69 hf (fun x69 hf => ?_)
    refine u_sub (lv' := []) [] rfl ?_
    exact wjX11_paid_70 hC n q43 x69   hf hR
  · refine u_aload_n hC dX11_paid_51 0 rfl rfl ?_
    refine u_iload_n hC dX11_paid_52 2 rfl rfl ?_
    obtain ⟨q53, hq53, hf⟩ := kc_some hf
    refine u_callV hC (ctX11_paidInAll (cL C) hC.tr (cG C) X.1 X.2.1 n q43 v0 v2 hTv0 hq53) lk_X11_270 rfl hTv0 (by decide) rfl (by decide) (by decide) rfl rfl (Nat.le_of_ble_eq_true rfl) dX11_paid_53 ?_
    refine u_goto (tgt := 70) hC dX11_paid_56 (by decide) ?_
    refine u_sub (lv' := []) [] rfl ?_
    exact wjX11_paid_70 hC n q43 q53   hf hR
theorem wX11_paid {C : CT} {X : XT} (hC : CK C RX11 cX11_paid 4 (some .int) 54) (n : Nat) (S : PS) (a0 : Nat) (x1_ : Int32) (x2_ : Int32) (x3_ : Int32) (hTa0 : Ty X.2.1 a0 11) {o : Int32 × PS} (hf : fX11_paid X.2.1 n S a0 x1_ x2_ x3_ = some o) (hR : Rt C X cX11_paid (some .int) (some (.int o.1)) o.2) : UW C X S 0 [(0, .ref (X.1 a0)), (1, .int x1_), (2, .int x2_), (3, .int x3_)] [] := by
  unfold fX11_paid at hf
  refine u_aload_n hC dX11_paid_0 0 rfl rfl ?_
  refine u_iconst (v := (0 : Int32)) hC dX11_paid_1 (by decide) ?_
  refine u_pi hC lf_X11_70 rfl rfl rfl hTa0 dX11_paid_2 hf (fun S2 hf => ?_)
  refine u_iload_n hC dX11_paid_5 1 rfl rfl ?_
  refine u_iconst (v := (0 : Int32)) hC dX11_paid_6 (by decide) ?_
  refine u_iconst (v := (3 : Int32)) hC dX11_paid_7 (by decide) ?_
  obtain ⟨q8, hq8, hf⟩ := kc_some hf
  refine u_callS hC (ctX11_isIn (cL C) hC.tr (cG C) X.1 X.2.1 n S2 x1_ (0 : Int32) (3 : Int32)  hq8) lk_X11_81 (by decide) (by decide) rfl rfl (Nat.le_of_ble_eq_true rfl) dX11_paid_8 ?_
  refine u_if_eq (tgt := 35) hC dX11_paid_11 (by decide) hf (fun h11 hf => ?_) (fun h11 hf => ?_)
  · refine u_sub (lv' := [(0, .ref (X.1 a0))]) [0] rfl ?_
    exact wjX11_paid_35 hC n S2 a0  hTa0 hf hR
  · refine u_aload_n hC dX11_paid_14 0 rfl rfl ?_
    refine u_iload_n hC dX11_paid_15 2 rfl rfl ?_
    obtain ⟨q16, hq16, hf⟩ := kc_some hf
    refine u_callV hC (ctX11_isVoter (cL C) hC.tr (cG C) X.1 X.2.1 n S2 a0 x2_ hTa0 hq16) lk_X11_258 rfl hTa0 (by decide) rfl (by decide) (by decide) rfl rfl (Nat.le_of_ble_eq_true rfl) dX11_paid_16 ?_
    refine u_if_eq (tgt := 35) hC dX11_paid_19 (by decide) hf (fun h19 hf => ?_) (fun h19 hf => ?_)
    · refine u_sub (lv' := [(0, .ref (X.1 a0))]) [0] rfl ?_
      exact wjX11_paid_35 hC n S2 a0  hTa0 hf hR
    · refine u_iload_n hC dX11_paid_22 3 rfl rfl ?_
      refine u_iconst (v := (-1 : Int32)) hC dX11_paid_23 (by decide) ?_
      refine u_icmp_eq (tgt := 41) hC dX11_paid_24 (by decide) hf (fun h24 hf => ?_) (fun h24 hf => ?_)
      · exact wjX11_paid_41 hC n S2 a0 x1_ x2_ x3_  hTa0 hf hR
      · refine u_aload_n hC dX11_paid_27 0 rfl rfl ?_
        refine u_iload_n hC dX11_paid_28 3 rfl rfl ?_
        obtain ⟨q29, hq29, hf⟩ := kc_some hf
        refine u_callV hC (ctX11_isProject (cL C) hC.tr (cG C) X.1 X.2.1 n S2 a0 x3_ hTa0 hq29) lk_X11_255 rfl hTa0 (by decide) rfl (by decide) (by decide) rfl rfl (Nat.le_of_ble_eq_true rfl) dX11_paid_29 ?_
        refine u_if_ne (tgt := 41) hC dX11_paid_32 (by decide) hf (fun h32 hf => ?_) (fun h32 hf => ?_)
        · exact wjX11_paid_41 hC n S2 a0 x1_ x2_ x3_  hTa0 hf hR
        · refine u_sub (lv' := [(0, .ref (X.1 a0))]) [0] rfl ?_
          exact wjX11_paid_35 hC n S2 a0  hTa0 hf hR
theorem ctX11_paid (l : Launch) (hl : l.stackTraces = false) (G : GT) (ρ : Nat → Nat) (Y : XS) (n : Nat) (S : PS) (a0 : Nat) (x1_ : Int32) (x2_ : Int32) (x3_ : Int32) (hTa0 : Ty Y a0 11) {o : Int32 × PS} (hf : fX11_paid Y n S a0 x1_ x2_ x3_ = some o) : Mt l G yX11_paid cX11_paid 4 (some .int) 54 ρ Y [.ref (ρ a0), .int x1_, .int x2_, .int x3_] S (some (.int o.1)) o.2 :=
  Mt_of hl (by decide) (Nat.le_of_ble_eq_true rfl) (fun C _ _ hC hR => wX11_paid (X := (ρ, Y, 0, 0)) hC n S a0 x1_ x2_ x3_ hTa0 hf hR)
-- X11_leftInAll
theorem dX11_leftInAll_0 : decode cX11_leftInAll 0 = .ok (.iconst 0, 1) := by decide +kernel
theorem dX11_leftInAll_1 : decode cX11_leftInAll 1 = .ok (.istore_n 1, 1) := by decide +kernel
theorem dX11_leftInAll_2 : decode cX11_leftInAll 2 = .ok (.iconst 0, 1) := by decide +kernel
theorem dX11_leftInAll_3 : decode cX11_leftInAll 3 = .ok (.istore_n 2, 1) := by decide +kernel
theorem dX11_leftInAll_4 : decode cX11_leftInAll 4 = .ok (.iload_n 2, 1) := by decide +kernel
theorem dX11_leftInAll_5 : decode cX11_leftInAll 5 = .ok (.aload_n 0, 1) := by decide +kernel
theorem dX11_leftInAll_6 : decode cX11_leftInAll 6 = .ok (.invokevirtual 85, 3) := by decide +kernel
theorem dX11_leftInAll_9 : decode cX11_leftInAll 9 = .ok (.if_icmp .ge 18, 3) := by decide +kernel
theorem dX11_leftInAll_12 : decode cX11_leftInAll 12 = .ok (.iload_n 1, 1) := by decide +kernel
theorem dX11_leftInAll_13 : decode cX11_leftInAll 13 = .ok (.aload_n 0, 1) := by decide +kernel
theorem dX11_leftInAll_14 : decode cX11_leftInAll 14 = .ok (.getfield 37, 3) := by decide +kernel
theorem dX11_leftInAll_17 : decode cX11_leftInAll 17 = .ok (.iload_n 2, 1) := by decide +kernel
theorem dX11_leftInAll_18 : decode cX11_leftInAll 18 = .ok (.iaload, 1) := by decide +kernel
theorem dX11_leftInAll_19 : decode cX11_leftInAll 19 = .ok (.iadd, 1) := by decide +kernel
theorem dX11_leftInAll_20 : decode cX11_leftInAll 20 = .ok (.istore_n 1, 1) := by decide +kernel
theorem dX11_leftInAll_21 : decode cX11_leftInAll 21 = .ok (.iinc 2 1, 3) := by decide +kernel
theorem dX11_leftInAll_24 : decode cX11_leftInAll 24 = .ok (.goto (-20), 3) := by decide +kernel
theorem dX11_leftInAll_27 : decode cX11_leftInAll 27 = .ok (.iload_n 1, 1) := by decide +kernel
theorem dX11_leftInAll_28 : decode cX11_leftInAll 28 = .ok (.ireturn, 1) := by decide +kernel
def bX11_leftInAll_4 (Y : XS) (n : Nat) (S : PS) (v0 : Nat) (s4 : (Int32 × Int32)) : Option ((Int32 × Int32) ⊕ Int32) :=
  kc (fX11_people Y n S v0) (fun q6 => (if q6 ≤ s4.2 then some (.inr s4.1) else kgr S v0 16 (fun b14 => kai Y S b14 s4.2 (fun x18 => some (.inl (s4.1 + x18, s4.2 + (1 : Int32)))))))
def fX11_leftInAll (Y : XS) (n : Nat) (S : PS) (a0 : Nat) : Option (Int32) :=
  kc (iter (bX11_leftInAll_4 Y n S a0) n ((0 : Int32), (0 : Int32))) (fun r4 => some r4)
theorem wbX11_leftInAll_4 {C : CT} {X : XT} (hC : CK C RX11 cX11_leftInAll 3 (some .int) 2) (n : Nat) (S : PS) (v0 : Nat) (hTv0 : Ty X.2.1 v0 11) (s4 : (Int32 × Int32)) {o : (Int32 × Int32) ⊕ Int32} (hf : bX11_leftInAll_4 X.2.1 n S v0 s4 = some o) (hN : ∀ s', o = .inl s' → UW C X S 4 [(0, .ref (X.1 v0)), (1, .int s'.1), (2, .int s'.2)] []) (hO0 : ∀ p', o = .inr p' → UW C X S 27 [(1, .int p')] []) : UW C X S 4 [(0, .ref (X.1 v0)), (1, .int s4.1), (2, .int s4.2)] [] := by
  unfold bX11_leftInAll_4 at hf
  refine u_iload_n hC dX11_leftInAll_4 2 rfl rfl ?_
  refine u_aload_n hC dX11_leftInAll_5 0 rfl rfl ?_
  obtain ⟨q6, hq6, hf⟩ := kc_some hf
  refine u_callV hC (ctX11_people (cL C) hC.tr (cG C) X.1 X.2.1 n S v0 hTv0 hq6) lk_X11_85 rfl hTv0 (by decide) rfl (by decide) (by decide) rfl rfl (Nat.le_of_ble_eq_true rfl) dX11_leftInAll_6 ?_
  refine u_icmp_ge (tgt := 27) hC dX11_leftInAll_9 (by decide) hf (fun h9 hf => ?_) (fun h9 hf => ?_)
  · refine u_sub (lv' := [(1, .int s4.1)]) [1] rfl ?_
    exact hO0 _ (Option.some.inj hf).symm
  · refine u_iload_n hC dX11_leftInAll_12 1 rfl rfl ?_
    refine u_aload_n hC dX11_leftInAll_13 0 rfl rfl ?_
    refine u_gr hC lf_X11_37 rfl hTv0 dX11_leftInAll_14 hf (fun b14 hTb14 hf => ?_)
    refine u_iload_n hC dX11_leftInAll_17 2 rfl rfl ?_
    refine u_ai hC hTb14 dX11_leftInAll_18 hf (fun x18 hf => ?_)
    refine u_iadd hC dX11_leftInAll_19 ?_
    refine u_istore_n (lv' := [(1, .int (s4.1 + x18)), (0, .ref (X.1 v0)), (2, .int s4.2)]) hC dX11_leftInAll_20 rfl (by decide) rfl ?_
    refine u_iinc (v := s4.2 + (1 : Int32)) (lv' := [(2, .int (s4.2 + (1 : Int32))), (1, .int (s4.1 + x18)), (0, .ref (X.1 v0))]) hC dX11_leftInAll_21 2 rfl rfl (by decide) rfl ?_
    refine u_goto (tgt := 4) hC dX11_leftInAll_24 (by decide) ?_
    refine u_sub (lv' := [(0, .ref (X.1 v0)), (1, .int (s4.1 + x18)), (2, .int (s4.2 + (1 : Int32)))]) [2, 1, 0] rfl ?_
    exact hN _ (Option.some.inj hf).symm
theorem wX11_leftInAll {C : CT} {X : XT} (hC : CK C RX11 cX11_leftInAll 3 (some .int) 2) (n : Nat) (S : PS) (a0 : Nat) (hTa0 : Ty X.2.1 a0 11) {o : Int32} (hf : fX11_leftInAll X.2.1 n S a0 = some o) (hR : Rt C X cX11_leftInAll (some .int) (some (.int o)) S) : UW C X S 0 [(0, .ref (X.1 a0))] [] := by
  unfold fX11_leftInAll at hf
  refine u_iconst (v := (0 : Int32)) hC dX11_leftInAll_0 (by decide) ?_
  refine u_istore_n (lv' := [(1, .int (0 : Int32)), (0, .ref (X.1 a0))]) hC dX11_leftInAll_1 rfl (by decide) rfl ?_
  refine u_iconst (v := (0 : Int32)) hC dX11_leftInAll_2 (by decide) ?_
  refine u_istore_n (lv' := [(2, .int (0 : Int32)), (1, .int (0 : Int32)), (0, .ref (X.1 a0))]) hC dX11_leftInAll_3 rfl (by decide) rfl ?_
  obtain ⟨r4, hr4, hf⟩ := kc_some hf
  have hk4 : UW C X S 27 [(1, .int r4)] [] := by
    refine u_iload_n hC dX11_leftInAll_27 0 rfl rfl ?_
    cases hf
    exact hR _ _ dX11_leftInAll_28 trivial
  refine u_sub (lv' := [(0, .ref (X.1 a0)), (1, .int (0 : Int32)), (2, .int (0 : Int32))]) [2, 1, 0] rfl ?_
  refine iter_ind (P := fun s4 => UW C X S 4 [(0, .ref (X.1 a0)), (1, .int s4.1), (2, .int s4.2)] []) (fun s4 o' hb hin hout => ?_) n ((0 : Int32), (0 : Int32)) hr4
  exact wbX11_leftInAll_4 hC n S a0 hTa0 s4 hb hin (fun p e => by rw [hout p e]; exact hk4)
theorem ctX11_leftInAll (l : Launch) (hl : l.stackTraces = false) (G : GT) (ρ : Nat → Nat) (Y : XS) (n : Nat) (S : PS) (a0 : Nat) (hTa0 : Ty Y a0 11) {o : Int32} (hf : fX11_leftInAll Y n S a0 = some o) : Mt l G yX11_leftInAll cX11_leftInAll 3 (some .int) 2 ρ Y [.ref (ρ a0)] S (some (.int o)) S :=
  Mt_of hl (by decide) (Nat.le_of_ble_eq_true rfl) (fun C _ _ hC hR => wX11_leftInAll (X := (ρ, Y, 0, 0)) hC n S a0 hTa0 hf hR)
-- X11_left
theorem dX11_left_0 : decode cX11_left 0 = .ok (.aload_n 0, 1) := by decide +kernel
theorem dX11_left_1 : decode cX11_left 1 = .ok (.iconst 0, 1) := by decide +kernel
theorem dX11_left_2 : decode cX11_left 2 = .ok (.putfield 70, 3) := by decide +kernel
theorem dX11_left_5 : decode cX11_left 5 = .ok (.iload_n 1, 1) := by decide +kernel
theorem dX11_left_6 : decode cX11_left 6 = .ok (.iconst 0, 1) := by decide +kernel
theorem dX11_left_7 : decode cX11_left 7 = .ok (.iconst 3, 1) := by decide +kernel
theorem dX11_left_8 : decode cX11_left 8 = .ok (.invokestatic 81, 3) := by decide +kernel
theorem dX11_left_11 : decode cX11_left 11 = .ok (.ifCond .eq 16, 3) := by decide +kernel
theorem dX11_left_14 : decode cX11_left 14 = .ok (.iload_n 2, 1) := by decide +kernel
theorem dX11_left_15 : decode cX11_left 15 = .ok (.iconst (-1), 1) := by decide +kernel
theorem dX11_left_16 : decode cX11_left 16 = .ok (.if_icmp .eq 17, 3) := by decide +kernel
theorem dX11_left_19 : decode cX11_left 19 = .ok (.aload_n 0, 1) := by decide +kernel
theorem dX11_left_20 : decode cX11_left 20 = .ok (.iload_n 2, 1) := by decide +kernel
theorem dX11_left_21 : decode cX11_left 21 = .ok (.invokevirtual 258, 3) := by decide +kernel
theorem dX11_left_24 : decode cX11_left 24 = .ok (.ifCond .ne 9, 3) := by decide +kernel
theorem dX11_left_27 : decode cX11_left 27 = .ok (.aload_n 0, 1) := by decide +kernel
theorem dX11_left_28 : decode cX11_left 28 = .ok (.iconst 1, 1) := by decide +kernel
theorem dX11_left_29 : decode cX11_left 29 = .ok (.invokevirtual 252, 3) := by decide +kernel
theorem dX11_left_32 : decode cX11_left 32 = .ok (.ireturn, 1) := by decide +kernel
theorem dX11_left_33 : decode cX11_left 33 = .ok (.aload_n 0, 1) := by decide +kernel
theorem dX11_left_34 : decode cX11_left 34 = .ok (.iload_n 1, 1) := by decide +kernel
theorem dX11_left_35 : decode cX11_left 35 = .ok (.invokevirtual 264, 3) := by decide +kernel
theorem dX11_left_38 : decode cX11_left 38 = .ok (.iload_n 2, 1) := by decide +kernel
theorem dX11_left_39 : decode cX11_left 39 = .ok (.iconst (-1), 1) := by decide +kernel
theorem dX11_left_40 : decode cX11_left 40 = .ok (.if_icmp .ne 10, 3) := by decide +kernel
theorem dX11_left_43 : decode cX11_left 43 = .ok (.aload_n 0, 1) := by decide +kernel
theorem dX11_left_44 : decode cX11_left 44 = .ok (.invokevirtual 273, 3) := by decide +kernel
theorem dX11_left_47 : decode cX11_left 47 = .ok (.goto 9, 3) := by decide +kernel
theorem dX11_left_50 : decode cX11_left 50 = .ok (.aload_n 0, 1) := by decide +kernel
theorem dX11_left_51 : decode cX11_left 51 = .ok (.getfield 37, 3) := by decide +kernel
theorem dX11_left_54 : decode cX11_left 54 = .ok (.iload_n 2, 1) := by decide +kernel
theorem dX11_left_55 : decode cX11_left 55 = .ok (.iaload, 1) := by decide +kernel
theorem dX11_left_56 : decode cX11_left 56 = .ok (.ireturn, 1) := by decide +kernel
def jX11_left_27 (Y : XS) (n : Nat) (S : PS) (v0 : Nat) : Option (Int32 × PS) :=
  kc (fX11_fail Y n S v0 (1 : Int32)) (fun q29 => some (q29.1, q29.2))
def jX11_left_56 (Y : XS) (n : Nat) (S : PS) (t0 : Int32) : Option (Int32 × PS) :=
  some (t0, S)
def jX11_left_33 (Y : XS) (n : Nat) (S : PS) (v0 : Nat) (v1 : Int32) (v2 : Int32) : Option (Int32 × PS) :=
  kc (fX11_goes Y n S v0 v1) (fun q35 => (if v2 = (-1 : Int32) then kc (fX11_leftInAll Y n q35 v0) (fun q44 => jX11_left_56 Y n q35 q44) else kgr q35 v0 16 (fun b51 => kai Y q35 b51 v2 (fun x55 => jX11_left_56 Y n q35 x55))))
def fX11_left (Y : XS) (n : Nat) (S : PS) (a0 : Nat) (x1_ : Int32) (x2_ : Int32) : Option (Int32 × PS) :=
  kpi S a0 7 (0 : Int32) (fun S2 => kc (fX11_isIn Y n S2 x1_ (0 : Int32) (3 : Int32)) (fun q8 => (if q8 = 0 then jX11_left_27 Y n S2 a0 else (if x2_ = (-1 : Int32) then jX11_left_33 Y n S2 a0 x1_ x2_ else kc (fX11_isVoter Y n S2 a0 x2_) (fun q21 => (if q21 = 0 then jX11_left_27 Y n S2 a0 else jX11_left_33 Y n S2 a0 x1_ x2_))))))
theorem wjX11_left_27 {C : CT} {X : XT} (hC : CK C RX11 cX11_left 3 (some .int) 54) (n : Nat) (S : PS) (v0 : Nat)  (hTv0 : Ty X.2.1 v0 11) {o : Int32 × PS} (hf : jX11_left_27 X.2.1 n S v0 = some o) (hR : Rt C X cX11_left (some .int) (some (.int o.1)) o.2) : UW C X S 27 [(0, .ref (X.1 v0))] [] := by
  unfold jX11_left_27 at hf
  refine u_aload_n hC dX11_left_27 0 rfl rfl ?_
  refine u_iconst (v := (1 : Int32)) hC dX11_left_28 (by decide) ?_
  obtain ⟨q29, hq29, hf⟩ := kc_some hf
  refine u_callV hC (ctX11_fail (cL C) hC.tr (cG C) X.1 X.2.1 n S v0 (1 : Int32) hTv0 hq29) lk_X11_252 rfl hTv0 (by decide) rfl (by decide) (by decide) rfl rfl (Nat.le_of_ble_eq_true rfl) dX11_left_29 ?_
  cases hf
  exact hR _ _ dX11_left_32 trivial
theorem wjX11_left_56 {C : CT} {X : XT} (hC : CK C RX11 cX11_left 3 (some .int) 54) (n : Nat) (S : PS) (t0 : Int32)   {o : Int32 × PS} (hf : jX11_left_56 X.2.1 n S t0 = some o) (hR : Rt C X cX11_left (some .int) (some (.int o.1)) o.2) : UW C X S 56 [] [.int t0] := by
  unfold jX11_left_56 at hf
  cases hf
  exact hR _ _ dX11_left_56 trivial
theorem wjX11_left_33 {C : CT} {X : XT} (hC : CK C RX11 cX11_left 3 (some .int) 54) (n : Nat) (S : PS) (v0 : Nat) (v1 : Int32) (v2 : Int32)  (hTv0 : Ty X.2.1 v0 11) {o : Int32 × PS} (hf : jX11_left_33 X.2.1 n S v0 v1 v2 = some o) (hR : Rt C X cX11_left (some .int) (some (.int o.1)) o.2) : UW C X S 33 [(0, .ref (X.1 v0)), (1, .int v1), (2, .int v2)] [] := by
  unfold jX11_left_33 at hf
  refine u_aload_n hC dX11_left_33 0 rfl rfl ?_
  refine u_iload_n hC dX11_left_34 1 rfl rfl ?_
  obtain ⟨q35, hq35, hf⟩ := kc_some hf
  refine u_callV hC (ctX11_goes (cL C) hC.tr (cG C) X.1 X.2.1 n S v0 v1 hTv0 hq35) lk_X11_264 rfl hTv0 (by decide) rfl (by decide) (by decide) rfl rfl (Nat.le_of_ble_eq_true rfl) dX11_left_35 ?_
  refine u_iload_n hC dX11_left_38 2 rfl rfl ?_
  refine u_iconst (v := (-1 : Int32)) hC dX11_left_39 (by decide) ?_
  refine u_icmp_ne (tgt := 50) hC dX11_left_40 (by decide) hf (fun h40 hf => ?_) (fun h40 hf => ?_)
  · refine u_aload_n hC dX11_left_50 0 rfl rfl ?_
    refine u_gr hC lf_X11_37 rfl hTv0 dX11_left_51 hf (fun b51 hTb51 hf => ?_)
    refine u_iload_n hC dX11_left_54 2 rfl rfl ?_
    refine u_ai hC hTb51 dX11_left_55 hf (fun x55 hf => ?_)
    refine u_sub (lv' := []) [] rfl ?_
    exact wjX11_left_56 hC n q35 x55   hf hR
  · refine u_aload_n hC dX11_left_43 0 rfl rfl ?_
    obtain ⟨q44, hq44, hf⟩ := kc_some hf
    refine u_callV hC (ctX11_leftInAll (cL C) hC.tr (cG C) X.1 X.2.1 n q35 v0 hTv0 hq44) lk_X11_273 rfl hTv0 (by decide) rfl (by decide) (by decide) rfl rfl (Nat.le_of_ble_eq_true rfl) dX11_left_44 ?_
    refine u_goto (tgt := 56) hC dX11_left_47 (by decide) ?_
    refine u_sub (lv' := []) [] rfl ?_
    exact wjX11_left_56 hC n q35 q44   hf hR
theorem wX11_left {C : CT} {X : XT} (hC : CK C RX11 cX11_left 3 (some .int) 54) (n : Nat) (S : PS) (a0 : Nat) (x1_ : Int32) (x2_ : Int32) (hTa0 : Ty X.2.1 a0 11) {o : Int32 × PS} (hf : fX11_left X.2.1 n S a0 x1_ x2_ = some o) (hR : Rt C X cX11_left (some .int) (some (.int o.1)) o.2) : UW C X S 0 [(0, .ref (X.1 a0)), (1, .int x1_), (2, .int x2_)] [] := by
  unfold fX11_left at hf
  refine u_aload_n hC dX11_left_0 0 rfl rfl ?_
  refine u_iconst (v := (0 : Int32)) hC dX11_left_1 (by decide) ?_
  refine u_pi hC lf_X11_70 rfl rfl rfl hTa0 dX11_left_2 hf (fun S2 hf => ?_)
  refine u_iload_n hC dX11_left_5 1 rfl rfl ?_
  refine u_iconst (v := (0 : Int32)) hC dX11_left_6 (by decide) ?_
  refine u_iconst (v := (3 : Int32)) hC dX11_left_7 (by decide) ?_
  obtain ⟨q8, hq8, hf⟩ := kc_some hf
  refine u_callS hC (ctX11_isIn (cL C) hC.tr (cG C) X.1 X.2.1 n S2 x1_ (0 : Int32) (3 : Int32)  hq8) lk_X11_81 (by decide) (by decide) rfl rfl (Nat.le_of_ble_eq_true rfl) dX11_left_8 ?_
  refine u_if_eq (tgt := 27) hC dX11_left_11 (by decide) hf (fun h11 hf => ?_) (fun h11 hf => ?_)
  · refine u_sub (lv' := [(0, .ref (X.1 a0))]) [0] rfl ?_
    exact wjX11_left_27 hC n S2 a0  hTa0 hf hR
  · refine u_iload_n hC dX11_left_14 2 rfl rfl ?_
    refine u_iconst (v := (-1 : Int32)) hC dX11_left_15 (by decide) ?_
    refine u_icmp_eq (tgt := 33) hC dX11_left_16 (by decide) hf (fun h16 hf => ?_) (fun h16 hf => ?_)
    · exact wjX11_left_33 hC n S2 a0 x1_ x2_  hTa0 hf hR
    · refine u_aload_n hC dX11_left_19 0 rfl rfl ?_
      refine u_iload_n hC dX11_left_20 2 rfl rfl ?_
      obtain ⟨q21, hq21, hf⟩ := kc_some hf
      refine u_callV hC (ctX11_isVoter (cL C) hC.tr (cG C) X.1 X.2.1 n S2 a0 x2_ hTa0 hq21) lk_X11_258 rfl hTa0 (by decide) rfl (by decide) (by decide) rfl rfl (Nat.le_of_ble_eq_true rfl) dX11_left_21 ?_
      refine u_if_ne (tgt := 33) hC dX11_left_24 (by decide) hf (fun h24 hf => ?_) (fun h24 hf => ?_)
      · exact wjX11_left_33 hC n S2 a0 x1_ x2_  hTa0 hf hR
      · refine u_sub (lv' := [(0, .ref (X.1 a0))]) [0] rfl ?_
        exact wjX11_left_27 hC n S2 a0  hTa0 hf hR
theorem ctX11_left (l : Launch) (hl : l.stackTraces = false) (G : GT) (ρ : Nat → Nat) (Y : XS) (n : Nat) (S : PS) (a0 : Nat) (x1_ : Int32) (x2_ : Int32) (hTa0 : Ty Y a0 11) {o : Int32 × PS} (hf : fX11_left Y n S a0 x1_ x2_ = some o) : Mt l G yX11_left cX11_left 3 (some .int) 54 ρ Y [.ref (ρ a0), .int x1_, .int x2_] S (some (.int o.1)) o.2 :=
  Mt_of hl (by decide) (Nat.le_of_ble_eq_true rfl) (fun C _ _ hC hR => wX11_left (X := (ρ, Y, 0, 0)) hC n S a0 x1_ x2_ hTa0 hf hR)
-- X11_step
theorem dX11_step_0 : decode cX11_step 0 = .ok (.aload_n 0, 1) := by decide +kernel
theorem dX11_step_1 : decode cX11_step 1 = .ok (.iconst 0, 1) := by decide +kernel
theorem dX11_step_2 : decode cX11_step 2 = .ok (.putfield 70, 3) := by decide +kernel
theorem dX11_step_5 : decode cX11_step 5 = .ok (.aload_n 0, 1) := by decide +kernel
theorem dX11_step_6 : decode cX11_step 6 = .ok (.iconst 0, 1) := by decide +kernel
theorem dX11_step_7 : decode cX11_step 7 = .ok (.invokevirtual 264, 3) := by decide +kernel
theorem dX11_step_10 : decode cX11_step 10 = .ok (.iload_n 1, 1) := by decide +kernel
theorem dX11_step_11 : decode cX11_step 11 = .ok (.iconst 0, 1) := by decide +kernel
theorem dX11_step_12 : decode cX11_step 12 = .ok (.aload_n 0, 1) := by decide +kernel
theorem dX11_step_13 : decode cX11_step 13 = .ok (.getfield 157, 3) := by decide +kernel
theorem dX11_step_16 : decode cX11_step 16 = .ok (.iconst 1, 1) := by decide +kernel
theorem dX11_step_17 : decode cX11_step 17 = .ok (.isub, 1) := by decide +kernel
theorem dX11_step_18 : decode cX11_step 18 = .ok (.invokestatic 81, 3) := by decide +kernel
theorem dX11_step_21 : decode cX11_step 21 = .ok (.ifCond .eq 12, 3) := by decide +kernel
theorem dX11_step_24 : decode cX11_step 24 = .ok (.iload_n 2, 1) := by decide +kernel
theorem dX11_step_25 : decode cX11_step 25 = .ok (.iconst 0, 1) := by decide +kernel
theorem dX11_step_26 : decode cX11_step 26 = .ok (.iconst 2, 1) := by decide +kernel
theorem dX11_step_27 : decode cX11_step 27 = .ok (.invokestatic 81, 3) := by decide +kernel
theorem dX11_step_30 : decode cX11_step 30 = .ok (.ifCond .ne 9, 3) := by decide +kernel
theorem dX11_step_33 : decode cX11_step 33 = .ok (.aload_n 0, 1) := by decide +kernel
theorem dX11_step_34 : decode cX11_step 34 = .ok (.iconst 1, 1) := by decide +kernel
theorem dX11_step_35 : decode cX11_step 35 = .ok (.invokevirtual 252, 3) := by decide +kernel
theorem dX11_step_38 : decode cX11_step 38 = .ok (.ireturn, 1) := by decide +kernel
theorem dX11_step_39 : decode cX11_step 39 = .ok (.iload_n 2, 1) := by decide +kernel
theorem dX11_step_40 : decode cX11_step 40 = .ok (.ifCond .ne 12, 3) := by decide +kernel
theorem dX11_step_43 : decode cX11_step 43 = .ok (.aload_n 0, 1) := by decide +kernel
theorem dX11_step_44 : decode cX11_step 44 = .ok (.getfield 43, 3) := by decide +kernel
theorem dX11_step_47 : decode cX11_step 47 = .ok (.iload_n 1, 1) := by decide +kernel
theorem dX11_step_48 : decode cX11_step 48 = .ok (.iaload, 1) := by decide +kernel
theorem dX11_step_49 : decode cX11_step 49 = .ok (.goto 23, 3) := by decide +kernel
theorem dX11_step_52 : decode cX11_step 52 = .ok (.iload_n 2, 1) := by decide +kernel
theorem dX11_step_53 : decode cX11_step 53 = .ok (.iconst 1, 1) := by decide +kernel
theorem dX11_step_54 : decode cX11_step 54 = .ok (.if_icmp .ne 12, 3) := by decide +kernel
theorem dX11_step_57 : decode cX11_step 57 = .ok (.aload_n 0, 1) := by decide +kernel
theorem dX11_step_58 : decode cX11_step 58 = .ok (.getfield 46, 3) := by decide +kernel
theorem dX11_step_61 : decode cX11_step 61 = .ok (.iload_n 1, 1) := by decide +kernel
theorem dX11_step_62 : decode cX11_step 62 = .ok (.iaload, 1) := by decide +kernel
theorem dX11_step_63 : decode cX11_step 63 = .ok (.goto 9, 3) := by decide +kernel
theorem dX11_step_66 : decode cX11_step 66 = .ok (.aload_n 0, 1) := by decide +kernel
theorem dX11_step_67 : decode cX11_step 67 = .ok (.getfield 49, 3) := by decide +kernel
theorem dX11_step_70 : decode cX11_step 70 = .ok (.iload_n 1, 1) := by decide +kernel
theorem dX11_step_71 : decode cX11_step 71 = .ok (.iaload, 1) := by decide +kernel
theorem dX11_step_72 : decode cX11_step 72 = .ok (.ireturn, 1) := by decide +kernel
def jX11_step_33 (Y : XS) (n : Nat) (S : PS) (v0 : Nat) : Option (Int32 × PS) :=
  kc (fX11_fail Y n S v0 (1 : Int32)) (fun q35 => some (q35.1, q35.2))
def jX11_step_72 (Y : XS) (n : Nat) (S : PS) (t0 : Int32) : Option (Int32 × PS) :=
  some (t0, S)
def fX11_step (Y : XS) (n : Nat) (S : PS) (a0 : Nat) (x1_ : Int32) (x2_ : Int32) : Option (Int32 × PS) :=
  kpi S a0 7 (0 : Int32) (fun S2 => kc (fX11_goes Y n S2 a0 (0 : Int32)) (fun q7 => kgi q7 a0 22 (fun x13 => kc (fX11_isIn Y n q7 x1_ (0 : Int32) (x13 - (1 : Int32))) (fun q18 => (if q18 = 0 then jX11_step_33 Y n q7 a0 else kc (fX11_isIn Y n q7 x2_ (0 : Int32) (2 : Int32)) (fun q27 => (if q27 = 0 then jX11_step_33 Y n q7 a0 else (if x2_ = 0 then kgr q7 a0 18 (fun b44 => kai Y q7 b44 x1_ (fun x48 => jX11_step_72 Y n q7 x48)) else (if x2_ = (1 : Int32) then kgr q7 a0 19 (fun b58 => kai Y q7 b58 x1_ (fun x62 => jX11_step_72 Y n q7 x62)) else kgr q7 a0 20 (fun b67 => kai Y q7 b67 x1_ (fun x71 => jX11_step_72 Y n q7 x71)))))))))))
theorem wjX11_step_33 {C : CT} {X : XT} (hC : CK C RX11 cX11_step 3 (some .int) 54) (n : Nat) (S : PS) (v0 : Nat)  (hTv0 : Ty X.2.1 v0 11) {o : Int32 × PS} (hf : jX11_step_33 X.2.1 n S v0 = some o) (hR : Rt C X cX11_step (some .int) (some (.int o.1)) o.2) : UW C X S 33 [(0, .ref (X.1 v0))] [] := by
  unfold jX11_step_33 at hf
  refine u_aload_n hC dX11_step_33 0 rfl rfl ?_
  refine u_iconst (v := (1 : Int32)) hC dX11_step_34 (by decide) ?_
  obtain ⟨q35, hq35, hf⟩ := kc_some hf
  refine u_callV hC (ctX11_fail (cL C) hC.tr (cG C) X.1 X.2.1 n S v0 (1 : Int32) hTv0 hq35) lk_X11_252 rfl hTv0 (by decide) rfl (by decide) (by decide) rfl rfl (Nat.le_of_ble_eq_true rfl) dX11_step_35 ?_
  cases hf
  exact hR _ _ dX11_step_38 trivial
theorem wjX11_step_72 {C : CT} {X : XT} (hC : CK C RX11 cX11_step 3 (some .int) 54) (n : Nat) (S : PS) (t0 : Int32)   {o : Int32 × PS} (hf : jX11_step_72 X.2.1 n S t0 = some o) (hR : Rt C X cX11_step (some .int) (some (.int o.1)) o.2) : UW C X S 72 [] [.int t0] := by
  unfold jX11_step_72 at hf
  cases hf
  exact hR _ _ dX11_step_72 trivial
theorem wX11_step {C : CT} {X : XT} (hC : CK C RX11 cX11_step 3 (some .int) 54) (n : Nat) (S : PS) (a0 : Nat) (x1_ : Int32) (x2_ : Int32) (hTa0 : Ty X.2.1 a0 11) {o : Int32 × PS} (hf : fX11_step X.2.1 n S a0 x1_ x2_ = some o) (hR : Rt C X cX11_step (some .int) (some (.int o.1)) o.2) : UW C X S 0 [(0, .ref (X.1 a0)), (1, .int x1_), (2, .int x2_)] [] := by
  unfold fX11_step at hf
  refine u_aload_n hC dX11_step_0 0 rfl rfl ?_
  refine u_iconst (v := (0 : Int32)) hC dX11_step_1 (by decide) ?_
  refine u_pi hC lf_X11_70 rfl rfl rfl hTa0 dX11_step_2 hf (fun S2 hf => ?_)
  refine u_aload_n hC dX11_step_5 0 rfl rfl ?_
  refine u_iconst (v := (0 : Int32)) hC dX11_step_6 (by decide) ?_
  obtain ⟨q7, hq7, hf⟩ := kc_some hf
  refine u_callV hC (ctX11_goes (cL C) hC.tr (cG C) X.1 X.2.1 n S2 a0 (0 : Int32) hTa0 hq7) lk_X11_264 rfl hTa0 (by decide) rfl (by decide) (by decide) rfl rfl (Nat.le_of_ble_eq_true rfl) dX11_step_7 ?_
  refine u_iload_n hC dX11_step_10 1 rfl rfl ?_
  refine u_iconst (v := (0 : Int32)) hC dX11_step_11 (by decide) ?_
  refine u_aload_n hC dX11_step_12 0 rfl rfl ?_
  refine u_gi hC lf_X11_157 rfl hTa0 dX11_step_13 hf (fun x13 hf => ?_)
  refine u_iconst (v := (1 : Int32)) hC dX11_step_16 (by decide) ?_
  refine u_isub hC dX11_step_17 ?_
  obtain ⟨q18, hq18, hf⟩ := kc_some hf
  refine u_callS hC (ctX11_isIn (cL C) hC.tr (cG C) X.1 X.2.1 n q7 x1_ (0 : Int32) (x13 - (1 : Int32))  hq18) lk_X11_81 (by decide) (by decide) rfl rfl (Nat.le_of_ble_eq_true rfl) dX11_step_18 ?_
  refine u_if_eq (tgt := 33) hC dX11_step_21 (by decide) hf (fun h21 hf => ?_) (fun h21 hf => ?_)
  · refine u_sub (lv' := [(0, .ref (X.1 a0))]) [0] rfl ?_
    exact wjX11_step_33 hC n q7 a0  hTa0 hf hR
  · refine u_iload_n hC dX11_step_24 2 rfl rfl ?_
    refine u_iconst (v := (0 : Int32)) hC dX11_step_25 (by decide) ?_
    refine u_iconst (v := (2 : Int32)) hC dX11_step_26 (by decide) ?_
    obtain ⟨q27, hq27, hf⟩ := kc_some hf
    refine u_callS hC (ctX11_isIn (cL C) hC.tr (cG C) X.1 X.2.1 n q7 x2_ (0 : Int32) (2 : Int32)  hq27) lk_X11_81 (by decide) (by decide) rfl rfl (Nat.le_of_ble_eq_true rfl) dX11_step_27 ?_
    refine u_if_ne (tgt := 39) hC dX11_step_30 (by decide) hf (fun h30 hf => ?_) (fun h30 hf => ?_)
    · refine u_iload_n hC dX11_step_39 2 rfl rfl ?_
      refine u_if_ne (tgt := 52) hC dX11_step_40 (by decide) hf (fun h40 hf => ?_) (fun h40 hf => ?_)
      · refine u_iload_n hC dX11_step_52 2 rfl rfl ?_
        refine u_iconst (v := (1 : Int32)) hC dX11_step_53 (by decide) ?_
        refine u_icmp_ne (tgt := 66) hC dX11_step_54 (by decide) hf (fun h54 hf => ?_) (fun h54 hf => ?_)
        · refine u_aload_n hC dX11_step_66 0 rfl rfl ?_
          refine u_gr hC lf_X11_49 rfl hTa0 dX11_step_67 hf (fun b67 hTb67 hf => ?_)
          refine u_iload_n hC dX11_step_70 1 rfl rfl ?_
          refine u_ai hC hTb67 dX11_step_71 hf (fun x71 hf => ?_)
          refine u_sub (lv' := []) [] rfl ?_
          exact wjX11_step_72 hC n q7 x71   hf hR
        · refine u_aload_n hC dX11_step_57 0 rfl rfl ?_
          refine u_gr hC lf_X11_46 rfl hTa0 dX11_step_58 hf (fun b58 hTb58 hf => ?_)
          refine u_iload_n hC dX11_step_61 1 rfl rfl ?_
          refine u_ai hC hTb58 dX11_step_62 hf (fun x62 hf => ?_)
          refine u_goto (tgt := 72) hC dX11_step_63 (by decide) ?_
          refine u_sub (lv' := []) [] rfl ?_
          exact wjX11_step_72 hC n q7 x62   hf hR
      · refine u_aload_n hC dX11_step_43 0 rfl rfl ?_
        refine u_gr hC lf_X11_43 rfl hTa0 dX11_step_44 hf (fun b44 hTb44 hf => ?_)
        refine u_iload_n hC dX11_step_47 1 rfl rfl ?_
        refine u_ai hC hTb44 dX11_step_48 hf (fun x48 hf => ?_)
        refine u_goto (tgt := 72) hC dX11_step_49 (by decide) ?_
        refine u_sub (lv' := []) [] rfl ?_
        exact wjX11_step_72 hC n q7 x48   hf hR
    · refine u_sub (lv' := [(0, .ref (X.1 a0))]) [0] rfl ?_
      exact wjX11_step_33 hC n q7 a0  hTa0 hf hR
theorem ctX11_step (l : Launch) (hl : l.stackTraces = false) (G : GT) (ρ : Nat → Nat) (Y : XS) (n : Nat) (S : PS) (a0 : Nat) (x1_ : Int32) (x2_ : Int32) (hTa0 : Ty Y a0 11) {o : Int32 × PS} (hf : fX11_step Y n S a0 x1_ x2_ = some o) : Mt l G yX11_step cX11_step 3 (some .int) 54 ρ Y [.ref (ρ a0), .int x1_, .int x2_] S (some (.int o.1)) o.2 :=
  Mt_of hl (by decide) (Nat.le_of_ble_eq_true rfl) (fun C _ _ hC hR => wX11_step (X := (ρ, Y, 0, 0)) hC n S a0 x1_ x2_ hTa0 hf hR)
-- X11_price
theorem dX11_price_0 : decode cX11_price 0 = .ok (.aload_n 0, 1) := by decide +kernel
theorem dX11_price_1 : decode cX11_price 1 = .ok (.iconst 0, 1) := by decide +kernel
theorem dX11_price_2 : decode cX11_price 2 = .ok (.putfield 70, 3) := by decide +kernel
theorem dX11_price_5 : decode cX11_price 5 = .ok (.aload_n 0, 1) := by decide +kernel
theorem dX11_price_6 : decode cX11_price 6 = .ok (.iconst 0, 1) := by decide +kernel
theorem dX11_price_7 : decode cX11_price 7 = .ok (.invokevirtual 264, 3) := by decide +kernel
theorem dX11_price_10 : decode cX11_price 10 = .ok (.aload_n 0, 1) := by decide +kernel
theorem dX11_price_11 : decode cX11_price 11 = .ok (.iload_n 1, 1) := by decide +kernel
theorem dX11_price_12 : decode cX11_price 12 = .ok (.invokevirtual 255, 3) := by decide +kernel
theorem dX11_price_15 : decode cX11_price 15 = .ok (.ifCond .eq 15, 3) := by decide +kernel
theorem dX11_price_18 : decode cX11_price 18 = .ok (.iload_n 2, 1) := by decide +kernel
theorem dX11_price_19 : decode cX11_price 19 = .ok (.iconst 0, 1) := by decide +kernel
theorem dX11_price_20 : decode cX11_price 20 = .ok (.aload_n 0, 1) := by decide +kernel
theorem dX11_price_21 : decode cX11_price 21 = .ok (.getfield 157, 3) := by decide +kernel
theorem dX11_price_24 : decode cX11_price 24 = .ok (.invokestatic 81, 3) := by decide +kernel
theorem dX11_price_27 : decode cX11_price 27 = .ok (.ifCond .ne 9, 3) := by decide +kernel
theorem dX11_price_30 : decode cX11_price 30 = .ok (.aload_n 0, 1) := by decide +kernel
theorem dX11_price_31 : decode cX11_price 31 = .ok (.iconst 1, 1) := by decide +kernel
theorem dX11_price_32 : decode cX11_price 32 = .ok (.invokevirtual 252, 3) := by decide +kernel
theorem dX11_price_35 : decode cX11_price 35 = .ok (.ireturn, 1) := by decide +kernel
theorem dX11_price_36 : decode cX11_price 36 = .ok (.aload_n 0, 1) := by decide +kernel
theorem dX11_price_37 : decode cX11_price 37 = .ok (.iconst 0, 1) := by decide +kernel
theorem dX11_price_38 : decode cX11_price 38 = .ok (.iload_n 2, 1) := by decide +kernel
theorem dX11_price_39 : decode cX11_price 39 = .ok (.invokevirtual 193, 3) := by decide +kernel
theorem dX11_price_42 : decode cX11_price 42 = .ok (.aload_n 0, 1) := by decide +kernel
theorem dX11_price_43 : decode cX11_price 43 = .ok (.getfield 154, 3) := by decide +kernel
theorem dX11_price_46 : decode cX11_price 46 = .ok (.iload_n 1, 1) := by decide +kernel
theorem dX11_price_47 : decode cX11_price 47 = .ok (.invokestatic 147, 3) := by decide +kernel
theorem dX11_price_50 : decode cX11_price 50 = .ok (.ifCond .eq 7, 3) := by decide +kernel
theorem dX11_price_53 : decode cX11_price 53 = .ok (.iconst (-1), 1) := by decide +kernel
theorem dX11_price_54 : decode cX11_price 54 = .ok (.goto 8, 3) := by decide +kernel
theorem dX11_price_57 : decode cX11_price 57 = .ok (.aload_n 0, 1) := by decide +kernel
theorem dX11_price_58 : decode cX11_price 58 = .ok (.iload_n 1, 1) := by decide +kernel
theorem dX11_price_59 : decode cX11_price 59 = .ok (.invokevirtual 179, 3) := by decide +kernel
theorem dX11_price_62 : decode cX11_price 62 = .ok (.ireturn, 1) := by decide +kernel
def jX11_price_30 (Y : XS) (n : Nat) (S : PS) (v0 : Nat) : Option (Int32 × PS) :=
  kc (fX11_fail Y n S v0 (1 : Int32)) (fun q32 => some (q32.1, q32.2))
def jX11_price_62 (Y : XS) (n : Nat) (S : PS) (t0 : Int32) : Option (Int32 × PS) :=
  some (t0, S)
def fX11_price (Y : XS) (n : Nat) (S : PS) (a0 : Nat) (x1_ : Int32) (x2_ : Int32) : Option (Int32 × PS) :=
  kpi S a0 7 (0 : Int32) (fun S2 => kc (fX11_goes Y n S2 a0 (0 : Int32)) (fun q7 => kc (fX11_isProject Y n q7 a0 x1_) (fun q12 => (if q12 = 0 then jX11_price_30 Y n q7 a0 else kgi q7 a0 22 (fun x21 => kc (fX11_isIn Y n q7 x2_ (0 : Int32) x21) (fun q24 => (if q24 = 0 then jX11_price_30 Y n q7 a0 else kc (fX11_shares Y n q7 a0 (0 : Int32) x2_) (fun q39 => kgi q39 a0 21 (fun x43 => kc (fX11_isOf Y n q39 x43 x1_) (fun q47 => (if q47 = 0 then kc (fX11_priceOf Y n q39 a0 x1_) (fun q59 => jX11_price_62 Y n q59.2 q59.1) else jX11_price_62 Y n q39 (-1 : Int32))))))))))))
theorem wjX11_price_30 {C : CT} {X : XT} (hC : CK C RX11 cX11_price 3 (some .int) 54) (n : Nat) (S : PS) (v0 : Nat)  (hTv0 : Ty X.2.1 v0 11) {o : Int32 × PS} (hf : jX11_price_30 X.2.1 n S v0 = some o) (hR : Rt C X cX11_price (some .int) (some (.int o.1)) o.2) : UW C X S 30 [(0, .ref (X.1 v0))] [] := by
  unfold jX11_price_30 at hf
  refine u_aload_n hC dX11_price_30 0 rfl rfl ?_
  refine u_iconst (v := (1 : Int32)) hC dX11_price_31 (by decide) ?_
  obtain ⟨q32, hq32, hf⟩ := kc_some hf
  refine u_callV hC (ctX11_fail (cL C) hC.tr (cG C) X.1 X.2.1 n S v0 (1 : Int32) hTv0 hq32) lk_X11_252 rfl hTv0 (by decide) rfl (by decide) (by decide) rfl rfl (Nat.le_of_ble_eq_true rfl) dX11_price_32 ?_
  cases hf
  exact hR _ _ dX11_price_35 trivial
theorem wjX11_price_62 {C : CT} {X : XT} (hC : CK C RX11 cX11_price 3 (some .int) 54) (n : Nat) (S : PS) (t0 : Int32)   {o : Int32 × PS} (hf : jX11_price_62 X.2.1 n S t0 = some o) (hR : Rt C X cX11_price (some .int) (some (.int o.1)) o.2) : UW C X S 62 [] [.int t0] := by
  unfold jX11_price_62 at hf
  cases hf
  exact hR _ _ dX11_price_62 trivial
theorem wX11_price {C : CT} {X : XT} (hC : CK C RX11 cX11_price 3 (some .int) 54) (n : Nat) (S : PS) (a0 : Nat) (x1_ : Int32) (x2_ : Int32) (hTa0 : Ty X.2.1 a0 11) {o : Int32 × PS} (hf : fX11_price X.2.1 n S a0 x1_ x2_ = some o) (hR : Rt C X cX11_price (some .int) (some (.int o.1)) o.2) : UW C X S 0 [(0, .ref (X.1 a0)), (1, .int x1_), (2, .int x2_)] [] := by
  unfold fX11_price at hf
  refine u_aload_n hC dX11_price_0 0 rfl rfl ?_
  refine u_iconst (v := (0 : Int32)) hC dX11_price_1 (by decide) ?_
  refine u_pi hC lf_X11_70 rfl rfl rfl hTa0 dX11_price_2 hf (fun S2 hf => ?_)
  refine u_aload_n hC dX11_price_5 0 rfl rfl ?_
  refine u_iconst (v := (0 : Int32)) hC dX11_price_6 (by decide) ?_
  obtain ⟨q7, hq7, hf⟩ := kc_some hf
  refine u_callV hC (ctX11_goes (cL C) hC.tr (cG C) X.1 X.2.1 n S2 a0 (0 : Int32) hTa0 hq7) lk_X11_264 rfl hTa0 (by decide) rfl (by decide) (by decide) rfl rfl (Nat.le_of_ble_eq_true rfl) dX11_price_7 ?_
  refine u_aload_n hC dX11_price_10 0 rfl rfl ?_
  refine u_iload_n hC dX11_price_11 1 rfl rfl ?_
  obtain ⟨q12, hq12, hf⟩ := kc_some hf
  refine u_callV hC (ctX11_isProject (cL C) hC.tr (cG C) X.1 X.2.1 n q7 a0 x1_ hTa0 hq12) lk_X11_255 rfl hTa0 (by decide) rfl (by decide) (by decide) rfl rfl (Nat.le_of_ble_eq_true rfl) dX11_price_12 ?_
  refine u_if_eq (tgt := 30) hC dX11_price_15 (by decide) hf (fun h15 hf => ?_) (fun h15 hf => ?_)
  · refine u_sub (lv' := [(0, .ref (X.1 a0))]) [0] rfl ?_
    exact wjX11_price_30 hC n q7 a0  hTa0 hf hR
  · refine u_iload_n hC dX11_price_18 2 rfl rfl ?_
    refine u_iconst (v := (0 : Int32)) hC dX11_price_19 (by decide) ?_
    refine u_aload_n hC dX11_price_20 0 rfl rfl ?_
    refine u_gi hC lf_X11_157 rfl hTa0 dX11_price_21 hf (fun x21 hf => ?_)
    obtain ⟨q24, hq24, hf⟩ := kc_some hf
    refine u_callS hC (ctX11_isIn (cL C) hC.tr (cG C) X.1 X.2.1 n q7 x2_ (0 : Int32) x21  hq24) lk_X11_81 (by decide) (by decide) rfl rfl (Nat.le_of_ble_eq_true rfl) dX11_price_24 ?_
    refine u_if_ne (tgt := 36) hC dX11_price_27 (by decide) hf (fun h27 hf => ?_) (fun h27 hf => ?_)
    · refine u_aload_n hC dX11_price_36 0 rfl rfl ?_
      refine u_iconst (v := (0 : Int32)) hC dX11_price_37 (by decide) ?_
      refine u_iload_n hC dX11_price_38 2 rfl rfl ?_
      obtain ⟨q39, hq39, hf⟩ := kc_some hf
      refine u_callV hC (ctX11_shares (cL C) hC.tr (cG C) X.1 X.2.1 n q7 a0 (0 : Int32) x2_ hTa0 hq39) lk_X11_193 rfl hTa0 (by decide) rfl (by decide) (by decide) rfl rfl (Nat.le_of_ble_eq_true rfl) dX11_price_39 ?_
      refine u_aload_n hC dX11_price_42 0 rfl rfl ?_
      refine u_gi hC lf_X11_154 rfl hTa0 dX11_price_43 hf (fun x43 hf => ?_)
      refine u_iload_n hC dX11_price_46 1 rfl rfl ?_
      obtain ⟨q47, hq47, hf⟩ := kc_some hf
      refine u_callS hC (ctX11_isOf (cL C) hC.tr (cG C) X.1 X.2.1 n q39 x43 x1_  hq47) lk_X11_147 (by decide) (by decide) rfl rfl (Nat.le_of_ble_eq_true rfl) dX11_price_47 ?_
      refine u_if_eq (tgt := 57) hC dX11_price_50 (by decide) hf (fun h50 hf => ?_) (fun h50 hf => ?_)
      · refine u_aload_n hC dX11_price_57 0 rfl rfl ?_
        refine u_iload_n hC dX11_price_58 1 rfl rfl ?_
        obtain ⟨q59, hq59, hf⟩ := kc_some hf
        refine u_callV hC (ctX11_priceOf (cL C) hC.tr (cG C) X.1 X.2.1 n q39 a0 x1_ hTa0 hq59) lk_X11_179 rfl hTa0 (by decide) rfl (by decide) (by decide) rfl rfl (Nat.le_of_ble_eq_true rfl) dX11_price_59 ?_
        refine u_sub (lv' := []) [] rfl ?_
        exact wjX11_price_62 hC n q59.2 q59.1   hf hR
      · refine u_iconst (v := (-1 : Int32)) hC dX11_price_53 (by decide) ?_
        refine u_goto (tgt := 62) hC dX11_price_54 (by decide) ?_
        refine u_sub (lv' := []) [] rfl ?_
        exact wjX11_price_62 hC n q39 (-1 : Int32)   hf hR
    · refine u_sub (lv' := [(0, .ref (X.1 a0))]) [0] rfl ?_
      exact wjX11_price_30 hC n q7 a0  hTa0 hf hR
theorem ctX11_price (l : Launch) (hl : l.stackTraces = false) (G : GT) (ρ : Nat → Nat) (Y : XS) (n : Nat) (S : PS) (a0 : Nat) (x1_ : Int32) (x2_ : Int32) (hTa0 : Ty Y a0 11) {o : Int32 × PS} (hf : fX11_price Y n S a0 x1_ x2_ = some o) : Mt l G yX11_price cX11_price 3 (some .int) 54 ρ Y [.ref (ρ a0), .int x1_, .int x2_] S (some (.int o.1)) o.2 :=
  Mt_of hl (by decide) (Nat.le_of_ble_eq_true rfl) (fun C _ _ hC hR => wX11_price (X := (ρ, Y, 0, 0)) hC n S a0 x1_ x2_ hTa0 hf hR)
-- X11_isGroup
theorem dX11_isGroup_0 : decode cX11_isGroup 0 = .ok (.iload_n 1, 1) := by decide +kernel
theorem dX11_isGroup_1 : decode cX11_isGroup 1 = .ok (.iconst 1, 1) := by decide +kernel
theorem dX11_isGroup_2 : decode cX11_isGroup 2 = .ok (.iconst 1, 1) := by decide +kernel
theorem dX11_isGroup_3 : decode cX11_isGroup 3 = .ok (.aload_n 0, 1) := by decide +kernel
theorem dX11_isGroup_4 : decode cX11_isGroup 4 = .ok (.invokevirtual 77, 3) := by decide +kernel
theorem dX11_isGroup_7 : decode cX11_isGroup 7 = .ok (.ishl, 1) := by decide +kernel
theorem dX11_isGroup_8 : decode cX11_isGroup 8 = .ok (.iconst 1, 1) := by decide +kernel
theorem dX11_isGroup_9 : decode cX11_isGroup 9 = .ok (.isub, 1) := by decide +kernel
theorem dX11_isGroup_10 : decode cX11_isGroup 10 = .ok (.invokestatic 81, 3) := by decide +kernel
theorem dX11_isGroup_13 : decode cX11_isGroup 13 = .ok (.ireturn, 1) := by decide +kernel
def fX11_isGroup (Y : XS) (n : Nat) (S : PS) (a0 : Nat) (x1_ : Int32) : Option (Int32) :=
  kc (fX11_many Y n S a0) (fun q4 => kc (fX11_isIn Y n S x1_ (1 : Int32) (((1 : Int32) <<< (q4 &&& 31)) - (1 : Int32))) (fun q10 => kzr q10 (some q10)))
theorem wX11_isGroup {C : CT} {X : XT} (hC : CK C RX11 cX11_isGroup 2 (some .boolean) 2) (n : Nat) (S : PS) (a0 : Nat) (x1_ : Int32) (hTa0 : Ty X.2.1 a0 11) {o : Int32} (hf : fX11_isGroup X.2.1 n S a0 x1_ = some o) (hR : Rt C X cX11_isGroup (some .boolean) (some (.int o)) S) : UW C X S 0 [(0, .ref (X.1 a0)), (1, .int x1_)] [] := by
  unfold fX11_isGroup at hf
  refine u_iload_n hC dX11_isGroup_0 1 rfl rfl ?_
  refine u_iconst (v := (1 : Int32)) hC dX11_isGroup_1 (by decide) ?_
  refine u_iconst (v := (1 : Int32)) hC dX11_isGroup_2 (by decide) ?_
  refine u_aload_n hC dX11_isGroup_3 0 rfl rfl ?_
  obtain ⟨q4, hq4, hf⟩ := kc_some hf
  refine u_callV hC (ctX11_many (cL C) hC.tr (cG C) X.1 X.2.1 n S a0 hTa0 hq4) lk_X11_77 rfl hTa0 (by decide) rfl (by decide) (by decide) rfl rfl (Nat.le_of_ble_eq_true rfl) dX11_isGroup_4 ?_
  refine u_ishl hC dX11_isGroup_7 ?_
  refine u_iconst (v := (1 : Int32)) hC dX11_isGroup_8 (by decide) ?_
  refine u_isub hC dX11_isGroup_9 ?_
  obtain ⟨q10, hq10, hf⟩ := kc_some hf
  refine u_callS hC (ctX11_isIn (cL C) hC.tr (cG C) X.1 X.2.1 n S x1_ (1 : Int32) (((1 : Int32) <<< (q4 &&& 31)) - (1 : Int32))  hq10) lk_X11_81 (by decide) (by decide) rfl rfl (Nat.le_of_ble_eq_true rfl) dX11_isGroup_10 ?_
  obtain ⟨hz, hf⟩ := kzr_some hf
  cases hf
  exact hR _ _ dX11_isGroup_13 hz
theorem ctX11_isGroup (l : Launch) (hl : l.stackTraces = false) (G : GT) (ρ : Nat → Nat) (Y : XS) (n : Nat) (S : PS) (a0 : Nat) (x1_ : Int32) (hTa0 : Ty Y a0 11) {o : Int32} (hf : fX11_isGroup Y n S a0 x1_ = some o) : Mt l G yX11_isGroup cX11_isGroup 2 (some .boolean) 2 ρ Y [.ref (ρ a0), .int x1_] S (some (.int o)) S :=
  Mt_of hl (by decide) (Nat.le_of_ble_eq_true rfl) (fun C _ _ hC hR => wX11_isGroup (X := (ρ, Y, 0, 0)) hC n S a0 x1_ hTa0 hf hR)
-- X11_membersOf
theorem dX11_membersOf_0 : decode cX11_membersOf 0 = .ok (.iconst 0, 1) := by decide +kernel
theorem dX11_membersOf_1 : decode cX11_membersOf 1 = .ok (.istore_n 2, 1) := by decide +kernel
theorem dX11_membersOf_2 : decode cX11_membersOf 2 = .ok (.iconst 0, 1) := by decide +kernel
theorem dX11_membersOf_3 : decode cX11_membersOf 3 = .ok (.istore_n 3, 1) := by decide +kernel
theorem dX11_membersOf_4 : decode cX11_membersOf 4 = .ok (.iload_n 3, 1) := by decide +kernel
theorem dX11_membersOf_5 : decode cX11_membersOf 5 = .ok (.aload_n 0, 1) := by decide +kernel
theorem dX11_membersOf_6 : decode cX11_membersOf 6 = .ok (.invokevirtual 85, 3) := by decide +kernel
theorem dX11_membersOf_9 : decode cX11_membersOf 9 = .ok (.if_icmp .ge 81, 3) := by decide +kernel
theorem dX11_membersOf_12 : decode cX11_membersOf 12 = .ok (.iconst 1, 1) := by decide +kernel
theorem dX11_membersOf_13 : decode cX11_membersOf 13 = .ok (.istore 4, 2) := by decide +kernel
theorem dX11_membersOf_15 : decode cX11_membersOf 15 = .ok (.iconst 0, 1) := by decide +kernel
theorem dX11_membersOf_16 : decode cX11_membersOf 16 = .ok (.istore 5, 2) := by decide +kernel
theorem dX11_membersOf_18 : decode cX11_membersOf 18 = .ok (.iload 5, 2) := by decide +kernel
theorem dX11_membersOf_20 : decode cX11_membersOf 20 = .ok (.aload_n 0, 1) := by decide +kernel
theorem dX11_membersOf_21 : decode cX11_membersOf 21 = .ok (.invokevirtual 77, 3) := by decide +kernel
theorem dX11_membersOf_24 : decode cX11_membersOf 24 = .ok (.if_icmp .ge 45, 3) := by decide +kernel
theorem dX11_membersOf_27 : decode cX11_membersOf 27 = .ok (.iload 4, 2) := by decide +kernel
theorem dX11_membersOf_29 : decode cX11_membersOf 29 = .ok (.ifCond .eq 31, 3) := by decide +kernel
theorem dX11_membersOf_32 : decode cX11_membersOf 32 = .ok (.iload_n 1, 1) := by decide +kernel
theorem dX11_membersOf_33 : decode cX11_membersOf 33 = .ok (.iload 5, 2) := by decide +kernel
theorem dX11_membersOf_35 : decode cX11_membersOf 35 = .ok (.invokestatic 147, 3) := by decide +kernel
theorem dX11_membersOf_38 : decode cX11_membersOf 38 = .ok (.ifCond .eq 18, 3) := by decide +kernel
theorem dX11_membersOf_41 : decode cX11_membersOf 41 = .ok (.aload_n 0, 1) := by decide +kernel
theorem dX11_membersOf_42 : decode cX11_membersOf 42 = .ok (.getfield 25, 3) := by decide +kernel
theorem dX11_membersOf_45 : decode cX11_membersOf 45 = .ok (.bipush 12, 2) := by decide +kernel
theorem dX11_membersOf_47 : decode cX11_membersOf 47 = .ok (.iload_n 3, 1) := by decide +kernel
theorem dX11_membersOf_48 : decode cX11_membersOf 48 = .ok (.imul, 1) := by decide +kernel
theorem dX11_membersOf_49 : decode cX11_membersOf 49 = .ok (.iload 5, 2) := by decide +kernel
theorem dX11_membersOf_51 : decode cX11_membersOf 51 = .ok (.iadd, 1) := by decide +kernel
theorem dX11_membersOf_52 : decode cX11_membersOf 52 = .ok (.iaload, 1) := by decide +kernel
theorem dX11_membersOf_53 : decode cX11_membersOf 53 = .ok (.ifCond .le 7, 3) := by decide +kernel
theorem dX11_membersOf_56 : decode cX11_membersOf 56 = .ok (.iconst 1, 1) := by decide +kernel
theorem dX11_membersOf_57 : decode cX11_membersOf 57 = .ok (.goto 4, 3) := by decide +kernel
theorem dX11_membersOf_60 : decode cX11_membersOf 60 = .ok (.iconst 0, 1) := by decide +kernel
theorem dX11_membersOf_61 : decode cX11_membersOf 61 = .ok (.istore 4, 2) := by decide +kernel
theorem dX11_membersOf_63 : decode cX11_membersOf 63 = .ok (.iinc 5 1, 3) := by decide +kernel
theorem dX11_membersOf_66 : decode cX11_membersOf 66 = .ok (.goto (-48), 3) := by decide +kernel
theorem dX11_membersOf_69 : decode cX11_membersOf 69 = .ok (.iload_n 2, 1) := by decide +kernel
theorem dX11_membersOf_70 : decode cX11_membersOf 70 = .ok (.iload 4, 2) := by decide +kernel
theorem dX11_membersOf_72 : decode cX11_membersOf 72 = .ok (.ifCond .eq 9, 3) := by decide +kernel
theorem dX11_membersOf_75 : decode cX11_membersOf 75 = .ok (.iconst 1, 1) := by decide +kernel
theorem dX11_membersOf_76 : decode cX11_membersOf 76 = .ok (.iload_n 3, 1) := by decide +kernel
theorem dX11_membersOf_77 : decode cX11_membersOf 77 = .ok (.ishl, 1) := by decide +kernel
theorem dX11_membersOf_78 : decode cX11_membersOf 78 = .ok (.goto 4, 3) := by decide +kernel
theorem dX11_membersOf_81 : decode cX11_membersOf 81 = .ok (.iconst 0, 1) := by decide +kernel
theorem dX11_membersOf_82 : decode cX11_membersOf 82 = .ok (.ior, 1) := by decide +kernel
theorem dX11_membersOf_83 : decode cX11_membersOf 83 = .ok (.istore_n 2, 1) := by decide +kernel
theorem dX11_membersOf_84 : decode cX11_membersOf 84 = .ok (.iinc 3 1, 3) := by decide +kernel
theorem dX11_membersOf_87 : decode cX11_membersOf 87 = .ok (.goto (-83), 3) := by decide +kernel
theorem dX11_membersOf_90 : decode cX11_membersOf 90 = .ok (.iload_n 2, 1) := by decide +kernel
theorem dX11_membersOf_91 : decode cX11_membersOf 91 = .ok (.ireturn, 1) := by decide +kernel
def jX11_membersOf_61_18 (Y : XS) (n : Nat) (S : PS) (v0 : Nat) (v1 : Int32) (v2 : Int32) (v3 : Int32) (v5 : Int32) (t0 : Int32) : Option ((Int32 × Int32) ⊕ Int32) :=
  some (.inl (t0, v5 + (1 : Int32)))
def jX11_membersOf_60_18 (Y : XS) (n : Nat) (S : PS) (v0 : Nat) (v1 : Int32) (v2 : Int32) (v3 : Int32) (v5 : Int32) : Option ((Int32 × Int32) ⊕ Int32) :=
  jX11_membersOf_61_18 Y n S v0 v1 v2 v3 v5 (0 : Int32)
def jX11_membersOf_56_18 (Y : XS) (n : Nat) (S : PS) (v0 : Nat) (v1 : Int32) (v2 : Int32) (v3 : Int32) (v5 : Int32) : Option ((Int32 × Int32) ⊕ Int32) :=
  jX11_membersOf_61_18 Y n S v0 v1 v2 v3 v5 (1 : Int32)
def bX11_membersOf_18 (Y : XS) (n : Nat) (S : PS) (v0 : Nat) (v1 : Int32) (v2 : Int32) (v3 : Int32) (s18 : (Int32 × Int32)) : Option ((Int32 × Int32) ⊕ Int32) :=
  kc (fX11_many Y n S v0) (fun q21 => (if q21 ≤ s18.2 then some (.inr s18.1) else (if s18.1 = 0 then jX11_membersOf_60_18 Y n S v0 v1 v2 v3 s18.2 else kc (fX11_isOf Y n S v1 s18.2) (fun q35 => (if q35 = 0 then jX11_membersOf_56_18 Y n S v0 v1 v2 v3 s18.2 else kgr S v0 12 (fun b42 => kai Y S b42 (((12 : Int32) * v3) + s18.2) (fun x52 => (if x52 ≤ 0 then jX11_membersOf_60_18 Y n S v0 v1 v2 v3 s18.2 else jX11_membersOf_56_18 Y n S v0 v1 v2 v3 s18.2))))))))
def jX11_membersOf_82_4 (Y : XS) (n : Nat) (S : PS) (v0 : Nat) (v1 : Int32) (v3 : Int32) (t0 : Int32) (t1 : Int32) : Option ((Int32 × Int32) ⊕ Int32) :=
  some (.inl (t1 ||| t0, v3 + (1 : Int32)))
def bX11_membersOf_4 (Y : XS) (n : Nat) (S : PS) (v0 : Nat) (v1 : Int32) (s4 : (Int32 × Int32)) : Option ((Int32 × Int32) ⊕ Int32) :=
  kc (fX11_people Y n S v0) (fun q6 => (if q6 ≤ s4.2 then some (.inr s4.1) else kc (iter (bX11_membersOf_18 Y n S v0 v1 s4.1 s4.2) n ((1 : Int32), (0 : Int32))) (fun r18 => (if r18 = 0 then jX11_membersOf_82_4 Y n S v0 v1 s4.2 (0 : Int32) s4.1 else jX11_membersOf_82_4 Y n S v0 v1 s4.2 ((1 : Int32) <<< (s4.2 &&& 31)) s4.1))))
def fX11_membersOf (Y : XS) (n : Nat) (S : PS) (a0 : Nat) (x1_ : Int32) : Option (Int32) :=
  kc (iter (bX11_membersOf_4 Y n S a0 x1_) n ((0 : Int32), (0 : Int32))) (fun r4 => some r4)
theorem wjX11_membersOf_61_18 {C : CT} {X : XT} (hC : CK C RX11 cX11_membersOf 6 (some .int) 2) (n : Nat) (S : PS) (v0 : Nat) (v1 : Int32) (v2 : Int32) (v3 : Int32) (v5 : Int32) (t0 : Int32)  (hTv0 : Ty X.2.1 v0 11) {o : (Int32 × Int32) ⊕ Int32} (hf : jX11_membersOf_61_18 X.2.1 n S v0 v1 v2 v3 v5 t0 = some o) (hN : ∀ s', o = .inl s' → UW C X S 18 [(0, .ref (X.1 v0)), (1, .int v1), (2, .int v2), (3, .int v3), (4, .int s'.1), (5, .int s'.2)] []) (hO0 : ∀ p', o = .inr p' → UW C X S 69 [(0, .ref (X.1 v0)), (1, .int v1), (2, .int v2), (3, .int v3), (4, .int p')] []) : UW C X S 61 [(0, .ref (X.1 v0)), (1, .int v1), (2, .int v2), (3, .int v3), (5, .int v5)] [.int t0] := by
  unfold jX11_membersOf_61_18 at hf
  refine u_istore (lv' := [(4, .int t0), (0, .ref (X.1 v0)), (1, .int v1), (2, .int v2), (3, .int v3), (5, .int v5)]) hC dX11_membersOf_61 (by decide) rfl ?_
  refine u_iinc (v := v5 + (1 : Int32)) (lv' := [(5, .int (v5 + (1 : Int32))), (4, .int t0), (0, .ref (X.1 v0)), (1, .int v1), (2, .int v2), (3, .int v3)]) hC dX11_membersOf_63 5 rfl rfl (by decide) rfl ?_
  refine u_goto (tgt := 18) hC dX11_membersOf_66 (by decide) ?_
  refine u_sub (lv' := [(0, .ref (X.1 v0)), (1, .int v1), (2, .int v2), (3, .int v3), (4, .int t0), (5, .int (v5 + (1 : Int32)))]) [2, 3, 4, 5, 1, 0] rfl ?_
  exact hN _ (Option.some.inj hf).symm
theorem wjX11_membersOf_60_18 {C : CT} {X : XT} (hC : CK C RX11 cX11_membersOf 6 (some .int) 2) (n : Nat) (S : PS) (v0 : Nat) (v1 : Int32) (v2 : Int32) (v3 : Int32) (v5 : Int32)  (hTv0 : Ty X.2.1 v0 11) {o : (Int32 × Int32) ⊕ Int32} (hf : jX11_membersOf_60_18 X.2.1 n S v0 v1 v2 v3 v5 = some o) (hN : ∀ s', o = .inl s' → UW C X S 18 [(0, .ref (X.1 v0)), (1, .int v1), (2, .int v2), (3, .int v3), (4, .int s'.1), (5, .int s'.2)] []) (hO0 : ∀ p', o = .inr p' → UW C X S 69 [(0, .ref (X.1 v0)), (1, .int v1), (2, .int v2), (3, .int v3), (4, .int p')] []) : UW C X S 60 [(0, .ref (X.1 v0)), (1, .int v1), (2, .int v2), (3, .int v3), (5, .int v5)] [] := by
  unfold jX11_membersOf_60_18 at hf
  refine u_iconst (v := (0 : Int32)) hC dX11_membersOf_60 (by decide) ?_
  exact wjX11_membersOf_61_18 hC n S v0 v1 v2 v3 v5 (0 : Int32)  hTv0 hf hN hO0
theorem wjX11_membersOf_56_18 {C : CT} {X : XT} (hC : CK C RX11 cX11_membersOf 6 (some .int) 2) (n : Nat) (S : PS) (v0 : Nat) (v1 : Int32) (v2 : Int32) (v3 : Int32) (v5 : Int32)  (hTv0 : Ty X.2.1 v0 11) {o : (Int32 × Int32) ⊕ Int32} (hf : jX11_membersOf_56_18 X.2.1 n S v0 v1 v2 v3 v5 = some o) (hN : ∀ s', o = .inl s' → UW C X S 18 [(0, .ref (X.1 v0)), (1, .int v1), (2, .int v2), (3, .int v3), (4, .int s'.1), (5, .int s'.2)] []) (hO0 : ∀ p', o = .inr p' → UW C X S 69 [(0, .ref (X.1 v0)), (1, .int v1), (2, .int v2), (3, .int v3), (4, .int p')] []) : UW C X S 56 [(0, .ref (X.1 v0)), (1, .int v1), (2, .int v2), (3, .int v3), (5, .int v5)] [] := by
  unfold jX11_membersOf_56_18 at hf
  refine u_iconst (v := (1 : Int32)) hC dX11_membersOf_56 (by decide) ?_
  refine u_goto (tgt := 61) hC dX11_membersOf_57 (by decide) ?_
  exact wjX11_membersOf_61_18 hC n S v0 v1 v2 v3 v5 (1 : Int32)  hTv0 hf hN hO0
theorem wbX11_membersOf_18 {C : CT} {X : XT} (hC : CK C RX11 cX11_membersOf 6 (some .int) 2) (n : Nat) (S : PS) (v0 : Nat) (v1 : Int32) (v2 : Int32) (v3 : Int32) (hTv0 : Ty X.2.1 v0 11) (s18 : (Int32 × Int32)) {o : (Int32 × Int32) ⊕ Int32} (hf : bX11_membersOf_18 X.2.1 n S v0 v1 v2 v3 s18 = some o) (hN : ∀ s', o = .inl s' → UW C X S 18 [(0, .ref (X.1 v0)), (1, .int v1), (2, .int v2), (3, .int v3), (4, .int s'.1), (5, .int s'.2)] []) (hO0 : ∀ p', o = .inr p' → UW C X S 69 [(0, .ref (X.1 v0)), (1, .int v1), (2, .int v2), (3, .int v3), (4, .int p')] []) : UW C X S 18 [(0, .ref (X.1 v0)), (1, .int v1), (2, .int v2), (3, .int v3), (4, .int s18.1), (5, .int s18.2)] [] := by
  unfold bX11_membersOf_18 at hf
  refine u_iload hC dX11_membersOf_18 5 rfl ?_
  refine u_aload_n hC dX11_membersOf_20 0 rfl rfl ?_
  obtain ⟨q21, hq21, hf⟩ := kc_some hf
  refine u_callV hC (ctX11_many (cL C) hC.tr (cG C) X.1 X.2.1 n S v0 hTv0 hq21) lk_X11_77 rfl hTv0 (by decide) rfl (by decide) (by decide) rfl rfl (Nat.le_of_ble_eq_true rfl) dX11_membersOf_21 ?_
  refine u_icmp_ge (tgt := 69) hC dX11_membersOf_24 (by decide) hf (fun h24 hf => ?_) (fun h24 hf => ?_)
  · refine u_sub (lv' := [(0, .ref (X.1 v0)), (1, .int v1), (2, .int v2), (3, .int v3), (4, .int s18.1)]) [0, 1, 2, 3, 4] rfl ?_
    exact hO0 _ (Option.some.inj hf).symm
  · refine u_iload hC dX11_membersOf_27 4 rfl ?_
    refine u_if_eq (tgt := 60) hC dX11_membersOf_29 (by decide) hf (fun h29 hf => ?_) (fun h29 hf => ?_)
    · refine u_sub (lv' := [(0, .ref (X.1 v0)), (1, .int v1), (2, .int v2), (3, .int v3), (5, .int s18.2)]) [0, 1, 2, 3, 5] rfl ?_
      exact wjX11_membersOf_60_18 hC n S v0 v1 v2 v3 s18.2  hTv0 hf hN hO0
    · refine u_iload_n hC dX11_membersOf_32 1 rfl rfl ?_
      refine u_iload hC dX11_membersOf_33 5 rfl ?_
      obtain ⟨q35, hq35, hf⟩ := kc_some hf
      refine u_callS hC (ctX11_isOf (cL C) hC.tr (cG C) X.1 X.2.1 n S v1 s18.2  hq35) lk_X11_147 (by decide) (by decide) rfl rfl (Nat.le_of_ble_eq_true rfl) dX11_membersOf_35 ?_
      refine u_if_eq (tgt := 56) hC dX11_membersOf_38 (by decide) hf (fun h38 hf => ?_) (fun h38 hf => ?_)
      · refine u_sub (lv' := [(0, .ref (X.1 v0)), (1, .int v1), (2, .int v2), (3, .int v3), (5, .int s18.2)]) [0, 1, 2, 3, 5] rfl ?_
        exact wjX11_membersOf_56_18 hC n S v0 v1 v2 v3 s18.2  hTv0 hf hN hO0
      · refine u_aload_n hC dX11_membersOf_41 0 rfl rfl ?_
        refine u_gr hC lf_X11_25 rfl hTv0 dX11_membersOf_42 hf (fun b42 hTb42 hf => ?_)
        refine u_bipush (v := (12 : Int32)) hC dX11_membersOf_45 (by decide) ?_
        refine u_iload_n hC dX11_membersOf_47 3 rfl rfl ?_
        refine u_imul hC dX11_membersOf_48 ?_
        refine u_iload hC dX11_membersOf_49 5 rfl ?_
        refine u_iadd hC dX11_membersOf_51 ?_
        refine u_ai hC hTb42 dX11_membersOf_52 hf (fun x52 hf => ?_)
        refine u_if_le (tgt := 60) hC dX11_membersOf_53 (by decide) hf (fun h53 hf => ?_) (fun h53 hf => ?_)
        · refine u_sub (lv' := [(0, .ref (X.1 v0)), (1, .int v1), (2, .int v2), (3, .int v3), (5, .int s18.2)]) [0, 1, 2, 3, 5] rfl ?_
          exact wjX11_membersOf_60_18 hC n S v0 v1 v2 v3 s18.2  hTv0 hf hN hO0
        · refine u_sub (lv' := [(0, .ref (X.1 v0)), (1, .int v1), (2, .int v2), (3, .int v3), (5, .int s18.2)]) [0, 1, 2, 3, 5] rfl ?_
          exact wjX11_membersOf_56_18 hC n S v0 v1 v2 v3 s18.2  hTv0 hf hN hO0
theorem wjX11_membersOf_82_4 {C : CT} {X : XT} (hC : CK C RX11 cX11_membersOf 6 (some .int) 2) (n : Nat) (S : PS) (v0 : Nat) (v1 : Int32) (v3 : Int32) (t0 : Int32) (t1 : Int32)  (hTv0 : Ty X.2.1 v0 11) {o : (Int32 × Int32) ⊕ Int32} (hf : jX11_membersOf_82_4 X.2.1 n S v0 v1 v3 t0 t1 = some o) (hN : ∀ s', o = .inl s' → UW C X S 4 [(0, .ref (X.1 v0)), (1, .int v1), (2, .int s'.1), (3, .int s'.2)] []) (hO0 : ∀ p', o = .inr p' → UW C X S 90 [(2, .int p')] []) : UW C X S 82 [(0, .ref (X.1 v0)), (1, .int v1), (3, .int v3)] [.int t0, .int t1] := by
  unfold jX11_membersOf_82_4 at hf
  refine u_ior hC dX11_membersOf_82 ?_
  refine u_istore_n (lv' := [(2, .int (t1 ||| t0)), (0, .ref (X.1 v0)), (1, .int v1), (3, .int v3)]) hC dX11_membersOf_83 rfl (by decide) rfl ?_
  refine u_iinc (v := v3 + (1 : Int32)) (lv' := [(3, .int (v3 + (1 : Int32))), (2, .int (t1 ||| t0)), (0, .ref (X.1 v0)), (1, .int v1)]) hC dX11_membersOf_84 3 rfl rfl (by decide) rfl ?_
  refine u_goto (tgt := 4) hC dX11_membersOf_87 (by decide) ?_
  refine u_sub (lv' := [(0, .ref (X.1 v0)), (1, .int v1), (2, .int (t1 ||| t0)), (3, .int (v3 + (1 : Int32)))]) [2, 3, 1, 0] rfl ?_
  exact hN _ (Option.some.inj hf).symm
theorem wbX11_membersOf_4 {C : CT} {X : XT} (hC : CK C RX11 cX11_membersOf 6 (some .int) 2) (n : Nat) (S : PS) (v0 : Nat) (v1 : Int32) (hTv0 : Ty X.2.1 v0 11) (s4 : (Int32 × Int32)) {o : (Int32 × Int32) ⊕ Int32} (hf : bX11_membersOf_4 X.2.1 n S v0 v1 s4 = some o) (hN : ∀ s', o = .inl s' → UW C X S 4 [(0, .ref (X.1 v0)), (1, .int v1), (2, .int s'.1), (3, .int s'.2)] []) (hO0 : ∀ p', o = .inr p' → UW C X S 90 [(2, .int p')] []) : UW C X S 4 [(0, .ref (X.1 v0)), (1, .int v1), (2, .int s4.1), (3, .int s4.2)] [] := by
  unfold bX11_membersOf_4 at hf
  refine u_iload_n hC dX11_membersOf_4 3 rfl rfl ?_
  refine u_aload_n hC dX11_membersOf_5 0 rfl rfl ?_
  obtain ⟨q6, hq6, hf⟩ := kc_some hf
  refine u_callV hC (ctX11_people (cL C) hC.tr (cG C) X.1 X.2.1 n S v0 hTv0 hq6) lk_X11_85 rfl hTv0 (by decide) rfl (by decide) (by decide) rfl rfl (Nat.le_of_ble_eq_true rfl) dX11_membersOf_6 ?_
  refine u_icmp_ge (tgt := 90) hC dX11_membersOf_9 (by decide) hf (fun h9 hf => ?_) (fun h9 hf => ?_)
  · refine u_sub (lv' := [(2, .int s4.1)]) [2] rfl ?_
    exact hO0 _ (Option.some.inj hf).symm
  · refine u_iconst (v := (1 : Int32)) hC dX11_membersOf_12 (by decide) ?_
    refine u_istore (lv' := [(4, .int (1 : Int32)), (0, .ref (X.1 v0)), (1, .int v1), (2, .int s4.1), (3, .int s4.2)]) hC dX11_membersOf_13 (by decide) rfl ?_
    refine u_iconst (v := (0 : Int32)) hC dX11_membersOf_15 (by decide) ?_
    refine u_istore (lv' := [(5, .int (0 : Int32)), (4, .int (1 : Int32)), (0, .ref (X.1 v0)), (1, .int v1), (2, .int s4.1), (3, .int s4.2)]) hC dX11_membersOf_16 (by decide) rfl ?_
    obtain ⟨r18, hr18, hf⟩ := kc_some hf
    have hk18 : UW C X S 69 [(0, .ref (X.1 v0)), (1, .int v1), (2, .int s4.1), (3, .int s4.2), (4, .int r18)] [] := by
      refine u_iload_n hC dX11_membersOf_69 2 rfl rfl ?_
      refine u_iload hC dX11_membersOf_70 4 rfl ?_
      refine u_if_eq (tgt := 81) hC dX11_membersOf_72 (by decide) hf (fun h72 hf => ?_) (fun h72 hf => ?_)
      · refine u_iconst (v := (0 : Int32)) hC dX11_membersOf_81 (by decide) ?_
        refine u_sub (lv' := [(0, .ref (X.1 v0)), (1, .int v1), (3, .int s4.2)]) [0, 1, 3] rfl ?_
        exact wjX11_membersOf_82_4 hC n S v0 v1 s4.2 (0 : Int32) s4.1  hTv0 hf hN hO0
      · refine u_iconst (v := (1 : Int32)) hC dX11_membersOf_75 (by decide) ?_
        refine u_iload_n hC dX11_membersOf_76 3 rfl rfl ?_
        refine u_ishl hC dX11_membersOf_77 ?_
        refine u_goto (tgt := 82) hC dX11_membersOf_78 (by decide) ?_
        refine u_sub (lv' := [(0, .ref (X.1 v0)), (1, .int v1), (3, .int s4.2)]) [0, 1, 3] rfl ?_
        exact wjX11_membersOf_82_4 hC n S v0 v1 s4.2 ((1 : Int32) <<< (s4.2 &&& 31)) s4.1  hTv0 hf hN hO0
    refine u_sub (lv' := [(0, .ref (X.1 v0)), (1, .int v1), (2, .int s4.1), (3, .int s4.2), (4, .int (1 : Int32)), (5, .int (0 : Int32))]) [2, 3, 4, 5, 1, 0] rfl ?_
    refine iter_ind (P := fun s18 => UW C X S 18 [(0, .ref (X.1 v0)), (1, .int v1), (2, .int s4.1), (3, .int s4.2), (4, .int s18.1), (5, .int s18.2)] []) (fun s18 o' hb hin hout => ?_) n ((1 : Int32), (0 : Int32)) hr18
    exact wbX11_membersOf_18 hC n S v0 v1 s4.1 s4.2 hTv0 s18 hb hin (fun p e => by rw [hout p e]; exact hk18)
theorem wX11_membersOf {C : CT} {X : XT} (hC : CK C RX11 cX11_membersOf 6 (some .int) 2) (n : Nat) (S : PS) (a0 : Nat) (x1_ : Int32) (hTa0 : Ty X.2.1 a0 11) {o : Int32} (hf : fX11_membersOf X.2.1 n S a0 x1_ = some o) (hR : Rt C X cX11_membersOf (some .int) (some (.int o)) S) : UW C X S 0 [(0, .ref (X.1 a0)), (1, .int x1_)] [] := by
  unfold fX11_membersOf at hf
  refine u_iconst (v := (0 : Int32)) hC dX11_membersOf_0 (by decide) ?_
  refine u_istore_n (lv' := [(2, .int (0 : Int32)), (0, .ref (X.1 a0)), (1, .int x1_)]) hC dX11_membersOf_1 rfl (by decide) rfl ?_
  refine u_iconst (v := (0 : Int32)) hC dX11_membersOf_2 (by decide) ?_
  refine u_istore_n (lv' := [(3, .int (0 : Int32)), (2, .int (0 : Int32)), (0, .ref (X.1 a0)), (1, .int x1_)]) hC dX11_membersOf_3 rfl (by decide) rfl ?_
  obtain ⟨r4, hr4, hf⟩ := kc_some hf
  have hk4 : UW C X S 90 [(2, .int r4)] [] := by
    refine u_iload_n hC dX11_membersOf_90 0 rfl rfl ?_
    cases hf
    exact hR _ _ dX11_membersOf_91 trivial
  refine u_sub (lv' := [(0, .ref (X.1 a0)), (1, .int x1_), (2, .int (0 : Int32)), (3, .int (0 : Int32))]) [2, 3, 1, 0] rfl ?_
  refine iter_ind (P := fun s4 => UW C X S 4 [(0, .ref (X.1 a0)), (1, .int x1_), (2, .int s4.1), (3, .int s4.2)] []) (fun s4 o' hb hin hout => ?_) n ((0 : Int32), (0 : Int32)) hr4
  exact wbX11_membersOf_4 hC n S a0 x1_ hTa0 s4 hb hin (fun p e => by rw [hout p e]; exact hk4)
theorem ctX11_membersOf (l : Launch) (hl : l.stackTraces = false) (G : GT) (ρ : Nat → Nat) (Y : XS) (n : Nat) (S : PS) (a0 : Nat) (x1_ : Int32) (hTa0 : Ty Y a0 11) {o : Int32} (hf : fX11_membersOf Y n S a0 x1_ = some o) : Mt l G yX11_membersOf cX11_membersOf 6 (some .int) 2 ρ Y [.ref (ρ a0), .int x1_] S (some (.int o)) S :=
  Mt_of hl (by decide) (Nat.le_of_ble_eq_true rfl) (fun C _ _ hC hR => wX11_membersOf (X := (ρ, Y, 0, 0)) hC n S a0 x1_ hTa0 hf hR)
-- X11_isDue
theorem dX11_isDue_0 : decode cX11_isDue 0 = .ok (.aload_n 0, 1) := by decide +kernel
theorem dX11_isDue_1 : decode cX11_isDue 1 = .ok (.iload_n 1, 1) := by decide +kernel
theorem dX11_isDue_2 : decode cX11_isDue 2 = .ok (.invokevirtual 276, 3) := by decide +kernel
theorem dX11_isDue_5 : decode cX11_isDue 5 = .ok (.invokestatic 279, 3) := by decide +kernel
theorem dX11_isDue_8 : decode cX11_isDue 8 = .ok (.istore_n 2, 1) := by decide +kernel
theorem dX11_isDue_9 : decode cX11_isDue 9 = .ok (.iload_n 2, 1) := by decide +kernel
theorem dX11_isDue_10 : decode cX11_isDue 10 = .ok (.ifCond .le 28, 3) := by decide +kernel
theorem dX11_isDue_13 : decode cX11_isDue 13 = .ok (.iload_n 2, 1) := by decide +kernel
theorem dX11_isDue_14 : decode cX11_isDue 14 = .ok (.aload_n 0, 1) := by decide +kernel
theorem dX11_isDue_15 : decode cX11_isDue 15 = .ok (.getfield 9, 3) := by decide +kernel
theorem dX11_isDue_18 : decode cX11_isDue 18 = .ok (.iconst 0, 1) := by decide +kernel
theorem dX11_isDue_19 : decode cX11_isDue 19 = .ok (.iaload, 1) := by decide +kernel
theorem dX11_isDue_20 : decode cX11_isDue 20 = .ok (.imul, 1) := by decide +kernel
theorem dX11_isDue_21 : decode cX11_isDue 21 = .ok (.aload_n 0, 1) := by decide +kernel
theorem dX11_isDue_22 : decode cX11_isDue 22 = .ok (.iload_n 1, 1) := by decide +kernel
theorem dX11_isDue_23 : decode cX11_isDue 23 = .ok (.invokevirtual 196, 3) := by decide +kernel
theorem dX11_isDue_26 : decode cX11_isDue 26 = .ok (.aload_n 0, 1) := by decide +kernel
theorem dX11_isDue_27 : decode cX11_isDue 27 = .ok (.invokevirtual 85, 3) := by decide +kernel
theorem dX11_isDue_30 : decode cX11_isDue 30 = .ok (.imul, 1) := by decide +kernel
theorem dX11_isDue_31 : decode cX11_isDue 31 = .ok (.if_icmp .lt 7, 3) := by decide +kernel
theorem dX11_isDue_34 : decode cX11_isDue 34 = .ok (.iconst 1, 1) := by decide +kernel
theorem dX11_isDue_35 : decode cX11_isDue 35 = .ok (.goto 4, 3) := by decide +kernel
theorem dX11_isDue_38 : decode cX11_isDue 38 = .ok (.iconst 0, 1) := by decide +kernel
theorem dX11_isDue_39 : decode cX11_isDue 39 = .ok (.ireturn, 1) := by decide +kernel
def jX11_isDue_39 (Y : XS) (n : Nat) (S : PS) (t0 : Int32) : Option (Int32) :=
  kzr t0 (some t0)
def jX11_isDue_38 (Y : XS) (n : Nat) (S : PS)  : Option (Int32) :=
  jX11_isDue_39 Y n S (0 : Int32)
def fX11_isDue (Y : XS) (n : Nat) (S : PS) (a0 : Nat) (x1_ : Int32) : Option (Int32) :=
  kc (fX11_membersOf Y n S a0 x1_) (fun q2 => kc (fX11_bitsOf Y n S q2) (fun q5 => (if q5 ≤ 0 then jX11_isDue_38 Y n S  else kgr S a0 0 (fun b15 => kai Y S b15 (0 : Int32) (fun x19 => kc (fX11_costsOf Y n S a0 x1_) (fun q23 => kc (fX11_people Y n S a0) (fun q27 => (if (q5 * x19) < (q23 * q27) then jX11_isDue_38 Y n S  else jX11_isDue_39 Y n S (1 : Int32)))))))))
theorem wjX11_isDue_39 {C : CT} {X : XT} (hC : CK C RX11 cX11_isDue 3 (some .boolean) 3) (n : Nat) (S : PS) (t0 : Int32)   {o : Int32} (hf : jX11_isDue_39 X.2.1 n S t0 = some o) (hR : Rt C X cX11_isDue (some .boolean) (some (.int o)) S) : UW C X S 39 [] [.int t0] := by
  unfold jX11_isDue_39 at hf
  obtain ⟨hz, hf⟩ := kzr_some hf
  cases hf
  exact hR _ _ dX11_isDue_39 hz
theorem wjX11_isDue_38 {C : CT} {X : XT} (hC : CK C RX11 cX11_isDue 3 (some .boolean) 3) (n : Nat) (S : PS)    {o : Int32} (hf : jX11_isDue_38 X.2.1 n S  = some o) (hR : Rt C X cX11_isDue (some .boolean) (some (.int o)) S) : UW C X S 38 [] [] := by
  unfold jX11_isDue_38 at hf
  refine u_iconst (v := (0 : Int32)) hC dX11_isDue_38 (by decide) ?_
  exact wjX11_isDue_39 hC n S (0 : Int32)   hf hR
theorem wX11_isDue {C : CT} {X : XT} (hC : CK C RX11 cX11_isDue 3 (some .boolean) 3) (n : Nat) (S : PS) (a0 : Nat) (x1_ : Int32) (hTa0 : Ty X.2.1 a0 11) {o : Int32} (hf : fX11_isDue X.2.1 n S a0 x1_ = some o) (hR : Rt C X cX11_isDue (some .boolean) (some (.int o)) S) : UW C X S 0 [(0, .ref (X.1 a0)), (1, .int x1_)] [] := by
  unfold fX11_isDue at hf
  refine u_aload_n hC dX11_isDue_0 0 rfl rfl ?_
  refine u_iload_n hC dX11_isDue_1 1 rfl rfl ?_
  obtain ⟨q2, hq2, hf⟩ := kc_some hf
  refine u_callV hC (ctX11_membersOf (cL C) hC.tr (cG C) X.1 X.2.1 n S a0 x1_ hTa0 hq2) lk_X11_276 rfl hTa0 (by decide) rfl (by decide) (by decide) rfl rfl (Nat.le_of_ble_eq_true rfl) dX11_isDue_2 ?_
  obtain ⟨q5, hq5, hf⟩ := kc_some hf
  refine u_callS hC (ctX11_bitsOf (cL C) hC.tr (cG C) X.1 X.2.1 n S q2  hq5) lk_X11_279 (by decide) (by decide) rfl rfl (Nat.le_of_ble_eq_true rfl) dX11_isDue_5 ?_
  refine u_istore_n (lv' := [(2, .int q5), (0, .ref (X.1 a0)), (1, .int x1_)]) hC dX11_isDue_8 rfl (by decide) rfl ?_
  refine u_iload_n hC dX11_isDue_9 0 rfl rfl ?_
  refine u_if_le (tgt := 38) hC dX11_isDue_10 (by decide) hf (fun h10 hf => ?_) (fun h10 hf => ?_)
  · refine u_sub (lv' := []) [] rfl ?_
    exact wjX11_isDue_38 hC n S    hf hR
  · refine u_iload_n hC dX11_isDue_13 0 rfl rfl ?_
    refine u_aload_n hC dX11_isDue_14 1 rfl rfl ?_
    refine u_gr hC lf_X11_9 rfl hTa0 dX11_isDue_15 hf (fun b15 hTb15 hf => ?_)
    refine u_iconst (v := (0 : Int32)) hC dX11_isDue_18 (by decide) ?_
    refine u_ai hC hTb15 dX11_isDue_19 hf (fun x19 hf => ?_)
    refine u_imul hC dX11_isDue_20 ?_
    refine u_aload_n hC dX11_isDue_21 1 rfl rfl ?_
    refine u_iload_n hC dX11_isDue_22 2 rfl rfl ?_
    obtain ⟨q23, hq23, hf⟩ := kc_some hf
    refine u_callV hC (ctX11_costsOf (cL C) hC.tr (cG C) X.1 X.2.1 n S a0 x1_ hTa0 hq23) lk_X11_196 rfl hTa0 (by decide) rfl (by decide) (by decide) rfl rfl (Nat.le_of_ble_eq_true rfl) dX11_isDue_23 ?_
    refine u_aload_n hC dX11_isDue_26 1 rfl rfl ?_
    obtain ⟨q27, hq27, hf⟩ := kc_some hf
    refine u_callV hC (ctX11_people (cL C) hC.tr (cG C) X.1 X.2.1 n S a0 hTa0 hq27) lk_X11_85 rfl hTa0 (by decide) rfl (by decide) (by decide) rfl rfl (Nat.le_of_ble_eq_true rfl) dX11_isDue_27 ?_
    refine u_imul hC dX11_isDue_30 ?_
    refine u_icmp_lt (tgt := 38) hC dX11_isDue_31 (by decide) hf (fun h31 hf => ?_) (fun h31 hf => ?_)
    · refine u_sub (lv' := []) [] rfl ?_
      exact wjX11_isDue_38 hC n S    hf hR
    · refine u_iconst (v := (1 : Int32)) hC dX11_isDue_34 (by decide) ?_
      refine u_goto (tgt := 39) hC dX11_isDue_35 (by decide) ?_
      refine u_sub (lv' := []) [] rfl ?_
      exact wjX11_isDue_39 hC n S (1 : Int32)   hf hR
theorem ctX11_isDue (l : Launch) (hl : l.stackTraces = false) (G : GT) (ρ : Nat → Nat) (Y : XS) (n : Nat) (S : PS) (a0 : Nat) (x1_ : Int32) (hTa0 : Ty Y a0 11) {o : Int32} (hf : fX11_isDue Y n S a0 x1_ = some o) : Mt l G yX11_isDue cX11_isDue 3 (some .boolean) 3 ρ Y [.ref (ρ a0), .int x1_] S (some (.int o)) S :=
  Mt_of hl (by decide) (Nat.le_of_ble_eq_true rfl) (fun C _ _ hC hR => wX11_isDue (X := (ρ, Y, 0, 0)) hC n S a0 x1_ hTa0 hf hR)
-- X11_group
theorem dX11_group_0 : decode cX11_group 0 = .ok (.aload_n 0, 1) := by decide +kernel
theorem dX11_group_1 : decode cX11_group 1 = .ok (.iconst 0, 1) := by decide +kernel
theorem dX11_group_2 : decode cX11_group 2 = .ok (.putfield 70, 3) := by decide +kernel
theorem dX11_group_5 : decode cX11_group 5 = .ok (.aload_n 0, 1) := by decide +kernel
theorem dX11_group_6 : decode cX11_group 6 = .ok (.iload_n 1, 1) := by decide +kernel
theorem dX11_group_7 : decode cX11_group 7 = .ok (.invokevirtual 282, 3) := by decide +kernel
theorem dX11_group_10 : decode cX11_group 10 = .ok (.ifCond .eq 12, 3) := by decide +kernel
theorem dX11_group_13 : decode cX11_group 13 = .ok (.iload_n 2, 1) := by decide +kernel
theorem dX11_group_14 : decode cX11_group 14 = .ok (.iconst 0, 1) := by decide +kernel
theorem dX11_group_15 : decode cX11_group 15 = .ok (.iconst 3, 1) := by decide +kernel
theorem dX11_group_16 : decode cX11_group 16 = .ok (.invokestatic 81, 3) := by decide +kernel
theorem dX11_group_19 : decode cX11_group 19 = .ok (.ifCond .ne 9, 3) := by decide +kernel
theorem dX11_group_22 : decode cX11_group 22 = .ok (.aload_n 0, 1) := by decide +kernel
theorem dX11_group_23 : decode cX11_group 23 = .ok (.iconst 1, 1) := by decide +kernel
theorem dX11_group_24 : decode cX11_group 24 = .ok (.invokevirtual 252, 3) := by decide +kernel
theorem dX11_group_27 : decode cX11_group 27 = .ok (.ireturn, 1) := by decide +kernel
theorem dX11_group_28 : decode cX11_group 28 = .ok (.aload_n 0, 1) := by decide +kernel
theorem dX11_group_29 : decode cX11_group 29 = .ok (.invokevirtual 224, 3) := by decide +kernel
theorem dX11_group_32 : decode cX11_group 32 = .ok (.aload_n 0, 1) := by decide +kernel
theorem dX11_group_33 : decode cX11_group 33 = .ok (.iload_n 1, 1) := by decide +kernel
theorem dX11_group_34 : decode cX11_group 34 = .ok (.invokevirtual 276, 3) := by decide +kernel
theorem dX11_group_37 : decode cX11_group 37 = .ok (.istore_n 3, 1) := by decide +kernel
theorem dX11_group_38 : decode cX11_group 38 = .ok (.iload_n 2, 1) := by decide +kernel
theorem dX11_group_39 : decode cX11_group 39 = .ok (.ifCond .ne 7, 3) := by decide +kernel
theorem dX11_group_42 : decode cX11_group 42 = .ok (.iload_n 3, 1) := by decide +kernel
theorem dX11_group_43 : decode cX11_group 43 = .ok (.goto 41, 3) := by decide +kernel
theorem dX11_group_46 : decode cX11_group 46 = .ok (.iload_n 2, 1) := by decide +kernel
theorem dX11_group_47 : decode cX11_group 47 = .ok (.iconst 1, 1) := by decide +kernel
theorem dX11_group_48 : decode cX11_group 48 = .ok (.if_icmp .ne 10, 3) := by decide +kernel
theorem dX11_group_51 : decode cX11_group 51 = .ok (.iload_n 3, 1) := by decide +kernel
theorem dX11_group_52 : decode cX11_group 52 = .ok (.invokestatic 279, 3) := by decide +kernel
theorem dX11_group_55 : decode cX11_group 55 = .ok (.goto 29, 3) := by decide +kernel
theorem dX11_group_58 : decode cX11_group 58 = .ok (.iload_n 2, 1) := by decide +kernel
theorem dX11_group_59 : decode cX11_group 59 = .ok (.iconst 2, 1) := by decide +kernel
theorem dX11_group_60 : decode cX11_group 60 = .ok (.if_icmp .ne 11, 3) := by decide +kernel
theorem dX11_group_63 : decode cX11_group 63 = .ok (.aload_n 0, 1) := by decide +kernel
theorem dX11_group_64 : decode cX11_group 64 = .ok (.iload_n 1, 1) := by decide +kernel
theorem dX11_group_65 : decode cX11_group 65 = .ok (.invokevirtual 196, 3) := by decide +kernel
theorem dX11_group_68 : decode cX11_group 68 = .ok (.goto 16, 3) := by decide +kernel
theorem dX11_group_71 : decode cX11_group 71 = .ok (.aload_n 0, 1) := by decide +kernel
theorem dX11_group_72 : decode cX11_group 72 = .ok (.iload_n 1, 1) := by decide +kernel
theorem dX11_group_73 : decode cX11_group 73 = .ok (.invokevirtual 285, 3) := by decide +kernel
theorem dX11_group_76 : decode cX11_group 76 = .ok (.ifCond .eq 7, 3) := by decide +kernel
theorem dX11_group_79 : decode cX11_group 79 = .ok (.iconst 1, 1) := by decide +kernel
theorem dX11_group_80 : decode cX11_group 80 = .ok (.goto 4, 3) := by decide +kernel
theorem dX11_group_83 : decode cX11_group 83 = .ok (.iconst 0, 1) := by decide +kernel
theorem dX11_group_84 : decode cX11_group 84 = .ok (.ireturn, 1) := by decide +kernel
def jX11_group_22 (Y : XS) (n : Nat) (S : PS) (v0 : Nat) : Option (Int32 × PS) :=
  kc (fX11_fail Y n S v0 (1 : Int32)) (fun q24 => some (q24.1, q24.2))
def jX11_group_84 (Y : XS) (n : Nat) (S : PS) (t0 : Int32) : Option (Int32 × PS) :=
  some (t0, S)
def fX11_group (Y : XS) (n : Nat) (S : PS) (a0 : Nat) (x1_ : Int32) (x2_ : Int32) : Option (Int32 × PS) :=
  kpi S a0 7 (0 : Int32) (fun S2 => kc (fX11_isGroup Y n S2 a0 x1_) (fun q7 => (if q7 = 0 then jX11_group_22 Y n S2 a0 else kc (fX11_isIn Y n S2 x2_ (0 : Int32) (3 : Int32)) (fun q16 => (if q16 = 0 then jX11_group_22 Y n S2 a0 else kc (fX11_layWorths Y n S2 a0) (fun q29 => kc (fX11_membersOf Y n q29 a0 x1_) (fun q34 => (if x2_ = 0 then jX11_group_84 Y n q29 q34 else (if x2_ = (1 : Int32) then kc (fX11_bitsOf Y n q29 q34) (fun q52 => jX11_group_84 Y n q29 q52) else (if x2_ = (2 : Int32) then kc (fX11_costsOf Y n q29 a0 x1_) (fun q65 => jX11_group_84 Y n q29 q65) else kc (fX11_isDue Y n q29 a0 x1_) (fun q73 => (if q73 = 0 then jX11_group_84 Y n q29 (0 : Int32) else jX11_group_84 Y n q29 (1 : Int32)))))))))))))
theorem wjX11_group_22 {C : CT} {X : XT} (hC : CK C RX11 cX11_group 4 (some .int) 53) (n : Nat) (S : PS) (v0 : Nat)  (hTv0 : Ty X.2.1 v0 11) {o : Int32 × PS} (hf : jX11_group_22 X.2.1 n S v0 = some o) (hR : Rt C X cX11_group (some .int) (some (.int o.1)) o.2) : UW C X S 22 [(0, .ref (X.1 v0))] [] := by
  unfold jX11_group_22 at hf
  refine u_aload_n hC dX11_group_22 0 rfl rfl ?_
  refine u_iconst (v := (1 : Int32)) hC dX11_group_23 (by decide) ?_
  obtain ⟨q24, hq24, hf⟩ := kc_some hf
  refine u_callV hC (ctX11_fail (cL C) hC.tr (cG C) X.1 X.2.1 n S v0 (1 : Int32) hTv0 hq24) lk_X11_252 rfl hTv0 (by decide) rfl (by decide) (by decide) rfl rfl (Nat.le_of_ble_eq_true rfl) dX11_group_24 ?_
  cases hf
  exact hR _ _ dX11_group_27 trivial
theorem wjX11_group_84 {C : CT} {X : XT} (hC : CK C RX11 cX11_group 4 (some .int) 53) (n : Nat) (S : PS) (t0 : Int32)   {o : Int32 × PS} (hf : jX11_group_84 X.2.1 n S t0 = some o) (hR : Rt C X cX11_group (some .int) (some (.int o.1)) o.2) : UW C X S 84 [] [.int t0] := by
  unfold jX11_group_84 at hf
  cases hf
  exact hR _ _ dX11_group_84 trivial
theorem wX11_group {C : CT} {X : XT} (hC : CK C RX11 cX11_group 4 (some .int) 53) (n : Nat) (S : PS) (a0 : Nat) (x1_ : Int32) (x2_ : Int32) (hTa0 : Ty X.2.1 a0 11) {o : Int32 × PS} (hf : fX11_group X.2.1 n S a0 x1_ x2_ = some o) (hR : Rt C X cX11_group (some .int) (some (.int o.1)) o.2) : UW C X S 0 [(0, .ref (X.1 a0)), (1, .int x1_), (2, .int x2_)] [] := by
  unfold fX11_group at hf
  refine u_aload_n hC dX11_group_0 0 rfl rfl ?_
  refine u_iconst (v := (0 : Int32)) hC dX11_group_1 (by decide) ?_
  refine u_pi hC lf_X11_70 rfl rfl rfl hTa0 dX11_group_2 hf (fun S2 hf => ?_)
  refine u_aload_n hC dX11_group_5 0 rfl rfl ?_
  refine u_iload_n hC dX11_group_6 1 rfl rfl ?_
  obtain ⟨q7, hq7, hf⟩ := kc_some hf
  refine u_callV hC (ctX11_isGroup (cL C) hC.tr (cG C) X.1 X.2.1 n S2 a0 x1_ hTa0 hq7) lk_X11_282 rfl hTa0 (by decide) rfl (by decide) (by decide) rfl rfl (Nat.le_of_ble_eq_true rfl) dX11_group_7 ?_
  refine u_if_eq (tgt := 22) hC dX11_group_10 (by decide) hf (fun h10 hf => ?_) (fun h10 hf => ?_)
  · refine u_sub (lv' := [(0, .ref (X.1 a0))]) [0] rfl ?_
    exact wjX11_group_22 hC n S2 a0  hTa0 hf hR
  · refine u_iload_n hC dX11_group_13 2 rfl rfl ?_
    refine u_iconst (v := (0 : Int32)) hC dX11_group_14 (by decide) ?_
    refine u_iconst (v := (3 : Int32)) hC dX11_group_15 (by decide) ?_
    obtain ⟨q16, hq16, hf⟩ := kc_some hf
    refine u_callS hC (ctX11_isIn (cL C) hC.tr (cG C) X.1 X.2.1 n S2 x2_ (0 : Int32) (3 : Int32)  hq16) lk_X11_81 (by decide) (by decide) rfl rfl (Nat.le_of_ble_eq_true rfl) dX11_group_16 ?_
    refine u_if_ne (tgt := 28) hC dX11_group_19 (by decide) hf (fun h19 hf => ?_) (fun h19 hf => ?_)
    · refine u_aload_n hC dX11_group_28 0 rfl rfl ?_
      obtain ⟨q29, hq29, hf⟩ := kc_some hf
      refine u_callV hC (ctX11_layWorths (cL C) hC.tr (cG C) X.1 X.2.1 n S2 a0 hTa0 hq29) lk_X11_224 rfl hTa0 (by decide) rfl (by decide) (by decide) rfl rfl (Nat.le_of_ble_eq_true rfl) dX11_group_29 ?_
      refine u_aload_n hC dX11_group_32 0 rfl rfl ?_
      refine u_iload_n hC dX11_group_33 1 rfl rfl ?_
      obtain ⟨q34, hq34, hf⟩ := kc_some hf
      refine u_callV hC (ctX11_membersOf (cL C) hC.tr (cG C) X.1 X.2.1 n q29 a0 x1_ hTa0 hq34) lk_X11_276 rfl hTa0 (by decide) rfl (by decide) (by decide) rfl rfl (Nat.le_of_ble_eq_true rfl) dX11_group_34 ?_
      refine u_istore_n (lv' := [(3, .int q34), (0, .ref (X.1 a0)), (1, .int x1_), (2, .int x2_)]) hC dX11_group_37 rfl (by decide) rfl ?_
      refine u_iload_n hC dX11_group_38 3 rfl rfl ?_
      refine u_if_ne (tgt := 46) hC dX11_group_39 (by decide) hf (fun h39 hf => ?_) (fun h39 hf => ?_)
      · refine u_iload_n hC dX11_group_46 3 rfl rfl ?_
        refine u_iconst (v := (1 : Int32)) hC dX11_group_47 (by decide) ?_
        refine u_icmp_ne (tgt := 58) hC dX11_group_48 (by decide) hf (fun h48 hf => ?_) (fun h48 hf => ?_)
        · refine u_iload_n hC dX11_group_58 3 rfl rfl ?_
          refine u_iconst (v := (2 : Int32)) hC dX11_group_59 (by decide) ?_
          refine u_icmp_ne (tgt := 71) hC dX11_group_60 (by decide) hf (fun h60 hf => ?_) (fun h60 hf => ?_)
          · refine u_aload_n hC dX11_group_71 1 rfl rfl ?_
            refine u_iload_n hC dX11_group_72 2 rfl rfl ?_
            obtain ⟨q73, hq73, hf⟩ := kc_some hf
            refine u_callV hC (ctX11_isDue (cL C) hC.tr (cG C) X.1 X.2.1 n q29 a0 x1_ hTa0 hq73) lk_X11_285 rfl hTa0 (by decide) rfl (by decide) (by decide) rfl rfl (Nat.le_of_ble_eq_true rfl) dX11_group_73 ?_
            refine u_if_eq (tgt := 83) hC dX11_group_76 (by decide) hf (fun h76 hf => ?_) (fun h76 hf => ?_)
            · refine u_iconst (v := (0 : Int32)) hC dX11_group_83 (by decide) ?_
              refine u_sub (lv' := []) [] rfl ?_
              exact wjX11_group_84 hC n q29 (0 : Int32)   hf hR
            · refine u_iconst (v := (1 : Int32)) hC dX11_group_79 (by decide) ?_
              refine u_goto (tgt := 84) hC dX11_group_80 (by decide) ?_
              refine u_sub (lv' := []) [] rfl ?_
              exact wjX11_group_84 hC n q29 (1 : Int32)   hf hR
          · refine u_aload_n hC dX11_group_63 1 rfl rfl ?_
            refine u_iload_n hC dX11_group_64 2 rfl rfl ?_
            obtain ⟨q65, hq65, hf⟩ := kc_some hf
            refine u_callV hC (ctX11_costsOf (cL C) hC.tr (cG C) X.1 X.2.1 n q29 a0 x1_ hTa0 hq65) lk_X11_196 rfl hTa0 (by decide) rfl (by decide) (by decide) rfl rfl (Nat.le_of_ble_eq_true rfl) dX11_group_65 ?_
            refine u_goto (tgt := 84) hC dX11_group_68 (by decide) ?_
            refine u_sub (lv' := []) [] rfl ?_
            exact wjX11_group_84 hC n q29 q65   hf hR
        · refine u_iload_n hC dX11_group_51 0 rfl rfl ?_
          obtain ⟨q52, hq52, hf⟩ := kc_some hf
          refine u_callS hC (ctX11_bitsOf (cL C) hC.tr (cG C) X.1 X.2.1 n q29 q34  hq52) lk_X11_279 (by decide) (by decide) rfl rfl (Nat.le_of_ble_eq_true rfl) dX11_group_52 ?_
          refine u_goto (tgt := 84) hC dX11_group_55 (by decide) ?_
          refine u_sub (lv' := []) [] rfl ?_
          exact wjX11_group_84 hC n q29 q52   hf hR
      · refine u_iload_n hC dX11_group_42 0 rfl rfl ?_
        refine u_goto (tgt := 84) hC dX11_group_43 (by decide) ?_
        refine u_sub (lv' := []) [] rfl ?_
        exact wjX11_group_84 hC n q29 q34   hf hR
    · refine u_sub (lv' := [(0, .ref (X.1 a0))]) [0] rfl ?_
      exact wjX11_group_22 hC n S2 a0  hTa0 hf hR
theorem ctX11_group (l : Launch) (hl : l.stackTraces = false) (G : GT) (ρ : Nat → Nat) (Y : XS) (n : Nat) (S : PS) (a0 : Nat) (x1_ : Int32) (x2_ : Int32) (hTa0 : Ty Y a0 11) {o : Int32 × PS} (hf : fX11_group Y n S a0 x1_ x2_ = some o) : Mt l G yX11_group cX11_group 4 (some .int) 53 ρ Y [.ref (ρ a0), .int x1_, .int x2_] S (some (.int o.1)) o.2 :=
  Mt_of hl (by decide) (Nat.le_of_ble_eq_true rfl) (fun C _ _ hC hR => wX11_group (X := (ρ, Y, 0, 0)) hC n S a0 x1_ x2_ hTa0 hf hR)
-- X11_bestAside
theorem dX11_bestAside_0 : decode cX11_bestAside 0 = .ok (.iconst 0, 1) := by decide +kernel
theorem dX11_bestAside_1 : decode cX11_bestAside 1 = .ok (.istore_n 3, 1) := by decide +kernel
theorem dX11_bestAside_2 : decode cX11_bestAside 2 = .ok (.iconst 0, 1) := by decide +kernel
theorem dX11_bestAside_3 : decode cX11_bestAside 3 = .ok (.istore 4, 2) := by decide +kernel
theorem dX11_bestAside_5 : decode cX11_bestAside 5 = .ok (.iload 4, 2) := by decide +kernel
theorem dX11_bestAside_7 : decode cX11_bestAside 7 = .ok (.aload_n 0, 1) := by decide +kernel
theorem dX11_bestAside_8 : decode cX11_bestAside 8 = .ok (.invokevirtual 77, 3) := by decide +kernel
theorem dX11_bestAside_11 : decode cX11_bestAside 11 = .ok (.if_icmp .ge 47, 3) := by decide +kernel
theorem dX11_bestAside_14 : decode cX11_bestAside 14 = .ok (.iload_n 2, 1) := by decide +kernel
theorem dX11_bestAside_15 : decode cX11_bestAside 15 = .ok (.iload 4, 2) := by decide +kernel
theorem dX11_bestAside_17 : decode cX11_bestAside 17 = .ok (.invokestatic 147, 3) := by decide +kernel
theorem dX11_bestAside_20 : decode cX11_bestAside 20 = .ok (.ifCond .eq 32, 3) := by decide +kernel
theorem dX11_bestAside_23 : decode cX11_bestAside 23 = .ok (.aload_n 0, 1) := by decide +kernel
theorem dX11_bestAside_24 : decode cX11_bestAside 24 = .ok (.getfield 154, 3) := by decide +kernel
theorem dX11_bestAside_27 : decode cX11_bestAside 27 = .ok (.iload 4, 2) := by decide +kernel
theorem dX11_bestAside_29 : decode cX11_bestAside 29 = .ok (.invokestatic 147, 3) := by decide +kernel
theorem dX11_bestAside_32 : decode cX11_bestAside 32 = .ok (.ifCond .ne 20, 3) := by decide +kernel
theorem dX11_bestAside_35 : decode cX11_bestAside 35 = .ok (.iload_n 3, 1) := by decide +kernel
theorem dX11_bestAside_36 : decode cX11_bestAside 36 = .ok (.aload_n 0, 1) := by decide +kernel
theorem dX11_bestAside_37 : decode cX11_bestAside 37 = .ok (.getfield 25, 3) := by decide +kernel
theorem dX11_bestAside_40 : decode cX11_bestAside 40 = .ok (.bipush 12, 2) := by decide +kernel
theorem dX11_bestAside_42 : decode cX11_bestAside 42 = .ok (.iload_n 1, 1) := by decide +kernel
theorem dX11_bestAside_43 : decode cX11_bestAside 43 = .ok (.imul, 1) := by decide +kernel
theorem dX11_bestAside_44 : decode cX11_bestAside 44 = .ok (.iload 4, 2) := by decide +kernel
theorem dX11_bestAside_46 : decode cX11_bestAside 46 = .ok (.iadd, 1) := by decide +kernel
theorem dX11_bestAside_47 : decode cX11_bestAside 47 = .ok (.iaload, 1) := by decide +kernel
theorem dX11_bestAside_48 : decode cX11_bestAside 48 = .ok (.invokestatic 137, 3) := by decide +kernel
theorem dX11_bestAside_51 : decode cX11_bestAside 51 = .ok (.istore_n 3, 1) := by decide +kernel
theorem dX11_bestAside_52 : decode cX11_bestAside 52 = .ok (.iinc 4 1, 3) := by decide +kernel
theorem dX11_bestAside_55 : decode cX11_bestAside 55 = .ok (.goto (-50), 3) := by decide +kernel
theorem dX11_bestAside_58 : decode cX11_bestAside 58 = .ok (.iload_n 3, 1) := by decide +kernel
theorem dX11_bestAside_59 : decode cX11_bestAside 59 = .ok (.ireturn, 1) := by decide +kernel
def jX11_bestAside_52_5 (Y : XS) (n : Nat) (S : PS) (v0 : Nat) (v1 : Int32) (v2 : Int32) (v3 : Int32) (v4 : Int32) : Option ((Int32 × Int32) ⊕ Int32) :=
  some (.inl (v3, v4 + (1 : Int32)))
def bX11_bestAside_5 (Y : XS) (n : Nat) (S : PS) (v0 : Nat) (v1 : Int32) (v2 : Int32) (s5 : (Int32 × Int32)) : Option ((Int32 × Int32) ⊕ Int32) :=
  kc (fX11_many Y n S v0) (fun q8 => (if q8 ≤ s5.2 then some (.inr s5.1) else kc (fX11_isOf Y n S v2 s5.2) (fun q17 => (if q17 = 0 then jX11_bestAside_52_5 Y n S v0 v1 v2 s5.1 s5.2 else kgi S v0 21 (fun x24 => kc (fX11_isOf Y n S x24 s5.2) (fun q29 => (if q29 = 0 then kgr S v0 12 (fun b37 => kai Y S b37 (((12 : Int32) * v1) + s5.2) (fun x47 => jX11_bestAside_52_5 Y n S v0 v1 v2 (imax s5.1 x47) s5.2)) else jX11_bestAside_52_5 Y n S v0 v1 v2 s5.1 s5.2)))))))
def fX11_bestAside (Y : XS) (n : Nat) (S : PS) (a0 : Nat) (x1_ : Int32) (x2_ : Int32) : Option (Int32) :=
  kc (iter (bX11_bestAside_5 Y n S a0 x1_ x2_) n ((0 : Int32), (0 : Int32))) (fun r5 => some r5)
theorem wjX11_bestAside_52_5 {C : CT} {X : XT} (hC : CK C RX11 cX11_bestAside 5 (some .int) 2) (n : Nat) (S : PS) (v0 : Nat) (v1 : Int32) (v2 : Int32) (v3 : Int32) (v4 : Int32)  (hTv0 : Ty X.2.1 v0 11) {o : (Int32 × Int32) ⊕ Int32} (hf : jX11_bestAside_52_5 X.2.1 n S v0 v1 v2 v3 v4 = some o) (hN : ∀ s', o = .inl s' → UW C X S 5 [(0, .ref (X.1 v0)), (1, .int v1), (2, .int v2), (3, .int s'.1), (4, .int s'.2)] []) (hO0 : ∀ p', o = .inr p' → UW C X S 58 [(3, .int p')] []) : UW C X S 52 [(0, .ref (X.1 v0)), (1, .int v1), (2, .int v2), (3, .int v3), (4, .int v4)] [] := by
  unfold jX11_bestAside_52_5 at hf
  refine u_iinc (v := v4 + (1 : Int32)) (lv' := [(4, .int (v4 + (1 : Int32))), (0, .ref (X.1 v0)), (1, .int v1), (2, .int v2), (3, .int v3)]) hC dX11_bestAside_52 4 rfl rfl (by decide) rfl ?_
  refine u_goto (tgt := 5) hC dX11_bestAside_55 (by decide) ?_
  refine u_sub (lv' := [(0, .ref (X.1 v0)), (1, .int v1), (2, .int v2), (3, .int v3), (4, .int (v4 + (1 : Int32)))]) [1, 2, 3, 4, 0] rfl ?_
  exact hN _ (Option.some.inj hf).symm
theorem wbX11_bestAside_5 {C : CT} {X : XT} (hC : CK C RX11 cX11_bestAside 5 (some .int) 2) (n : Nat) (S : PS) (v0 : Nat) (v1 : Int32) (v2 : Int32) (hTv0 : Ty X.2.1 v0 11) (s5 : (Int32 × Int32)) {o : (Int32 × Int32) ⊕ Int32} (hf : bX11_bestAside_5 X.2.1 n S v0 v1 v2 s5 = some o) (hN : ∀ s', o = .inl s' → UW C X S 5 [(0, .ref (X.1 v0)), (1, .int v1), (2, .int v2), (3, .int s'.1), (4, .int s'.2)] []) (hO0 : ∀ p', o = .inr p' → UW C X S 58 [(3, .int p')] []) : UW C X S 5 [(0, .ref (X.1 v0)), (1, .int v1), (2, .int v2), (3, .int s5.1), (4, .int s5.2)] [] := by
  unfold bX11_bestAside_5 at hf
  refine u_iload hC dX11_bestAside_5 4 rfl ?_
  refine u_aload_n hC dX11_bestAside_7 0 rfl rfl ?_
  obtain ⟨q8, hq8, hf⟩ := kc_some hf
  refine u_callV hC (ctX11_many (cL C) hC.tr (cG C) X.1 X.2.1 n S v0 hTv0 hq8) lk_X11_77 rfl hTv0 (by decide) rfl (by decide) (by decide) rfl rfl (Nat.le_of_ble_eq_true rfl) dX11_bestAside_8 ?_
  refine u_icmp_ge (tgt := 58) hC dX11_bestAside_11 (by decide) hf (fun h11 hf => ?_) (fun h11 hf => ?_)
  · refine u_sub (lv' := [(3, .int s5.1)]) [3] rfl ?_
    exact hO0 _ (Option.some.inj hf).symm
  · refine u_iload_n hC dX11_bestAside_14 2 rfl rfl ?_
    refine u_iload hC dX11_bestAside_15 4 rfl ?_
    obtain ⟨q17, hq17, hf⟩ := kc_some hf
    refine u_callS hC (ctX11_isOf (cL C) hC.tr (cG C) X.1 X.2.1 n S v2 s5.2  hq17) lk_X11_147 (by decide) (by decide) rfl rfl (Nat.le_of_ble_eq_true rfl) dX11_bestAside_17 ?_
    refine u_if_eq (tgt := 52) hC dX11_bestAside_20 (by decide) hf (fun h20 hf => ?_) (fun h20 hf => ?_)
    · exact wjX11_bestAside_52_5 hC n S v0 v1 v2 s5.1 s5.2  hTv0 hf hN hO0
    · refine u_aload_n hC dX11_bestAside_23 0 rfl rfl ?_
      refine u_gi hC lf_X11_154 rfl hTv0 dX11_bestAside_24 hf (fun x24 hf => ?_)
      refine u_iload hC dX11_bestAside_27 4 rfl ?_
      obtain ⟨q29, hq29, hf⟩ := kc_some hf
      refine u_callS hC (ctX11_isOf (cL C) hC.tr (cG C) X.1 X.2.1 n S x24 s5.2  hq29) lk_X11_147 (by decide) (by decide) rfl rfl (Nat.le_of_ble_eq_true rfl) dX11_bestAside_29 ?_
      refine u_if_ne (tgt := 52) hC dX11_bestAside_32 (by decide) hf (fun h32 hf => ?_) (fun h32 hf => ?_)
      · exact wjX11_bestAside_52_5 hC n S v0 v1 v2 s5.1 s5.2  hTv0 hf hN hO0
      · refine u_iload_n hC dX11_bestAside_35 3 rfl rfl ?_
        refine u_aload_n hC dX11_bestAside_36 0 rfl rfl ?_
        refine u_gr hC lf_X11_25 rfl hTv0 dX11_bestAside_37 hf (fun b37 hTb37 hf => ?_)
        refine u_bipush (v := (12 : Int32)) hC dX11_bestAside_40 (by decide) ?_
        refine u_iload_n hC dX11_bestAside_42 1 rfl rfl ?_
        refine u_imul hC dX11_bestAside_43 ?_
        refine u_iload hC dX11_bestAside_44 4 rfl ?_
        refine u_iadd hC dX11_bestAside_46 ?_
        refine u_ai hC hTb37 dX11_bestAside_47 hf (fun x47 hf => ?_)
        refine u_mmax hC (tb_6 234 rfl rfl) (by decide) (Nat.le_of_ble_eq_true rfl) dX11_bestAside_48 ?_
        refine u_istore_n (lv' := [(3, .int (imax s5.1 x47)), (0, .ref (X.1 v0)), (1, .int v1), (2, .int v2), (4, .int s5.2)]) hC dX11_bestAside_51 rfl (by decide) rfl ?_
        refine u_sub (lv' := [(0, .ref (X.1 v0)), (1, .int v1), (2, .int v2), (3, .int (imax s5.1 x47)), (4, .int s5.2)]) [1, 2, 3, 0, 4] rfl ?_
        exact wjX11_bestAside_52_5 hC n S v0 v1 v2 (imax s5.1 x47) s5.2  hTv0 hf hN hO0
theorem wX11_bestAside {C : CT} {X : XT} (hC : CK C RX11 cX11_bestAside 5 (some .int) 2) (n : Nat) (S : PS) (a0 : Nat) (x1_ : Int32) (x2_ : Int32) (hTa0 : Ty X.2.1 a0 11) {o : Int32} (hf : fX11_bestAside X.2.1 n S a0 x1_ x2_ = some o) (hR : Rt C X cX11_bestAside (some .int) (some (.int o)) S) : UW C X S 0 [(0, .ref (X.1 a0)), (1, .int x1_), (2, .int x2_)] [] := by
  unfold fX11_bestAside at hf
  refine u_iconst (v := (0 : Int32)) hC dX11_bestAside_0 (by decide) ?_
  refine u_istore_n (lv' := [(3, .int (0 : Int32)), (0, .ref (X.1 a0)), (1, .int x1_), (2, .int x2_)]) hC dX11_bestAside_1 rfl (by decide) rfl ?_
  refine u_iconst (v := (0 : Int32)) hC dX11_bestAside_2 (by decide) ?_
  refine u_istore (lv' := [(4, .int (0 : Int32)), (3, .int (0 : Int32)), (0, .ref (X.1 a0)), (1, .int x1_), (2, .int x2_)]) hC dX11_bestAside_3 (by decide) rfl ?_
  obtain ⟨r5, hr5, hf⟩ := kc_some hf
  have hk5 : UW C X S 58 [(3, .int r5)] [] := by
    refine u_iload_n hC dX11_bestAside_58 0 rfl rfl ?_
    cases hf
    exact hR _ _ dX11_bestAside_59 trivial
  refine u_sub (lv' := [(0, .ref (X.1 a0)), (1, .int x1_), (2, .int x2_), (3, .int (0 : Int32)), (4, .int (0 : Int32))]) [2, 3, 4, 1, 0] rfl ?_
  refine iter_ind (P := fun s5 => UW C X S 5 [(0, .ref (X.1 a0)), (1, .int x1_), (2, .int x2_), (3, .int s5.1), (4, .int s5.2)] []) (fun s5 o' hb hin hout => ?_) n ((0 : Int32), (0 : Int32)) hr5
  exact wbX11_bestAside_5 hC n S a0 x1_ x2_ hTa0 s5 hb hin (fun p e => by rw [hout p e]; exact hk5)
theorem ctX11_bestAside (l : Launch) (hl : l.stackTraces = false) (G : GT) (ρ : Nat → Nat) (Y : XS) (n : Nat) (S : PS) (a0 : Nat) (x1_ : Int32) (x2_ : Int32) (hTa0 : Ty Y a0 11) {o : Int32} (hf : fX11_bestAside Y n S a0 x1_ x2_ = some o) : Mt l G yX11_bestAside cX11_bestAside 5 (some .int) 2 ρ Y [.ref (ρ a0), .int x1_, .int x2_] S (some (.int o)) S :=
  Mt_of hl (by decide) (Nat.le_of_ble_eq_true rfl) (fun C _ _ hC hR => wX11_bestAside (X := (ρ, Y, 0, 0)) hC n S a0 x1_ x2_ hTa0 hf hR)
-- X11_serves
theorem dX11_serves_0 : decode cX11_serves 0 = .ok (.aload_n 0, 1) := by decide +kernel
theorem dX11_serves_1 : decode cX11_serves 1 = .ok (.iload_n 1, 1) := by decide +kernel
theorem dX11_serves_2 : decode cX11_serves 2 = .ok (.invokevirtual 276, 3) := by decide +kernel
theorem dX11_serves_5 : decode cX11_serves 5 = .ok (.istore_n 3, 1) := by decide +kernel
theorem dX11_serves_6 : decode cX11_serves 6 = .ok (.iconst 0, 1) := by decide +kernel
theorem dX11_serves_7 : decode cX11_serves 7 = .ok (.istore 4, 2) := by decide +kernel
theorem dX11_serves_9 : decode cX11_serves 9 = .ok (.iload 4, 2) := by decide +kernel
theorem dX11_serves_11 : decode cX11_serves 11 = .ok (.aload_n 0, 1) := by decide +kernel
theorem dX11_serves_12 : decode cX11_serves 12 = .ok (.invokevirtual 85, 3) := by decide +kernel
theorem dX11_serves_15 : decode cX11_serves 15 = .ok (.if_icmp .ge 56, 3) := by decide +kernel
theorem dX11_serves_18 : decode cX11_serves 18 = .ok (.iload_n 3, 1) := by decide +kernel
theorem dX11_serves_19 : decode cX11_serves 19 = .ok (.iload 4, 2) := by decide +kernel
theorem dX11_serves_21 : decode cX11_serves 21 = .ok (.invokestatic 147, 3) := by decide +kernel
theorem dX11_serves_24 : decode cX11_serves 24 = .ok (.ifCond .eq 41, 3) := by decide +kernel
theorem dX11_serves_27 : decode cX11_serves 27 = .ok (.aload_n 0, 1) := by decide +kernel
theorem dX11_serves_28 : decode cX11_serves 28 = .ok (.iload 4, 2) := by decide +kernel
theorem dX11_serves_30 : decode cX11_serves 30 = .ok (.aload_n 0, 1) := by decide +kernel
theorem dX11_serves_31 : decode cX11_serves 31 = .ok (.getfield 154, 3) := by decide +kernel
theorem dX11_serves_34 : decode cX11_serves 34 = .ok (.invokevirtual 151, 3) := by decide +kernel
theorem dX11_serves_37 : decode cX11_serves 37 = .ok (.iload_n 2, 1) := by decide +kernel
theorem dX11_serves_38 : decode cX11_serves 38 = .ok (.ifCond .eq 13, 3) := by decide +kernel
theorem dX11_serves_41 : decode cX11_serves 41 = .ok (.aload_n 0, 1) := by decide +kernel
theorem dX11_serves_42 : decode cX11_serves 42 = .ok (.iload 4, 2) := by decide +kernel
theorem dX11_serves_44 : decode cX11_serves 44 = .ok (.iload_n 1, 1) := by decide +kernel
theorem dX11_serves_45 : decode cX11_serves 45 = .ok (.invokevirtual 288, 3) := by decide +kernel
theorem dX11_serves_48 : decode cX11_serves 48 = .ok (.goto 4, 3) := by decide +kernel
theorem dX11_serves_51 : decode cX11_serves 51 = .ok (.iconst 0, 1) := by decide +kernel
theorem dX11_serves_52 : decode cX11_serves 52 = .ok (.iadd, 1) := by decide +kernel
theorem dX11_serves_53 : decode cX11_serves 53 = .ok (.aload_n 0, 1) := by decide +kernel
theorem dX11_serves_54 : decode cX11_serves 54 = .ok (.iload 4, 2) := by decide +kernel
theorem dX11_serves_56 : decode cX11_serves 56 = .ok (.iload_n 1, 1) := by decide +kernel
theorem dX11_serves_57 : decode cX11_serves 57 = .ok (.invokevirtual 151, 3) := by decide +kernel
theorem dX11_serves_60 : decode cX11_serves 60 = .ok (.if_icmp .lt 5, 3) := by decide +kernel
theorem dX11_serves_63 : decode cX11_serves 63 = .ok (.iconst 1, 1) := by decide +kernel
theorem dX11_serves_64 : decode cX11_serves 64 = .ok (.ireturn, 1) := by decide +kernel
theorem dX11_serves_65 : decode cX11_serves 65 = .ok (.iinc 4 1, 3) := by decide +kernel
theorem dX11_serves_68 : decode cX11_serves 68 = .ok (.goto (-59), 3) := by decide +kernel
theorem dX11_serves_71 : decode cX11_serves 71 = .ok (.iconst 0, 1) := by decide +kernel
theorem dX11_serves_72 : decode cX11_serves 72 = .ok (.ireturn, 1) := by decide +kernel
def jX11_serves_65_9 (Y : XS) (n : Nat) (S : PS) (v0 : Nat) (v1 : Int32) (v2 : Int32) (v3 : Int32) (v4 : Int32) : Option (Int32 ⊕ (Unit ⊕ (Int32))) :=
  some (.inl (v4 + (1 : Int32)))
def jX11_serves_52_9 (Y : XS) (n : Nat) (S : PS) (v0 : Nat) (v1 : Int32) (v2 : Int32) (v3 : Int32) (v4 : Int32) (t0 : Int32) (t1 : Int32) : Option (Int32 ⊕ (Unit ⊕ (Int32))) :=
  kc (fX11_worthTo Y n S v0 v4 v1) (fun q57 => (if (t1 + t0) < q57 then jX11_serves_65_9 Y n S v0 v1 v2 v3 v4 else kzr (1 : Int32) (some (.inr (.inr (1 : Int32))))))
def bX11_serves_9 (Y : XS) (n : Nat) (S : PS) (v0 : Nat) (v1 : Int32) (v2 : Int32) (v3 : Int32) (s9 : Int32) : Option (Int32 ⊕ (Unit ⊕ (Int32))) :=
  kc (fX11_people Y n S v0) (fun q12 => (if q12 ≤ s9 then some (.inr (.inl ())) else kc (fX11_isOf Y n S v3 s9) (fun q21 => (if q21 = 0 then jX11_serves_65_9 Y n S v0 v1 v2 v3 s9 else kgi S v0 21 (fun x31 => kc (fX11_worthTo Y n S v0 s9 x31) (fun q34 => (if v2 = 0 then jX11_serves_52_9 Y n S v0 v1 v2 v3 s9 (0 : Int32) q34 else kc (fX11_bestAside Y n S v0 s9 v1) (fun q45 => jX11_serves_52_9 Y n S v0 v1 v2 v3 s9 q45 q34))))))))
def fX11_serves (Y : XS) (n : Nat) (S : PS) (a0 : Nat) (x1_ : Int32) (x2_ : Int32) : Option (Int32) :=
  kc (fX11_membersOf Y n S a0 x1_) (fun q2 => kc (iter (bX11_serves_9 Y n S a0 x1_ x2_ q2) n (0 : Int32)) (fun r9 => ks r9 (fun p9_0 => kzr (0 : Int32) (some (0 : Int32))) (fun p9_1 => some p9_1)))
theorem wjX11_serves_65_9 {C : CT} {X : XT} (hC : CK C RX11 cX11_serves 5 (some .boolean) 3) (n : Nat) (S : PS) (v0 : Nat) (v1 : Int32) (v2 : Int32) (v3 : Int32) (v4 : Int32)  (hTv0 : Ty X.2.1 v0 11) {o : Int32 ⊕ (Unit ⊕ (Int32))} (hf : jX11_serves_65_9 X.2.1 n S v0 v1 v2 v3 v4 = some o) (hN : ∀ s', o = .inl s' → UW C X S 9 [(0, .ref (X.1 v0)), (1, .int v1), (2, .int v2), (3, .int v3), (4, .int s')] []) (hO0 : ∀ p', o = .inr (.inl p') → UW C X S 71 [] []) (hR : ∀ q', o = .inr (.inr q') → Rt C X cX11_serves (some .boolean) (some (.int q')) S) : UW C X S 65 [(0, .ref (X.1 v0)), (1, .int v1), (2, .int v2), (3, .int v3), (4, .int v4)] [] := by
  unfold jX11_serves_65_9 at hf
  refine u_iinc (v := v4 + (1 : Int32)) (lv' := [(4, .int (v4 + (1 : Int32))), (0, .ref (X.1 v0)), (1, .int v1), (2, .int v2), (3, .int v3)]) hC dX11_serves_65 4 rfl rfl (by decide) rfl ?_
  refine u_goto (tgt := 9) hC dX11_serves_68 (by decide) ?_
  refine u_sub (lv' := [(0, .ref (X.1 v0)), (1, .int v1), (2, .int v2), (3, .int v3), (4, .int (v4 + (1 : Int32)))]) [1, 2, 3, 4, 0] rfl ?_
  exact hN _ (Option.some.inj hf).symm
theorem wjX11_serves_52_9 {C : CT} {X : XT} (hC : CK C RX11 cX11_serves 5 (some .boolean) 3) (n : Nat) (S : PS) (v0 : Nat) (v1 : Int32) (v2 : Int32) (v3 : Int32) (v4 : Int32) (t0 : Int32) (t1 : Int32)  (hTv0 : Ty X.2.1 v0 11) {o : Int32 ⊕ (Unit ⊕ (Int32))} (hf : jX11_serves_52_9 X.2.1 n S v0 v1 v2 v3 v4 t0 t1 = some o) (hN : ∀ s', o = .inl s' → UW C X S 9 [(0, .ref (X.1 v0)), (1, .int v1), (2, .int v2), (3, .int v3), (4, .int s')] []) (hO0 : ∀ p', o = .inr (.inl p') → UW C X S 71 [] []) (hR : ∀ q', o = .inr (.inr q') → Rt C X cX11_serves (some .boolean) (some (.int q')) S) : UW C X S 52 [(0, .ref (X.1 v0)), (1, .int v1), (2, .int v2), (3, .int v3), (4, .int v4)] [.int t0, .int t1] := by
  unfold jX11_serves_52_9 at hf
  refine u_iadd hC dX11_serves_52 ?_
  refine u_aload_n hC dX11_serves_53 0 rfl rfl ?_
  refine u_iload hC dX11_serves_54 4 rfl ?_
  refine u_iload_n hC dX11_serves_56 1 rfl rfl ?_
  obtain ⟨q57, hq57, hf⟩ := kc_some hf
  refine u_callV hC (ctX11_worthTo (cL C) hC.tr (cG C) X.1 X.2.1 n S v0 v4 v1 hTv0 hq57) lk_X11_151 rfl hTv0 (by decide) rfl (by decide) (by decide) rfl rfl (Nat.le_of_ble_eq_true rfl) dX11_serves_57 ?_
  refine u_icmp_lt (tgt := 65) hC dX11_serves_60 (by decide) hf (fun h60 hf => ?_) (fun h60 hf => ?_)
  · exact wjX11_serves_65_9 hC n S v0 v1 v2 v3 v4  hTv0 hf hN hO0 hR
  · refine u_iconst (v := (1 : Int32)) hC dX11_serves_63 (by decide) ?_
    obtain ⟨hz, hf⟩ := kzr_some hf
    exact hR _ (Option.some.inj hf).symm _ _ dX11_serves_64 hz
theorem wbX11_serves_9 {C : CT} {X : XT} (hC : CK C RX11 cX11_serves 5 (some .boolean) 3) (n : Nat) (S : PS) (v0 : Nat) (v1 : Int32) (v2 : Int32) (v3 : Int32) (hTv0 : Ty X.2.1 v0 11) (s9 : Int32) {o : Int32 ⊕ (Unit ⊕ (Int32))} (hf : bX11_serves_9 X.2.1 n S v0 v1 v2 v3 s9 = some o) (hN : ∀ s', o = .inl s' → UW C X S 9 [(0, .ref (X.1 v0)), (1, .int v1), (2, .int v2), (3, .int v3), (4, .int s')] []) (hO0 : ∀ p', o = .inr (.inl p') → UW C X S 71 [] []) (hR : ∀ q', o = .inr (.inr q') → Rt C X cX11_serves (some .boolean) (some (.int q')) S) : UW C X S 9 [(0, .ref (X.1 v0)), (1, .int v1), (2, .int v2), (3, .int v3), (4, .int s9)] [] := by
  unfold bX11_serves_9 at hf
  refine u_iload hC dX11_serves_9 4 rfl ?_
  refine u_aload_n hC dX11_serves_11 0 rfl rfl ?_
  obtain ⟨q12, hq12, hf⟩ := kc_some hf
  refine u_callV hC (ctX11_people (cL C) hC.tr (cG C) X.1 X.2.1 n S v0 hTv0 hq12) lk_X11_85 rfl hTv0 (by decide) rfl (by decide) (by decide) rfl rfl (Nat.le_of_ble_eq_true rfl) dX11_serves_12 ?_
  refine u_icmp_ge (tgt := 71) hC dX11_serves_15 (by decide) hf (fun h15 hf => ?_) (fun h15 hf => ?_)
  · refine u_sub (lv' := []) [] rfl ?_
    exact hO0 _ (Option.some.inj hf).symm
  · refine u_iload_n hC dX11_serves_18 3 rfl rfl ?_
    refine u_iload hC dX11_serves_19 4 rfl ?_
    obtain ⟨q21, hq21, hf⟩ := kc_some hf
    refine u_callS hC (ctX11_isOf (cL C) hC.tr (cG C) X.1 X.2.1 n S v3 s9  hq21) lk_X11_147 (by decide) (by decide) rfl rfl (Nat.le_of_ble_eq_true rfl) dX11_serves_21 ?_
    refine u_if_eq (tgt := 65) hC dX11_serves_24 (by decide) hf (fun h24 hf => ?_) (fun h24 hf => ?_)
    · exact wjX11_serves_65_9 hC n S v0 v1 v2 v3 s9  hTv0 hf hN hO0 hR
    · refine u_aload_n hC dX11_serves_27 0 rfl rfl ?_
      refine u_iload hC dX11_serves_28 4 rfl ?_
      refine u_aload_n hC dX11_serves_30 0 rfl rfl ?_
      refine u_gi hC lf_X11_154 rfl hTv0 dX11_serves_31 hf (fun x31 hf => ?_)
      obtain ⟨q34, hq34, hf⟩ := kc_some hf
      refine u_callV hC (ctX11_worthTo (cL C) hC.tr (cG C) X.1 X.2.1 n S v0 s9 x31 hTv0 hq34) lk_X11_151 rfl hTv0 (by decide) rfl (by decide) (by decide) rfl rfl (Nat.le_of_ble_eq_true rfl) dX11_serves_34 ?_
      refine u_iload_n hC dX11_serves_37 2 rfl rfl ?_
      refine u_if_eq (tgt := 51) hC dX11_serves_38 (by decide) hf (fun h38 hf => ?_) (fun h38 hf => ?_)
      · refine u_iconst (v := (0 : Int32)) hC dX11_serves_51 (by decide) ?_
        exact wjX11_serves_52_9 hC n S v0 v1 v2 v3 s9 (0 : Int32) q34  hTv0 hf hN hO0 hR
      · refine u_aload_n hC dX11_serves_41 0 rfl rfl ?_
        refine u_iload hC dX11_serves_42 4 rfl ?_
        refine u_iload_n hC dX11_serves_44 1 rfl rfl ?_
        obtain ⟨q45, hq45, hf⟩ := kc_some hf
        refine u_callV hC (ctX11_bestAside (cL C) hC.tr (cG C) X.1 X.2.1 n S v0 s9 v1 hTv0 hq45) lk_X11_288 rfl hTv0 (by decide) rfl (by decide) (by decide) rfl rfl (Nat.le_of_ble_eq_true rfl) dX11_serves_45 ?_
        refine u_goto (tgt := 52) hC dX11_serves_48 (by decide) ?_
        exact wjX11_serves_52_9 hC n S v0 v1 v2 v3 s9 q45 q34  hTv0 hf hN hO0 hR
theorem wX11_serves {C : CT} {X : XT} (hC : CK C RX11 cX11_serves 5 (some .boolean) 3) (n : Nat) (S : PS) (a0 : Nat) (x1_ : Int32) (x2_ : Int32) (hTa0 : Ty X.2.1 a0 11) {o : Int32} (hf : fX11_serves X.2.1 n S a0 x1_ x2_ = some o) (hR : Rt C X cX11_serves (some .boolean) (some (.int o)) S) : UW C X S 0 [(0, .ref (X.1 a0)), (1, .int x1_), (2, .int x2_)] [] := by
  unfold fX11_serves at hf
  refine u_aload_n hC dX11_serves_0 0 rfl rfl ?_
  refine u_iload_n hC dX11_serves_1 1 rfl rfl ?_
  obtain ⟨q2, hq2, hf⟩ := kc_some hf
  refine u_callV hC (ctX11_membersOf (cL C) hC.tr (cG C) X.1 X.2.1 n S a0 x1_ hTa0 hq2) lk_X11_276 rfl hTa0 (by decide) rfl (by decide) (by decide) rfl rfl (Nat.le_of_ble_eq_true rfl) dX11_serves_2 ?_
  refine u_istore_n (lv' := [(3, .int q2), (0, .ref (X.1 a0)), (1, .int x1_), (2, .int x2_)]) hC dX11_serves_5 rfl (by decide) rfl ?_
  refine u_iconst (v := (0 : Int32)) hC dX11_serves_6 (by decide) ?_
  refine u_istore (lv' := [(4, .int (0 : Int32)), (3, .int q2), (0, .ref (X.1 a0)), (1, .int x1_), (2, .int x2_)]) hC dX11_serves_7 (by decide) rfl ?_
  obtain ⟨r9, hr9, hf⟩ := kc_some hf
  have hk9_0 : ∀ p9_0, r9 = (.inl p9_0) → UW C X S 71 [] [] := by
    intro p9_0 he
    subst he
    have hf := ks_l hf
    refine u_iconst (v := (0 : Int32)) hC dX11_serves_71 (by decide) ?_
    obtain ⟨hz, hf⟩ := kzr_some hf
    cases hf
    exact hR _ _ dX11_serves_72 hz
  have hk9_1 : ∀ p9_1, r9 = (.inr p9_1) → Rt C X cX11_serves (some .boolean) (some (.int p9_1)) S := by
    intro p9_1 he
    subst he
    have hf := ks_r hf
    cases hf
    exact hR
  refine u_sub (lv' := [(0, .ref (X.1 a0)), (1, .int x1_), (2, .int x2_), (3, .int q2), (4, .int (0 : Int32))]) [2, 3, 4, 1, 0] rfl ?_
  refine iter_ind (P := fun s9 => UW C X S 9 [(0, .ref (X.1 a0)), (1, .int x1_), (2, .int x2_), (3, .int q2), (4, .int s9)] []) (fun s9 o' hb hin hout => ?_) n (0 : Int32) hr9
  exact wbX11_serves_9 hC n S a0 x1_ x2_ q2 hTa0 s9 hb hin (fun p e => hk9_0 p (hout _ e).symm) (fun p e => hk9_1 p (hout _ e).symm)
theorem ctX11_serves (l : Launch) (hl : l.stackTraces = false) (G : GT) (ρ : Nat → Nat) (Y : XS) (n : Nat) (S : PS) (a0 : Nat) (x1_ : Int32) (x2_ : Int32) (hTa0 : Ty Y a0 11) {o : Int32} (hf : fX11_serves Y n S a0 x1_ x2_ = some o) : Mt l G yX11_serves cX11_serves 5 (some .boolean) 3 ρ Y [.ref (ρ a0), .int x1_, .int x2_] S (some (.int o)) S :=
  Mt_of hl (by decide) (Nat.le_of_ble_eq_true rfl) (fun C _ _ hC hR => wX11_serves (X := (ρ, Y, 0, 0)) hC n S a0 x1_ x2_ hTa0 hf hR)
-- X11_isServed
theorem dX11_isServed_0 : decode cX11_isServed 0 = .ok (.aload_n 0, 1) := by decide +kernel
theorem dX11_isServed_1 : decode cX11_isServed 1 = .ok (.aload_n 0, 1) := by decide +kernel
theorem dX11_isServed_2 : decode cX11_isServed 2 = .ok (.iload_n 1, 1) := by decide +kernel
theorem dX11_isServed_3 : decode cX11_isServed 3 = .ok (.invokevirtual 282, 3) := by decide +kernel
theorem dX11_isServed_6 : decode cX11_isServed 6 = .ok (.ifCond .eq 10, 3) := by decide +kernel
theorem dX11_isServed_9 : decode cX11_isServed 9 = .ok (.iload_n 2, 1) := by decide +kernel
theorem dX11_isServed_10 : decode cX11_isServed 10 = .ok (.invokestatic 261, 3) := by decide +kernel
theorem dX11_isServed_13 : decode cX11_isServed 13 = .ok (.ifCond .ne 7, 3) := by decide +kernel
theorem dX11_isServed_16 : decode cX11_isServed 16 = .ok (.iconst 1, 1) := by decide +kernel
theorem dX11_isServed_17 : decode cX11_isServed 17 = .ok (.goto 4, 3) := by decide +kernel
theorem dX11_isServed_20 : decode cX11_isServed 20 = .ok (.iconst 0, 1) := by decide +kernel
theorem dX11_isServed_21 : decode cX11_isServed 21 = .ok (.putfield 70, 3) := by decide +kernel
theorem dX11_isServed_24 : decode cX11_isServed 24 = .ok (.aload_n 0, 1) := by decide +kernel
theorem dX11_isServed_25 : decode cX11_isServed 25 = .ok (.getfield 70, 3) := by decide +kernel
theorem dX11_isServed_28 : decode cX11_isServed 28 = .ok (.ifCond .le 5, 3) := by decide +kernel
theorem dX11_isServed_31 : decode cX11_isServed 31 = .ok (.iconst 0, 1) := by decide +kernel
theorem dX11_isServed_32 : decode cX11_isServed 32 = .ok (.ireturn, 1) := by decide +kernel
theorem dX11_isServed_33 : decode cX11_isServed 33 = .ok (.aload_n 0, 1) := by decide +kernel
theorem dX11_isServed_34 : decode cX11_isServed 34 = .ok (.iload_n 2, 1) := by decide +kernel
theorem dX11_isServed_35 : decode cX11_isServed 35 = .ok (.invokevirtual 264, 3) := by decide +kernel
theorem dX11_isServed_38 : decode cX11_isServed 38 = .ok (.aload_n 0, 1) := by decide +kernel
theorem dX11_isServed_39 : decode cX11_isServed 39 = .ok (.iload_n 1, 1) := by decide +kernel
theorem dX11_isServed_40 : decode cX11_isServed 40 = .ok (.iload_n 3, 1) := by decide +kernel
theorem dX11_isServed_41 : decode cX11_isServed 41 = .ok (.invokevirtual 291, 3) := by decide +kernel
theorem dX11_isServed_44 : decode cX11_isServed 44 = .ok (.ireturn, 1) := by decide +kernel
def jX11_isServed_21 (Y : XS) (n : Nat) (S : PS) (v0 : Nat) (v1 : Int32) (v2 : Int32) (v3 : Int32) (t0 : Int32) (t1 : Nat) : Option (Int32 × PS) :=
  kpi S t1 7 t0 (fun S21 => kgi S21 v0 7 (fun x25 => (if x25 ≤ 0 then kc (fX11_goes Y n S21 v0 v2) (fun q35 => kc (fX11_serves Y n q35 v0 v1 v3) (fun q41 => kzr q41 (some (q41, q35)))) else kzr (0 : Int32) (some ((0 : Int32), S21)))))
def jX11_isServed_16 (Y : XS) (n : Nat) (S : PS) (v0 : Nat) (v1 : Int32) (v2 : Int32) (v3 : Int32) (t0 : Nat) : Option (Int32 × PS) :=
  jX11_isServed_21 Y n S v0 v1 v2 v3 (1 : Int32) t0
def fX11_isServed (Y : XS) (n : Nat) (S : PS) (a0 : Nat) (x1_ : Int32) (x2_ : Int32) (x3_ : Int32) : Option (Int32 × PS) :=
  kc (fX11_isGroup Y n S a0 x1_) (fun q3 => (if q3 = 0 then jX11_isServed_16 Y n S a0 x1_ x2_ x3_ a0 else kc (fX11_isRule Y n S x2_) (fun q10 => (if q10 = 0 then jX11_isServed_16 Y n S a0 x1_ x2_ x3_ a0 else jX11_isServed_21 Y n S a0 x1_ x2_ x3_ (0 : Int32) a0))))
theorem wjX11_isServed_21 {C : CT} {X : XT} (hC : CK C RX11 cX11_isServed 4 (some .boolean) 54) (n : Nat) (S : PS) (v0 : Nat) (v1 : Int32) (v2 : Int32) (v3 : Int32) (t0 : Int32) (t1 : Nat)  (hTv0 : Ty X.2.1 v0 11) (hTt1 : Ty X.2.1 t1 11) {o : Int32 × PS} (hf : jX11_isServed_21 X.2.1 n S v0 v1 v2 v3 t0 t1 = some o) (hR : Rt C X cX11_isServed (some .boolean) (some (.int o.1)) o.2) : UW C X S 21 [(0, .ref (X.1 v0)), (1, .int v1), (2, .int v2), (3, .int v3)] [.int t0, .ref (X.1 t1)] := by
  unfold jX11_isServed_21 at hf
  refine u_pi hC lf_X11_70 rfl rfl rfl hTt1 dX11_isServed_21 hf (fun S21 hf => ?_)
  refine u_aload_n hC dX11_isServed_24 0 rfl rfl ?_
  refine u_gi hC lf_X11_70 rfl hTv0 dX11_isServed_25 hf (fun x25 hf => ?_)
  refine u_if_le (tgt := 33) hC dX11_isServed_28 (by decide) hf (fun h28 hf => ?_) (fun h28 hf => ?_)
  · refine u_aload_n hC dX11_isServed_33 0 rfl rfl ?_
    refine u_iload_n hC dX11_isServed_34 2 rfl rfl ?_
    obtain ⟨q35, hq35, hf⟩ := kc_some hf
    refine u_callV hC (ctX11_goes (cL C) hC.tr (cG C) X.1 X.2.1 n S21 v0 v2 hTv0 hq35) lk_X11_264 rfl hTv0 (by decide) rfl (by decide) (by decide) rfl rfl (Nat.le_of_ble_eq_true rfl) dX11_isServed_35 ?_
    refine u_aload_n hC dX11_isServed_38 0 rfl rfl ?_
    refine u_iload_n hC dX11_isServed_39 1 rfl rfl ?_
    refine u_iload_n hC dX11_isServed_40 3 rfl rfl ?_
    obtain ⟨q41, hq41, hf⟩ := kc_some hf
    refine u_callV hC (ctX11_serves (cL C) hC.tr (cG C) X.1 X.2.1 n q35 v0 v1 v3 hTv0 hq41) lk_X11_291 rfl hTv0 (by decide) rfl (by decide) (by decide) rfl rfl (Nat.le_of_ble_eq_true rfl) dX11_isServed_41 ?_
    obtain ⟨hz, hf⟩ := kzr_some hf
    cases hf
    exact hR _ _ dX11_isServed_44 hz
  · refine u_iconst (v := (0 : Int32)) hC dX11_isServed_31 (by decide) ?_
    obtain ⟨hz, hf⟩ := kzr_some hf
    cases hf
    exact hR _ _ dX11_isServed_32 hz
theorem wjX11_isServed_16 {C : CT} {X : XT} (hC : CK C RX11 cX11_isServed 4 (some .boolean) 54) (n : Nat) (S : PS) (v0 : Nat) (v1 : Int32) (v2 : Int32) (v3 : Int32) (t0 : Nat)  (hTv0 : Ty X.2.1 v0 11) (hTt0 : Ty X.2.1 t0 11) {o : Int32 × PS} (hf : jX11_isServed_16 X.2.1 n S v0 v1 v2 v3 t0 = some o) (hR : Rt C X cX11_isServed (some .boolean) (some (.int o.1)) o.2) : UW C X S 16 [(0, .ref (X.1 v0)), (1, .int v1), (2, .int v2), (3, .int v3)] [.ref (X.1 t0)] := by
  unfold jX11_isServed_16 at hf
  refine u_iconst (v := (1 : Int32)) hC dX11_isServed_16 (by decide) ?_
  refine u_goto (tgt := 21) hC dX11_isServed_17 (by decide) ?_
  exact wjX11_isServed_21 hC n S v0 v1 v2 v3 (1 : Int32) t0  hTv0 hTt0 hf hR
theorem wX11_isServed {C : CT} {X : XT} (hC : CK C RX11 cX11_isServed 4 (some .boolean) 54) (n : Nat) (S : PS) (a0 : Nat) (x1_ : Int32) (x2_ : Int32) (x3_ : Int32) (hTa0 : Ty X.2.1 a0 11) {o : Int32 × PS} (hf : fX11_isServed X.2.1 n S a0 x1_ x2_ x3_ = some o) (hR : Rt C X cX11_isServed (some .boolean) (some (.int o.1)) o.2) : UW C X S 0 [(0, .ref (X.1 a0)), (1, .int x1_), (2, .int x2_), (3, .int x3_)] [] := by
  unfold fX11_isServed at hf
  refine u_aload_n hC dX11_isServed_0 0 rfl rfl ?_
  refine u_aload_n hC dX11_isServed_1 0 rfl rfl ?_
  refine u_iload_n hC dX11_isServed_2 1 rfl rfl ?_
  obtain ⟨q3, hq3, hf⟩ := kc_some hf
  refine u_callV hC (ctX11_isGroup (cL C) hC.tr (cG C) X.1 X.2.1 n S a0 x1_ hTa0 hq3) lk_X11_282 rfl hTa0 (by decide) rfl (by decide) (by decide) rfl rfl (Nat.le_of_ble_eq_true rfl) dX11_isServed_3 ?_
  refine u_if_eq (tgt := 16) hC dX11_isServed_6 (by decide) hf (fun h6 hf => ?_) (fun h6 hf => ?_)
  · exact wjX11_isServed_16 hC n S a0 x1_ x2_ x3_ a0  hTa0 hTa0 hf hR
  · refine u_iload_n hC dX11_isServed_9 2 rfl rfl ?_
    obtain ⟨q10, hq10, hf⟩ := kc_some hf
    refine u_callS hC (ctX11_isRule (cL C) hC.tr (cG C) X.1 X.2.1 n S x2_  hq10) lk_X11_261 (by decide) (by decide) rfl rfl (Nat.le_of_ble_eq_true rfl) dX11_isServed_10 ?_
    refine u_if_ne (tgt := 20) hC dX11_isServed_13 (by decide) hf (fun h13 hf => ?_) (fun h13 hf => ?_)
    · refine u_iconst (v := (0 : Int32)) hC dX11_isServed_20 (by decide) ?_
      exact wjX11_isServed_21 hC n S a0 x1_ x2_ x3_ (0 : Int32) a0  hTa0 hTa0 hf hR
    · exact wjX11_isServed_16 hC n S a0 x1_ x2_ x3_ a0  hTa0 hTa0 hf hR
theorem ctX11_isServed (l : Launch) (hl : l.stackTraces = false) (G : GT) (ρ : Nat → Nat) (Y : XS) (n : Nat) (S : PS) (a0 : Nat) (x1_ : Int32) (x2_ : Int32) (x3_ : Int32) (hTa0 : Ty Y a0 11) {o : Int32 × PS} (hf : fX11_isServed Y n S a0 x1_ x2_ x3_ = some o) : Mt l G yX11_isServed cX11_isServed 4 (some .boolean) 54 ρ Y [.ref (ρ a0), .int x1_, .int x2_, .int x3_] S (some (.int o.1)) o.2 :=
  Mt_of hl (by decide) (Nat.le_of_ble_eq_true rfl) (fun C _ _ hC hR => wX11_isServed (X := (ρ, Y, 0, 0)) hC n S a0 x1_ x2_ x3_ hTa0 hf hR)
-- X11_groups
theorem dX11_groups_0 : decode cX11_groups 0 = .ok (.aload_n 0, 1) := by decide +kernel
theorem dX11_groups_1 : decode cX11_groups 1 = .ok (.iconst 0, 1) := by decide +kernel
theorem dX11_groups_2 : decode cX11_groups 2 = .ok (.putfield 70, 3) := by decide +kernel
theorem dX11_groups_5 : decode cX11_groups 5 = .ok (.iload_n 1, 1) := by decide +kernel
theorem dX11_groups_6 : decode cX11_groups 6 = .ok (.invokestatic 261, 3) := by decide +kernel
theorem dX11_groups_9 : decode cX11_groups 9 = .ok (.ifCond .eq 12, 3) := by decide +kernel
theorem dX11_groups_12 : decode cX11_groups 12 = .ok (.iload_n 2, 1) := by decide +kernel
theorem dX11_groups_13 : decode cX11_groups 13 = .ok (.iconst 0, 1) := by decide +kernel
theorem dX11_groups_14 : decode cX11_groups 14 = .ok (.iconst 4, 1) := by decide +kernel
theorem dX11_groups_15 : decode cX11_groups 15 = .ok (.invokestatic 81, 3) := by decide +kernel
theorem dX11_groups_18 : decode cX11_groups 18 = .ok (.ifCond .ne 9, 3) := by decide +kernel
theorem dX11_groups_21 : decode cX11_groups 21 = .ok (.aload_n 0, 1) := by decide +kernel
theorem dX11_groups_22 : decode cX11_groups 22 = .ok (.iconst 1, 1) := by decide +kernel
theorem dX11_groups_23 : decode cX11_groups 23 = .ok (.invokevirtual 252, 3) := by decide +kernel
theorem dX11_groups_26 : decode cX11_groups 26 = .ok (.ireturn, 1) := by decide +kernel
theorem dX11_groups_27 : decode cX11_groups 27 = .ok (.aload_n 0, 1) := by decide +kernel
theorem dX11_groups_28 : decode cX11_groups 28 = .ok (.iload_n 1, 1) := by decide +kernel
theorem dX11_groups_29 : decode cX11_groups 29 = .ok (.invokevirtual 264, 3) := by decide +kernel
theorem dX11_groups_32 : decode cX11_groups 32 = .ok (.iconst 0, 1) := by decide +kernel
theorem dX11_groups_33 : decode cX11_groups 33 = .ok (.istore_n 3, 1) := by decide +kernel
theorem dX11_groups_34 : decode cX11_groups 34 = .ok (.iconst (-1), 1) := by decide +kernel
theorem dX11_groups_35 : decode cX11_groups 35 = .ok (.istore 4, 2) := by decide +kernel
theorem dX11_groups_37 : decode cX11_groups 37 = .ok (.iconst 1, 1) := by decide +kernel
theorem dX11_groups_38 : decode cX11_groups 38 = .ok (.istore 5, 2) := by decide +kernel
theorem dX11_groups_40 : decode cX11_groups 40 = .ok (.iload 5, 2) := by decide +kernel
theorem dX11_groups_42 : decode cX11_groups 42 = .ok (.iconst 1, 1) := by decide +kernel
theorem dX11_groups_43 : decode cX11_groups 43 = .ok (.aload_n 0, 1) := by decide +kernel
theorem dX11_groups_44 : decode cX11_groups 44 = .ok (.invokevirtual 77, 3) := by decide +kernel
theorem dX11_groups_47 : decode cX11_groups 47 = .ok (.ishl, 1) := by decide +kernel
theorem dX11_groups_48 : decode cX11_groups 48 = .ok (.if_icmp .ge 58, 3) := by decide +kernel
theorem dX11_groups_51 : decode cX11_groups 51 = .ok (.aload_n 0, 1) := by decide +kernel
theorem dX11_groups_52 : decode cX11_groups 52 = .ok (.iload 5, 2) := by decide +kernel
theorem dX11_groups_54 : decode cX11_groups 54 = .ok (.invokevirtual 285, 3) := by decide +kernel
theorem dX11_groups_57 : decode cX11_groups 57 = .ok (.ifCond .eq 43, 3) := by decide +kernel
theorem dX11_groups_60 : decode cX11_groups 60 = .ok (.iload_n 2, 1) := by decide +kernel
theorem dX11_groups_61 : decode cX11_groups 61 = .ok (.ifCond .le 26, 3) := by decide +kernel
theorem dX11_groups_64 : decode cX11_groups 64 = .ok (.aload_n 0, 1) := by decide +kernel
theorem dX11_groups_65 : decode cX11_groups 65 = .ok (.iload 5, 2) := by decide +kernel
theorem dX11_groups_67 : decode cX11_groups 67 = .ok (.iload_n 2, 1) := by decide +kernel
theorem dX11_groups_68 : decode cX11_groups 68 = .ok (.iconst 2, 1) := by decide +kernel
theorem dX11_groups_69 : decode cX11_groups 69 = .ok (.irem, 1) := by decide +kernel
theorem dX11_groups_70 : decode cX11_groups 70 = .ok (.ifCond .ne 7, 3) := by decide +kernel
theorem dX11_groups_73 : decode cX11_groups 73 = .ok (.iconst 1, 1) := by decide +kernel
theorem dX11_groups_74 : decode cX11_groups 74 = .ok (.goto 4, 3) := by decide +kernel
theorem dX11_groups_77 : decode cX11_groups 77 = .ok (.iconst 0, 1) := by decide +kernel
theorem dX11_groups_78 : decode cX11_groups 78 = .ok (.invokevirtual 291, 3) := by decide +kernel
theorem dX11_groups_81 : decode cX11_groups 81 = .ok (.ifCond .eq 6, 3) := by decide +kernel
theorem dX11_groups_84 : decode cX11_groups 84 = .ok (.goto 16, 3) := by decide +kernel
theorem dX11_groups_87 : decode cX11_groups 87 = .ok (.iinc 3 1, 3) := by decide +kernel
theorem dX11_groups_90 : decode cX11_groups 90 = .ok (.iload 4, 2) := by decide +kernel
theorem dX11_groups_92 : decode cX11_groups 92 = .ok (.iconst (-1), 1) := by decide +kernel
theorem dX11_groups_93 : decode cX11_groups 93 = .ok (.if_icmp .ne 7, 3) := by decide +kernel
theorem dX11_groups_96 : decode cX11_groups 96 = .ok (.iload 5, 2) := by decide +kernel
theorem dX11_groups_98 : decode cX11_groups 98 = .ok (.istore 4, 2) := by decide +kernel
theorem dX11_groups_100 : decode cX11_groups 100 = .ok (.iinc 5 1, 3) := by decide +kernel
theorem dX11_groups_103 : decode cX11_groups 103 = .ok (.goto (-63), 3) := by decide +kernel
theorem dX11_groups_106 : decode cX11_groups 106 = .ok (.iload_n 2, 1) := by decide +kernel
theorem dX11_groups_107 : decode cX11_groups 107 = .ok (.iconst 2, 1) := by decide +kernel
theorem dX11_groups_108 : decode cX11_groups 108 = .ok (.if_icmp .le 8, 3) := by decide +kernel
theorem dX11_groups_111 : decode cX11_groups 111 = .ok (.iload 4, 2) := by decide +kernel
theorem dX11_groups_113 : decode cX11_groups 113 = .ok (.goto 4, 3) := by decide +kernel
theorem dX11_groups_116 : decode cX11_groups 116 = .ok (.iload_n 3, 1) := by decide +kernel
theorem dX11_groups_117 : decode cX11_groups 117 = .ok (.ireturn, 1) := by decide +kernel
def jX11_groups_21 (Y : XS) (n : Nat) (S : PS) (v0 : Nat) : Option (Int32 × PS) :=
  kc (fX11_fail Y n S v0 (1 : Int32)) (fun q23 => some (q23.1, q23.2))
def jX11_groups_100_40 (Y : XS) (n : Nat) (S : PS) (v0 : Nat) (v2 : Int32) (v3 : Int32) (v4 : Int32) (v5 : Int32) : Option ((Int32 × Int32 × Int32) ⊕ (Int32 × Int32)) :=
  some (.inl (v3, v4, v5 + (1 : Int32)))
def jX11_groups_87_40 (Y : XS) (n : Nat) (S : PS) (v0 : Nat) (v2 : Int32) (v3 : Int32) (v4 : Int32) (v5 : Int32) : Option ((Int32 × Int32 × Int32) ⊕ (Int32 × Int32)) :=
  (if v4 = (-1 : Int32) then jX11_groups_100_40 Y n S v0 v2 (v3 + (1 : Int32)) v5 v5 else jX11_groups_100_40 Y n S v0 v2 (v3 + (1 : Int32)) v4 v5)
def jX11_groups_78_40 (Y : XS) (n : Nat) (S : PS) (v0 : Nat) (v2 : Int32) (v3 : Int32) (v4 : Int32) (v5 : Int32) (t0 : Int32) (t1 : Int32) (t2 : Nat) : Option ((Int32 × Int32 × Int32) ⊕ (Int32 × Int32)) :=
  kc (fX11_serves Y n S t2 t1 t0) (fun q78 => (if q78 = 0 then jX11_groups_87_40 Y n S v0 v2 v3 v4 v5 else jX11_groups_100_40 Y n S v0 v2 v3 v4 v5))
def bX11_groups_40 (Y : XS) (n : Nat) (S : PS) (v0 : Nat) (v2 : Int32) (s40 : (Int32 × Int32 × Int32)) : Option ((Int32 × Int32 × Int32) ⊕ (Int32 × Int32)) :=
  kc (fX11_many Y n S v0) (fun q44 => (if ((1 : Int32) <<< (q44 &&& 31)) ≤ s40.2.2 then some (.inr (s40.1, s40.2.1)) else kc (fX11_isDue Y n S v0 s40.2.2) (fun q54 => (if q54 = 0 then jX11_groups_100_40 Y n S v0 v2 s40.1 s40.2.1 s40.2.2 else (if v2 ≤ 0 then jX11_groups_87_40 Y n S v0 v2 s40.1 s40.2.1 s40.2.2 else kirem v2 (2 : Int32) (fun z69 => (if z69 = 0 then jX11_groups_78_40 Y n S v0 v2 s40.1 s40.2.1 s40.2.2 (1 : Int32) s40.2.2 v0 else jX11_groups_78_40 Y n S v0 v2 s40.1 s40.2.1 s40.2.2 (0 : Int32) s40.2.2 v0)))))))
def jX11_groups_117 (Y : XS) (n : Nat) (S : PS) (t0 : Int32) : Option (Int32 × PS) :=
  some (t0, S)
def fX11_groups (Y : XS) (n : Nat) (S : PS) (a0 : Nat) (x1_ : Int32) (x2_ : Int32) : Option (Int32 × PS) :=
  kpi S a0 7 (0 : Int32) (fun S2 => kc (fX11_isRule Y n S2 x1_) (fun q6 => (if q6 = 0 then jX11_groups_21 Y n S2 a0 else kc (fX11_isIn Y n S2 x2_ (0 : Int32) (4 : Int32)) (fun q15 => (if q15 = 0 then jX11_groups_21 Y n S2 a0 else kc (fX11_goes Y n S2 a0 x1_) (fun q29 => kc (iter (bX11_groups_40 Y n q29 a0 x2_) n ((0 : Int32), (-1 : Int32), (1 : Int32))) (fun r40 => (if x2_ ≤ (2 : Int32) then jX11_groups_117 Y n q29 r40.1 else jX11_groups_117 Y n q29 r40.2))))))))
theorem wjX11_groups_21 {C : CT} {X : XT} (hC : CK C RX11 cX11_groups 6 (some .int) 54) (n : Nat) (S : PS) (v0 : Nat)  (hTv0 : Ty X.2.1 v0 11) {o : Int32 × PS} (hf : jX11_groups_21 X.2.1 n S v0 = some o) (hR : Rt C X cX11_groups (some .int) (some (.int o.1)) o.2) : UW C X S 21 [(0, .ref (X.1 v0))] [] := by
  unfold jX11_groups_21 at hf
  refine u_aload_n hC dX11_groups_21 0 rfl rfl ?_
  refine u_iconst (v := (1 : Int32)) hC dX11_groups_22 (by decide) ?_
  obtain ⟨q23, hq23, hf⟩ := kc_some hf
  refine u_callV hC (ctX11_fail (cL C) hC.tr (cG C) X.1 X.2.1 n S v0 (1 : Int32) hTv0 hq23) lk_X11_252 rfl hTv0 (by decide) rfl (by decide) (by decide) rfl rfl (Nat.le_of_ble_eq_true rfl) dX11_groups_23 ?_
  cases hf
  exact hR _ _ dX11_groups_26 trivial
theorem wjX11_groups_100_40 {C : CT} {X : XT} (hC : CK C RX11 cX11_groups 6 (some .int) 54) (n : Nat) (S : PS) (v0 : Nat) (v2 : Int32) (v3 : Int32) (v4 : Int32) (v5 : Int32)  (hTv0 : Ty X.2.1 v0 11) {o : (Int32 × Int32 × Int32) ⊕ (Int32 × Int32)} (hf : jX11_groups_100_40 X.2.1 n S v0 v2 v3 v4 v5 = some o) (hN : ∀ s', o = .inl s' → UW C X S 40 [(0, .ref (X.1 v0)), (2, .int v2), (3, .int s'.1), (4, .int s'.2.1), (5, .int s'.2.2)] []) (hO0 : ∀ p', o = .inr p' → UW C X S 106 [(2, .int v2), (3, .int p'.1), (4, .int p'.2)] []) : UW C X S 100 [(0, .ref (X.1 v0)), (2, .int v2), (3, .int v3), (4, .int v4), (5, .int v5)] [] := by
  unfold jX11_groups_100_40 at hf
  refine u_iinc (v := v5 + (1 : Int32)) (lv' := [(5, .int (v5 + (1 : Int32))), (0, .ref (X.1 v0)), (2, .int v2), (3, .int v3), (4, .int v4)]) hC dX11_groups_100 4 rfl rfl (by decide) rfl ?_
  refine u_goto (tgt := 40) hC dX11_groups_103 (by decide) ?_
  refine u_sub (lv' := [(0, .ref (X.1 v0)), (2, .int v2), (3, .int v3), (4, .int v4), (5, .int (v5 + (1 : Int32)))]) [1, 2, 3, 4, 0] rfl ?_
  exact hN _ (Option.some.inj hf).symm
theorem wjX11_groups_87_40 {C : CT} {X : XT} (hC : CK C RX11 cX11_groups 6 (some .int) 54) (n : Nat) (S : PS) (v0 : Nat) (v2 : Int32) (v3 : Int32) (v4 : Int32) (v5 : Int32)  (hTv0 : Ty X.2.1 v0 11) {o : (Int32 × Int32 × Int32) ⊕ (Int32 × Int32)} (hf : jX11_groups_87_40 X.2.1 n S v0 v2 v3 v4 v5 = some o) (hN : ∀ s', o = .inl s' → UW C X S 40 [(0, .ref (X.1 v0)), (2, .int v2), (3, .int s'.1), (4, .int s'.2.1), (5, .int s'.2.2)] []) (hO0 : ∀ p', o = .inr p' → UW C X S 106 [(2, .int v2), (3, .int p'.1), (4, .int p'.2)] []) : UW C X S 87 [(0, .ref (X.1 v0)), (2, .int v2), (3, .int v3), (4, .int v4), (5, .int v5)] [] := by
  unfold jX11_groups_87_40 at hf
  refine u_iinc (v := v3 + (1 : Int32)) (lv' := [(3, .int (v3 + (1 : Int32))), (0, .ref (X.1 v0)), (2, .int v2), (4, .int v4), (5, .int v5)]) hC dX11_groups_87 2 rfl rfl (by decide) rfl ?_
  refine u_iload hC dX11_groups_90 3 rfl ?_
  refine u_iconst (v := (-1 : Int32)) hC dX11_groups_92 (by decide) ?_
  refine u_icmp_ne (tgt := 100) hC dX11_groups_93 (by decide) hf (fun h93 hf => ?_) (fun h93 hf => ?_)
  · refine u_sub (lv' := [(0, .ref (X.1 v0)), (2, .int v2), (3, .int (v3 + (1 : Int32))), (4, .int v4), (5, .int v5)]) [1, 2, 0, 3, 4] rfl ?_
    exact wjX11_groups_100_40 hC n S v0 v2 (v3 + (1 : Int32)) v4 v5  hTv0 hf hN hO0
  · refine u_iload hC dX11_groups_96 4 rfl ?_
    refine u_istore (lv' := [(4, .int v5), (3, .int (v3 + (1 : Int32))), (0, .ref (X.1 v0)), (2, .int v2), (5, .int v5)]) hC dX11_groups_98 (by decide) rfl ?_
    refine u_sub (lv' := [(0, .ref (X.1 v0)), (2, .int v2), (3, .int (v3 + (1 : Int32))), (4, .int v5), (5, .int v5)]) [2, 3, 1, 0, 4] rfl ?_
    exact wjX11_groups_100_40 hC n S v0 v2 (v3 + (1 : Int32)) v5 v5  hTv0 hf hN hO0
theorem wjX11_groups_78_40 {C : CT} {X : XT} (hC : CK C RX11 cX11_groups 6 (some .int) 54) (n : Nat) (S : PS) (v0 : Nat) (v2 : Int32) (v3 : Int32) (v4 : Int32) (v5 : Int32) (t0 : Int32) (t1 : Int32) (t2 : Nat)  (hTv0 : Ty X.2.1 v0 11) (hTt2 : Ty X.2.1 t2 11) {o : (Int32 × Int32 × Int32) ⊕ (Int32 × Int32)} (hf : jX11_groups_78_40 X.2.1 n S v0 v2 v3 v4 v5 t0 t1 t2 = some o) (hN : ∀ s', o = .inl s' → UW C X S 40 [(0, .ref (X.1 v0)), (2, .int v2), (3, .int s'.1), (4, .int s'.2.1), (5, .int s'.2.2)] []) (hO0 : ∀ p', o = .inr p' → UW C X S 106 [(2, .int v2), (3, .int p'.1), (4, .int p'.2)] []) : UW C X S 78 [(0, .ref (X.1 v0)), (2, .int v2), (3, .int v3), (4, .int v4), (5, .int v5)] [.int t0, .int t1, .ref (X.1 t2)] := by
  unfold jX11_groups_78_40 at hf
  obtain ⟨q78, hq78, hf⟩ := kc_some hf
  refine u_callV hC (ctX11_serves (cL C) hC.tr (cG C) X.1 X.2.1 n S t2 t1 t0 hTt2 hq78) lk_X11_291 rfl hTt2 (by decide) rfl (by decide) (by decide) rfl rfl (Nat.le_of_ble_eq_true rfl) dX11_groups_78 ?_
  refine u_if_eq (tgt := 87) hC dX11_groups_81 (by decide) hf (fun h81 hf => ?_) (fun h81 hf => ?_)
  · exact wjX11_groups_87_40 hC n S v0 v2 v3 v4 v5  hTv0 hf hN hO0
  · refine u_goto (tgt := 100) hC dX11_groups_84 (by decide) ?_
    exact wjX11_groups_100_40 hC n S v0 v2 v3 v4 v5  hTv0 hf hN hO0
theorem wbX11_groups_40 {C : CT} {X : XT} (hC : CK C RX11 cX11_groups 6 (some .int) 54) (n : Nat) (S : PS) (v0 : Nat) (v2 : Int32) (hTv0 : Ty X.2.1 v0 11) (s40 : (Int32 × Int32 × Int32)) {o : (Int32 × Int32 × Int32) ⊕ (Int32 × Int32)} (hf : bX11_groups_40 X.2.1 n S v0 v2 s40 = some o) (hN : ∀ s', o = .inl s' → UW C X S 40 [(0, .ref (X.1 v0)), (2, .int v2), (3, .int s'.1), (4, .int s'.2.1), (5, .int s'.2.2)] []) (hO0 : ∀ p', o = .inr p' → UW C X S 106 [(2, .int v2), (3, .int p'.1), (4, .int p'.2)] []) : UW C X S 40 [(0, .ref (X.1 v0)), (2, .int v2), (3, .int s40.1), (4, .int s40.2.1), (5, .int s40.2.2)] [] := by
  unfold bX11_groups_40 at hf
  refine u_iload hC dX11_groups_40 4 rfl ?_
  refine u_iconst (v := (1 : Int32)) hC dX11_groups_42 (by decide) ?_
  refine u_aload_n hC dX11_groups_43 0 rfl rfl ?_
  obtain ⟨q44, hq44, hf⟩ := kc_some hf
  refine u_callV hC (ctX11_many (cL C) hC.tr (cG C) X.1 X.2.1 n S v0 hTv0 hq44) lk_X11_77 rfl hTv0 (by decide) rfl (by decide) (by decide) rfl rfl (Nat.le_of_ble_eq_true rfl) dX11_groups_44 ?_
  refine u_ishl hC dX11_groups_47 ?_
  refine u_icmp_ge (tgt := 106) hC dX11_groups_48 (by decide) hf (fun h48 hf => ?_) (fun h48 hf => ?_)
  · refine u_sub (lv' := [(2, .int v2), (3, .int s40.1), (4, .int s40.2.1)]) [1, 2, 3] rfl ?_
    exact hO0 _ (Option.some.inj hf).symm
  · refine u_aload_n hC dX11_groups_51 0 rfl rfl ?_
    refine u_iload hC dX11_groups_52 4 rfl ?_
    obtain ⟨q54, hq54, hf⟩ := kc_some hf
    refine u_callV hC (ctX11_isDue (cL C) hC.tr (cG C) X.1 X.2.1 n S v0 s40.2.2 hTv0 hq54) lk_X11_285 rfl hTv0 (by decide) rfl (by decide) (by decide) rfl rfl (Nat.le_of_ble_eq_true rfl) dX11_groups_54 ?_
    refine u_if_eq (tgt := 100) hC dX11_groups_57 (by decide) hf (fun h57 hf => ?_) (fun h57 hf => ?_)
    · exact wjX11_groups_100_40 hC n S v0 v2 s40.1 s40.2.1 s40.2.2  hTv0 hf hN hO0
    · refine u_iload_n hC dX11_groups_60 1 rfl rfl ?_
      refine u_if_le (tgt := 87) hC dX11_groups_61 (by decide) hf (fun h61 hf => ?_) (fun h61 hf => ?_)
      · exact wjX11_groups_87_40 hC n S v0 v2 s40.1 s40.2.1 s40.2.2  hTv0 hf hN hO0
      · refine u_aload_n hC dX11_groups_64 0 rfl rfl ?_
        refine u_iload hC dX11_groups_65 4 rfl ?_
        refine u_iload_n hC dX11_groups_67 1 rfl rfl ?_
        refine u_iconst (v := (2 : Int32)) hC dX11_groups_68 (by decide) ?_
        refine u_irem hC dX11_groups_69 hf (fun z69 hf => ?_)
        refine u_if_ne (tgt := 77) hC dX11_groups_70 (by decide) hf (fun h70 hf => ?_) (fun h70 hf => ?_)
        · refine u_iconst (v := (0 : Int32)) hC dX11_groups_77 (by decide) ?_
          exact wjX11_groups_78_40 hC n S v0 v2 s40.1 s40.2.1 s40.2.2 (0 : Int32) s40.2.2 v0  hTv0 hTv0 hf hN hO0
        · refine u_iconst (v := (1 : Int32)) hC dX11_groups_73 (by decide) ?_
          refine u_goto (tgt := 78) hC dX11_groups_74 (by decide) ?_
          exact wjX11_groups_78_40 hC n S v0 v2 s40.1 s40.2.1 s40.2.2 (1 : Int32) s40.2.2 v0  hTv0 hTv0 hf hN hO0
theorem wjX11_groups_117 {C : CT} {X : XT} (hC : CK C RX11 cX11_groups 6 (some .int) 54) (n : Nat) (S : PS) (t0 : Int32)   {o : Int32 × PS} (hf : jX11_groups_117 X.2.1 n S t0 = some o) (hR : Rt C X cX11_groups (some .int) (some (.int o.1)) o.2) : UW C X S 117 [] [.int t0] := by
  unfold jX11_groups_117 at hf
  cases hf
  exact hR _ _ dX11_groups_117 trivial
theorem wX11_groups {C : CT} {X : XT} (hC : CK C RX11 cX11_groups 6 (some .int) 54) (n : Nat) (S : PS) (a0 : Nat) (x1_ : Int32) (x2_ : Int32) (hTa0 : Ty X.2.1 a0 11) {o : Int32 × PS} (hf : fX11_groups X.2.1 n S a0 x1_ x2_ = some o) (hR : Rt C X cX11_groups (some .int) (some (.int o.1)) o.2) : UW C X S 0 [(0, .ref (X.1 a0)), (1, .int x1_), (2, .int x2_)] [] := by
  unfold fX11_groups at hf
  refine u_aload_n hC dX11_groups_0 0 rfl rfl ?_
  refine u_iconst (v := (0 : Int32)) hC dX11_groups_1 (by decide) ?_
  refine u_pi hC lf_X11_70 rfl rfl rfl hTa0 dX11_groups_2 hf (fun S2 hf => ?_)
  refine u_iload_n hC dX11_groups_5 1 rfl rfl ?_
  obtain ⟨q6, hq6, hf⟩ := kc_some hf
  refine u_callS hC (ctX11_isRule (cL C) hC.tr (cG C) X.1 X.2.1 n S2 x1_  hq6) lk_X11_261 (by decide) (by decide) rfl rfl (Nat.le_of_ble_eq_true rfl) dX11_groups_6 ?_
  refine u_if_eq (tgt := 21) hC dX11_groups_9 (by decide) hf (fun h9 hf => ?_) (fun h9 hf => ?_)
  · refine u_sub (lv' := [(0, .ref (X.1 a0))]) [0] rfl ?_
    exact wjX11_groups_21 hC n S2 a0  hTa0 hf hR
  · refine u_iload_n hC dX11_groups_12 2 rfl rfl ?_
    refine u_iconst (v := (0 : Int32)) hC dX11_groups_13 (by decide) ?_
    refine u_iconst (v := (4 : Int32)) hC dX11_groups_14 (by decide) ?_
    obtain ⟨q15, hq15, hf⟩ := kc_some hf
    refine u_callS hC (ctX11_isIn (cL C) hC.tr (cG C) X.1 X.2.1 n S2 x2_ (0 : Int32) (4 : Int32)  hq15) lk_X11_81 (by decide) (by decide) rfl rfl (Nat.le_of_ble_eq_true rfl) dX11_groups_15 ?_
    refine u_if_ne (tgt := 27) hC dX11_groups_18 (by decide) hf (fun h18 hf => ?_) (fun h18 hf => ?_)
    · refine u_aload_n hC dX11_groups_27 0 rfl rfl ?_
      refine u_iload_n hC dX11_groups_28 1 rfl rfl ?_
      obtain ⟨q29, hq29, hf⟩ := kc_some hf
      refine u_callV hC (ctX11_goes (cL C) hC.tr (cG C) X.1 X.2.1 n S2 a0 x1_ hTa0 hq29) lk_X11_264 rfl hTa0 (by decide) rfl (by decide) (by decide) rfl rfl (Nat.le_of_ble_eq_true rfl) dX11_groups_29 ?_
      refine u_iconst (v := (0 : Int32)) hC dX11_groups_32 (by decide) ?_
      refine u_istore_n (lv' := [(3, .int (0 : Int32)), (0, .ref (X.1 a0)), (1, .int x1_), (2, .int x2_)]) hC dX11_groups_33 rfl (by decide) rfl ?_
      refine u_iconst (v := (-1 : Int32)) hC dX11_groups_34 (by decide) ?_
      refine u_istore (lv' := [(4, .int (-1 : Int32)), (3, .int (0 : Int32)), (0, .ref (X.1 a0)), (1, .int x1_), (2, .int x2_)]) hC dX11_groups_35 (by decide) rfl ?_
      refine u_iconst (v := (1 : Int32)) hC dX11_groups_37 (by decide) ?_
      refine u_istore (lv' := [(5, .int (1 : Int32)), (4, .int (-1 : Int32)), (3, .int (0 : Int32)), (0, .ref (X.1 a0)), (1, .int x1_), (2, .int x2_)]) hC dX11_groups_38 (by decide) rfl ?_
      obtain ⟨r40, hr40, hf⟩ := kc_some hf
      have hk40 : UW C X q29 106 [(2, .int x2_), (3, .int r40.1), (4, .int r40.2)] [] := by
        refine u_iload_n hC dX11_groups_106 0 rfl rfl ?_
        refine u_iconst (v := (2 : Int32)) hC dX11_groups_107 (by decide) ?_
        refine u_icmp_le (tgt := 116) hC dX11_groups_108 (by decide) hf (fun h108 hf => ?_) (fun h108 hf => ?_)
        · refine u_iload_n hC dX11_groups_116 1 rfl rfl ?_
          refine u_sub (lv' := []) [] rfl ?_
          exact wjX11_groups_117 hC n q29 r40.1   hf hR
        · refine u_iload hC dX11_groups_111 2 rfl ?_
          refine u_goto (tgt := 117) hC dX11_groups_113 (by decide) ?_
          refine u_sub (lv' := []) [] rfl ?_
          exact wjX11_groups_117 hC n q29 r40.2   hf hR
      refine u_sub (lv' := [(0, .ref (X.1 a0)), (2, .int x2_), (3, .int (0 : Int32)), (4, .int (-1 : Int32)), (5, .int (1 : Int32))]) [3, 5, 2, 1, 0] rfl ?_
      refine iter_ind (P := fun s40 => UW C X q29 40 [(0, .ref (X.1 a0)), (2, .int x2_), (3, .int s40.1), (4, .int s40.2.1), (5, .int s40.2.2)] []) (fun s40 o' hb hin hout => ?_) n ((0 : Int32), (-1 : Int32), (1 : Int32)) hr40
      exact wbX11_groups_40 hC n q29 a0 x2_ hTa0 s40 hb hin (fun p e => by rw [hout p e]; exact hk40)
    · refine u_sub (lv' := [(0, .ref (X.1 a0))]) [0] rfl ?_
      exact wjX11_groups_21 hC n S2 a0  hTa0 hf hR
theorem ctX11_groups (l : Launch) (hl : l.stackTraces = false) (G : GT) (ρ : Nat → Nat) (Y : XS) (n : Nat) (S : PS) (a0 : Nat) (x1_ : Int32) (x2_ : Int32) (hTa0 : Ty Y a0 11) {o : Int32 × PS} (hf : fX11_groups Y n S a0 x1_ x2_ = some o) : Mt l G yX11_groups cX11_groups 6 (some .int) 54 ρ Y [.ref (ρ a0), .int x1_, .int x2_] S (some (.int o.1)) o.2 :=
  Mt_of hl (by decide) (Nat.le_of_ble_eq_true rfl) (fun C _ _ hC hR => wX11_groups (X := (ρ, Y, 0, 0)) hC n S a0 x1_ x2_ hTa0 hf hR)
-- X11_chosenBy
theorem dX11_chosenBy_0 : decode cX11_chosenBy 0 = .ok (.aload_n 0, 1) := by decide +kernel
theorem dX11_chosenBy_1 : decode cX11_chosenBy 1 = .ok (.iload_n 1, 1) := by decide +kernel
theorem dX11_chosenBy_2 : decode cX11_chosenBy 2 = .ok (.invokevirtual 264, 3) := by decide +kernel
theorem dX11_chosenBy_5 : decode cX11_chosenBy 5 = .ok (.aload_n 0, 1) := by decide +kernel
theorem dX11_chosenBy_6 : decode cX11_chosenBy 6 = .ok (.getfield 154, 3) := by decide +kernel
theorem dX11_chosenBy_9 : decode cX11_chosenBy 9 = .ok (.ireturn, 1) := by decide +kernel
def fX11_chosenBy (Y : XS) (n : Nat) (S : PS) (a0 : Nat) (x1_ : Int32) : Option (Int32 × PS) :=
  kc (fX11_goes Y n S a0 x1_) (fun q2 => kgi q2 a0 21 (fun x6 => some (x6, q2)))
theorem wX11_chosenBy {C : CT} {X : XT} (hC : CK C RX11 cX11_chosenBy 2 (some .int) 54) (n : Nat) (S : PS) (a0 : Nat) (x1_ : Int32) (hTa0 : Ty X.2.1 a0 11) {o : Int32 × PS} (hf : fX11_chosenBy X.2.1 n S a0 x1_ = some o) (hR : Rt C X cX11_chosenBy (some .int) (some (.int o.1)) o.2) : UW C X S 0 [(0, .ref (X.1 a0)), (1, .int x1_)] [] := by
  unfold fX11_chosenBy at hf
  refine u_aload_n hC dX11_chosenBy_0 0 rfl rfl ?_
  refine u_iload_n hC dX11_chosenBy_1 1 rfl rfl ?_
  obtain ⟨q2, hq2, hf⟩ := kc_some hf
  refine u_callV hC (ctX11_goes (cL C) hC.tr (cG C) X.1 X.2.1 n S a0 x1_ hTa0 hq2) lk_X11_264 rfl hTa0 (by decide) rfl (by decide) (by decide) rfl rfl (Nat.le_of_ble_eq_true rfl) dX11_chosenBy_2 ?_
  refine u_aload_n hC dX11_chosenBy_5 0 rfl rfl ?_
  refine u_gi hC lf_X11_154 rfl hTa0 dX11_chosenBy_6 hf (fun x6 hf => ?_)
  cases hf
  exact hR _ _ dX11_chosenBy_9 trivial
theorem ctX11_chosenBy (l : Launch) (hl : l.stackTraces = false) (G : GT) (ρ : Nat → Nat) (Y : XS) (n : Nat) (S : PS) (a0 : Nat) (x1_ : Int32) (hTa0 : Ty Y a0 11) {o : Int32 × PS} (hf : fX11_chosenBy Y n S a0 x1_ = some o) : Mt l G yX11_chosenBy cX11_chosenBy 2 (some .int) 54 ρ Y [.ref (ρ a0), .int x1_] S (some (.int o.1)) o.2 :=
  Mt_of hl (by decide) (Nat.le_of_ble_eq_true rfl) (fun C _ _ hC hR => wX11_chosenBy (X := (ρ, Y, 0, 0)) hC n S a0 x1_ hTa0 hf hR)
-- X11_removeVoter
theorem dX11_removeVoter_0 : decode cX11_removeVoter 0 = .ok (.iload_n 1, 1) := by decide +kernel
theorem dX11_removeVoter_1 : decode cX11_removeVoter 1 = .ok (.istore_n 2, 1) := by decide +kernel
theorem dX11_removeVoter_2 : decode cX11_removeVoter 2 = .ok (.iload_n 2, 1) := by decide +kernel
theorem dX11_removeVoter_3 : decode cX11_removeVoter 3 = .ok (.aload_n 0, 1) := by decide +kernel
theorem dX11_removeVoter_4 : decode cX11_removeVoter 4 = .ok (.invokevirtual 85, 3) := by decide +kernel
theorem dX11_removeVoter_7 : decode cX11_removeVoter 7 = .ok (.iconst 1, 1) := by decide +kernel
theorem dX11_removeVoter_8 : decode cX11_removeVoter 8 = .ok (.isub, 1) := by decide +kernel
theorem dX11_removeVoter_9 : decode cX11_removeVoter 9 = .ok (.if_icmp .ge 41, 3) := by decide +kernel
theorem dX11_removeVoter_12 : decode cX11_removeVoter 12 = .ok (.iconst 0, 1) := by decide +kernel
theorem dX11_removeVoter_13 : decode cX11_removeVoter 13 = .ok (.istore_n 3, 1) := by decide +kernel
theorem dX11_removeVoter_14 : decode cX11_removeVoter 14 = .ok (.iload_n 3, 1) := by decide +kernel
theorem dX11_removeVoter_15 : decode cX11_removeVoter 15 = .ok (.bipush 12, 2) := by decide +kernel
theorem dX11_removeVoter_17 : decode cX11_removeVoter 17 = .ok (.if_icmp .ge 27, 3) := by decide +kernel
theorem dX11_removeVoter_20 : decode cX11_removeVoter 20 = .ok (.aload_n 0, 1) := by decide +kernel
theorem dX11_removeVoter_21 : decode cX11_removeVoter 21 = .ok (.getfield 9, 3) := by decide +kernel
theorem dX11_removeVoter_24 : decode cX11_removeVoter 24 = .ok (.iload_n 2, 1) := by decide +kernel
theorem dX11_removeVoter_25 : decode cX11_removeVoter 25 = .ok (.iload_n 3, 1) := by decide +kernel
theorem dX11_removeVoter_26 : decode cX11_removeVoter 26 = .ok (.invokestatic 73, 3) := by decide +kernel
theorem dX11_removeVoter_29 : decode cX11_removeVoter 29 = .ok (.aload_n 0, 1) := by decide +kernel
theorem dX11_removeVoter_30 : decode cX11_removeVoter 30 = .ok (.iload_n 2, 1) := by decide +kernel
theorem dX11_removeVoter_31 : decode cX11_removeVoter 31 = .ok (.iconst 1, 1) := by decide +kernel
theorem dX11_removeVoter_32 : decode cX11_removeVoter 32 = .ok (.iadd, 1) := by decide +kernel
theorem dX11_removeVoter_33 : decode cX11_removeVoter 33 = .ok (.iload_n 3, 1) := by decide +kernel
theorem dX11_removeVoter_34 : decode cX11_removeVoter 34 = .ok (.invokevirtual 88, 3) := by decide +kernel
theorem dX11_removeVoter_37 : decode cX11_removeVoter 37 = .ok (.iastore, 1) := by decide +kernel
theorem dX11_removeVoter_38 : decode cX11_removeVoter 38 = .ok (.iinc 3 1, 3) := by decide +kernel
theorem dX11_removeVoter_41 : decode cX11_removeVoter 41 = .ok (.goto (-27), 3) := by decide +kernel
theorem dX11_removeVoter_44 : decode cX11_removeVoter 44 = .ok (.iinc 2 1, 3) := by decide +kernel
theorem dX11_removeVoter_47 : decode cX11_removeVoter 47 = .ok (.goto (-45), 3) := by decide +kernel
theorem dX11_removeVoter_50 : decode cX11_removeVoter 50 = .ok (.iconst 0, 1) := by decide +kernel
theorem dX11_removeVoter_51 : decode cX11_removeVoter 51 = .ok (.istore_n 2, 1) := by decide +kernel
theorem dX11_removeVoter_52 : decode cX11_removeVoter 52 = .ok (.iload_n 2, 1) := by decide +kernel
theorem dX11_removeVoter_53 : decode cX11_removeVoter 53 = .ok (.bipush 12, 2) := by decide +kernel
theorem dX11_removeVoter_55 : decode cX11_removeVoter 55 = .ok (.if_icmp .ge 25, 3) := by decide +kernel
theorem dX11_removeVoter_58 : decode cX11_removeVoter 58 = .ok (.aload_n 0, 1) := by decide +kernel
theorem dX11_removeVoter_59 : decode cX11_removeVoter 59 = .ok (.getfield 9, 3) := by decide +kernel
theorem dX11_removeVoter_62 : decode cX11_removeVoter 62 = .ok (.aload_n 0, 1) := by decide +kernel
theorem dX11_removeVoter_63 : decode cX11_removeVoter 63 = .ok (.invokevirtual 85, 3) := by decide +kernel
theorem dX11_removeVoter_66 : decode cX11_removeVoter 66 = .ok (.iconst 1, 1) := by decide +kernel
theorem dX11_removeVoter_67 : decode cX11_removeVoter 67 = .ok (.isub, 1) := by decide +kernel
theorem dX11_removeVoter_68 : decode cX11_removeVoter 68 = .ok (.iload_n 2, 1) := by decide +kernel
theorem dX11_removeVoter_69 : decode cX11_removeVoter 69 = .ok (.invokestatic 73, 3) := by decide +kernel
theorem dX11_removeVoter_72 : decode cX11_removeVoter 72 = .ok (.iconst 0, 1) := by decide +kernel
theorem dX11_removeVoter_73 : decode cX11_removeVoter 73 = .ok (.iastore, 1) := by decide +kernel
theorem dX11_removeVoter_74 : decode cX11_removeVoter 74 = .ok (.iinc 2 1, 3) := by decide +kernel
theorem dX11_removeVoter_77 : decode cX11_removeVoter 77 = .ok (.goto (-25), 3) := by decide +kernel
theorem dX11_removeVoter_80 : decode cX11_removeVoter 80 = .ok (.aload_n 0, 1) := by decide +kernel
theorem dX11_removeVoter_81 : decode cX11_removeVoter 81 = .ok (.getfield 9, 3) := by decide +kernel
theorem dX11_removeVoter_84 : decode cX11_removeVoter 84 = .ok (.iconst 2, 1) := by decide +kernel
theorem dX11_removeVoter_85 : decode cX11_removeVoter 85 = .ok (.dup2, 1) := by decide +kernel
theorem dX11_removeVoter_86 : decode cX11_removeVoter 86 = .ok (.iaload, 1) := by decide +kernel
theorem dX11_removeVoter_87 : decode cX11_removeVoter 87 = .ok (.iconst 1, 1) := by decide +kernel
theorem dX11_removeVoter_88 : decode cX11_removeVoter 88 = .ok (.isub, 1) := by decide +kernel
theorem dX11_removeVoter_89 : decode cX11_removeVoter 89 = .ok (.iastore, 1) := by decide +kernel
theorem dX11_removeVoter_90 : decode cX11_removeVoter 90 = .ok (.return_, 1) := by decide +kernel
def bX11_removeVoter_14 (Y : XS) (n : Nat) (v0 : Nat) (v2 : Int32) (s14 : (Int32 × PS)) : Option ((Int32 × PS) ⊕ PS) :=
  (if (12 : Int32) ≤ s14.1 then some (.inr s14.2) else kgr s14.2 v0 0 (fun b21 => kc (fX11_scoreAt Y n s14.2 v2 s14.1) (fun q26 => kc (fX11_scoreOf Y n s14.2 v0 (v2 + (1 : Int32)) s14.1) (fun q34 => kwi Y s14.2 b21 q26 q34 (fun S37 => some (.inl (s14.1 + (1 : Int32), S37)))))))
def bX11_removeVoter_2 (Y : XS) (n : Nat) (v0 : Nat) (s2 : (Int32 × PS)) : Option ((Int32 × PS) ⊕ PS) :=
  kc (fX11_people Y n s2.2 v0) (fun q4 => (if (q4 - (1 : Int32)) ≤ s2.1 then some (.inr s2.2) else kc (iter (bX11_removeVoter_14 Y n v0 s2.1) n ((0 : Int32), s2.2)) (fun r14 => some (.inl (s2.1 + (1 : Int32), r14)))))
def bX11_removeVoter_52 (Y : XS) (n : Nat) (v0 : Nat) (s52 : (Int32 × PS)) : Option ((Int32 × PS) ⊕ PS) :=
  (if (12 : Int32) ≤ s52.1 then some (.inr s52.2) else kgr s52.2 v0 0 (fun b59 => kc (fX11_people Y n s52.2 v0) (fun q63 => kc (fX11_scoreAt Y n s52.2 (q63 - (1 : Int32)) s52.1) (fun q69 => kwi Y s52.2 b59 q69 (0 : Int32) (fun S73 => some (.inl (s52.1 + (1 : Int32), S73)))))))
def fX11_removeVoter (Y : XS) (n : Nat) (S : PS) (a0 : Nat) (x1_ : Int32) : Option (PS) :=
  kc (iter (bX11_removeVoter_2 Y n a0) n (x1_, S)) (fun r2 => kc (iter (bX11_removeVoter_52 Y n a0) n ((0 : Int32), r2)) (fun r52 => kgr r52 a0 0 (fun b81 => kai Y r52 b81 (2 : Int32) (fun x86 => kwi Y r52 b81 (2 : Int32) (x86 - (1 : Int32)) (fun S89 => some S89)))))
theorem wbX11_removeVoter_14 {C : CT} {X : XT} (hC : CK C RX11 cX11_removeVoter 4 none 3) (n : Nat) (v0 : Nat) (v2 : Int32) (hTv0 : Ty X.2.1 v0 11) (s14 : (Int32 × PS)) {o : (Int32 × PS) ⊕ PS} (hf : bX11_removeVoter_14 X.2.1 n v0 v2 s14 = some o) (hN : ∀ s', o = .inl s' → UW C X s'.2 14 [(0, .ref (X.1 v0)), (2, .int v2), (3, .int s'.1)] []) (hO0 : ∀ p', o = .inr p' → UW C X p' 44 [(0, .ref (X.1 v0)), (2, .int v2)] []) : UW C X s14.2 14 [(0, .ref (X.1 v0)), (2, .int v2), (3, .int s14.1)] [] := by
  unfold bX11_removeVoter_14 at hf
  refine u_iload_n hC dX11_removeVoter_14 2 rfl rfl ?_
  refine u_bipush (v := (12 : Int32)) hC dX11_removeVoter_15 (by decide) ?_
  refine u_icmp_ge (tgt := 44) hC dX11_removeVoter_17 (by decide) hf (fun h17 hf => ?_) (fun h17 hf => ?_)
  · refine u_sub (lv' := [(0, .ref (X.1 v0)), (2, .int v2)]) [0, 1] rfl ?_
    exact hO0 _ (Option.some.inj hf).symm
  · refine u_aload_n hC dX11_removeVoter_20 0 rfl rfl ?_
    refine u_gr hC lf_X11_9 rfl hTv0 dX11_removeVoter_21 hf (fun b21 hTb21 hf => ?_)
    refine u_iload_n hC dX11_removeVoter_24 1 rfl rfl ?_
    refine u_iload_n hC dX11_removeVoter_25 2 rfl rfl ?_
    obtain ⟨q26, hq26, hf⟩ := kc_some hf
    refine u_callS hC (ctX11_scoreAt (cL C) hC.tr (cG C) X.1 X.2.1 n s14.2 v2 s14.1  hq26) lk_X11_73 (by decide) (by decide) rfl rfl (Nat.le_of_ble_eq_true rfl) dX11_removeVoter_26 ?_
    refine u_aload_n hC dX11_removeVoter_29 0 rfl rfl ?_
    refine u_iload_n hC dX11_removeVoter_30 1 rfl rfl ?_
    refine u_iconst (v := (1 : Int32)) hC dX11_removeVoter_31 (by decide) ?_
    refine u_iadd hC dX11_removeVoter_32 ?_
    refine u_iload_n hC dX11_removeVoter_33 2 rfl rfl ?_
    obtain ⟨q34, hq34, hf⟩ := kc_some hf
    refine u_callV hC (ctX11_scoreOf (cL C) hC.tr (cG C) X.1 X.2.1 n s14.2 v0 (v2 + (1 : Int32)) s14.1 hTv0 hq34) lk_X11_88 rfl hTv0 (by decide) rfl (by decide) (by decide) rfl rfl (Nat.le_of_ble_eq_true rfl) dX11_removeVoter_34 ?_
    refine u_wi hC hTb21 dX11_removeVoter_37 hf (fun S37 hf => ?_)
    refine u_iinc (v := s14.1 + (1 : Int32)) (lv' := [(3, .int (s14.1 + (1 : Int32))), (0, .ref (X.1 v0)), (2, .int v2)]) hC dX11_removeVoter_38 2 rfl rfl (by decide) rfl ?_
    refine u_goto (tgt := 14) hC dX11_removeVoter_41 (by decide) ?_
    refine u_sub (lv' := [(0, .ref (X.1 v0)), (2, .int v2), (3, .int (s14.1 + (1 : Int32)))]) [1, 2, 0] rfl ?_
    exact hN _ (Option.some.inj hf).symm
theorem wbX11_removeVoter_2 {C : CT} {X : XT} (hC : CK C RX11 cX11_removeVoter 4 none 3) (n : Nat) (v0 : Nat) (hTv0 : Ty X.2.1 v0 11) (s2 : (Int32 × PS)) {o : (Int32 × PS) ⊕ PS} (hf : bX11_removeVoter_2 X.2.1 n v0 s2 = some o) (hN : ∀ s', o = .inl s' → UW C X s'.2 2 [(0, .ref (X.1 v0)), (2, .int s'.1)] []) (hO0 : ∀ p', o = .inr p' → UW C X p' 50 [(0, .ref (X.1 v0))] []) : UW C X s2.2 2 [(0, .ref (X.1 v0)), (2, .int s2.1)] [] := by
  unfold bX11_removeVoter_2 at hf
  refine u_iload_n hC dX11_removeVoter_2 1 rfl rfl ?_
  refine u_aload_n hC dX11_removeVoter_3 0 rfl rfl ?_
  obtain ⟨q4, hq4, hf⟩ := kc_some hf
  refine u_callV hC (ctX11_people (cL C) hC.tr (cG C) X.1 X.2.1 n s2.2 v0 hTv0 hq4) lk_X11_85 rfl hTv0 (by decide) rfl (by decide) (by decide) rfl rfl (Nat.le_of_ble_eq_true rfl) dX11_removeVoter_4 ?_
  refine u_iconst (v := (1 : Int32)) hC dX11_removeVoter_7 (by decide) ?_
  refine u_isub hC dX11_removeVoter_8 ?_
  refine u_icmp_ge (tgt := 50) hC dX11_removeVoter_9 (by decide) hf (fun h9 hf => ?_) (fun h9 hf => ?_)
  · refine u_sub (lv' := [(0, .ref (X.1 v0))]) [0] rfl ?_
    exact hO0 _ (Option.some.inj hf).symm
  · refine u_iconst (v := (0 : Int32)) hC dX11_removeVoter_12 (by decide) ?_
    refine u_istore_n (lv' := [(3, .int (0 : Int32)), (0, .ref (X.1 v0)), (2, .int s2.1)]) hC dX11_removeVoter_13 rfl (by decide) rfl ?_
    obtain ⟨r14, hr14, hf⟩ := kc_some hf
    have hk14 : UW C X r14 44 [(0, .ref (X.1 v0)), (2, .int s2.1)] [] := by
      refine u_iinc (v := s2.1 + (1 : Int32)) (lv' := [(2, .int (s2.1 + (1 : Int32))), (0, .ref (X.1 v0))]) hC dX11_removeVoter_44 1 rfl rfl (by decide) rfl ?_
      refine u_goto (tgt := 2) hC dX11_removeVoter_47 (by decide) ?_
      refine u_sub (lv' := [(0, .ref (X.1 v0)), (2, .int (s2.1 + (1 : Int32)))]) [1, 0] rfl ?_
      exact hN _ (Option.some.inj hf).symm
    refine u_sub (lv' := [(0, .ref (X.1 v0)), (2, .int s2.1), (3, .int (0 : Int32))]) [1, 2, 0] rfl ?_
    refine iter_ind (P := fun s14 => UW C X s14.2 14 [(0, .ref (X.1 v0)), (2, .int s2.1), (3, .int s14.1)] []) (fun s14 o' hb hin hout => ?_) n ((0 : Int32), s2.2) hr14
    exact wbX11_removeVoter_14 hC n v0 s2.1 hTv0 s14 hb hin (fun p e => by rw [hout p e]; exact hk14)
theorem wbX11_removeVoter_52 {C : CT} {X : XT} (hC : CK C RX11 cX11_removeVoter 4 none 3) (n : Nat) (v0 : Nat) (hTv0 : Ty X.2.1 v0 11) (s52 : (Int32 × PS)) {o : (Int32 × PS) ⊕ PS} (hf : bX11_removeVoter_52 X.2.1 n v0 s52 = some o) (hN : ∀ s', o = .inl s' → UW C X s'.2 52 [(0, .ref (X.1 v0)), (2, .int s'.1)] []) (hO0 : ∀ p', o = .inr p' → UW C X p' 80 [(0, .ref (X.1 v0))] []) : UW C X s52.2 52 [(0, .ref (X.1 v0)), (2, .int s52.1)] [] := by
  unfold bX11_removeVoter_52 at hf
  refine u_iload_n hC dX11_removeVoter_52 1 rfl rfl ?_
  refine u_bipush (v := (12 : Int32)) hC dX11_removeVoter_53 (by decide) ?_
  refine u_icmp_ge (tgt := 80) hC dX11_removeVoter_55 (by decide) hf (fun h55 hf => ?_) (fun h55 hf => ?_)
  · refine u_sub (lv' := [(0, .ref (X.1 v0))]) [0] rfl ?_
    exact hO0 _ (Option.some.inj hf).symm
  · refine u_aload_n hC dX11_removeVoter_58 0 rfl rfl ?_
    refine u_gr hC lf_X11_9 rfl hTv0 dX11_removeVoter_59 hf (fun b59 hTb59 hf => ?_)
    refine u_aload_n hC dX11_removeVoter_62 0 rfl rfl ?_
    obtain ⟨q63, hq63, hf⟩ := kc_some hf
    refine u_callV hC (ctX11_people (cL C) hC.tr (cG C) X.1 X.2.1 n s52.2 v0 hTv0 hq63) lk_X11_85 rfl hTv0 (by decide) rfl (by decide) (by decide) rfl rfl (Nat.le_of_ble_eq_true rfl) dX11_removeVoter_63 ?_
    refine u_iconst (v := (1 : Int32)) hC dX11_removeVoter_66 (by decide) ?_
    refine u_isub hC dX11_removeVoter_67 ?_
    refine u_iload_n hC dX11_removeVoter_68 1 rfl rfl ?_
    obtain ⟨q69, hq69, hf⟩ := kc_some hf
    refine u_callS hC (ctX11_scoreAt (cL C) hC.tr (cG C) X.1 X.2.1 n s52.2 (q63 - (1 : Int32)) s52.1  hq69) lk_X11_73 (by decide) (by decide) rfl rfl (Nat.le_of_ble_eq_true rfl) dX11_removeVoter_69 ?_
    refine u_iconst (v := (0 : Int32)) hC dX11_removeVoter_72 (by decide) ?_
    refine u_wi hC hTb59 dX11_removeVoter_73 hf (fun S73 hf => ?_)
    refine u_iinc (v := s52.1 + (1 : Int32)) (lv' := [(2, .int (s52.1 + (1 : Int32))), (0, .ref (X.1 v0))]) hC dX11_removeVoter_74 1 rfl rfl (by decide) rfl ?_
    refine u_goto (tgt := 52) hC dX11_removeVoter_77 (by decide) ?_
    refine u_sub (lv' := [(0, .ref (X.1 v0)), (2, .int (s52.1 + (1 : Int32)))]) [1, 0] rfl ?_
    exact hN _ (Option.some.inj hf).symm
theorem wX11_removeVoter {C : CT} {X : XT} (hC : CK C RX11 cX11_removeVoter 4 none 3) (n : Nat) (S : PS) (a0 : Nat) (x1_ : Int32) (hTa0 : Ty X.2.1 a0 11) {o : PS} (hf : fX11_removeVoter X.2.1 n S a0 x1_ = some o) (hR : Rt C X cX11_removeVoter none none o) : UW C X S 0 [(0, .ref (X.1 a0)), (1, .int x1_)] [] := by
  unfold fX11_removeVoter at hf
  refine u_iload_n hC dX11_removeVoter_0 1 rfl rfl ?_
  refine u_istore_n (lv' := [(2, .int x1_), (0, .ref (X.1 a0)), (1, .int x1_)]) hC dX11_removeVoter_1 rfl (by decide) rfl ?_
  obtain ⟨r2, hr2, hf⟩ := kc_some hf
  have hk2 : UW C X r2 50 [(0, .ref (X.1 a0))] [] := by
    refine u_iconst (v := (0 : Int32)) hC dX11_removeVoter_50 (by decide) ?_
    refine u_istore_n (lv' := [(2, .int (0 : Int32)), (0, .ref (X.1 a0))]) hC dX11_removeVoter_51 rfl (by decide) rfl ?_
    obtain ⟨r52, hr52, hf⟩ := kc_some hf
    have hk52 : UW C X r52 80 [(0, .ref (X.1 a0))] [] := by
      refine u_aload_n hC dX11_removeVoter_80 0 rfl rfl ?_
      refine u_gr hC lf_X11_9 rfl hTa0 dX11_removeVoter_81 hf (fun b81 hTb81 hf => ?_)
      refine u_iconst (v := (2 : Int32)) hC dX11_removeVoter_84 (by decide) ?_
      refine u_dup2 hC dX11_removeVoter_85 rfl rfl ?_
      refine u_ai hC hTb81 dX11_removeVoter_86 hf (fun x86 hf => ?_)
      refine u_iconst (v := (1 : Int32)) hC dX11_removeVoter_87 (by decide) ?_
      refine u_isub hC dX11_removeVoter_88 ?_
      refine u_wi hC hTb81 dX11_removeVoter_89 hf (fun S89 hf => ?_)
      cases hf
      exact hR _ _ dX11_removeVoter_90 trivial
    refine u_sub (lv' := [(0, .ref (X.1 a0)), (2, .int (0 : Int32))]) [1, 0] rfl ?_
    refine iter_ind (P := fun s52 => UW C X s52.2 52 [(0, .ref (X.1 a0)), (2, .int s52.1)] []) (fun s52 o' hb hin hout => ?_) n ((0 : Int32), r2) hr52
    exact wbX11_removeVoter_52 hC n a0 hTa0 s52 hb hin (fun p e => by rw [hout p e]; exact hk52)
  refine u_sub (lv' := [(0, .ref (X.1 a0)), (2, .int x1_)]) [1, 0] rfl ?_
  refine iter_ind (P := fun s2 => UW C X s2.2 2 [(0, .ref (X.1 a0)), (2, .int s2.1)] []) (fun s2 o' hb hin hout => ?_) n (x1_, S) hr2
  exact wbX11_removeVoter_2 hC n a0 hTa0 s2 hb hin (fun p e => by rw [hout p e]; exact hk2)
theorem ctX11_removeVoter (l : Launch) (hl : l.stackTraces = false) (G : GT) (ρ : Nat → Nat) (Y : XS) (n : Nat) (S : PS) (a0 : Nat) (x1_ : Int32) (hTa0 : Ty Y a0 11) {o : PS} (hf : fX11_removeVoter Y n S a0 x1_ = some o) : Mt l G yX11_removeVoter cX11_removeVoter 4 none 3 ρ Y [.ref (ρ a0), .int x1_] S none o :=
  Mt_of hl (by decide) (Nat.le_of_ble_eq_true rfl) (fun C _ _ hC hR => wX11_removeVoter (X := (ρ, Y, 0, 0)) hC n S a0 x1_ hTa0 hf hR)
-- X11_removeProject
theorem dX11_removeProject_0 : decode cX11_removeProject 0 = .ok (.iload_n 1, 1) := by decide +kernel
theorem dX11_removeProject_1 : decode cX11_removeProject 1 = .ok (.istore_n 2, 1) := by decide +kernel
theorem dX11_removeProject_2 : decode cX11_removeProject 2 = .ok (.iload_n 2, 1) := by decide +kernel
theorem dX11_removeProject_3 : decode cX11_removeProject 3 = .ok (.aload_n 0, 1) := by decide +kernel
theorem dX11_removeProject_4 : decode cX11_removeProject 4 = .ok (.invokevirtual 77, 3) := by decide +kernel
theorem dX11_removeProject_7 : decode cX11_removeProject 7 = .ok (.iconst 1, 1) := by decide +kernel
theorem dX11_removeProject_8 : decode cX11_removeProject 8 = .ok (.isub, 1) := by decide +kernel
theorem dX11_removeProject_9 : decode cX11_removeProject 9 = .ok (.if_icmp .ge 102, 3) := by decide +kernel
theorem dX11_removeProject_12 : decode cX11_removeProject 12 = .ok (.aload_n 0, 1) := by decide +kernel
theorem dX11_removeProject_13 : decode cX11_removeProject 13 = .ok (.getfield 9, 3) := by decide +kernel
theorem dX11_removeProject_16 : decode cX11_removeProject 16 = .ok (.iconst 3, 1) := by decide +kernel
theorem dX11_removeProject_17 : decode cX11_removeProject 17 = .ok (.iload_n 2, 1) := by decide +kernel
theorem dX11_removeProject_18 : decode cX11_removeProject 18 = .ok (.iadd, 1) := by decide +kernel
theorem dX11_removeProject_19 : decode cX11_removeProject 19 = .ok (.aload_n 0, 1) := by decide +kernel
theorem dX11_removeProject_20 : decode cX11_removeProject 20 = .ok (.iload_n 2, 1) := by decide +kernel
theorem dX11_removeProject_21 : decode cX11_removeProject 21 = .ok (.iconst 1, 1) := by decide +kernel
theorem dX11_removeProject_22 : decode cX11_removeProject 22 = .ok (.iadd, 1) := by decide +kernel
theorem dX11_removeProject_23 : decode cX11_removeProject 23 = .ok (.invokevirtual 134, 3) := by decide +kernel
theorem dX11_removeProject_26 : decode cX11_removeProject 26 = .ok (.iastore, 1) := by decide +kernel
theorem dX11_removeProject_27 : decode cX11_removeProject 27 = .ok (.iconst 0, 1) := by decide +kernel
theorem dX11_removeProject_28 : decode cX11_removeProject 28 = .ok (.istore_n 3, 1) := by decide +kernel
theorem dX11_removeProject_29 : decode cX11_removeProject 29 = .ok (.iload_n 3, 1) := by decide +kernel
theorem dX11_removeProject_30 : decode cX11_removeProject 30 = .ok (.bipush 6, 2) := by decide +kernel
theorem dX11_removeProject_32 : decode cX11_removeProject 32 = .ok (.if_icmp .ge 39, 3) := by decide +kernel
theorem dX11_removeProject_35 : decode cX11_removeProject 35 = .ok (.aload_n 0, 1) := by decide +kernel
theorem dX11_removeProject_36 : decode cX11_removeProject 36 = .ok (.getfield 9, 3) := by decide +kernel
theorem dX11_removeProject_39 : decode cX11_removeProject 39 = .ok (.bipush 15, 2) := by decide +kernel
theorem dX11_removeProject_41 : decode cX11_removeProject 41 = .ok (.bipush 6, 2) := by decide +kernel
theorem dX11_removeProject_43 : decode cX11_removeProject 43 = .ok (.iload_n 2, 1) := by decide +kernel
theorem dX11_removeProject_44 : decode cX11_removeProject 44 = .ok (.imul, 1) := by decide +kernel
theorem dX11_removeProject_45 : decode cX11_removeProject 45 = .ok (.iadd, 1) := by decide +kernel
theorem dX11_removeProject_46 : decode cX11_removeProject 46 = .ok (.iload_n 3, 1) := by decide +kernel
theorem dX11_removeProject_47 : decode cX11_removeProject 47 = .ok (.iadd, 1) := by decide +kernel
theorem dX11_removeProject_48 : decode cX11_removeProject 48 = .ok (.aload_n 0, 1) := by decide +kernel
theorem dX11_removeProject_49 : decode cX11_removeProject 49 = .ok (.getfield 9, 3) := by decide +kernel
theorem dX11_removeProject_52 : decode cX11_removeProject 52 = .ok (.bipush 15, 2) := by decide +kernel
theorem dX11_removeProject_54 : decode cX11_removeProject 54 = .ok (.bipush 6, 2) := by decide +kernel
theorem dX11_removeProject_56 : decode cX11_removeProject 56 = .ok (.iload_n 2, 1) := by decide +kernel
theorem dX11_removeProject_57 : decode cX11_removeProject 57 = .ok (.iconst 1, 1) := by decide +kernel
theorem dX11_removeProject_58 : decode cX11_removeProject 58 = .ok (.iadd, 1) := by decide +kernel
theorem dX11_removeProject_59 : decode cX11_removeProject 59 = .ok (.imul, 1) := by decide +kernel
theorem dX11_removeProject_60 : decode cX11_removeProject 60 = .ok (.iadd, 1) := by decide +kernel
theorem dX11_removeProject_61 : decode cX11_removeProject 61 = .ok (.iload_n 3, 1) := by decide +kernel
theorem dX11_removeProject_62 : decode cX11_removeProject 62 = .ok (.iadd, 1) := by decide +kernel
theorem dX11_removeProject_63 : decode cX11_removeProject 63 = .ok (.iaload, 1) := by decide +kernel
theorem dX11_removeProject_64 : decode cX11_removeProject 64 = .ok (.iastore, 1) := by decide +kernel
theorem dX11_removeProject_65 : decode cX11_removeProject 65 = .ok (.iinc 3 1, 3) := by decide +kernel
theorem dX11_removeProject_68 : decode cX11_removeProject 68 = .ok (.goto (-39), 3) := by decide +kernel
theorem dX11_removeProject_71 : decode cX11_removeProject 71 = .ok (.iconst 0, 1) := by decide +kernel
theorem dX11_removeProject_72 : decode cX11_removeProject 72 = .ok (.istore_n 3, 1) := by decide +kernel
theorem dX11_removeProject_73 : decode cX11_removeProject 73 = .ok (.iload_n 3, 1) := by decide +kernel
theorem dX11_removeProject_74 : decode cX11_removeProject 74 = .ok (.aload_n 0, 1) := by decide +kernel
theorem dX11_removeProject_75 : decode cX11_removeProject 75 = .ok (.invokevirtual 85, 3) := by decide +kernel
theorem dX11_removeProject_78 : decode cX11_removeProject 78 = .ok (.if_icmp .ge 27, 3) := by decide +kernel
theorem dX11_removeProject_81 : decode cX11_removeProject 81 = .ok (.aload_n 0, 1) := by decide +kernel
theorem dX11_removeProject_82 : decode cX11_removeProject 82 = .ok (.getfield 9, 3) := by decide +kernel
theorem dX11_removeProject_85 : decode cX11_removeProject 85 = .ok (.iload_n 3, 1) := by decide +kernel
theorem dX11_removeProject_86 : decode cX11_removeProject 86 = .ok (.iload_n 2, 1) := by decide +kernel
theorem dX11_removeProject_87 : decode cX11_removeProject 87 = .ok (.invokestatic 73, 3) := by decide +kernel
theorem dX11_removeProject_90 : decode cX11_removeProject 90 = .ok (.aload_n 0, 1) := by decide +kernel
theorem dX11_removeProject_91 : decode cX11_removeProject 91 = .ok (.iload_n 3, 1) := by decide +kernel
theorem dX11_removeProject_92 : decode cX11_removeProject 92 = .ok (.iload_n 2, 1) := by decide +kernel
theorem dX11_removeProject_93 : decode cX11_removeProject 93 = .ok (.iconst 1, 1) := by decide +kernel
theorem dX11_removeProject_94 : decode cX11_removeProject 94 = .ok (.iadd, 1) := by decide +kernel
theorem dX11_removeProject_95 : decode cX11_removeProject 95 = .ok (.invokevirtual 88, 3) := by decide +kernel
theorem dX11_removeProject_98 : decode cX11_removeProject 98 = .ok (.iastore, 1) := by decide +kernel
theorem dX11_removeProject_99 : decode cX11_removeProject 99 = .ok (.iinc 3 1, 3) := by decide +kernel
theorem dX11_removeProject_102 : decode cX11_removeProject 102 = .ok (.goto (-29), 3) := by decide +kernel
theorem dX11_removeProject_105 : decode cX11_removeProject 105 = .ok (.iinc 2 1, 3) := by decide +kernel
theorem dX11_removeProject_108 : decode cX11_removeProject 108 = .ok (.goto (-106), 3) := by decide +kernel
theorem dX11_removeProject_111 : decode cX11_removeProject 111 = .ok (.aload_n 0, 1) := by decide +kernel
theorem dX11_removeProject_112 : decode cX11_removeProject 112 = .ok (.invokevirtual 77, 3) := by decide +kernel
theorem dX11_removeProject_115 : decode cX11_removeProject 115 = .ok (.iconst 1, 1) := by decide +kernel
theorem dX11_removeProject_116 : decode cX11_removeProject 116 = .ok (.isub, 1) := by decide +kernel
theorem dX11_removeProject_117 : decode cX11_removeProject 117 = .ok (.istore_n 2, 1) := by decide +kernel
theorem dX11_removeProject_118 : decode cX11_removeProject 118 = .ok (.aload_n 0, 1) := by decide +kernel
theorem dX11_removeProject_119 : decode cX11_removeProject 119 = .ok (.getfield 9, 3) := by decide +kernel
theorem dX11_removeProject_122 : decode cX11_removeProject 122 = .ok (.iconst 3, 1) := by decide +kernel
theorem dX11_removeProject_123 : decode cX11_removeProject 123 = .ok (.iload_n 2, 1) := by decide +kernel
theorem dX11_removeProject_124 : decode cX11_removeProject 124 = .ok (.iadd, 1) := by decide +kernel
theorem dX11_removeProject_125 : decode cX11_removeProject 125 = .ok (.iconst 0, 1) := by decide +kernel
theorem dX11_removeProject_126 : decode cX11_removeProject 126 = .ok (.iastore, 1) := by decide +kernel
theorem dX11_removeProject_127 : decode cX11_removeProject 127 = .ok (.iconst 0, 1) := by decide +kernel
theorem dX11_removeProject_128 : decode cX11_removeProject 128 = .ok (.istore_n 3, 1) := by decide +kernel
theorem dX11_removeProject_129 : decode cX11_removeProject 129 = .ok (.iload_n 3, 1) := by decide +kernel
theorem dX11_removeProject_130 : decode cX11_removeProject 130 = .ok (.bipush 6, 2) := by decide +kernel
theorem dX11_removeProject_132 : decode cX11_removeProject 132 = .ok (.if_icmp .ge 24, 3) := by decide +kernel
theorem dX11_removeProject_135 : decode cX11_removeProject 135 = .ok (.aload_n 0, 1) := by decide +kernel
theorem dX11_removeProject_136 : decode cX11_removeProject 136 = .ok (.getfield 9, 3) := by decide +kernel
theorem dX11_removeProject_139 : decode cX11_removeProject 139 = .ok (.bipush 15, 2) := by decide +kernel
theorem dX11_removeProject_141 : decode cX11_removeProject 141 = .ok (.bipush 6, 2) := by decide +kernel
theorem dX11_removeProject_143 : decode cX11_removeProject 143 = .ok (.iload_n 2, 1) := by decide +kernel
theorem dX11_removeProject_144 : decode cX11_removeProject 144 = .ok (.imul, 1) := by decide +kernel
theorem dX11_removeProject_145 : decode cX11_removeProject 145 = .ok (.iadd, 1) := by decide +kernel
theorem dX11_removeProject_146 : decode cX11_removeProject 146 = .ok (.iload_n 3, 1) := by decide +kernel
theorem dX11_removeProject_147 : decode cX11_removeProject 147 = .ok (.iadd, 1) := by decide +kernel
theorem dX11_removeProject_148 : decode cX11_removeProject 148 = .ok (.iconst 0, 1) := by decide +kernel
theorem dX11_removeProject_149 : decode cX11_removeProject 149 = .ok (.iastore, 1) := by decide +kernel
theorem dX11_removeProject_150 : decode cX11_removeProject 150 = .ok (.iinc 3 1, 3) := by decide +kernel
theorem dX11_removeProject_153 : decode cX11_removeProject 153 = .ok (.goto (-24), 3) := by decide +kernel
theorem dX11_removeProject_156 : decode cX11_removeProject 156 = .ok (.iconst 0, 1) := by decide +kernel
theorem dX11_removeProject_157 : decode cX11_removeProject 157 = .ok (.istore_n 3, 1) := by decide +kernel
theorem dX11_removeProject_158 : decode cX11_removeProject 158 = .ok (.iload_n 3, 1) := by decide +kernel
theorem dX11_removeProject_159 : decode cX11_removeProject 159 = .ok (.aload_n 0, 1) := by decide +kernel
theorem dX11_removeProject_160 : decode cX11_removeProject 160 = .ok (.invokevirtual 85, 3) := by decide +kernel
theorem dX11_removeProject_163 : decode cX11_removeProject 163 = .ok (.if_icmp .ge 20, 3) := by decide +kernel
theorem dX11_removeProject_166 : decode cX11_removeProject 166 = .ok (.aload_n 0, 1) := by decide +kernel
theorem dX11_removeProject_167 : decode cX11_removeProject 167 = .ok (.getfield 9, 3) := by decide +kernel
theorem dX11_removeProject_170 : decode cX11_removeProject 170 = .ok (.iload_n 3, 1) := by decide +kernel
theorem dX11_removeProject_171 : decode cX11_removeProject 171 = .ok (.iload_n 2, 1) := by decide +kernel
theorem dX11_removeProject_172 : decode cX11_removeProject 172 = .ok (.invokestatic 73, 3) := by decide +kernel
theorem dX11_removeProject_175 : decode cX11_removeProject 175 = .ok (.iconst 0, 1) := by decide +kernel
theorem dX11_removeProject_176 : decode cX11_removeProject 176 = .ok (.iastore, 1) := by decide +kernel
theorem dX11_removeProject_177 : decode cX11_removeProject 177 = .ok (.iinc 3 1, 3) := by decide +kernel
theorem dX11_removeProject_180 : decode cX11_removeProject 180 = .ok (.goto (-22), 3) := by decide +kernel
theorem dX11_removeProject_183 : decode cX11_removeProject 183 = .ok (.aload_n 0, 1) := by decide +kernel
theorem dX11_removeProject_184 : decode cX11_removeProject 184 = .ok (.getfield 9, 3) := by decide +kernel
theorem dX11_removeProject_187 : decode cX11_removeProject 187 = .ok (.iconst 1, 1) := by decide +kernel
theorem dX11_removeProject_188 : decode cX11_removeProject 188 = .ok (.dup2, 1) := by decide +kernel
theorem dX11_removeProject_189 : decode cX11_removeProject 189 = .ok (.iaload, 1) := by decide +kernel
theorem dX11_removeProject_190 : decode cX11_removeProject 190 = .ok (.iconst 1, 1) := by decide +kernel
theorem dX11_removeProject_191 : decode cX11_removeProject 191 = .ok (.isub, 1) := by decide +kernel
theorem dX11_removeProject_192 : decode cX11_removeProject 192 = .ok (.iastore, 1) := by decide +kernel
theorem dX11_removeProject_193 : decode cX11_removeProject 193 = .ok (.return_, 1) := by decide +kernel
def bX11_removeProject_29 (Y : XS) (n : Nat) (v0 : Nat) (v2 : Int32) (s29 : (Int32 × PS)) : Option ((Int32 × PS) ⊕ PS) :=
  (if (6 : Int32) ≤ s29.1 then some (.inr s29.2) else kgr s29.2 v0 0 (fun b36 => kgr s29.2 v0 0 (fun b49 => kai Y s29.2 b49 (((15 : Int32) + ((6 : Int32) * (v2 + (1 : Int32)))) + s29.1) (fun x63 => kwi Y s29.2 b36 (((15 : Int32) + ((6 : Int32) * v2)) + s29.1) x63 (fun S64 => some (.inl (s29.1 + (1 : Int32), S64)))))))
def bX11_removeProject_73 (Y : XS) (n : Nat) (v0 : Nat) (v2 : Int32) (s73 : (Int32 × PS)) : Option ((Int32 × PS) ⊕ PS) :=
  kc (fX11_people Y n s73.2 v0) (fun q75 => (if q75 ≤ s73.1 then some (.inr s73.2) else kgr s73.2 v0 0 (fun b82 => kc (fX11_scoreAt Y n s73.2 s73.1 v2) (fun q87 => kc (fX11_scoreOf Y n s73.2 v0 s73.1 (v2 + (1 : Int32))) (fun q95 => kwi Y s73.2 b82 q87 q95 (fun S98 => some (.inl (s73.1 + (1 : Int32), S98))))))))
def bX11_removeProject_2 (Y : XS) (n : Nat) (v0 : Nat) (s2 : (Int32 × PS)) : Option ((Int32 × PS) ⊕ PS) :=
  kc (fX11_many Y n s2.2 v0) (fun q4 => (if (q4 - (1 : Int32)) ≤ s2.1 then some (.inr s2.2) else kgr s2.2 v0 0 (fun b13 => kc (fX11_costOf Y n s2.2 v0 (s2.1 + (1 : Int32))) (fun q23 => kwi Y s2.2 b13 ((3 : Int32) + s2.1) q23 (fun S26 => kc (iter (bX11_removeProject_29 Y n v0 s2.1) n ((0 : Int32), S26)) (fun r29 => kc (iter (bX11_removeProject_73 Y n v0 s2.1) n ((0 : Int32), r29)) (fun r73 => some (.inl (s2.1 + (1 : Int32), r73)))))))))
def bX11_removeProject_129 (Y : XS) (n : Nat) (v0 : Nat) (v2 : Int32) (s129 : (Int32 × PS)) : Option ((Int32 × PS) ⊕ PS) :=
  (if (6 : Int32) ≤ s129.1 then some (.inr s129.2) else kgr s129.2 v0 0 (fun b136 => kwi Y s129.2 b136 (((15 : Int32) + ((6 : Int32) * v2)) + s129.1) (0 : Int32) (fun S149 => some (.inl (s129.1 + (1 : Int32), S149)))))
def bX11_removeProject_158 (Y : XS) (n : Nat) (v0 : Nat) (v2 : Int32) (s158 : (Int32 × PS)) : Option ((Int32 × PS) ⊕ PS) :=
  kc (fX11_people Y n s158.2 v0) (fun q160 => (if q160 ≤ s158.1 then some (.inr s158.2) else kgr s158.2 v0 0 (fun b167 => kc (fX11_scoreAt Y n s158.2 s158.1 v2) (fun q172 => kwi Y s158.2 b167 q172 (0 : Int32) (fun S176 => some (.inl (s158.1 + (1 : Int32), S176)))))))
def fX11_removeProject (Y : XS) (n : Nat) (S : PS) (a0 : Nat) (x1_ : Int32) : Option (PS) :=
  kc (iter (bX11_removeProject_2 Y n a0) n (x1_, S)) (fun r2 => kc (fX11_many Y n r2 a0) (fun q112 => kgr r2 a0 0 (fun b119 => kwi Y r2 b119 ((3 : Int32) + (q112 - (1 : Int32))) (0 : Int32) (fun S126 => kc (iter (bX11_removeProject_129 Y n a0 (q112 - (1 : Int32))) n ((0 : Int32), S126)) (fun r129 => kc (iter (bX11_removeProject_158 Y n a0 (q112 - (1 : Int32))) n ((0 : Int32), r129)) (fun r158 => kgr r158 a0 0 (fun b184 => kai Y r158 b184 (1 : Int32) (fun x189 => kwi Y r158 b184 (1 : Int32) (x189 - (1 : Int32)) (fun S192 => some S192)))))))))
theorem wbX11_removeProject_29 {C : CT} {X : XT} (hC : CK C RX11 cX11_removeProject 4 none 3) (n : Nat) (v0 : Nat) (v2 : Int32) (hTv0 : Ty X.2.1 v0 11) (s29 : (Int32 × PS)) {o : (Int32 × PS) ⊕ PS} (hf : bX11_removeProject_29 X.2.1 n v0 v2 s29 = some o) (hN : ∀ s', o = .inl s' → UW C X s'.2 29 [(0, .ref (X.1 v0)), (2, .int v2), (3, .int s'.1)] []) (hO0 : ∀ p', o = .inr p' → UW C X p' 71 [(0, .ref (X.1 v0)), (2, .int v2)] []) : UW C X s29.2 29 [(0, .ref (X.1 v0)), (2, .int v2), (3, .int s29.1)] [] := by
  unfold bX11_removeProject_29 at hf
  refine u_iload_n hC dX11_removeProject_29 2 rfl rfl ?_
  refine u_bipush (v := (6 : Int32)) hC dX11_removeProject_30 (by decide) ?_
  refine u_icmp_ge (tgt := 71) hC dX11_removeProject_32 (by decide) hf (fun h32 hf => ?_) (fun h32 hf => ?_)
  · refine u_sub (lv' := [(0, .ref (X.1 v0)), (2, .int v2)]) [0, 1] rfl ?_
    exact hO0 _ (Option.some.inj hf).symm
  · refine u_aload_n hC dX11_removeProject_35 0 rfl rfl ?_
    refine u_gr hC lf_X11_9 rfl hTv0 dX11_removeProject_36 hf (fun b36 hTb36 hf => ?_)
    refine u_bipush (v := (15 : Int32)) hC dX11_removeProject_39 (by decide) ?_
    refine u_bipush (v := (6 : Int32)) hC dX11_removeProject_41 (by decide) ?_
    refine u_iload_n hC dX11_removeProject_43 1 rfl rfl ?_
    refine u_imul hC dX11_removeProject_44 ?_
    refine u_iadd hC dX11_removeProject_45 ?_
    refine u_iload_n hC dX11_removeProject_46 2 rfl rfl ?_
    refine u_iadd hC dX11_removeProject_47 ?_
    refine u_aload_n hC dX11_removeProject_48 0 rfl rfl ?_
    refine u_gr hC lf_X11_9 rfl hTv0 dX11_removeProject_49 hf (fun b49 hTb49 hf => ?_)
    refine u_bipush (v := (15 : Int32)) hC dX11_removeProject_52 (by decide) ?_
    refine u_bipush (v := (6 : Int32)) hC dX11_removeProject_54 (by decide) ?_
    refine u_iload_n hC dX11_removeProject_56 1 rfl rfl ?_
    refine u_iconst (v := (1 : Int32)) hC dX11_removeProject_57 (by decide) ?_
    refine u_iadd hC dX11_removeProject_58 ?_
    refine u_imul hC dX11_removeProject_59 ?_
    refine u_iadd hC dX11_removeProject_60 ?_
    refine u_iload_n hC dX11_removeProject_61 2 rfl rfl ?_
    refine u_iadd hC dX11_removeProject_62 ?_
    refine u_ai hC hTb49 dX11_removeProject_63 hf (fun x63 hf => ?_)
    refine u_wi hC hTb36 dX11_removeProject_64 hf (fun S64 hf => ?_)
    refine u_iinc (v := s29.1 + (1 : Int32)) (lv' := [(3, .int (s29.1 + (1 : Int32))), (0, .ref (X.1 v0)), (2, .int v2)]) hC dX11_removeProject_65 2 rfl rfl (by decide) rfl ?_
    refine u_goto (tgt := 29) hC dX11_removeProject_68 (by decide) ?_
    refine u_sub (lv' := [(0, .ref (X.1 v0)), (2, .int v2), (3, .int (s29.1 + (1 : Int32)))]) [1, 2, 0] rfl ?_
    exact hN _ (Option.some.inj hf).symm
theorem wbX11_removeProject_73 {C : CT} {X : XT} (hC : CK C RX11 cX11_removeProject 4 none 3) (n : Nat) (v0 : Nat) (v2 : Int32) (hTv0 : Ty X.2.1 v0 11) (s73 : (Int32 × PS)) {o : (Int32 × PS) ⊕ PS} (hf : bX11_removeProject_73 X.2.1 n v0 v2 s73 = some o) (hN : ∀ s', o = .inl s' → UW C X s'.2 73 [(0, .ref (X.1 v0)), (2, .int v2), (3, .int s'.1)] []) (hO0 : ∀ p', o = .inr p' → UW C X p' 105 [(0, .ref (X.1 v0)), (2, .int v2)] []) : UW C X s73.2 73 [(0, .ref (X.1 v0)), (2, .int v2), (3, .int s73.1)] [] := by
  unfold bX11_removeProject_73 at hf
  refine u_iload_n hC dX11_removeProject_73 2 rfl rfl ?_
  refine u_aload_n hC dX11_removeProject_74 0 rfl rfl ?_
  obtain ⟨q75, hq75, hf⟩ := kc_some hf
  refine u_callV hC (ctX11_people (cL C) hC.tr (cG C) X.1 X.2.1 n s73.2 v0 hTv0 hq75) lk_X11_85 rfl hTv0 (by decide) rfl (by decide) (by decide) rfl rfl (Nat.le_of_ble_eq_true rfl) dX11_removeProject_75 ?_
  refine u_icmp_ge (tgt := 105) hC dX11_removeProject_78 (by decide) hf (fun h78 hf => ?_) (fun h78 hf => ?_)
  · refine u_sub (lv' := [(0, .ref (X.1 v0)), (2, .int v2)]) [0, 1] rfl ?_
    exact hO0 _ (Option.some.inj hf).symm
  · refine u_aload_n hC dX11_removeProject_81 0 rfl rfl ?_
    refine u_gr hC lf_X11_9 rfl hTv0 dX11_removeProject_82 hf (fun b82 hTb82 hf => ?_)
    refine u_iload_n hC dX11_removeProject_85 2 rfl rfl ?_
    refine u_iload_n hC dX11_removeProject_86 1 rfl rfl ?_
    obtain ⟨q87, hq87, hf⟩ := kc_some hf
    refine u_callS hC (ctX11_scoreAt (cL C) hC.tr (cG C) X.1 X.2.1 n s73.2 s73.1 v2  hq87) lk_X11_73 (by decide) (by decide) rfl rfl (Nat.le_of_ble_eq_true rfl) dX11_removeProject_87 ?_
    refine u_aload_n hC dX11_removeProject_90 0 rfl rfl ?_
    refine u_iload_n hC dX11_removeProject_91 2 rfl rfl ?_
    refine u_iload_n hC dX11_removeProject_92 1 rfl rfl ?_
    refine u_iconst (v := (1 : Int32)) hC dX11_removeProject_93 (by decide) ?_
    refine u_iadd hC dX11_removeProject_94 ?_
    obtain ⟨q95, hq95, hf⟩ := kc_some hf
    refine u_callV hC (ctX11_scoreOf (cL C) hC.tr (cG C) X.1 X.2.1 n s73.2 v0 s73.1 (v2 + (1 : Int32)) hTv0 hq95) lk_X11_88 rfl hTv0 (by decide) rfl (by decide) (by decide) rfl rfl (Nat.le_of_ble_eq_true rfl) dX11_removeProject_95 ?_
    refine u_wi hC hTb82 dX11_removeProject_98 hf (fun S98 hf => ?_)
    refine u_iinc (v := s73.1 + (1 : Int32)) (lv' := [(3, .int (s73.1 + (1 : Int32))), (0, .ref (X.1 v0)), (2, .int v2)]) hC dX11_removeProject_99 2 rfl rfl (by decide) rfl ?_
    refine u_goto (tgt := 73) hC dX11_removeProject_102 (by decide) ?_
    refine u_sub (lv' := [(0, .ref (X.1 v0)), (2, .int v2), (3, .int (s73.1 + (1 : Int32)))]) [1, 2, 0] rfl ?_
    exact hN _ (Option.some.inj hf).symm
theorem wbX11_removeProject_2 {C : CT} {X : XT} (hC : CK C RX11 cX11_removeProject 4 none 3) (n : Nat) (v0 : Nat) (hTv0 : Ty X.2.1 v0 11) (s2 : (Int32 × PS)) {o : (Int32 × PS) ⊕ PS} (hf : bX11_removeProject_2 X.2.1 n v0 s2 = some o) (hN : ∀ s', o = .inl s' → UW C X s'.2 2 [(0, .ref (X.1 v0)), (2, .int s'.1)] []) (hO0 : ∀ p', o = .inr p' → UW C X p' 111 [(0, .ref (X.1 v0))] []) : UW C X s2.2 2 [(0, .ref (X.1 v0)), (2, .int s2.1)] [] := by
  unfold bX11_removeProject_2 at hf
  refine u_iload_n hC dX11_removeProject_2 1 rfl rfl ?_
  refine u_aload_n hC dX11_removeProject_3 0 rfl rfl ?_
  obtain ⟨q4, hq4, hf⟩ := kc_some hf
  refine u_callV hC (ctX11_many (cL C) hC.tr (cG C) X.1 X.2.1 n s2.2 v0 hTv0 hq4) lk_X11_77 rfl hTv0 (by decide) rfl (by decide) (by decide) rfl rfl (Nat.le_of_ble_eq_true rfl) dX11_removeProject_4 ?_
  refine u_iconst (v := (1 : Int32)) hC dX11_removeProject_7 (by decide) ?_
  refine u_isub hC dX11_removeProject_8 ?_
  refine u_icmp_ge (tgt := 111) hC dX11_removeProject_9 (by decide) hf (fun h9 hf => ?_) (fun h9 hf => ?_)
  · refine u_sub (lv' := [(0, .ref (X.1 v0))]) [0] rfl ?_
    exact hO0 _ (Option.some.inj hf).symm
  · refine u_aload_n hC dX11_removeProject_12 0 rfl rfl ?_
    refine u_gr hC lf_X11_9 rfl hTv0 dX11_removeProject_13 hf (fun b13 hTb13 hf => ?_)
    refine u_iconst (v := (3 : Int32)) hC dX11_removeProject_16 (by decide) ?_
    refine u_iload_n hC dX11_removeProject_17 1 rfl rfl ?_
    refine u_iadd hC dX11_removeProject_18 ?_
    refine u_aload_n hC dX11_removeProject_19 0 rfl rfl ?_
    refine u_iload_n hC dX11_removeProject_20 1 rfl rfl ?_
    refine u_iconst (v := (1 : Int32)) hC dX11_removeProject_21 (by decide) ?_
    refine u_iadd hC dX11_removeProject_22 ?_
    obtain ⟨q23, hq23, hf⟩ := kc_some hf
    refine u_callV hC (ctX11_costOf (cL C) hC.tr (cG C) X.1 X.2.1 n s2.2 v0 (s2.1 + (1 : Int32)) hTv0 hq23) lk_X11_134 rfl hTv0 (by decide) rfl (by decide) (by decide) rfl rfl (Nat.le_of_ble_eq_true rfl) dX11_removeProject_23 ?_
    refine u_wi hC hTb13 dX11_removeProject_26 hf (fun S26 hf => ?_)
    refine u_iconst (v := (0 : Int32)) hC dX11_removeProject_27 (by decide) ?_
    refine u_istore_n (lv' := [(3, .int (0 : Int32)), (0, .ref (X.1 v0)), (2, .int s2.1)]) hC dX11_removeProject_28 rfl (by decide) rfl ?_
    obtain ⟨r29, hr29, hf⟩ := kc_some hf
    have hk29 : UW C X r29 71 [(0, .ref (X.1 v0)), (2, .int s2.1)] [] := by
      refine u_iconst (v := (0 : Int32)) hC dX11_removeProject_71 (by decide) ?_
      refine u_istore_n (lv' := [(3, .int (0 : Int32)), (0, .ref (X.1 v0)), (2, .int s2.1)]) hC dX11_removeProject_72 rfl (by decide) rfl ?_
      obtain ⟨r73, hr73, hf⟩ := kc_some hf
      have hk73 : UW C X r73 105 [(0, .ref (X.1 v0)), (2, .int s2.1)] [] := by
        refine u_iinc (v := s2.1 + (1 : Int32)) (lv' := [(2, .int (s2.1 + (1 : Int32))), (0, .ref (X.1 v0))]) hC dX11_removeProject_105 1 rfl rfl (by decide) rfl ?_
        refine u_goto (tgt := 2) hC dX11_removeProject_108 (by decide) ?_
        refine u_sub (lv' := [(0, .ref (X.1 v0)), (2, .int (s2.1 + (1 : Int32)))]) [1, 0] rfl ?_
        exact hN _ (Option.some.inj hf).symm
      refine u_sub (lv' := [(0, .ref (X.1 v0)), (2, .int s2.1), (3, .int (0 : Int32))]) [1, 2, 0] rfl ?_
      refine iter_ind (P := fun s73 => UW C X s73.2 73 [(0, .ref (X.1 v0)), (2, .int s2.1), (3, .int s73.1)] []) (fun s73 o' hb hin hout => ?_) n ((0 : Int32), r29) hr73
      exact wbX11_removeProject_73 hC n v0 s2.1 hTv0 s73 hb hin (fun p e => by rw [hout p e]; exact hk73)
    refine u_sub (lv' := [(0, .ref (X.1 v0)), (2, .int s2.1), (3, .int (0 : Int32))]) [1, 2, 0] rfl ?_
    refine iter_ind (P := fun s29 => UW C X s29.2 29 [(0, .ref (X.1 v0)), (2, .int s2.1), (3, .int s29.1)] []) (fun s29 o' hb hin hout => ?_) n ((0 : Int32), S26) hr29
    exact wbX11_removeProject_29 hC n v0 s2.1 hTv0 s29 hb hin (fun p e => by rw [hout p e]; exact hk29)
theorem wbX11_removeProject_129 {C : CT} {X : XT} (hC : CK C RX11 cX11_removeProject 4 none 3) (n : Nat) (v0 : Nat) (v2 : Int32) (hTv0 : Ty X.2.1 v0 11) (s129 : (Int32 × PS)) {o : (Int32 × PS) ⊕ PS} (hf : bX11_removeProject_129 X.2.1 n v0 v2 s129 = some o) (hN : ∀ s', o = .inl s' → UW C X s'.2 129 [(0, .ref (X.1 v0)), (2, .int v2), (3, .int s'.1)] []) (hO0 : ∀ p', o = .inr p' → UW C X p' 156 [(0, .ref (X.1 v0)), (2, .int v2)] []) : UW C X s129.2 129 [(0, .ref (X.1 v0)), (2, .int v2), (3, .int s129.1)] [] := by
  unfold bX11_removeProject_129 at hf
  refine u_iload_n hC dX11_removeProject_129 2 rfl rfl ?_
  refine u_bipush (v := (6 : Int32)) hC dX11_removeProject_130 (by decide) ?_
  refine u_icmp_ge (tgt := 156) hC dX11_removeProject_132 (by decide) hf (fun h132 hf => ?_) (fun h132 hf => ?_)
  · refine u_sub (lv' := [(0, .ref (X.1 v0)), (2, .int v2)]) [0, 1] rfl ?_
    exact hO0 _ (Option.some.inj hf).symm
  · refine u_aload_n hC dX11_removeProject_135 0 rfl rfl ?_
    refine u_gr hC lf_X11_9 rfl hTv0 dX11_removeProject_136 hf (fun b136 hTb136 hf => ?_)
    refine u_bipush (v := (15 : Int32)) hC dX11_removeProject_139 (by decide) ?_
    refine u_bipush (v := (6 : Int32)) hC dX11_removeProject_141 (by decide) ?_
    refine u_iload_n hC dX11_removeProject_143 1 rfl rfl ?_
    refine u_imul hC dX11_removeProject_144 ?_
    refine u_iadd hC dX11_removeProject_145 ?_
    refine u_iload_n hC dX11_removeProject_146 2 rfl rfl ?_
    refine u_iadd hC dX11_removeProject_147 ?_
    refine u_iconst (v := (0 : Int32)) hC dX11_removeProject_148 (by decide) ?_
    refine u_wi hC hTb136 dX11_removeProject_149 hf (fun S149 hf => ?_)
    refine u_iinc (v := s129.1 + (1 : Int32)) (lv' := [(3, .int (s129.1 + (1 : Int32))), (0, .ref (X.1 v0)), (2, .int v2)]) hC dX11_removeProject_150 2 rfl rfl (by decide) rfl ?_
    refine u_goto (tgt := 129) hC dX11_removeProject_153 (by decide) ?_
    refine u_sub (lv' := [(0, .ref (X.1 v0)), (2, .int v2), (3, .int (s129.1 + (1 : Int32)))]) [1, 2, 0] rfl ?_
    exact hN _ (Option.some.inj hf).symm
theorem wbX11_removeProject_158 {C : CT} {X : XT} (hC : CK C RX11 cX11_removeProject 4 none 3) (n : Nat) (v0 : Nat) (v2 : Int32) (hTv0 : Ty X.2.1 v0 11) (s158 : (Int32 × PS)) {o : (Int32 × PS) ⊕ PS} (hf : bX11_removeProject_158 X.2.1 n v0 v2 s158 = some o) (hN : ∀ s', o = .inl s' → UW C X s'.2 158 [(0, .ref (X.1 v0)), (2, .int v2), (3, .int s'.1)] []) (hO0 : ∀ p', o = .inr p' → UW C X p' 183 [(0, .ref (X.1 v0))] []) : UW C X s158.2 158 [(0, .ref (X.1 v0)), (2, .int v2), (3, .int s158.1)] [] := by
  unfold bX11_removeProject_158 at hf
  refine u_iload_n hC dX11_removeProject_158 2 rfl rfl ?_
  refine u_aload_n hC dX11_removeProject_159 0 rfl rfl ?_
  obtain ⟨q160, hq160, hf⟩ := kc_some hf
  refine u_callV hC (ctX11_people (cL C) hC.tr (cG C) X.1 X.2.1 n s158.2 v0 hTv0 hq160) lk_X11_85 rfl hTv0 (by decide) rfl (by decide) (by decide) rfl rfl (Nat.le_of_ble_eq_true rfl) dX11_removeProject_160 ?_
  refine u_icmp_ge (tgt := 183) hC dX11_removeProject_163 (by decide) hf (fun h163 hf => ?_) (fun h163 hf => ?_)
  · refine u_sub (lv' := [(0, .ref (X.1 v0))]) [0] rfl ?_
    exact hO0 _ (Option.some.inj hf).symm
  · refine u_aload_n hC dX11_removeProject_166 0 rfl rfl ?_
    refine u_gr hC lf_X11_9 rfl hTv0 dX11_removeProject_167 hf (fun b167 hTb167 hf => ?_)
    refine u_iload_n hC dX11_removeProject_170 2 rfl rfl ?_
    refine u_iload_n hC dX11_removeProject_171 1 rfl rfl ?_
    obtain ⟨q172, hq172, hf⟩ := kc_some hf
    refine u_callS hC (ctX11_scoreAt (cL C) hC.tr (cG C) X.1 X.2.1 n s158.2 s158.1 v2  hq172) lk_X11_73 (by decide) (by decide) rfl rfl (Nat.le_of_ble_eq_true rfl) dX11_removeProject_172 ?_
    refine u_iconst (v := (0 : Int32)) hC dX11_removeProject_175 (by decide) ?_
    refine u_wi hC hTb167 dX11_removeProject_176 hf (fun S176 hf => ?_)
    refine u_iinc (v := s158.1 + (1 : Int32)) (lv' := [(3, .int (s158.1 + (1 : Int32))), (0, .ref (X.1 v0)), (2, .int v2)]) hC dX11_removeProject_177 2 rfl rfl (by decide) rfl ?_
    refine u_goto (tgt := 158) hC dX11_removeProject_180 (by decide) ?_
    refine u_sub (lv' := [(0, .ref (X.1 v0)), (2, .int v2), (3, .int (s158.1 + (1 : Int32)))]) [1, 2, 0] rfl ?_
    exact hN _ (Option.some.inj hf).symm
theorem wX11_removeProject {C : CT} {X : XT} (hC : CK C RX11 cX11_removeProject 4 none 3) (n : Nat) (S : PS) (a0 : Nat) (x1_ : Int32) (hTa0 : Ty X.2.1 a0 11) {o : PS} (hf : fX11_removeProject X.2.1 n S a0 x1_ = some o) (hR : Rt C X cX11_removeProject none none o) : UW C X S 0 [(0, .ref (X.1 a0)), (1, .int x1_)] [] := by
  unfold fX11_removeProject at hf
  refine u_iload_n hC dX11_removeProject_0 1 rfl rfl ?_
  refine u_istore_n (lv' := [(2, .int x1_), (0, .ref (X.1 a0)), (1, .int x1_)]) hC dX11_removeProject_1 rfl (by decide) rfl ?_
  obtain ⟨r2, hr2, hf⟩ := kc_some hf
  have hk2 : UW C X r2 111 [(0, .ref (X.1 a0))] [] := by
    refine u_aload_n hC dX11_removeProject_111 0 rfl rfl ?_
    obtain ⟨q112, hq112, hf⟩ := kc_some hf
    refine u_callV hC (ctX11_many (cL C) hC.tr (cG C) X.1 X.2.1 n r2 a0 hTa0 hq112) lk_X11_77 rfl hTa0 (by decide) rfl (by decide) (by decide) rfl rfl (Nat.le_of_ble_eq_true rfl) dX11_removeProject_112 ?_
    refine u_iconst (v := (1 : Int32)) hC dX11_removeProject_115 (by decide) ?_
    refine u_isub hC dX11_removeProject_116 ?_
    refine u_istore_n (lv' := [(2, .int (q112 - (1 : Int32))), (0, .ref (X.1 a0))]) hC dX11_removeProject_117 rfl (by decide) rfl ?_
    refine u_aload_n hC dX11_removeProject_118 1 rfl rfl ?_
    refine u_gr hC lf_X11_9 rfl hTa0 dX11_removeProject_119 hf (fun b119 hTb119 hf => ?_)
    refine u_iconst (v := (3 : Int32)) hC dX11_removeProject_122 (by decide) ?_
    refine u_iload_n hC dX11_removeProject_123 0 rfl rfl ?_
    refine u_iadd hC dX11_removeProject_124 ?_
    refine u_iconst (v := (0 : Int32)) hC dX11_removeProject_125 (by decide) ?_
    refine u_wi hC hTb119 dX11_removeProject_126 hf (fun S126 hf => ?_)
    refine u_iconst (v := (0 : Int32)) hC dX11_removeProject_127 (by decide) ?_
    refine u_istore_n (lv' := [(3, .int (0 : Int32)), (2, .int (q112 - (1 : Int32))), (0, .ref (X.1 a0))]) hC dX11_removeProject_128 rfl (by decide) rfl ?_
    obtain ⟨r129, hr129, hf⟩ := kc_some hf
    have hk129 : UW C X r129 156 [(0, .ref (X.1 a0)), (2, .int (q112 - (1 : Int32)))] [] := by
      refine u_iconst (v := (0 : Int32)) hC dX11_removeProject_156 (by decide) ?_
      refine u_istore_n (lv' := [(3, .int (0 : Int32)), (0, .ref (X.1 a0)), (2, .int (q112 - (1 : Int32)))]) hC dX11_removeProject_157 rfl (by decide) rfl ?_
      obtain ⟨r158, hr158, hf⟩ := kc_some hf
      have hk158 : UW C X r158 183 [(0, .ref (X.1 a0))] [] := by
        refine u_aload_n hC dX11_removeProject_183 0 rfl rfl ?_
        refine u_gr hC lf_X11_9 rfl hTa0 dX11_removeProject_184 hf (fun b184 hTb184 hf => ?_)
        refine u_iconst (v := (1 : Int32)) hC dX11_removeProject_187 (by decide) ?_
        refine u_dup2 hC dX11_removeProject_188 rfl rfl ?_
        refine u_ai hC hTb184 dX11_removeProject_189 hf (fun x189 hf => ?_)
        refine u_iconst (v := (1 : Int32)) hC dX11_removeProject_190 (by decide) ?_
        refine u_isub hC dX11_removeProject_191 ?_
        refine u_wi hC hTb184 dX11_removeProject_192 hf (fun S192 hf => ?_)
        cases hf
        exact hR _ _ dX11_removeProject_193 trivial
      refine u_sub (lv' := [(0, .ref (X.1 a0)), (2, .int (q112 - (1 : Int32))), (3, .int (0 : Int32))]) [1, 2, 0] rfl ?_
      refine iter_ind (P := fun s158 => UW C X s158.2 158 [(0, .ref (X.1 a0)), (2, .int (q112 - (1 : Int32))), (3, .int s158.1)] []) (fun s158 o' hb hin hout => ?_) n ((0 : Int32), r129) hr158
      exact wbX11_removeProject_158 hC n a0 (q112 - (1 : Int32)) hTa0 s158 hb hin (fun p e => by rw [hout p e]; exact hk158)
    refine u_sub (lv' := [(0, .ref (X.1 a0)), (2, .int (q112 - (1 : Int32))), (3, .int (0 : Int32))]) [2, 1, 0] rfl ?_
    refine iter_ind (P := fun s129 => UW C X s129.2 129 [(0, .ref (X.1 a0)), (2, .int (q112 - (1 : Int32))), (3, .int s129.1)] []) (fun s129 o' hb hin hout => ?_) n ((0 : Int32), S126) hr129
    exact wbX11_removeProject_129 hC n a0 (q112 - (1 : Int32)) hTa0 s129 hb hin (fun p e => by rw [hout p e]; exact hk129)
  refine u_sub (lv' := [(0, .ref (X.1 a0)), (2, .int x1_)]) [1, 0] rfl ?_
  refine iter_ind (P := fun s2 => UW C X s2.2 2 [(0, .ref (X.1 a0)), (2, .int s2.1)] []) (fun s2 o' hb hin hout => ?_) n (x1_, S) hr2
  exact wbX11_removeProject_2 hC n a0 hTa0 s2 hb hin (fun p e => by rw [hout p e]; exact hk2)
theorem ctX11_removeProject (l : Launch) (hl : l.stackTraces = false) (G : GT) (ρ : Nat → Nat) (Y : XS) (n : Nat) (S : PS) (a0 : Nat) (x1_ : Int32) (hTa0 : Ty Y a0 11) {o : PS} (hf : fX11_removeProject Y n S a0 x1_ = some o) : Mt l G yX11_removeProject cX11_removeProject 4 none 3 ρ Y [.ref (ρ a0), .int x1_] S none o :=
  Mt_of hl (by decide) (Nat.le_of_ble_eq_true rfl) (fun C _ _ hC hR => wX11_removeProject (X := (ρ, Y, 0, 0)) hC n S a0 x1_ hTa0 hf hR)
-- X11_away
theorem dX11_away_0 : decode cX11_away 0 = .ok (.aload_n 0, 1) := by decide +kernel
theorem dX11_away_1 : decode cX11_away 1 = .ok (.iconst 0, 1) := by decide +kernel
theorem dX11_away_2 : decode cX11_away 2 = .ok (.putfield 70, 3) := by decide +kernel
theorem dX11_away_5 : decode cX11_away 5 = .ok (.iload_n 1, 1) := by decide +kernel
theorem dX11_away_6 : decode cX11_away 6 = .ok (.invokestatic 261, 3) := by decide +kernel
theorem dX11_away_9 : decode cX11_away 9 = .ok (.ifCond .eq 11, 3) := by decide +kernel
theorem dX11_away_12 : decode cX11_away 12 = .ok (.aload_n 0, 1) := by decide +kernel
theorem dX11_away_13 : decode cX11_away 13 = .ok (.iload_n 2, 1) := by decide +kernel
theorem dX11_away_14 : decode cX11_away 14 = .ok (.invokevirtual 258, 3) := by decide +kernel
theorem dX11_away_17 : decode cX11_away 17 = .ok (.ifCond .ne 9, 3) := by decide +kernel
theorem dX11_away_20 : decode cX11_away 20 = .ok (.aload_n 0, 1) := by decide +kernel
theorem dX11_away_21 : decode cX11_away 21 = .ok (.iconst 1, 1) := by decide +kernel
theorem dX11_away_22 : decode cX11_away 22 = .ok (.invokevirtual 252, 3) := by decide +kernel
theorem dX11_away_25 : decode cX11_away 25 = .ok (.ireturn, 1) := by decide +kernel
theorem dX11_away_26 : decode cX11_away 26 = .ok (.aload_n 0, 1) := by decide +kernel
theorem dX11_away_27 : decode cX11_away 27 = .ok (.getfield 16, 3) := by decide +kernel
theorem dX11_away_30 : decode cX11_away 30 = .ok (.aload_n 0, 1) := by decide +kernel
theorem dX11_away_31 : decode cX11_away 31 = .ok (.getfield 9, 3) := by decide +kernel
theorem dX11_away_34 : decode cX11_away 34 = .ok (.invokestatic 295, 3) := by decide +kernel
theorem dX11_away_37 : decode cX11_away 37 = .ok (.aload_n 0, 1) := by decide +kernel
theorem dX11_away_38 : decode cX11_away 38 = .ok (.iload_n 2, 1) := by decide +kernel
theorem dX11_away_39 : decode cX11_away 39 = .ok (.invokevirtual 299, 3) := by decide +kernel
theorem dX11_away_42 : decode cX11_away 42 = .ok (.aload_n 0, 1) := by decide +kernel
theorem dX11_away_43 : decode cX11_away 43 = .ok (.iload_n 1, 1) := by decide +kernel
theorem dX11_away_44 : decode cX11_away 44 = .ok (.invokevirtual 302, 3) := by decide +kernel
theorem dX11_away_47 : decode cX11_away 47 = .ok (.istore_n 3, 1) := by decide +kernel
theorem dX11_away_48 : decode cX11_away 48 = .ok (.aload_n 0, 1) := by decide +kernel
theorem dX11_away_49 : decode cX11_away 49 = .ok (.getfield 9, 3) := by decide +kernel
theorem dX11_away_52 : decode cX11_away 52 = .ok (.aload_n 0, 1) := by decide +kernel
theorem dX11_away_53 : decode cX11_away 53 = .ok (.getfield 16, 3) := by decide +kernel
theorem dX11_away_56 : decode cX11_away 56 = .ok (.invokestatic 295, 3) := by decide +kernel
theorem dX11_away_59 : decode cX11_away 59 = .ok (.iload_n 3, 1) := by decide +kernel
theorem dX11_away_60 : decode cX11_away 60 = .ok (.ireturn, 1) := by decide +kernel
def jX11_away_20 (Y : XS) (n : Nat) (S : PS) (v0 : Nat) : Option (Int32 × PS) :=
  kc (fX11_fail Y n S v0 (1 : Int32)) (fun q22 => some (q22.1, q22.2))
def fX11_away (Y : XS) (n : Nat) (S : PS) (a0 : Nat) (x1_ : Int32) (x2_ : Int32) : Option (Int32 × PS) :=
  kpi S a0 7 (0 : Int32) (fun S2 => kc (fX11_isRule Y n S2 x1_) (fun q6 => (if q6 = 0 then jX11_away_20 Y n S2 a0 else kc (fX11_isVoter Y n S2 a0 x2_) (fun q14 => (if q14 = 0 then jX11_away_20 Y n S2 a0 else kgr S2 a0 2 (fun b27 => kgr S2 a0 0 (fun b31 => kc (fX11_copy Y n S2 b27 b31) (fun q34 => kc (fX11_removeVoter Y n q34 a0 x2_) (fun q39 => kc (fX11_chosenBy Y n q39 a0 x1_) (fun q44 => kgr q44.2 a0 0 (fun b49 => kgr q44.2 a0 2 (fun b53 => kc (fX11_copy Y n q44.2 b49 b53) (fun q56 => some (q44.1, q56))))))))))))))
theorem wjX11_away_20 {C : CT} {X : XT} (hC : CK C RX11 cX11_away 4 (some .int) 55) (n : Nat) (S : PS) (v0 : Nat)  (hTv0 : Ty X.2.1 v0 11) {o : Int32 × PS} (hf : jX11_away_20 X.2.1 n S v0 = some o) (hR : Rt C X cX11_away (some .int) (some (.int o.1)) o.2) : UW C X S 20 [(0, .ref (X.1 v0))] [] := by
  unfold jX11_away_20 at hf
  refine u_aload_n hC dX11_away_20 0 rfl rfl ?_
  refine u_iconst (v := (1 : Int32)) hC dX11_away_21 (by decide) ?_
  obtain ⟨q22, hq22, hf⟩ := kc_some hf
  refine u_callV hC (ctX11_fail (cL C) hC.tr (cG C) X.1 X.2.1 n S v0 (1 : Int32) hTv0 hq22) lk_X11_252 rfl hTv0 (by decide) rfl (by decide) (by decide) rfl rfl (Nat.le_of_ble_eq_true rfl) dX11_away_22 ?_
  cases hf
  exact hR _ _ dX11_away_25 trivial
theorem wX11_away {C : CT} {X : XT} (hC : CK C RX11 cX11_away 4 (some .int) 55) (n : Nat) (S : PS) (a0 : Nat) (x1_ : Int32) (x2_ : Int32) (hTa0 : Ty X.2.1 a0 11) {o : Int32 × PS} (hf : fX11_away X.2.1 n S a0 x1_ x2_ = some o) (hR : Rt C X cX11_away (some .int) (some (.int o.1)) o.2) : UW C X S 0 [(0, .ref (X.1 a0)), (1, .int x1_), (2, .int x2_)] [] := by
  unfold fX11_away at hf
  refine u_aload_n hC dX11_away_0 0 rfl rfl ?_
  refine u_iconst (v := (0 : Int32)) hC dX11_away_1 (by decide) ?_
  refine u_pi hC lf_X11_70 rfl rfl rfl hTa0 dX11_away_2 hf (fun S2 hf => ?_)
  refine u_iload_n hC dX11_away_5 1 rfl rfl ?_
  obtain ⟨q6, hq6, hf⟩ := kc_some hf
  refine u_callS hC (ctX11_isRule (cL C) hC.tr (cG C) X.1 X.2.1 n S2 x1_  hq6) lk_X11_261 (by decide) (by decide) rfl rfl (Nat.le_of_ble_eq_true rfl) dX11_away_6 ?_
  refine u_if_eq (tgt := 20) hC dX11_away_9 (by decide) hf (fun h9 hf => ?_) (fun h9 hf => ?_)
  · refine u_sub (lv' := [(0, .ref (X.1 a0))]) [0] rfl ?_
    exact wjX11_away_20 hC n S2 a0  hTa0 hf hR
  · refine u_aload_n hC dX11_away_12 0 rfl rfl ?_
    refine u_iload_n hC dX11_away_13 2 rfl rfl ?_
    obtain ⟨q14, hq14, hf⟩ := kc_some hf
    refine u_callV hC (ctX11_isVoter (cL C) hC.tr (cG C) X.1 X.2.1 n S2 a0 x2_ hTa0 hq14) lk_X11_258 rfl hTa0 (by decide) rfl (by decide) (by decide) rfl rfl (Nat.le_of_ble_eq_true rfl) dX11_away_14 ?_
    refine u_if_ne (tgt := 26) hC dX11_away_17 (by decide) hf (fun h17 hf => ?_) (fun h17 hf => ?_)
    · refine u_aload_n hC dX11_away_26 0 rfl rfl ?_
      refine u_gr hC lf_X11_16 rfl hTa0 dX11_away_27 hf (fun b27 hTb27 hf => ?_)
      refine u_aload_n hC dX11_away_30 0 rfl rfl ?_
      refine u_gr hC lf_X11_9 rfl hTa0 dX11_away_31 hf (fun b31 hTb31 hf => ?_)
      obtain ⟨q34, hq34, hf⟩ := kc_some hf
      refine u_callS hC (ctX11_copy (cL C) hC.tr (cG C) X.1 X.2.1 n S2 b27 b31 hTb27 hTb31 hq34) lk_X11_295 (by decide) (by decide) rfl rfl (Nat.le_of_ble_eq_true rfl) dX11_away_34 ?_
      refine u_aload_n hC dX11_away_37 0 rfl rfl ?_
      refine u_iload_n hC dX11_away_38 2 rfl rfl ?_
      obtain ⟨q39, hq39, hf⟩ := kc_some hf
      refine u_callV hC (ctX11_removeVoter (cL C) hC.tr (cG C) X.1 X.2.1 n q34 a0 x2_ hTa0 hq39) lk_X11_299 rfl hTa0 (by decide) rfl (by decide) (by decide) rfl rfl (Nat.le_of_ble_eq_true rfl) dX11_away_39 ?_
      refine u_aload_n hC dX11_away_42 0 rfl rfl ?_
      refine u_iload_n hC dX11_away_43 1 rfl rfl ?_
      obtain ⟨q44, hq44, hf⟩ := kc_some hf
      refine u_callV hC (ctX11_chosenBy (cL C) hC.tr (cG C) X.1 X.2.1 n q39 a0 x1_ hTa0 hq44) lk_X11_302 rfl hTa0 (by decide) rfl (by decide) (by decide) rfl rfl (Nat.le_of_ble_eq_true rfl) dX11_away_44 ?_
      refine u_istore_n (lv' := [(3, .int q44.1), (0, .ref (X.1 a0)), (1, .int x1_), (2, .int x2_)]) hC dX11_away_47 rfl (by decide) rfl ?_
      refine u_aload_n hC dX11_away_48 1 rfl rfl ?_
      refine u_gr hC lf_X11_9 rfl hTa0 dX11_away_49 hf (fun b49 hTb49 hf => ?_)
      refine u_aload_n hC dX11_away_52 1 rfl rfl ?_
      refine u_gr hC lf_X11_16 rfl hTa0 dX11_away_53 hf (fun b53 hTb53 hf => ?_)
      obtain ⟨q56, hq56, hf⟩ := kc_some hf
      refine u_callS hC (ctX11_copy (cL C) hC.tr (cG C) X.1 X.2.1 n q44.2 b49 b53 hTb49 hTb53 hq56) lk_X11_295 (by decide) (by decide) rfl rfl (Nat.le_of_ble_eq_true rfl) dX11_away_56 ?_
      refine u_iload_n hC dX11_away_59 0 rfl rfl ?_
      cases hf
      exact hR _ _ dX11_away_60 trivial
    · refine u_sub (lv' := [(0, .ref (X.1 a0))]) [0] rfl ?_
      exact wjX11_away_20 hC n S2 a0  hTa0 hf hR
theorem ctX11_away (l : Launch) (hl : l.stackTraces = false) (G : GT) (ρ : Nat → Nat) (Y : XS) (n : Nat) (S : PS) (a0 : Nat) (x1_ : Int32) (x2_ : Int32) (hTa0 : Ty Y a0 11) {o : Int32 × PS} (hf : fX11_away Y n S a0 x1_ x2_ = some o) : Mt l G yX11_away cX11_away 4 (some .int) 55 ρ Y [.ref (ρ a0), .int x1_, .int x2_] S (some (.int o.1)) o.2 :=
  Mt_of hl (by decide) (Nat.le_of_ble_eq_true rfl) (fun C _ _ hC hR => wX11_away (X := (ρ, Y, 0, 0)) hC n S a0 x1_ x2_ hTa0 hf hR)
-- X11_chosenWith
theorem dX11_chosenWith_0 : decode cX11_chosenWith 0 = .ok (.aload_n 0, 1) := by decide +kernel
theorem dX11_chosenWith_1 : decode cX11_chosenWith 1 = .ok (.getfield 9, 3) := by decide +kernel
theorem dX11_chosenWith_4 : decode cX11_chosenWith 4 = .ok (.iload_n 2, 1) := by decide +kernel
theorem dX11_chosenWith_5 : decode cX11_chosenWith 5 = .ok (.iaload, 1) := by decide +kernel
theorem dX11_chosenWith_6 : decode cX11_chosenWith 6 = .ok (.istore 4, 2) := by decide +kernel
theorem dX11_chosenWith_8 : decode cX11_chosenWith 8 = .ok (.aload_n 0, 1) := by decide +kernel
theorem dX11_chosenWith_9 : decode cX11_chosenWith 9 = .ok (.getfield 9, 3) := by decide +kernel
theorem dX11_chosenWith_12 : decode cX11_chosenWith 12 = .ok (.iload_n 2, 1) := by decide +kernel
theorem dX11_chosenWith_13 : decode cX11_chosenWith 13 = .ok (.iload_n 3, 1) := by decide +kernel
theorem dX11_chosenWith_14 : decode cX11_chosenWith 14 = .ok (.iastore, 1) := by decide +kernel
theorem dX11_chosenWith_15 : decode cX11_chosenWith 15 = .ok (.aload_n 0, 1) := by decide +kernel
theorem dX11_chosenWith_16 : decode cX11_chosenWith 16 = .ok (.iload_n 1, 1) := by decide +kernel
theorem dX11_chosenWith_17 : decode cX11_chosenWith 17 = .ok (.invokevirtual 302, 3) := by decide +kernel
theorem dX11_chosenWith_20 : decode cX11_chosenWith 20 = .ok (.istore 5, 2) := by decide +kernel
theorem dX11_chosenWith_22 : decode cX11_chosenWith 22 = .ok (.aload_n 0, 1) := by decide +kernel
theorem dX11_chosenWith_23 : decode cX11_chosenWith 23 = .ok (.getfield 9, 3) := by decide +kernel
theorem dX11_chosenWith_26 : decode cX11_chosenWith 26 = .ok (.iload_n 2, 1) := by decide +kernel
theorem dX11_chosenWith_27 : decode cX11_chosenWith 27 = .ok (.iload 4, 2) := by decide +kernel
theorem dX11_chosenWith_29 : decode cX11_chosenWith 29 = .ok (.iastore, 1) := by decide +kernel
theorem dX11_chosenWith_30 : decode cX11_chosenWith 30 = .ok (.iload 5, 2) := by decide +kernel
theorem dX11_chosenWith_32 : decode cX11_chosenWith 32 = .ok (.ireturn, 1) := by decide +kernel
def fX11_chosenWith (Y : XS) (n : Nat) (S : PS) (a0 : Nat) (x1_ : Int32) (x2_ : Int32) (x3_ : Int32) : Option (Int32 × PS) :=
  kgr S a0 0 (fun b1 => kai Y S b1 x2_ (fun x5 => kgr S a0 0 (fun b9 => kwi Y S b9 x2_ x3_ (fun S14 => kc (fX11_chosenBy Y n S14 a0 x1_) (fun q17 => kgr q17.2 a0 0 (fun b23 => kwi Y q17.2 b23 x2_ x5 (fun S29 => some (q17.1, S29))))))))
theorem wX11_chosenWith {C : CT} {X : XT} (hC : CK C RX11 cX11_chosenWith 6 (some .int) 55) (n : Nat) (S : PS) (a0 : Nat) (x1_ : Int32) (x2_ : Int32) (x3_ : Int32) (hTa0 : Ty X.2.1 a0 11) {o : Int32 × PS} (hf : fX11_chosenWith X.2.1 n S a0 x1_ x2_ x3_ = some o) (hR : Rt C X cX11_chosenWith (some .int) (some (.int o.1)) o.2) : UW C X S 0 [(0, .ref (X.1 a0)), (1, .int x1_), (2, .int x2_), (3, .int x3_)] [] := by
  unfold fX11_chosenWith at hf
  refine u_aload_n hC dX11_chosenWith_0 0 rfl rfl ?_
  refine u_gr hC lf_X11_9 rfl hTa0 dX11_chosenWith_1 hf (fun b1 hTb1 hf => ?_)
  refine u_iload_n hC dX11_chosenWith_4 2 rfl rfl ?_
  refine u_ai hC hTb1 dX11_chosenWith_5 hf (fun x5 hf => ?_)
  refine u_istore (lv' := [(4, .int x5), (0, .ref (X.1 a0)), (1, .int x1_), (2, .int x2_), (3, .int x3_)]) hC dX11_chosenWith_6 (by decide) rfl ?_
  refine u_aload_n hC dX11_chosenWith_8 1 rfl rfl ?_
  refine u_gr hC lf_X11_9 rfl hTa0 dX11_chosenWith_9 hf (fun b9 hTb9 hf => ?_)
  refine u_iload_n hC dX11_chosenWith_12 3 rfl rfl ?_
  refine u_iload_n hC dX11_chosenWith_13 4 rfl rfl ?_
  refine u_wi hC hTb9 dX11_chosenWith_14 hf (fun S14 hf => ?_)
  refine u_aload_n hC dX11_chosenWith_15 1 rfl rfl ?_
  refine u_iload_n hC dX11_chosenWith_16 2 rfl rfl ?_
  obtain ⟨q17, hq17, hf⟩ := kc_some hf
  refine u_callV hC (ctX11_chosenBy (cL C) hC.tr (cG C) X.1 X.2.1 n S14 a0 x1_ hTa0 hq17) lk_X11_302 rfl hTa0 (by decide) rfl (by decide) (by decide) rfl rfl (Nat.le_of_ble_eq_true rfl) dX11_chosenWith_17 ?_
  refine u_istore (lv' := [(5, .int q17.1), (4, .int x5), (0, .ref (X.1 a0)), (1, .int x1_), (2, .int x2_), (3, .int x3_)]) hC dX11_chosenWith_20 (by decide) rfl ?_
  refine u_aload_n hC dX11_chosenWith_22 2 rfl rfl ?_
  refine u_gr hC lf_X11_9 rfl hTa0 dX11_chosenWith_23 hf (fun b23 hTb23 hf => ?_)
  refine u_iload_n hC dX11_chosenWith_26 4 rfl rfl ?_
  refine u_iload hC dX11_chosenWith_27 1 rfl ?_
  refine u_wi hC hTb23 dX11_chosenWith_29 hf (fun S29 hf => ?_)
  refine u_iload hC dX11_chosenWith_30 0 rfl ?_
  cases hf
  exact hR _ _ dX11_chosenWith_32 trivial
theorem ctX11_chosenWith (l : Launch) (hl : l.stackTraces = false) (G : GT) (ρ : Nat → Nat) (Y : XS) (n : Nat) (S : PS) (a0 : Nat) (x1_ : Int32) (x2_ : Int32) (x3_ : Int32) (hTa0 : Ty Y a0 11) {o : Int32 × PS} (hf : fX11_chosenWith Y n S a0 x1_ x2_ x3_ = some o) : Mt l G yX11_chosenWith cX11_chosenWith 6 (some .int) 55 ρ Y [.ref (ρ a0), .int x1_, .int x2_, .int x3_] S (some (.int o.1)) o.2 :=
  Mt_of hl (by decide) (Nat.le_of_ble_eq_true rfl) (fun C _ _ hC hR => wX11_chosenWith (X := (ρ, Y, 0, 0)) hC n S a0 x1_ x2_ x3_ hTa0 hf hR)
-- X11_with
theorem dX11_with_0 : decode cX11_with 0 = .ok (.aload_n 0, 1) := by decide +kernel
theorem dX11_with_1 : decode cX11_with 1 = .ok (.iload_n 1, 1) := by decide +kernel
theorem dX11_with_2 : decode cX11_with 2 = .ok (.invokestatic 261, 3) := by decide +kernel
theorem dX11_with_5 : decode cX11_with 5 = .ok (.ifCond .ne 7, 3) := by decide +kernel
theorem dX11_with_8 : decode cX11_with 8 = .ok (.iconst 1, 1) := by decide +kernel
theorem dX11_with_9 : decode cX11_with 9 = .ok (.goto 19, 3) := by decide +kernel
theorem dX11_with_12 : decode cX11_with 12 = .ok (.iload_n 2, 1) := by decide +kernel
theorem dX11_with_13 : decode cX11_with 13 = .ok (.iconst 0, 1) := by decide +kernel
theorem dX11_with_14 : decode cX11_with 14 = .ok (.ldc_w 305, 3) := by decide +kernel
theorem dX11_with_17 : decode cX11_with 17 = .ok (.invokestatic 81, 3) := by decide +kernel
theorem dX11_with_20 : decode cX11_with 20 = .ok (.ifCond .ne 7, 3) := by decide +kernel
theorem dX11_with_23 : decode cX11_with 23 = .ok (.iconst 2, 1) := by decide +kernel
theorem dX11_with_24 : decode cX11_with 24 = .ok (.goto 4, 3) := by decide +kernel
theorem dX11_with_27 : decode cX11_with 27 = .ok (.iconst 0, 1) := by decide +kernel
theorem dX11_with_28 : decode cX11_with 28 = .ok (.putfield 70, 3) := by decide +kernel
theorem dX11_with_31 : decode cX11_with 31 = .ok (.aload_n 0, 1) := by decide +kernel
theorem dX11_with_32 : decode cX11_with 32 = .ok (.getfield 70, 3) := by decide +kernel
theorem dX11_with_35 : decode cX11_with 35 = .ok (.ifCond .le 7, 3) := by decide +kernel
theorem dX11_with_38 : decode cX11_with 38 = .ok (.iconst 0, 1) := by decide +kernel
theorem dX11_with_39 : decode cX11_with 39 = .ok (.goto 10, 3) := by decide +kernel
theorem dX11_with_42 : decode cX11_with 42 = .ok (.aload_n 0, 1) := by decide +kernel
theorem dX11_with_43 : decode cX11_with 43 = .ok (.iload_n 1, 1) := by decide +kernel
theorem dX11_with_44 : decode cX11_with 44 = .ok (.iconst 0, 1) := by decide +kernel
theorem dX11_with_45 : decode cX11_with 45 = .ok (.iload_n 2, 1) := by decide +kernel
theorem dX11_with_46 : decode cX11_with 46 = .ok (.invokevirtual 306, 3) := by decide +kernel
theorem dX11_with_49 : decode cX11_with 49 = .ok (.ireturn, 1) := by decide +kernel
def jX11_with_49 (Y : XS) (n : Nat) (S : PS) (t0 : Int32) : Option (Int32 × PS) :=
  some (t0, S)
def jX11_with_28 (Y : XS) (n : Nat) (S : PS) (v0 : Nat) (v1 : Int32) (v2 : Int32) (t0 : Int32) (t1 : Nat) : Option (Int32 × PS) :=
  kpi S t1 7 t0 (fun S28 => kgi S28 v0 7 (fun x32 => (if x32 ≤ 0 then kc (fX11_chosenWith Y n S28 v0 v1 (0 : Int32) v2) (fun q46 => jX11_with_49 Y n q46.2 q46.1) else jX11_with_49 Y n S28 (0 : Int32))))
def fX11_with (Y : XS) (n : Nat) (S : PS) (a0 : Nat) (x1_ : Int32) (x2_ : Int32) : Option (Int32 × PS) :=
  kc (fX11_isRule Y n S x1_) (fun q2 => (if q2 = 0 then jX11_with_28 Y n S a0 x1_ x2_ (1 : Int32) a0 else kc (fX11_isIn Y n S x2_ (0 : Int32) (99999 : Int32)) (fun q17 => (if q17 = 0 then jX11_with_28 Y n S a0 x1_ x2_ (2 : Int32) a0 else jX11_with_28 Y n S a0 x1_ x2_ (0 : Int32) a0))))
theorem wjX11_with_49 {C : CT} {X : XT} (hC : CK C RX11 cX11_with 3 (some .int) 56) (n : Nat) (S : PS) (t0 : Int32)   {o : Int32 × PS} (hf : jX11_with_49 X.2.1 n S t0 = some o) (hR : Rt C X cX11_with (some .int) (some (.int o.1)) o.2) : UW C X S 49 [] [.int t0] := by
  unfold jX11_with_49 at hf
  cases hf
  exact hR _ _ dX11_with_49 trivial
theorem wjX11_with_28 {C : CT} {X : XT} (hC : CK C RX11 cX11_with 3 (some .int) 56) (n : Nat) (S : PS) (v0 : Nat) (v1 : Int32) (v2 : Int32) (t0 : Int32) (t1 : Nat)  (hTv0 : Ty X.2.1 v0 11) (hTt1 : Ty X.2.1 t1 11) {o : Int32 × PS} (hf : jX11_with_28 X.2.1 n S v0 v1 v2 t0 t1 = some o) (hR : Rt C X cX11_with (some .int) (some (.int o.1)) o.2) : UW C X S 28 [(0, .ref (X.1 v0)), (1, .int v1), (2, .int v2)] [.int t0, .ref (X.1 t1)] := by
  unfold jX11_with_28 at hf
  refine u_pi hC lf_X11_70 rfl rfl rfl hTt1 dX11_with_28 hf (fun S28 hf => ?_)
  refine u_aload_n hC dX11_with_31 0 rfl rfl ?_
  refine u_gi hC lf_X11_70 rfl hTv0 dX11_with_32 hf (fun x32 hf => ?_)
  refine u_if_le (tgt := 42) hC dX11_with_35 (by decide) hf (fun h35 hf => ?_) (fun h35 hf => ?_)
  · refine u_aload_n hC dX11_with_42 0 rfl rfl ?_
    refine u_iload_n hC dX11_with_43 1 rfl rfl ?_
    refine u_iconst (v := (0 : Int32)) hC dX11_with_44 (by decide) ?_
    refine u_iload_n hC dX11_with_45 2 rfl rfl ?_
    obtain ⟨q46, hq46, hf⟩ := kc_some hf
    refine u_callV hC (ctX11_chosenWith (cL C) hC.tr (cG C) X.1 X.2.1 n S28 v0 v1 (0 : Int32) v2 hTv0 hq46) lk_X11_306 rfl hTv0 (by decide) rfl (by decide) (by decide) rfl rfl (Nat.le_of_ble_eq_true rfl) dX11_with_46 ?_
    refine u_sub (lv' := []) [] rfl ?_
    exact wjX11_with_49 hC n q46.2 q46.1   hf hR
  · refine u_iconst (v := (0 : Int32)) hC dX11_with_38 (by decide) ?_
    refine u_goto (tgt := 49) hC dX11_with_39 (by decide) ?_
    refine u_sub (lv' := []) [] rfl ?_
    exact wjX11_with_49 hC n S28 (0 : Int32)   hf hR
theorem wX11_with {C : CT} {X : XT} (hC : CK C RX11 cX11_with 3 (some .int) 56) (n : Nat) (S : PS) (a0 : Nat) (x1_ : Int32) (x2_ : Int32) (hTa0 : Ty X.2.1 a0 11) {o : Int32 × PS} (hf : fX11_with X.2.1 n S a0 x1_ x2_ = some o) (hR : Rt C X cX11_with (some .int) (some (.int o.1)) o.2) : UW C X S 0 [(0, .ref (X.1 a0)), (1, .int x1_), (2, .int x2_)] [] := by
  unfold fX11_with at hf
  refine u_aload_n hC dX11_with_0 0 rfl rfl ?_
  refine u_iload_n hC dX11_with_1 1 rfl rfl ?_
  obtain ⟨q2, hq2, hf⟩ := kc_some hf
  refine u_callS hC (ctX11_isRule (cL C) hC.tr (cG C) X.1 X.2.1 n S x1_  hq2) lk_X11_261 (by decide) (by decide) rfl rfl (Nat.le_of_ble_eq_true rfl) dX11_with_2 ?_
  refine u_if_ne (tgt := 12) hC dX11_with_5 (by decide) hf (fun h5 hf => ?_) (fun h5 hf => ?_)
  · refine u_iload_n hC dX11_with_12 2 rfl rfl ?_
    refine u_iconst (v := (0 : Int32)) hC dX11_with_13 (by decide) ?_
    refine u_ldcw (v := (99999 : Int32)) hC dX11_with_14 (tb_7 197 rfl rfl) ?_
    obtain ⟨q17, hq17, hf⟩ := kc_some hf
    refine u_callS hC (ctX11_isIn (cL C) hC.tr (cG C) X.1 X.2.1 n S x2_ (0 : Int32) (99999 : Int32)  hq17) lk_X11_81 (by decide) (by decide) rfl rfl (Nat.le_of_ble_eq_true rfl) dX11_with_17 ?_
    refine u_if_ne (tgt := 27) hC dX11_with_20 (by decide) hf (fun h20 hf => ?_) (fun h20 hf => ?_)
    · refine u_iconst (v := (0 : Int32)) hC dX11_with_27 (by decide) ?_
      exact wjX11_with_28 hC n S a0 x1_ x2_ (0 : Int32) a0  hTa0 hTa0 hf hR
    · refine u_iconst (v := (2 : Int32)) hC dX11_with_23 (by decide) ?_
      refine u_goto (tgt := 28) hC dX11_with_24 (by decide) ?_
      exact wjX11_with_28 hC n S a0 x1_ x2_ (2 : Int32) a0  hTa0 hTa0 hf hR
  · refine u_iconst (v := (1 : Int32)) hC dX11_with_8 (by decide) ?_
    refine u_goto (tgt := 28) hC dX11_with_9 (by decide) ?_
    exact wjX11_with_28 hC n S a0 x1_ x2_ (1 : Int32) a0  hTa0 hTa0 hf hR
theorem ctX11_with (l : Launch) (hl : l.stackTraces = false) (G : GT) (ρ : Nat → Nat) (Y : XS) (n : Nat) (S : PS) (a0 : Nat) (x1_ : Int32) (x2_ : Int32) (hTa0 : Ty Y a0 11) {o : Int32 × PS} (hf : fX11_with Y n S a0 x1_ x2_ = some o) : Mt l G yX11_with cX11_with 3 (some .int) 56 ρ Y [.ref (ρ a0), .int x1_, .int x2_] S (some (.int o.1)) o.2 :=
  Mt_of hl (by decide) (Nat.le_of_ble_eq_true rfl) (fun C _ _ hC hR => wX11_with (X := (ρ, Y, 0, 0)) hC n S a0 x1_ x2_ hTa0 hf hR)
-- X11_voting
theorem dX11_voting_0 : decode cX11_voting 0 = .ok (.aload_n 0, 1) := by decide +kernel
theorem dX11_voting_1 : decode cX11_voting 1 = .ok (.iload_n 1, 1) := by decide +kernel
theorem dX11_voting_2 : decode cX11_voting 2 = .ok (.invokestatic 261, 3) := by decide +kernel
theorem dX11_voting_5 : decode cX11_voting 5 = .ok (.ifCond .eq 19, 3) := by decide +kernel
theorem dX11_voting_8 : decode cX11_voting 8 = .ok (.aload_n 0, 1) := by decide +kernel
theorem dX11_voting_9 : decode cX11_voting 9 = .ok (.iload_n 2, 1) := by decide +kernel
theorem dX11_voting_10 : decode cX11_voting 10 = .ok (.invokevirtual 258, 3) := by decide +kernel
theorem dX11_voting_13 : decode cX11_voting 13 = .ok (.ifCond .eq 11, 3) := by decide +kernel
theorem dX11_voting_16 : decode cX11_voting 16 = .ok (.aload_n 0, 1) := by decide +kernel
theorem dX11_voting_17 : decode cX11_voting 17 = .ok (.iload_n 3, 1) := by decide +kernel
theorem dX11_voting_18 : decode cX11_voting 18 = .ok (.invokevirtual 255, 3) := by decide +kernel
theorem dX11_voting_21 : decode cX11_voting 21 = .ok (.ifCond .ne 7, 3) := by decide +kernel
theorem dX11_voting_24 : decode cX11_voting 24 = .ok (.iconst 1, 1) := by decide +kernel
theorem dX11_voting_25 : decode cX11_voting 25 = .ok (.goto 19, 3) := by decide +kernel
theorem dX11_voting_28 : decode cX11_voting 28 = .ok (.iload 4, 2) := by decide +kernel
theorem dX11_voting_30 : decode cX11_voting 30 = .ok (.iconst 0, 1) := by decide +kernel
theorem dX11_voting_31 : decode cX11_voting 31 = .ok (.bipush 9, 2) := by decide +kernel
theorem dX11_voting_33 : decode cX11_voting 33 = .ok (.invokestatic 81, 3) := by decide +kernel
theorem dX11_voting_36 : decode cX11_voting 36 = .ok (.ifCond .ne 7, 3) := by decide +kernel
theorem dX11_voting_39 : decode cX11_voting 39 = .ok (.iconst 2, 1) := by decide +kernel
theorem dX11_voting_40 : decode cX11_voting 40 = .ok (.goto 4, 3) := by decide +kernel
theorem dX11_voting_43 : decode cX11_voting 43 = .ok (.iconst 0, 1) := by decide +kernel
theorem dX11_voting_44 : decode cX11_voting 44 = .ok (.putfield 70, 3) := by decide +kernel
theorem dX11_voting_47 : decode cX11_voting 47 = .ok (.aload_n 0, 1) := by decide +kernel
theorem dX11_voting_48 : decode cX11_voting 48 = .ok (.getfield 70, 3) := by decide +kernel
theorem dX11_voting_51 : decode cX11_voting 51 = .ok (.ifCond .le 7, 3) := by decide +kernel
theorem dX11_voting_54 : decode cX11_voting 54 = .ok (.iconst 0, 1) := by decide +kernel
theorem dX11_voting_55 : decode cX11_voting 55 = .ok (.goto 15, 3) := by decide +kernel
theorem dX11_voting_58 : decode cX11_voting 58 = .ok (.aload_n 0, 1) := by decide +kernel
theorem dX11_voting_59 : decode cX11_voting 59 = .ok (.iload_n 1, 1) := by decide +kernel
theorem dX11_voting_60 : decode cX11_voting 60 = .ok (.iload_n 2, 1) := by decide +kernel
theorem dX11_voting_61 : decode cX11_voting 61 = .ok (.iload_n 3, 1) := by decide +kernel
theorem dX11_voting_62 : decode cX11_voting 62 = .ok (.invokestatic 73, 3) := by decide +kernel
theorem dX11_voting_65 : decode cX11_voting 65 = .ok (.iload 4, 2) := by decide +kernel
theorem dX11_voting_67 : decode cX11_voting 67 = .ok (.invokevirtual 306, 3) := by decide +kernel
theorem dX11_voting_70 : decode cX11_voting 70 = .ok (.ireturn, 1) := by decide +kernel
def jX11_voting_70 (Y : XS) (n : Nat) (S : PS) (t0 : Int32) : Option (Int32 × PS) :=
  some (t0, S)
def jX11_voting_44 (Y : XS) (n : Nat) (S : PS) (v0 : Nat) (v1 : Int32) (v2 : Int32) (v3 : Int32) (v4 : Int32) (t0 : Int32) (t1 : Nat) : Option (Int32 × PS) :=
  kpi S t1 7 t0 (fun S44 => kgi S44 v0 7 (fun x48 => (if x48 ≤ 0 then kc (fX11_scoreAt Y n S44 v2 v3) (fun q62 => kc (fX11_chosenWith Y n S44 v0 v1 q62 v4) (fun q67 => jX11_voting_70 Y n q67.2 q67.1)) else jX11_voting_70 Y n S44 (0 : Int32))))
def jX11_voting_24 (Y : XS) (n : Nat) (S : PS) (v0 : Nat) (v1 : Int32) (v2 : Int32) (v3 : Int32) (v4 : Int32) (t0 : Nat) : Option (Int32 × PS) :=
  jX11_voting_44 Y n S v0 v1 v2 v3 v4 (1 : Int32) t0
def fX11_voting (Y : XS) (n : Nat) (S : PS) (a0 : Nat) (x1_ : Int32) (x2_ : Int32) (x3_ : Int32) (x4_ : Int32) : Option (Int32 × PS) :=
  kc (fX11_isRule Y n S x1_) (fun q2 => (if q2 = 0 then jX11_voting_24 Y n S a0 x1_ x2_ x3_ x4_ a0 else kc (fX11_isVoter Y n S a0 x2_) (fun q10 => (if q10 = 0 then jX11_voting_24 Y n S a0 x1_ x2_ x3_ x4_ a0 else kc (fX11_isProject Y n S a0 x3_) (fun q18 => (if q18 = 0 then jX11_voting_24 Y n S a0 x1_ x2_ x3_ x4_ a0 else kc (fX11_isIn Y n S x4_ (0 : Int32) (9 : Int32)) (fun q33 => (if q33 = 0 then jX11_voting_44 Y n S a0 x1_ x2_ x3_ x4_ (2 : Int32) a0 else jX11_voting_44 Y n S a0 x1_ x2_ x3_ x4_ (0 : Int32) a0))))))))
theorem wjX11_voting_70 {C : CT} {X : XT} (hC : CK C RX11 cX11_voting 5 (some .int) 56) (n : Nat) (S : PS) (t0 : Int32)   {o : Int32 × PS} (hf : jX11_voting_70 X.2.1 n S t0 = some o) (hR : Rt C X cX11_voting (some .int) (some (.int o.1)) o.2) : UW C X S 70 [] [.int t0] := by
  unfold jX11_voting_70 at hf
  cases hf
  exact hR _ _ dX11_voting_70 trivial
theorem wjX11_voting_44 {C : CT} {X : XT} (hC : CK C RX11 cX11_voting 5 (some .int) 56) (n : Nat) (S : PS) (v0 : Nat) (v1 : Int32) (v2 : Int32) (v3 : Int32) (v4 : Int32) (t0 : Int32) (t1 : Nat)  (hTv0 : Ty X.2.1 v0 11) (hTt1 : Ty X.2.1 t1 11) {o : Int32 × PS} (hf : jX11_voting_44 X.2.1 n S v0 v1 v2 v3 v4 t0 t1 = some o) (hR : Rt C X cX11_voting (some .int) (some (.int o.1)) o.2) : UW C X S 44 [(0, .ref (X.1 v0)), (1, .int v1), (2, .int v2), (3, .int v3), (4, .int v4)] [.int t0, .ref (X.1 t1)] := by
  unfold jX11_voting_44 at hf
  refine u_pi hC lf_X11_70 rfl rfl rfl hTt1 dX11_voting_44 hf (fun S44 hf => ?_)
  refine u_aload_n hC dX11_voting_47 0 rfl rfl ?_
  refine u_gi hC lf_X11_70 rfl hTv0 dX11_voting_48 hf (fun x48 hf => ?_)
  refine u_if_le (tgt := 58) hC dX11_voting_51 (by decide) hf (fun h51 hf => ?_) (fun h51 hf => ?_)
  · refine u_aload_n hC dX11_voting_58 0 rfl rfl ?_
    refine u_iload_n hC dX11_voting_59 1 rfl rfl ?_
    refine u_iload_n hC dX11_voting_60 2 rfl rfl ?_
    refine u_iload_n hC dX11_voting_61 3 rfl rfl ?_
    obtain ⟨q62, hq62, hf⟩ := kc_some hf
    refine u_callS hC (ctX11_scoreAt (cL C) hC.tr (cG C) X.1 X.2.1 n S44 v2 v3  hq62) lk_X11_73 (by decide) (by decide) rfl rfl (Nat.le_of_ble_eq_true rfl) dX11_voting_62 ?_
    refine u_iload hC dX11_voting_65 4 rfl ?_
    obtain ⟨q67, hq67, hf⟩ := kc_some hf
    refine u_callV hC (ctX11_chosenWith (cL C) hC.tr (cG C) X.1 X.2.1 n S44 v0 v1 q62 v4 hTv0 hq67) lk_X11_306 rfl hTv0 (by decide) rfl (by decide) (by decide) rfl rfl (Nat.le_of_ble_eq_true rfl) dX11_voting_67 ?_
    refine u_sub (lv' := []) [] rfl ?_
    exact wjX11_voting_70 hC n q67.2 q67.1   hf hR
  · refine u_iconst (v := (0 : Int32)) hC dX11_voting_54 (by decide) ?_
    refine u_goto (tgt := 70) hC dX11_voting_55 (by decide) ?_
    refine u_sub (lv' := []) [] rfl ?_
    exact wjX11_voting_70 hC n S44 (0 : Int32)   hf hR
theorem wjX11_voting_24 {C : CT} {X : XT} (hC : CK C RX11 cX11_voting 5 (some .int) 56) (n : Nat) (S : PS) (v0 : Nat) (v1 : Int32) (v2 : Int32) (v3 : Int32) (v4 : Int32) (t0 : Nat)  (hTv0 : Ty X.2.1 v0 11) (hTt0 : Ty X.2.1 t0 11) {o : Int32 × PS} (hf : jX11_voting_24 X.2.1 n S v0 v1 v2 v3 v4 t0 = some o) (hR : Rt C X cX11_voting (some .int) (some (.int o.1)) o.2) : UW C X S 24 [(0, .ref (X.1 v0)), (1, .int v1), (2, .int v2), (3, .int v3), (4, .int v4)] [.ref (X.1 t0)] := by
  unfold jX11_voting_24 at hf
  refine u_iconst (v := (1 : Int32)) hC dX11_voting_24 (by decide) ?_
  refine u_goto (tgt := 44) hC dX11_voting_25 (by decide) ?_
  exact wjX11_voting_44 hC n S v0 v1 v2 v3 v4 (1 : Int32) t0  hTv0 hTt0 hf hR
theorem wX11_voting {C : CT} {X : XT} (hC : CK C RX11 cX11_voting 5 (some .int) 56) (n : Nat) (S : PS) (a0 : Nat) (x1_ : Int32) (x2_ : Int32) (x3_ : Int32) (x4_ : Int32) (hTa0 : Ty X.2.1 a0 11) {o : Int32 × PS} (hf : fX11_voting X.2.1 n S a0 x1_ x2_ x3_ x4_ = some o) (hR : Rt C X cX11_voting (some .int) (some (.int o.1)) o.2) : UW C X S 0 [(0, .ref (X.1 a0)), (1, .int x1_), (2, .int x2_), (3, .int x3_), (4, .int x4_)] [] := by
  unfold fX11_voting at hf
  refine u_aload_n hC dX11_voting_0 0 rfl rfl ?_
  refine u_iload_n hC dX11_voting_1 1 rfl rfl ?_
  obtain ⟨q2, hq2, hf⟩ := kc_some hf
  refine u_callS hC (ctX11_isRule (cL C) hC.tr (cG C) X.1 X.2.1 n S x1_  hq2) lk_X11_261 (by decide) (by decide) rfl rfl (Nat.le_of_ble_eq_true rfl) dX11_voting_2 ?_
  refine u_if_eq (tgt := 24) hC dX11_voting_5 (by decide) hf (fun h5 hf => ?_) (fun h5 hf => ?_)
  · exact wjX11_voting_24 hC n S a0 x1_ x2_ x3_ x4_ a0  hTa0 hTa0 hf hR
  · refine u_aload_n hC dX11_voting_8 0 rfl rfl ?_
    refine u_iload_n hC dX11_voting_9 2 rfl rfl ?_
    obtain ⟨q10, hq10, hf⟩ := kc_some hf
    refine u_callV hC (ctX11_isVoter (cL C) hC.tr (cG C) X.1 X.2.1 n S a0 x2_ hTa0 hq10) lk_X11_258 rfl hTa0 (by decide) rfl (by decide) (by decide) rfl rfl (Nat.le_of_ble_eq_true rfl) dX11_voting_10 ?_
    refine u_if_eq (tgt := 24) hC dX11_voting_13 (by decide) hf (fun h13 hf => ?_) (fun h13 hf => ?_)
    · exact wjX11_voting_24 hC n S a0 x1_ x2_ x3_ x4_ a0  hTa0 hTa0 hf hR
    · refine u_aload_n hC dX11_voting_16 0 rfl rfl ?_
      refine u_iload_n hC dX11_voting_17 3 rfl rfl ?_
      obtain ⟨q18, hq18, hf⟩ := kc_some hf
      refine u_callV hC (ctX11_isProject (cL C) hC.tr (cG C) X.1 X.2.1 n S a0 x3_ hTa0 hq18) lk_X11_255 rfl hTa0 (by decide) rfl (by decide) (by decide) rfl rfl (Nat.le_of_ble_eq_true rfl) dX11_voting_18 ?_
      refine u_if_ne (tgt := 28) hC dX11_voting_21 (by decide) hf (fun h21 hf => ?_) (fun h21 hf => ?_)
      · refine u_iload hC dX11_voting_28 4 rfl ?_
        refine u_iconst (v := (0 : Int32)) hC dX11_voting_30 (by decide) ?_
        refine u_bipush (v := (9 : Int32)) hC dX11_voting_31 (by decide) ?_
        obtain ⟨q33, hq33, hf⟩ := kc_some hf
        refine u_callS hC (ctX11_isIn (cL C) hC.tr (cG C) X.1 X.2.1 n S x4_ (0 : Int32) (9 : Int32)  hq33) lk_X11_81 (by decide) (by decide) rfl rfl (Nat.le_of_ble_eq_true rfl) dX11_voting_33 ?_
        refine u_if_ne (tgt := 43) hC dX11_voting_36 (by decide) hf (fun h36 hf => ?_) (fun h36 hf => ?_)
        · refine u_iconst (v := (0 : Int32)) hC dX11_voting_43 (by decide) ?_
          exact wjX11_voting_44 hC n S a0 x1_ x2_ x3_ x4_ (0 : Int32) a0  hTa0 hTa0 hf hR
        · refine u_iconst (v := (2 : Int32)) hC dX11_voting_39 (by decide) ?_
          refine u_goto (tgt := 44) hC dX11_voting_40 (by decide) ?_
          exact wjX11_voting_44 hC n S a0 x1_ x2_ x3_ x4_ (2 : Int32) a0  hTa0 hTa0 hf hR
      · exact wjX11_voting_24 hC n S a0 x1_ x2_ x3_ x4_ a0  hTa0 hTa0 hf hR
theorem ctX11_voting (l : Launch) (hl : l.stackTraces = false) (G : GT) (ρ : Nat → Nat) (Y : XS) (n : Nat) (S : PS) (a0 : Nat) (x1_ : Int32) (x2_ : Int32) (x3_ : Int32) (x4_ : Int32) (hTa0 : Ty Y a0 11) {o : Int32 × PS} (hf : fX11_voting Y n S a0 x1_ x2_ x3_ x4_ = some o) : Mt l G yX11_voting cX11_voting 5 (some .int) 56 ρ Y [.ref (ρ a0), .int x1_, .int x2_, .int x3_, .int x4_] S (some (.int o.1)) o.2 :=
  Mt_of hl (by decide) (Nat.le_of_ble_eq_true rfl) (fun C _ _ hC hR => wX11_voting (X := (ρ, Y, 0, 0)) hC n S a0 x1_ x2_ x3_ x4_ hTa0 hf hR)
-- X11_bestHeld
theorem dX11_bestHeld_0 : decode cX11_bestHeld 0 = .ok (.iload_n 2, 1) := by decide +kernel
theorem dX11_bestHeld_1 : decode cX11_bestHeld 1 = .ok (.istore_n 3, 1) := by decide +kernel
theorem dX11_bestHeld_2 : decode cX11_bestHeld 2 = .ok (.iconst (-1), 1) := by decide +kernel
theorem dX11_bestHeld_3 : decode cX11_bestHeld 3 = .ok (.istore 4, 2) := by decide +kernel
theorem dX11_bestHeld_5 : decode cX11_bestHeld 5 = .ok (.iconst 0, 1) := by decide +kernel
theorem dX11_bestHeld_6 : decode cX11_bestHeld 6 = .ok (.istore 5, 2) := by decide +kernel
theorem dX11_bestHeld_8 : decode cX11_bestHeld 8 = .ok (.iload 5, 2) := by decide +kernel
theorem dX11_bestHeld_10 : decode cX11_bestHeld 10 = .ok (.aload_n 0, 1) := by decide +kernel
theorem dX11_bestHeld_11 : decode cX11_bestHeld 11 = .ok (.invokevirtual 77, 3) := by decide +kernel
theorem dX11_bestHeld_14 : decode cX11_bestHeld 14 = .ok (.if_icmp .ge 56, 3) := by decide +kernel
theorem dX11_bestHeld_17 : decode cX11_bestHeld 17 = .ok (.aload_n 0, 1) := by decide +kernel
theorem dX11_bestHeld_18 : decode cX11_bestHeld 18 = .ok (.getfield 60, 3) := by decide +kernel
theorem dX11_bestHeld_21 : decode cX11_bestHeld 21 = .ok (.iload 5, 2) := by decide +kernel
theorem dX11_bestHeld_23 : decode cX11_bestHeld 23 = .ok (.iaload, 1) := by decide +kernel
theorem dX11_bestHeld_24 : decode cX11_bestHeld 24 = .ok (.iconst (-1), 1) := by decide +kernel
theorem dX11_bestHeld_25 : decode cX11_bestHeld 25 = .ok (.if_icmp .eq 39, 3) := by decide +kernel
theorem dX11_bestHeld_28 : decode cX11_bestHeld 28 = .ok (.aload_n 0, 1) := by decide +kernel
theorem dX11_bestHeld_29 : decode cX11_bestHeld 29 = .ok (.iload_n 1, 1) := by decide +kernel
theorem dX11_bestHeld_30 : decode cX11_bestHeld 30 = .ok (.aload_n 0, 1) := by decide +kernel
theorem dX11_bestHeld_31 : decode cX11_bestHeld 31 = .ok (.getfield 60, 3) := by decide +kernel
theorem dX11_bestHeld_34 : decode cX11_bestHeld 34 = .ok (.iload 5, 2) := by decide +kernel
theorem dX11_bestHeld_36 : decode cX11_bestHeld 36 = .ok (.iaload, 1) := by decide +kernel
theorem dX11_bestHeld_37 : decode cX11_bestHeld 37 = .ok (.invokevirtual 151, 3) := by decide +kernel
theorem dX11_bestHeld_40 : decode cX11_bestHeld 40 = .ok (.iload_n 3, 1) := by decide +kernel
theorem dX11_bestHeld_41 : decode cX11_bestHeld 41 = .ok (.if_icmp .gt 6, 3) := by decide +kernel
theorem dX11_bestHeld_44 : decode cX11_bestHeld 44 = .ok (.goto 20, 3) := by decide +kernel
theorem dX11_bestHeld_47 : decode cX11_bestHeld 47 = .ok (.aload_n 0, 1) := by decide +kernel
theorem dX11_bestHeld_48 : decode cX11_bestHeld 48 = .ok (.iload_n 1, 1) := by decide +kernel
theorem dX11_bestHeld_49 : decode cX11_bestHeld 49 = .ok (.aload_n 0, 1) := by decide +kernel
theorem dX11_bestHeld_50 : decode cX11_bestHeld 50 = .ok (.getfield 60, 3) := by decide +kernel
theorem dX11_bestHeld_53 : decode cX11_bestHeld 53 = .ok (.iload 5, 2) := by decide +kernel
theorem dX11_bestHeld_55 : decode cX11_bestHeld 55 = .ok (.iaload, 1) := by decide +kernel
theorem dX11_bestHeld_56 : decode cX11_bestHeld 56 = .ok (.invokevirtual 151, 3) := by decide +kernel
theorem dX11_bestHeld_59 : decode cX11_bestHeld 59 = .ok (.istore_n 3, 1) := by decide +kernel
theorem dX11_bestHeld_60 : decode cX11_bestHeld 60 = .ok (.iload 5, 2) := by decide +kernel
theorem dX11_bestHeld_62 : decode cX11_bestHeld 62 = .ok (.istore 4, 2) := by decide +kernel
theorem dX11_bestHeld_64 : decode cX11_bestHeld 64 = .ok (.iinc 5 1, 3) := by decide +kernel
theorem dX11_bestHeld_67 : decode cX11_bestHeld 67 = .ok (.goto (-59), 3) := by decide +kernel
theorem dX11_bestHeld_70 : decode cX11_bestHeld 70 = .ok (.iload 4, 2) := by decide +kernel
theorem dX11_bestHeld_72 : decode cX11_bestHeld 72 = .ok (.ireturn, 1) := by decide +kernel
def jX11_bestHeld_64_8 (Y : XS) (n : Nat) (S : PS) (v0 : Nat) (v1 : Int32) (v3 : Int32) (v4 : Int32) (v5 : Int32) : Option ((Int32 × Int32 × Int32) ⊕ Int32) :=
  some (.inl (v3, v4, v5 + (1 : Int32)))
def bX11_bestHeld_8 (Y : XS) (n : Nat) (S : PS) (v0 : Nat) (v1 : Int32) (s8 : (Int32 × Int32 × Int32)) : Option ((Int32 × Int32 × Int32) ⊕ Int32) :=
  kc (fX11_many Y n S v0) (fun q11 => (if q11 ≤ s8.2.2 then some (.inr s8.2.1) else kgr S v0 26 (fun b18 => kai Y S b18 s8.2.2 (fun x23 => (if x23 = (-1 : Int32) then jX11_bestHeld_64_8 Y n S v0 v1 s8.1 s8.2.1 s8.2.2 else kgr S v0 26 (fun b31 => kai Y S b31 s8.2.2 (fun x36 => kc (fX11_worthTo Y n S v0 v1 x36) (fun q37 => (if s8.1 < q37 then kgr S v0 26 (fun b50 => kai Y S b50 s8.2.2 (fun x55 => kc (fX11_worthTo Y n S v0 v1 x55) (fun q56 => jX11_bestHeld_64_8 Y n S v0 v1 q56 s8.2.2 s8.2.2))) else jX11_bestHeld_64_8 Y n S v0 v1 s8.1 s8.2.1 s8.2.2)))))))))
def fX11_bestHeld (Y : XS) (n : Nat) (S : PS) (a0 : Nat) (x1_ : Int32) (x2_ : Int32) : Option (Int32) :=
  kc (iter (bX11_bestHeld_8 Y n S a0 x1_) n (x2_, (-1 : Int32), (0 : Int32))) (fun r8 => some r8)
theorem wjX11_bestHeld_64_8 {C : CT} {X : XT} (hC : CK C RX11 cX11_bestHeld 6 (some .int) 3) (n : Nat) (S : PS) (v0 : Nat) (v1 : Int32) (v3 : Int32) (v4 : Int32) (v5 : Int32)  (hTv0 : Ty X.2.1 v0 11) {o : (Int32 × Int32 × Int32) ⊕ Int32} (hf : jX11_bestHeld_64_8 X.2.1 n S v0 v1 v3 v4 v5 = some o) (hN : ∀ s', o = .inl s' → UW C X S 8 [(0, .ref (X.1 v0)), (1, .int v1), (3, .int s'.1), (4, .int s'.2.1), (5, .int s'.2.2)] []) (hO0 : ∀ p', o = .inr p' → UW C X S 70 [(4, .int p')] []) : UW C X S 64 [(0, .ref (X.1 v0)), (1, .int v1), (3, .int v3), (4, .int v4), (5, .int v5)] [] := by
  unfold jX11_bestHeld_64_8 at hf
  refine u_iinc (v := v5 + (1 : Int32)) (lv' := [(5, .int (v5 + (1 : Int32))), (0, .ref (X.1 v0)), (1, .int v1), (3, .int v3), (4, .int v4)]) hC dX11_bestHeld_64 4 rfl rfl (by decide) rfl ?_
  refine u_goto (tgt := 8) hC dX11_bestHeld_67 (by decide) ?_
  refine u_sub (lv' := [(0, .ref (X.1 v0)), (1, .int v1), (3, .int v3), (4, .int v4), (5, .int (v5 + (1 : Int32)))]) [1, 2, 3, 4, 0] rfl ?_
  exact hN _ (Option.some.inj hf).symm
theorem wbX11_bestHeld_8 {C : CT} {X : XT} (hC : CK C RX11 cX11_bestHeld 6 (some .int) 3) (n : Nat) (S : PS) (v0 : Nat) (v1 : Int32) (hTv0 : Ty X.2.1 v0 11) (s8 : (Int32 × Int32 × Int32)) {o : (Int32 × Int32 × Int32) ⊕ Int32} (hf : bX11_bestHeld_8 X.2.1 n S v0 v1 s8 = some o) (hN : ∀ s', o = .inl s' → UW C X S 8 [(0, .ref (X.1 v0)), (1, .int v1), (3, .int s'.1), (4, .int s'.2.1), (5, .int s'.2.2)] []) (hO0 : ∀ p', o = .inr p' → UW C X S 70 [(4, .int p')] []) : UW C X S 8 [(0, .ref (X.1 v0)), (1, .int v1), (3, .int s8.1), (4, .int s8.2.1), (5, .int s8.2.2)] [] := by
  unfold bX11_bestHeld_8 at hf
  refine u_iload hC dX11_bestHeld_8 4 rfl ?_
  refine u_aload_n hC dX11_bestHeld_10 0 rfl rfl ?_
  obtain ⟨q11, hq11, hf⟩ := kc_some hf
  refine u_callV hC (ctX11_many (cL C) hC.tr (cG C) X.1 X.2.1 n S v0 hTv0 hq11) lk_X11_77 rfl hTv0 (by decide) rfl (by decide) (by decide) rfl rfl (Nat.le_of_ble_eq_true rfl) dX11_bestHeld_11 ?_
  refine u_icmp_ge (tgt := 70) hC dX11_bestHeld_14 (by decide) hf (fun h14 hf => ?_) (fun h14 hf => ?_)
  · refine u_sub (lv' := [(4, .int s8.2.1)]) [3] rfl ?_
    exact hO0 _ (Option.some.inj hf).symm
  · refine u_aload_n hC dX11_bestHeld_17 0 rfl rfl ?_
    refine u_gr hC lf_X11_60 rfl hTv0 dX11_bestHeld_18 hf (fun b18 hTb18 hf => ?_)
    refine u_iload hC dX11_bestHeld_21 4 rfl ?_
    refine u_ai hC hTb18 dX11_bestHeld_23 hf (fun x23 hf => ?_)
    refine u_iconst (v := (-1 : Int32)) hC dX11_bestHeld_24 (by decide) ?_
    refine u_icmp_eq (tgt := 64) hC dX11_bestHeld_25 (by decide) hf (fun h25 hf => ?_) (fun h25 hf => ?_)
    · exact wjX11_bestHeld_64_8 hC n S v0 v1 s8.1 s8.2.1 s8.2.2  hTv0 hf hN hO0
    · refine u_aload_n hC dX11_bestHeld_28 0 rfl rfl ?_
      refine u_iload_n hC dX11_bestHeld_29 1 rfl rfl ?_
      refine u_aload_n hC dX11_bestHeld_30 0 rfl rfl ?_
      refine u_gr hC lf_X11_60 rfl hTv0 dX11_bestHeld_31 hf (fun b31 hTb31 hf => ?_)
      refine u_iload hC dX11_bestHeld_34 4 rfl ?_
      refine u_ai hC hTb31 dX11_bestHeld_36 hf (fun x36 hf => ?_)
      obtain ⟨q37, hq37, hf⟩ := kc_some hf
      refine u_callV hC (ctX11_worthTo (cL C) hC.tr (cG C) X.1 X.2.1 n S v0 v1 x36 hTv0 hq37) lk_X11_151 rfl hTv0 (by decide) rfl (by decide) (by decide) rfl rfl (Nat.le_of_ble_eq_true rfl) dX11_bestHeld_37 ?_
      refine u_iload_n hC dX11_bestHeld_40 2 rfl rfl ?_
      refine u_icmp_gt (tgt := 47) hC dX11_bestHeld_41 (by decide) hf (fun h41 hf => ?_) (fun h41 hf => ?_)
      · refine u_aload_n hC dX11_bestHeld_47 0 rfl rfl ?_
        refine u_iload_n hC dX11_bestHeld_48 1 rfl rfl ?_
        refine u_aload_n hC dX11_bestHeld_49 0 rfl rfl ?_
        refine u_gr hC lf_X11_60 rfl hTv0 dX11_bestHeld_50 hf (fun b50 hTb50 hf => ?_)
        refine u_iload hC dX11_bestHeld_53 4 rfl ?_
        refine u_ai hC hTb50 dX11_bestHeld_55 hf (fun x55 hf => ?_)
        obtain ⟨q56, hq56, hf⟩ := kc_some hf
        refine u_callV hC (ctX11_worthTo (cL C) hC.tr (cG C) X.1 X.2.1 n S v0 v1 x55 hTv0 hq56) lk_X11_151 rfl hTv0 (by decide) rfl (by decide) (by decide) rfl rfl (Nat.le_of_ble_eq_true rfl) dX11_bestHeld_56 ?_
        refine u_istore_n (lv' := [(3, .int q56), (0, .ref (X.1 v0)), (1, .int v1), (4, .int s8.2.1), (5, .int s8.2.2)]) hC dX11_bestHeld_59 rfl (by decide) rfl ?_
        refine u_iload hC dX11_bestHeld_60 4 rfl ?_
        refine u_istore (lv' := [(4, .int s8.2.2), (3, .int q56), (0, .ref (X.1 v0)), (1, .int v1), (5, .int s8.2.2)]) hC dX11_bestHeld_62 (by decide) rfl ?_
        refine u_sub (lv' := [(0, .ref (X.1 v0)), (1, .int v1), (3, .int q56), (4, .int s8.2.2), (5, .int s8.2.2)]) [2, 3, 1, 0, 4] rfl ?_
        exact wjX11_bestHeld_64_8 hC n S v0 v1 q56 s8.2.2 s8.2.2  hTv0 hf hN hO0
      · refine u_goto (tgt := 64) hC dX11_bestHeld_44 (by decide) ?_
        exact wjX11_bestHeld_64_8 hC n S v0 v1 s8.1 s8.2.1 s8.2.2  hTv0 hf hN hO0
theorem wX11_bestHeld {C : CT} {X : XT} (hC : CK C RX11 cX11_bestHeld 6 (some .int) 3) (n : Nat) (S : PS) (a0 : Nat) (x1_ : Int32) (x2_ : Int32) (hTa0 : Ty X.2.1 a0 11) {o : Int32} (hf : fX11_bestHeld X.2.1 n S a0 x1_ x2_ = some o) (hR : Rt C X cX11_bestHeld (some .int) (some (.int o)) S) : UW C X S 0 [(0, .ref (X.1 a0)), (1, .int x1_), (2, .int x2_)] [] := by
  unfold fX11_bestHeld at hf
  refine u_iload_n hC dX11_bestHeld_0 2 rfl rfl ?_
  refine u_istore_n (lv' := [(3, .int x2_), (0, .ref (X.1 a0)), (1, .int x1_), (2, .int x2_)]) hC dX11_bestHeld_1 rfl (by decide) rfl ?_
  refine u_iconst (v := (-1 : Int32)) hC dX11_bestHeld_2 (by decide) ?_
  refine u_istore (lv' := [(4, .int (-1 : Int32)), (3, .int x2_), (0, .ref (X.1 a0)), (1, .int x1_), (2, .int x2_)]) hC dX11_bestHeld_3 (by decide) rfl ?_
  refine u_iconst (v := (0 : Int32)) hC dX11_bestHeld_5 (by decide) ?_
  refine u_istore (lv' := [(5, .int (0 : Int32)), (4, .int (-1 : Int32)), (3, .int x2_), (0, .ref (X.1 a0)), (1, .int x1_), (2, .int x2_)]) hC dX11_bestHeld_6 (by decide) rfl ?_
  obtain ⟨r8, hr8, hf⟩ := kc_some hf
  have hk8 : UW C X S 70 [(4, .int r8)] [] := by
    refine u_iload hC dX11_bestHeld_70 0 rfl ?_
    cases hf
    exact hR _ _ dX11_bestHeld_72 trivial
  refine u_sub (lv' := [(0, .ref (X.1 a0)), (1, .int x1_), (3, .int x2_), (4, .int (-1 : Int32)), (5, .int (0 : Int32))]) [3, 4, 2, 1, 0] rfl ?_
  refine iter_ind (P := fun s8 => UW C X S 8 [(0, .ref (X.1 a0)), (1, .int x1_), (3, .int s8.1), (4, .int s8.2.1), (5, .int s8.2.2)] []) (fun s8 o' hb hin hout => ?_) n (x2_, (-1 : Int32), (0 : Int32)) hr8
  exact wbX11_bestHeld_8 hC n S a0 x1_ hTa0 s8 hb hin (fun p e => by rw [hout p e]; exact hk8)
theorem ctX11_bestHeld (l : Launch) (hl : l.stackTraces = false) (G : GT) (ρ : Nat → Nat) (Y : XS) (n : Nat) (S : PS) (a0 : Nat) (x1_ : Int32) (x2_ : Int32) (hTa0 : Ty Y a0 11) {o : Int32} (hf : fX11_bestHeld Y n S a0 x1_ x2_ = some o) : Mt l G yX11_bestHeld cX11_bestHeld 6 (some .int) 3 ρ Y [.ref (ρ a0), .int x1_, .int x2_] S (some (.int o)) S :=
  Mt_of hl (by decide) (Nat.le_of_ble_eq_true rfl) (fun C _ _ hC hR => wX11_bestHeld (X := (ρ, Y, 0, 0)) hC n S a0 x1_ x2_ hTa0 hf hR)
-- X11_ride
theorem dX11_ride_0 : decode cX11_ride 0 = .ok (.aload_n 0, 1) := by decide +kernel
theorem dX11_ride_1 : decode cX11_ride 1 = .ok (.iconst 0, 1) := by decide +kernel
theorem dX11_ride_2 : decode cX11_ride 2 = .ok (.putfield 70, 3) := by decide +kernel
theorem dX11_ride_5 : decode cX11_ride 5 = .ok (.iload_n 1, 1) := by decide +kernel
theorem dX11_ride_6 : decode cX11_ride 6 = .ok (.invokestatic 261, 3) := by decide +kernel
theorem dX11_ride_9 : decode cX11_ride 9 = .ok (.ifCond .eq 20, 3) := by decide +kernel
theorem dX11_ride_12 : decode cX11_ride 12 = .ok (.aload_n 0, 1) := by decide +kernel
theorem dX11_ride_13 : decode cX11_ride 13 = .ok (.iload_n 2, 1) := by decide +kernel
theorem dX11_ride_14 : decode cX11_ride 14 = .ok (.invokevirtual 258, 3) := by decide +kernel
theorem dX11_ride_17 : decode cX11_ride 17 = .ok (.ifCond .eq 12, 3) := by decide +kernel
theorem dX11_ride_20 : decode cX11_ride 20 = .ok (.iload_n 3, 1) := by decide +kernel
theorem dX11_ride_21 : decode cX11_ride 21 = .ok (.iconst 0, 1) := by decide +kernel
theorem dX11_ride_22 : decode cX11_ride 22 = .ok (.iconst 1, 1) := by decide +kernel
theorem dX11_ride_23 : decode cX11_ride 23 = .ok (.invokestatic 81, 3) := by decide +kernel
theorem dX11_ride_26 : decode cX11_ride 26 = .ok (.ifCond .ne 9, 3) := by decide +kernel
theorem dX11_ride_29 : decode cX11_ride 29 = .ok (.aload_n 0, 1) := by decide +kernel
theorem dX11_ride_30 : decode cX11_ride 30 = .ok (.iconst 1, 1) := by decide +kernel
theorem dX11_ride_31 : decode cX11_ride 31 = .ok (.invokevirtual 252, 3) := by decide +kernel
theorem dX11_ride_34 : decode cX11_ride 34 = .ok (.ireturn, 1) := by decide +kernel
theorem dX11_ride_35 : decode cX11_ride 35 = .ok (.iconst 0, 1) := by decide +kernel
theorem dX11_ride_36 : decode cX11_ride 36 = .ok (.istore 4, 2) := by decide +kernel
theorem dX11_ride_38 : decode cX11_ride 38 = .ok (.iload 4, 2) := by decide +kernel
theorem dX11_ride_40 : decode cX11_ride 40 = .ok (.aload_n 0, 1) := by decide +kernel
theorem dX11_ride_41 : decode cX11_ride 41 = .ok (.invokevirtual 77, 3) := by decide +kernel
theorem dX11_ride_44 : decode cX11_ride 44 = .ok (.if_icmp .ge 42, 3) := by decide +kernel
theorem dX11_ride_47 : decode cX11_ride 47 = .ok (.aload_n 0, 1) := by decide +kernel
theorem dX11_ride_48 : decode cX11_ride 48 = .ok (.getfield 60, 3) := by decide +kernel
theorem dX11_ride_51 : decode cX11_ride 51 = .ok (.iload 4, 2) := by decide +kernel
theorem dX11_ride_53 : decode cX11_ride 53 = .ok (.aload_n 0, 1) := by decide +kernel
theorem dX11_ride_54 : decode cX11_ride 54 = .ok (.iload_n 2, 1) := by decide +kernel
theorem dX11_ride_55 : decode cX11_ride 55 = .ok (.iload 4, 2) := by decide +kernel
theorem dX11_ride_57 : decode cX11_ride 57 = .ok (.invokevirtual 88, 3) := by decide +kernel
theorem dX11_ride_60 : decode cX11_ride 60 = .ok (.ifCond .le 18, 3) := by decide +kernel
theorem dX11_ride_63 : decode cX11_ride 63 = .ok (.aload_n 0, 1) := by decide +kernel
theorem dX11_ride_64 : decode cX11_ride 64 = .ok (.iload_n 1, 1) := by decide +kernel
theorem dX11_ride_65 : decode cX11_ride 65 = .ok (.iload_n 2, 1) := by decide +kernel
theorem dX11_ride_66 : decode cX11_ride 66 = .ok (.iload 4, 2) := by decide +kernel
theorem dX11_ride_68 : decode cX11_ride 68 = .ok (.invokestatic 73, 3) := by decide +kernel
theorem dX11_ride_71 : decode cX11_ride 71 = .ok (.iconst 0, 1) := by decide +kernel
theorem dX11_ride_72 : decode cX11_ride 72 = .ok (.invokevirtual 306, 3) := by decide +kernel
theorem dX11_ride_75 : decode cX11_ride 75 = .ok (.goto 4, 3) := by decide +kernel
theorem dX11_ride_78 : decode cX11_ride 78 = .ok (.iconst (-1), 1) := by decide +kernel
theorem dX11_ride_79 : decode cX11_ride 79 = .ok (.iastore, 1) := by decide +kernel
theorem dX11_ride_80 : decode cX11_ride 80 = .ok (.iinc 4 1, 3) := by decide +kernel
theorem dX11_ride_83 : decode cX11_ride 83 = .ok (.goto (-45), 3) := by decide +kernel
theorem dX11_ride_86 : decode cX11_ride 86 = .ok (.aload_n 0, 1) := by decide +kernel
theorem dX11_ride_87 : decode cX11_ride 87 = .ok (.iload_n 1, 1) := by decide +kernel
theorem dX11_ride_88 : decode cX11_ride 88 = .ok (.invokevirtual 302, 3) := by decide +kernel
theorem dX11_ride_91 : decode cX11_ride 91 = .ok (.istore 4, 2) := by decide +kernel
theorem dX11_ride_93 : decode cX11_ride 93 = .ok (.aload_n 0, 1) := by decide +kernel
theorem dX11_ride_94 : decode cX11_ride 94 = .ok (.invokevirtual 224, 3) := by decide +kernel
theorem dX11_ride_97 : decode cX11_ride 97 = .ok (.aload_n 0, 1) := by decide +kernel
theorem dX11_ride_98 : decode cX11_ride 98 = .ok (.iload_n 2, 1) := by decide +kernel
theorem dX11_ride_99 : decode cX11_ride 99 = .ok (.aload_n 0, 1) := by decide +kernel
theorem dX11_ride_100 : decode cX11_ride 100 = .ok (.iload_n 2, 1) := by decide +kernel
theorem dX11_ride_101 : decode cX11_ride 101 = .ok (.iload 4, 2) := by decide +kernel
theorem dX11_ride_103 : decode cX11_ride 103 = .ok (.invokevirtual 151, 3) := by decide +kernel
theorem dX11_ride_106 : decode cX11_ride 106 = .ok (.invokevirtual 309, 3) := by decide +kernel
theorem dX11_ride_109 : decode cX11_ride 109 = .ok (.istore 5, 2) := by decide +kernel
theorem dX11_ride_111 : decode cX11_ride 111 = .ok (.iload_n 3, 1) := by decide +kernel
theorem dX11_ride_112 : decode cX11_ride 112 = .ok (.iconst 1, 1) := by decide +kernel
theorem dX11_ride_113 : decode cX11_ride 113 = .ok (.if_icmp .ne 6, 3) := by decide +kernel
theorem dX11_ride_116 : decode cX11_ride 116 = .ok (.iload 5, 2) := by decide +kernel
theorem dX11_ride_118 : decode cX11_ride 118 = .ok (.ireturn, 1) := by decide +kernel
theorem dX11_ride_119 : decode cX11_ride 119 = .ok (.iload 5, 2) := by decide +kernel
theorem dX11_ride_121 : decode cX11_ride 121 = .ok (.iconst (-1), 1) := by decide +kernel
theorem dX11_ride_122 : decode cX11_ride 122 = .ok (.if_icmp .ne 7, 3) := by decide +kernel
theorem dX11_ride_125 : decode cX11_ride 125 = .ok (.iconst 0, 1) := by decide +kernel
theorem dX11_ride_126 : decode cX11_ride 126 = .ok (.goto 23, 3) := by decide +kernel
theorem dX11_ride_129 : decode cX11_ride 129 = .ok (.aload_n 0, 1) := by decide +kernel
theorem dX11_ride_130 : decode cX11_ride 130 = .ok (.iload_n 2, 1) := by decide +kernel
theorem dX11_ride_131 : decode cX11_ride 131 = .ok (.aload_n 0, 1) := by decide +kernel
theorem dX11_ride_132 : decode cX11_ride 132 = .ok (.getfield 60, 3) := by decide +kernel
theorem dX11_ride_135 : decode cX11_ride 135 = .ok (.iload 5, 2) := by decide +kernel
theorem dX11_ride_137 : decode cX11_ride 137 = .ok (.iaload, 1) := by decide +kernel
theorem dX11_ride_138 : decode cX11_ride 138 = .ok (.invokevirtual 151, 3) := by decide +kernel
theorem dX11_ride_141 : decode cX11_ride 141 = .ok (.aload_n 0, 1) := by decide +kernel
theorem dX11_ride_142 : decode cX11_ride 142 = .ok (.iload_n 2, 1) := by decide +kernel
theorem dX11_ride_143 : decode cX11_ride 143 = .ok (.iload 4, 2) := by decide +kernel
theorem dX11_ride_145 : decode cX11_ride 145 = .ok (.invokevirtual 151, 3) := by decide +kernel
theorem dX11_ride_148 : decode cX11_ride 148 = .ok (.isub, 1) := by decide +kernel
theorem dX11_ride_149 : decode cX11_ride 149 = .ok (.ireturn, 1) := by decide +kernel
def jX11_ride_29 (Y : XS) (n : Nat) (S : PS) (v0 : Nat) : Option (Int32 × PS) :=
  kc (fX11_fail Y n S v0 (1 : Int32)) (fun q31 => some (q31.1, q31.2))
def jX11_ride_79_38 (Y : XS) (n : Nat) (S : PS) (v0 : Nat) (v1 : Int32) (v2 : Int32) (v3 : Int32) (v4 : Int32) (t0 : Int32) (t1 : Int32) (t2 : Nat) : Option ((Int32 × PS) ⊕ PS) :=
  kwi Y S t2 t1 t0 (fun S79 => some (.inl (v4 + (1 : Int32), S79)))
def bX11_ride_38 (Y : XS) (n : Nat) (v0 : Nat) (v1 : Int32) (v2 : Int32) (v3 : Int32) (s38 : (Int32 × PS)) : Option ((Int32 × PS) ⊕ PS) :=
  kc (fX11_many Y n s38.2 v0) (fun q41 => (if q41 ≤ s38.1 then some (.inr s38.2) else kgr s38.2 v0 26 (fun b48 => kc (fX11_scoreOf Y n s38.2 v0 v2 s38.1) (fun q57 => (if q57 ≤ 0 then jX11_ride_79_38 Y n s38.2 v0 v1 v2 v3 s38.1 (-1 : Int32) s38.1 b48 else kc (fX11_scoreAt Y n s38.2 v2 s38.1) (fun q68 => kc (fX11_chosenWith Y n s38.2 v0 v1 q68 (0 : Int32)) (fun q72 => jX11_ride_79_38 Y n q72.2 v0 v1 v2 v3 s38.1 q72.1 s38.1 b48)))))))
def jX11_ride_149 (Y : XS) (n : Nat) (S : PS) (t0 : Int32) : Option (Int32 × PS) :=
  some (t0, S)
def fX11_ride (Y : XS) (n : Nat) (S : PS) (a0 : Nat) (x1_ : Int32) (x2_ : Int32) (x3_ : Int32) : Option (Int32 × PS) :=
  kpi S a0 7 (0 : Int32) (fun S2 => kc (fX11_isRule Y n S2 x1_) (fun q6 => (if q6 = 0 then jX11_ride_29 Y n S2 a0 else kc (fX11_isVoter Y n S2 a0 x2_) (fun q14 => (if q14 = 0 then jX11_ride_29 Y n S2 a0 else kc (fX11_isIn Y n S2 x3_ (0 : Int32) (1 : Int32)) (fun q23 => (if q23 = 0 then jX11_ride_29 Y n S2 a0 else kc (iter (bX11_ride_38 Y n a0 x1_ x2_ x3_) n ((0 : Int32), S2)) (fun r38 => kc (fX11_chosenBy Y n r38 a0 x1_) (fun q88 => kc (fX11_layWorths Y n q88.2 a0) (fun q94 => kc (fX11_worthTo Y n q94 a0 x2_ q88.1) (fun q103 => kc (fX11_bestHeld Y n q94 a0 x2_ q103) (fun q106 => (if x3_ = (1 : Int32) then some (q106, q94) else (if q106 = (-1 : Int32) then jX11_ride_149 Y n q94 (0 : Int32) else kgr q94 a0 26 (fun b132 => kai Y q94 b132 q106 (fun x137 => kc (fX11_worthTo Y n q94 a0 x2_ x137) (fun q138 => kc (fX11_worthTo Y n q94 a0 x2_ q88.1) (fun q145 => jX11_ride_149 Y n q94 (q138 - q145)))))))))))))))))))
theorem wjX11_ride_29 {C : CT} {X : XT} (hC : CK C RX11 cX11_ride 6 (some .int) 56) (n : Nat) (S : PS) (v0 : Nat)  (hTv0 : Ty X.2.1 v0 11) {o : Int32 × PS} (hf : jX11_ride_29 X.2.1 n S v0 = some o) (hR : Rt C X cX11_ride (some .int) (some (.int o.1)) o.2) : UW C X S 29 [(0, .ref (X.1 v0))] [] := by
  unfold jX11_ride_29 at hf
  refine u_aload_n hC dX11_ride_29 0 rfl rfl ?_
  refine u_iconst (v := (1 : Int32)) hC dX11_ride_30 (by decide) ?_
  obtain ⟨q31, hq31, hf⟩ := kc_some hf
  refine u_callV hC (ctX11_fail (cL C) hC.tr (cG C) X.1 X.2.1 n S v0 (1 : Int32) hTv0 hq31) lk_X11_252 rfl hTv0 (by decide) rfl (by decide) (by decide) rfl rfl (Nat.le_of_ble_eq_true rfl) dX11_ride_31 ?_
  cases hf
  exact hR _ _ dX11_ride_34 trivial
theorem wjX11_ride_79_38 {C : CT} {X : XT} (hC : CK C RX11 cX11_ride 6 (some .int) 56) (n : Nat) (S : PS) (v0 : Nat) (v1 : Int32) (v2 : Int32) (v3 : Int32) (v4 : Int32) (t0 : Int32) (t1 : Int32) (t2 : Nat)  (hTv0 : Ty X.2.1 v0 11) (hTt2 : Ty X.2.1 t2 12) {o : (Int32 × PS) ⊕ PS} (hf : jX11_ride_79_38 X.2.1 n S v0 v1 v2 v3 v4 t0 t1 t2 = some o) (hN : ∀ s', o = .inl s' → UW C X s'.2 38 [(0, .ref (X.1 v0)), (1, .int v1), (2, .int v2), (3, .int v3), (4, .int s'.1)] []) (hO0 : ∀ p', o = .inr p' → UW C X p' 86 [(0, .ref (X.1 v0)), (1, .int v1), (2, .int v2), (3, .int v3)] []) : UW C X S 79 [(0, .ref (X.1 v0)), (1, .int v1), (2, .int v2), (3, .int v3), (4, .int v4)] [.int t0, .int t1, .ref (X.1 t2)] := by
  unfold jX11_ride_79_38 at hf
  refine u_wi hC hTt2 dX11_ride_79 hf (fun S79 hf => ?_)
  refine u_iinc (v := v4 + (1 : Int32)) (lv' := [(4, .int (v4 + (1 : Int32))), (0, .ref (X.1 v0)), (1, .int v1), (2, .int v2), (3, .int v3)]) hC dX11_ride_80 4 rfl rfl (by decide) rfl ?_
  refine u_goto (tgt := 38) hC dX11_ride_83 (by decide) ?_
  refine u_sub (lv' := [(0, .ref (X.1 v0)), (1, .int v1), (2, .int v2), (3, .int v3), (4, .int (v4 + (1 : Int32)))]) [1, 2, 3, 4, 0] rfl ?_
  exact hN _ (Option.some.inj hf).symm
theorem wbX11_ride_38 {C : CT} {X : XT} (hC : CK C RX11 cX11_ride 6 (some .int) 56) (n : Nat) (v0 : Nat) (v1 : Int32) (v2 : Int32) (v3 : Int32) (hTv0 : Ty X.2.1 v0 11) (s38 : (Int32 × PS)) {o : (Int32 × PS) ⊕ PS} (hf : bX11_ride_38 X.2.1 n v0 v1 v2 v3 s38 = some o) (hN : ∀ s', o = .inl s' → UW C X s'.2 38 [(0, .ref (X.1 v0)), (1, .int v1), (2, .int v2), (3, .int v3), (4, .int s'.1)] []) (hO0 : ∀ p', o = .inr p' → UW C X p' 86 [(0, .ref (X.1 v0)), (1, .int v1), (2, .int v2), (3, .int v3)] []) : UW C X s38.2 38 [(0, .ref (X.1 v0)), (1, .int v1), (2, .int v2), (3, .int v3), (4, .int s38.1)] [] := by
  unfold bX11_ride_38 at hf
  refine u_iload hC dX11_ride_38 4 rfl ?_
  refine u_aload_n hC dX11_ride_40 0 rfl rfl ?_
  obtain ⟨q41, hq41, hf⟩ := kc_some hf
  refine u_callV hC (ctX11_many (cL C) hC.tr (cG C) X.1 X.2.1 n s38.2 v0 hTv0 hq41) lk_X11_77 rfl hTv0 (by decide) rfl (by decide) (by decide) rfl rfl (Nat.le_of_ble_eq_true rfl) dX11_ride_41 ?_
  refine u_icmp_ge (tgt := 86) hC dX11_ride_44 (by decide) hf (fun h44 hf => ?_) (fun h44 hf => ?_)
  · refine u_sub (lv' := [(0, .ref (X.1 v0)), (1, .int v1), (2, .int v2), (3, .int v3)]) [0, 1, 2, 3] rfl ?_
    exact hO0 _ (Option.some.inj hf).symm
  · refine u_aload_n hC dX11_ride_47 0 rfl rfl ?_
    refine u_gr hC lf_X11_60 rfl hTv0 dX11_ride_48 hf (fun b48 hTb48 hf => ?_)
    refine u_iload hC dX11_ride_51 4 rfl ?_
    refine u_aload_n hC dX11_ride_53 0 rfl rfl ?_
    refine u_iload_n hC dX11_ride_54 2 rfl rfl ?_
    refine u_iload hC dX11_ride_55 4 rfl ?_
    obtain ⟨q57, hq57, hf⟩ := kc_some hf
    refine u_callV hC (ctX11_scoreOf (cL C) hC.tr (cG C) X.1 X.2.1 n s38.2 v0 v2 s38.1 hTv0 hq57) lk_X11_88 rfl hTv0 (by decide) rfl (by decide) (by decide) rfl rfl (Nat.le_of_ble_eq_true rfl) dX11_ride_57 ?_
    refine u_if_le (tgt := 78) hC dX11_ride_60 (by decide) hf (fun h60 hf => ?_) (fun h60 hf => ?_)
    · refine u_iconst (v := (-1 : Int32)) hC dX11_ride_78 (by decide) ?_
      exact wjX11_ride_79_38 hC n s38.2 v0 v1 v2 v3 s38.1 (-1 : Int32) s38.1 b48  hTv0 hTb48 hf hN hO0
    · refine u_aload_n hC dX11_ride_63 0 rfl rfl ?_
      refine u_iload_n hC dX11_ride_64 1 rfl rfl ?_
      refine u_iload_n hC dX11_ride_65 2 rfl rfl ?_
      refine u_iload hC dX11_ride_66 4 rfl ?_
      obtain ⟨q68, hq68, hf⟩ := kc_some hf
      refine u_callS hC (ctX11_scoreAt (cL C) hC.tr (cG C) X.1 X.2.1 n s38.2 v2 s38.1  hq68) lk_X11_73 (by decide) (by decide) rfl rfl (Nat.le_of_ble_eq_true rfl) dX11_ride_68 ?_
      refine u_iconst (v := (0 : Int32)) hC dX11_ride_71 (by decide) ?_
      obtain ⟨q72, hq72, hf⟩ := kc_some hf
      refine u_callV hC (ctX11_chosenWith (cL C) hC.tr (cG C) X.1 X.2.1 n s38.2 v0 v1 q68 (0 : Int32) hTv0 hq72) lk_X11_306 rfl hTv0 (by decide) rfl (by decide) (by decide) rfl rfl (Nat.le_of_ble_eq_true rfl) dX11_ride_72 ?_
      refine u_goto (tgt := 79) hC dX11_ride_75 (by decide) ?_
      exact wjX11_ride_79_38 hC n q72.2 v0 v1 v2 v3 s38.1 q72.1 s38.1 b48  hTv0 hTb48 hf hN hO0
theorem wjX11_ride_149 {C : CT} {X : XT} (hC : CK C RX11 cX11_ride 6 (some .int) 56) (n : Nat) (S : PS) (t0 : Int32)   {o : Int32 × PS} (hf : jX11_ride_149 X.2.1 n S t0 = some o) (hR : Rt C X cX11_ride (some .int) (some (.int o.1)) o.2) : UW C X S 149 [] [.int t0] := by
  unfold jX11_ride_149 at hf
  cases hf
  exact hR _ _ dX11_ride_149 trivial
theorem wX11_ride {C : CT} {X : XT} (hC : CK C RX11 cX11_ride 6 (some .int) 56) (n : Nat) (S : PS) (a0 : Nat) (x1_ : Int32) (x2_ : Int32) (x3_ : Int32) (hTa0 : Ty X.2.1 a0 11) {o : Int32 × PS} (hf : fX11_ride X.2.1 n S a0 x1_ x2_ x3_ = some o) (hR : Rt C X cX11_ride (some .int) (some (.int o.1)) o.2) : UW C X S 0 [(0, .ref (X.1 a0)), (1, .int x1_), (2, .int x2_), (3, .int x3_)] [] := by
  unfold fX11_ride at hf
  refine u_aload_n hC dX11_ride_0 0 rfl rfl ?_
  refine u_iconst (v := (0 : Int32)) hC dX11_ride_1 (by decide) ?_
  refine u_pi hC lf_X11_70 rfl rfl rfl hTa0 dX11_ride_2 hf (fun S2 hf => ?_)
  refine u_iload_n hC dX11_ride_5 1 rfl rfl ?_
  obtain ⟨q6, hq6, hf⟩ := kc_some hf
  refine u_callS hC (ctX11_isRule (cL C) hC.tr (cG C) X.1 X.2.1 n S2 x1_  hq6) lk_X11_261 (by decide) (by decide) rfl rfl (Nat.le_of_ble_eq_true rfl) dX11_ride_6 ?_
  refine u_if_eq (tgt := 29) hC dX11_ride_9 (by decide) hf (fun h9 hf => ?_) (fun h9 hf => ?_)
  · refine u_sub (lv' := [(0, .ref (X.1 a0))]) [0] rfl ?_
    exact wjX11_ride_29 hC n S2 a0  hTa0 hf hR
  · refine u_aload_n hC dX11_ride_12 0 rfl rfl ?_
    refine u_iload_n hC dX11_ride_13 2 rfl rfl ?_
    obtain ⟨q14, hq14, hf⟩ := kc_some hf
    refine u_callV hC (ctX11_isVoter (cL C) hC.tr (cG C) X.1 X.2.1 n S2 a0 x2_ hTa0 hq14) lk_X11_258 rfl hTa0 (by decide) rfl (by decide) (by decide) rfl rfl (Nat.le_of_ble_eq_true rfl) dX11_ride_14 ?_
    refine u_if_eq (tgt := 29) hC dX11_ride_17 (by decide) hf (fun h17 hf => ?_) (fun h17 hf => ?_)
    · refine u_sub (lv' := [(0, .ref (X.1 a0))]) [0] rfl ?_
      exact wjX11_ride_29 hC n S2 a0  hTa0 hf hR
    · refine u_iload_n hC dX11_ride_20 3 rfl rfl ?_
      refine u_iconst (v := (0 : Int32)) hC dX11_ride_21 (by decide) ?_
      refine u_iconst (v := (1 : Int32)) hC dX11_ride_22 (by decide) ?_
      obtain ⟨q23, hq23, hf⟩ := kc_some hf
      refine u_callS hC (ctX11_isIn (cL C) hC.tr (cG C) X.1 X.2.1 n S2 x3_ (0 : Int32) (1 : Int32)  hq23) lk_X11_81 (by decide) (by decide) rfl rfl (Nat.le_of_ble_eq_true rfl) dX11_ride_23 ?_
      refine u_if_ne (tgt := 35) hC dX11_ride_26 (by decide) hf (fun h26 hf => ?_) (fun h26 hf => ?_)
      · refine u_iconst (v := (0 : Int32)) hC dX11_ride_35 (by decide) ?_
        refine u_istore (lv' := [(4, .int (0 : Int32)), (0, .ref (X.1 a0)), (1, .int x1_), (2, .int x2_), (3, .int x3_)]) hC dX11_ride_36 (by decide) rfl ?_
        obtain ⟨r38, hr38, hf⟩ := kc_some hf
        have hk38 : UW C X r38 86 [(0, .ref (X.1 a0)), (1, .int x1_), (2, .int x2_), (3, .int x3_)] [] := by
          refine u_aload_n hC dX11_ride_86 0 rfl rfl ?_
          refine u_iload_n hC dX11_ride_87 1 rfl rfl ?_
          obtain ⟨q88, hq88, hf⟩ := kc_some hf
          refine u_callV hC (ctX11_chosenBy (cL C) hC.tr (cG C) X.1 X.2.1 n r38 a0 x1_ hTa0 hq88) lk_X11_302 rfl hTa0 (by decide) rfl (by decide) (by decide) rfl rfl (Nat.le_of_ble_eq_true rfl) dX11_ride_88 ?_
          refine u_istore (lv' := [(4, .int q88.1), (0, .ref (X.1 a0)), (1, .int x1_), (2, .int x2_), (3, .int x3_)]) hC dX11_ride_91 (by decide) rfl ?_
          refine u_aload_n hC dX11_ride_93 1 rfl rfl ?_
          obtain ⟨q94, hq94, hf⟩ := kc_some hf
          refine u_callV hC (ctX11_layWorths (cL C) hC.tr (cG C) X.1 X.2.1 n q88.2 a0 hTa0 hq94) lk_X11_224 rfl hTa0 (by decide) rfl (by decide) (by decide) rfl rfl (Nat.le_of_ble_eq_true rfl) dX11_ride_94 ?_
          refine u_aload_n hC dX11_ride_97 1 rfl rfl ?_
          refine u_iload_n hC dX11_ride_98 3 rfl rfl ?_
          refine u_aload_n hC dX11_ride_99 1 rfl rfl ?_
          refine u_iload_n hC dX11_ride_100 3 rfl rfl ?_
          refine u_iload hC dX11_ride_101 0 rfl ?_
          obtain ⟨q103, hq103, hf⟩ := kc_some hf
          refine u_callV hC (ctX11_worthTo (cL C) hC.tr (cG C) X.1 X.2.1 n q94 a0 x2_ q88.1 hTa0 hq103) lk_X11_151 rfl hTa0 (by decide) rfl (by decide) (by decide) rfl rfl (Nat.le_of_ble_eq_true rfl) dX11_ride_103 ?_
          obtain ⟨q106, hq106, hf⟩ := kc_some hf
          refine u_callV hC (ctX11_bestHeld (cL C) hC.tr (cG C) X.1 X.2.1 n q94 a0 x2_ q103 hTa0 hq106) lk_X11_309 rfl hTa0 (by decide) rfl (by decide) (by decide) rfl rfl (Nat.le_of_ble_eq_true rfl) dX11_ride_106 ?_
          refine u_istore (lv' := [(5, .int q106), (4, .int q88.1), (0, .ref (X.1 a0)), (1, .int x1_), (2, .int x2_), (3, .int x3_)]) hC dX11_ride_109 (by decide) rfl ?_
          refine u_iload_n hC dX11_ride_111 5 rfl rfl ?_
          refine u_iconst (v := (1 : Int32)) hC dX11_ride_112 (by decide) ?_
          refine u_icmp_ne (tgt := 119) hC dX11_ride_113 (by decide) hf (fun h113 hf => ?_) (fun h113 hf => ?_)
          · refine u_iload hC dX11_ride_119 0 rfl ?_
            refine u_iconst (v := (-1 : Int32)) hC dX11_ride_121 (by decide) ?_
            refine u_icmp_ne (tgt := 129) hC dX11_ride_122 (by decide) hf (fun h122 hf => ?_) (fun h122 hf => ?_)
            · refine u_aload_n hC dX11_ride_129 2 rfl rfl ?_
              refine u_iload_n hC dX11_ride_130 4 rfl rfl ?_
              refine u_aload_n hC dX11_ride_131 2 rfl rfl ?_
              refine u_gr hC lf_X11_60 rfl hTa0 dX11_ride_132 hf (fun b132 hTb132 hf => ?_)
              refine u_iload hC dX11_ride_135 0 rfl ?_
              refine u_ai hC hTb132 dX11_ride_137 hf (fun x137 hf => ?_)
              obtain ⟨q138, hq138, hf⟩ := kc_some hf
              refine u_callV hC (ctX11_worthTo (cL C) hC.tr (cG C) X.1 X.2.1 n q94 a0 x2_ x137 hTa0 hq138) lk_X11_151 rfl hTa0 (by decide) rfl (by decide) (by decide) rfl rfl (Nat.le_of_ble_eq_true rfl) dX11_ride_138 ?_
              refine u_aload_n hC dX11_ride_141 2 rfl rfl ?_
              refine u_iload_n hC dX11_ride_142 4 rfl rfl ?_
              refine u_iload hC dX11_ride_143 1 rfl ?_
              obtain ⟨q145, hq145, hf⟩ := kc_some hf
              refine u_callV hC (ctX11_worthTo (cL C) hC.tr (cG C) X.1 X.2.1 n q94 a0 x2_ q88.1 hTa0 hq145) lk_X11_151 rfl hTa0 (by decide) rfl (by decide) (by decide) rfl rfl (Nat.le_of_ble_eq_true rfl) dX11_ride_145 ?_
              refine u_isub hC dX11_ride_148 ?_
              refine u_sub (lv' := []) [] rfl ?_
              exact wjX11_ride_149 hC n q94 (q138 - q145)   hf hR
            · refine u_iconst (v := (0 : Int32)) hC dX11_ride_125 (by decide) ?_
              refine u_goto (tgt := 149) hC dX11_ride_126 (by decide) ?_
              refine u_sub (lv' := []) [] rfl ?_
              exact wjX11_ride_149 hC n q94 (0 : Int32)   hf hR
          · refine u_iload hC dX11_ride_116 0 rfl ?_
            cases hf
            exact hR _ _ dX11_ride_118 trivial
        refine u_sub (lv' := [(0, .ref (X.1 a0)), (1, .int x1_), (2, .int x2_), (3, .int x3_), (4, .int (0 : Int32))]) [1, 2, 3, 4, 0] rfl ?_
        refine iter_ind (P := fun s38 => UW C X s38.2 38 [(0, .ref (X.1 a0)), (1, .int x1_), (2, .int x2_), (3, .int x3_), (4, .int s38.1)] []) (fun s38 o' hb hin hout => ?_) n ((0 : Int32), S2) hr38
        exact wbX11_ride_38 hC n a0 x1_ x2_ x3_ hTa0 s38 hb hin (fun p e => by rw [hout p e]; exact hk38)
      · refine u_sub (lv' := [(0, .ref (X.1 a0))]) [0] rfl ?_
        exact wjX11_ride_29 hC n S2 a0  hTa0 hf hR
theorem ctX11_ride (l : Launch) (hl : l.stackTraces = false) (G : GT) (ρ : Nat → Nat) (Y : XS) (n : Nat) (S : PS) (a0 : Nat) (x1_ : Int32) (x2_ : Int32) (x3_ : Int32) (hTa0 : Ty Y a0 11) {o : Int32 × PS} (hf : fX11_ride Y n S a0 x1_ x2_ x3_ = some o) : Mt l G yX11_ride cX11_ride 6 (some .int) 56 ρ Y [.ref (ρ a0), .int x1_, .int x2_, .int x3_] S (some (.int o.1)) o.2 :=
  Mt_of hl (by decide) (Nat.le_of_ble_eq_true rfl) (fun C _ _ hC hR => wX11_ride (X := (ρ, Y, 0, 0)) hC n S a0 x1_ x2_ x3_ hTa0 hf hR)
