/-! String constants: their rows, and the JDK's own length and charAt -/
def gK (G : GT) (i : Nat) : Nat := G.2.2.2.2.1 i
def gV (G : GT) (i : Nat) : Nat := G.2.2.2.2.2 i
section US
variable {C : CT} {X : XT} {S : PS} {own : String} {cc : ByteArray} {nL d : Nat} {ret : Option FieldType} {pc : Nat} {lv : List (Nat × Value)} {rest : List Value}
theorem u_lds (hC : CK C own cc nL ret d) {i idx : Nat} (hi : i < nStr) (ho : strO i = own) (hx : strI i = idx) (hd : decode cc pc = .ok (.ldc idx, 2)) (k : UW C X S (pc + 2) lv (.ref (gK (cG C) i) :: rest)) : UW C X S pc lv rest := by
  obtain ⟨p, l, e, R, s, m, args, below, meth, c, Q, ⟨dC, dI, cy, B0, sK, sV⟩, A⟩ := C
  obtain ⟨ρ, Y, cells, slots⟩ := X
  intro H locs ls hX hP hS hl hT
  have h1 : vk_R (strO i) (strI i) (strT i) (sK i) s := hC.2.2.2.2.2.1.2.2.1 i hi
  rw [ho, hx] at h1
  exact va_ldcS hC.1 hC.2.1 hC.2.2.2.1 h1 hd (k H locs ls hX hP hS hl hT)
theorem u_sval (hC : CK C own cc nL ret d) {i idx : Nat} (hi : i < nStr) (hL : Cond.fieldLink own idx "java/lang/String" "value" "[B" ∈ Tb) (hd : decode cc pc = .ok (.getfield idx, 3)) (k : UW C X S (pc + 3) lv (.ref (gV (cG C) i) :: rest)) : UW C X S pc lv (.ref (gK (cG C) i) :: rest) := by
  obtain ⟨p, l, e, R, s, m, args, below, meth, c, Q, ⟨dC, dI, cy, B0, sK, sV⟩, A⟩ := C
  obtain ⟨ρ, Y, cells, slots⟩ := X
  intro H locs ls hX hP hS hl hT
  exact vk_getf hC.1 hC.2.1 ((hC.2.2.2.2.2.1.2.2.2.1 i hi).2.2.1.narrow hC.2.2.2.2.2.2.2.1) hS hC.2.2.2.1 (hC.2.2.2.2.1 _ hL) (fun _ h => h) hd (k H locs ls hX hP hS hl hT)
theorem u_scod (hC : CK C own cc nL ret d) {i idx : Nat} (hi : i < nStr) (hL : Cond.fieldLink own idx "java/lang/String" "coder" "B" ∈ Tb) (hd : decode cc pc = .ok (.getfield idx, 3)) (k : UW C X S (pc + 3) lv (.int 0 :: rest)) : UW C X S pc lv (.ref (gK (cG C) i) :: rest) := by
  obtain ⟨p, l, e, R, s, m, args, below, meth, c, Q, ⟨dC, dI, cy, B0, sK, sV⟩, A⟩ := C
  obtain ⟨ρ, Y, cells, slots⟩ := X
  intro H locs ls hX hP hS hl hT
  exact vk_getf hC.1 hC.2.1 ((hC.2.2.2.2.2.1.2.2.2.1 i hi).2.1.narrow hC.2.2.2.2.2.2.2.1) hS hC.2.2.2.1 (hC.2.2.2.2.1 _ hL) (fun _ h => h) hd (k H locs ls hX hP hS hl hT)
theorem u_sbl (hC : CK C own cc nL ret d) {i : Nat} (hi : i < nStr) (hd : decode cc pc = .ok (.arraylength, 1)) (k : UW C X S (pc + 1) lv (.int (Int32.ofNat (strL i)) :: rest)) : UW C X S pc lv (.ref (gV (cG C) i) :: rest) := by
  obtain ⟨p, l, e, R, s, m, args, below, meth, c, Q, ⟨dC, dI, cy, B0, sK, sV⟩, A⟩ := C
  obtain ⟨ρ, Y, cells, slots⟩ := X
  intro H locs ls hX hP hS hl hT
  exact va_tlen hC.1 hC.2.1 ((hC.2.2.2.2.2.1.2.2.2.1 i hi).2.2.2.narrow hC.2.2.2.2.2.2.2.1) hS rfl hd (k H locs ls hX hP hS hl hT)
theorem u_sba (hC : CK C own cc nL ret d) {i : Nat} (hi : i < nStr) {j : Int32} (hj : inb j (strL i) = true) (hd : decode cc pc = .ok (.baload, 1)) (k : UW C X S (pc + 1) lv (.int (strB i j.toNatClampNeg) :: rest)) : UW C X S pc lv (.int j :: .ref (gV (cG C) i) :: rest) := by
  obtain ⟨p, l, e, R, s, m, args, below, meth, c, Q, ⟨dC, dI, cy, B0, sK, sV⟩, A⟩ := C
  obtain ⟨ρ, Y, cells, slots⟩ := X
  intro H locs ls hX hP hS hl hT
  exact va_tb hC.1 hC.2.1 ((hC.2.2.2.2.2.1.2.2.2.1 i hi).2.2.2.narrow hC.2.2.2.2.2.2.2.1) hS (inb_in.mp hj) rfl hd (k H locs ls hX hP hS hl hT)
theorem u_comp (hC : CK C own cc nL ret d) {idx : Nat} (hL : Cond.fieldLink own idx "java/lang/String" "COMPACT_STRINGS" "Z" ∈ Tb) (hd : decode cc pc = .ok (.getstatic idx, 3)) (k : UW C X S (pc + 3) lv (.int 1 :: rest)) : UW C X S pc lv rest := by
  obtain ⟨p, l, e, R, s, m, args, below, meth, c, Q, ⟨dC, dI, cy, B0, sK, sV⟩, A⟩ := C
  obtain ⟨ρ, Y, cells, slots⟩ := X
  intro H locs ls hX hP hS hl hT
  exact va_gets hC.1 hC.2.1 (hC.2.2.2.2.2.1.2.2.2.2.2.1.narrow hC.2.2.2.2.2.2.2.1) hS hC.2.2.2.1 (hC.2.2.2.2.1 _ hL) (fun _ h => h) hd (k H locs ls hX hP hS hl hT)
theorem u_form (hC : CK C own cc nL ret d) {idx : Nat} (hL : Cond.fieldLink own idx "jdk/internal/util/Preconditions" "SIOOBE_FORMATTER" "Ljava/util/function/BiFunction;" ∈ Tb) (hd : decode cc pc = .ok (.getstatic idx, 3)) (k : ∀ v : Value, v.category = 1 → UW C X S (pc + 3) lv (v :: rest)) : UW C X S pc lv rest := by
  obtain ⟨p, l, e, R, s, m, args, below, meth, c, Q, ⟨dC, dI, cy, B0, sK, sV⟩, A⟩ := C
  obtain ⟨ρ, Y, cells, slots⟩ := X
  intro H locs ls hX hP hS hl hT
  have hZ : va_Zq "jdk/internal/util/Preconditions" "SIOOBE_FORMATTER" "Ljava/util/function/BiFunction;" (fun q => B0 ≤ q) s s.heap := hC.2.2.2.2.2.1.2.2.2.2.2.2.1
  rcases hZ.narrow hC.2.2.2.2.2.2.2.1 with h | ⟨t, h⟩
  · exact va_gets hC.1 hC.2.1 h hS hC.2.2.2.1 (hC.2.2.2.2.1 _ hL) (fun _ h => h) hd (k _ rfl H locs ls hX hP hS hl hT)
  · exact va_gets hC.1 hC.2.1 h hS hC.2.2.2.1 (hC.2.2.2.2.1 _ hL) (fun _ h => h) hd (k _ rfl H locs ls hX hP hS hl hT)
variable {y : MethodName} {cc' : ByteArray} {maxL' d' np idx : Nat} {ret' : Option FieldType} {As : List Value} {v : Option Value} {S' : PS}
/-- a call on a String constant -/
theorem u_callT (hC : CK C own cc nL ret d) (hM : Mt (cL C) (cG C) y cc' maxL' ret' d' X.1 X.2.1 As S v S') (hL : Lv own idx y cc' maxL' ret' np) {i : Nat} (hi : i < nStr) {Bs : List Value} (hAs : As = .ref (gK (cG C) i) :: Bs) (hcl : y.cls = "java/lang/String") (hd' : d' + 1 ≤ d) (hm : 19 + maxL' ≤ 128) (hn : Bs.length = np) {st : List Value} (hst : st = Bs.reverse ++ .ref (gK (cG C) i) :: rest) (hW : (rest.map fun v => v.category).sum ≤ 8) (hdg : decode cc pc = .ok (.invokevirtual idx, 3)) (k : UW C X S' (pc + 3) lv (v.toList ++ rest)) : UW C X S pc lv st := by
  obtain ⟨p, l, e, R, s, m, args, below, meth, c, Q, ⟨dC, dI, cy, B0, sK, sV⟩, A⟩ := C
  obtain ⟨ρ, Y, cells, slots⟩ := X
  intro H locs ls hX hP hS hl hT
  subst hAs
  obtain ⟨⟨h1, h2, h3, h4⟩, h5, h6⟩ := hL
  have hts : ∀ w ∈ Tb, w.before args s = true := hC.2.2.2.2.1
  have hR1 : d ≤ R.frames := hC.2.2.2.2.2.2.2.2.2.2.1
  have hR2 : 128 * d ≤ R.locals := hC.2.2.2.2.2.2.2.2.2.2.2.1
  have hrecv : ∃ cell : Cell, H[sK i]? = some cell ∧ cell.vm.isStatics = false ∧ s.vm.findClass y.cls = some cell.cls := by
    obtain ⟨cell, g1, g2, g3, -⟩ := ((hC.2.2.2.2.2.1.2.2.2.1 i hi).1.narrow hC.2.2.2.2.2.2.2.1).kept hS.2.1
    rw [hcl]
    exact ⟨cell, g1, g2, g3⟩
  refine u_after (X := (ρ, Y, cells, slots)) (S' := S') (v := v) (rest := rest) hC hX hS hl ?_ k
  exact va_runV (As := Bs) (rest := rest) (C := y.cls) (b := sK i) ⟨hC.1, hC.2.1, hC.2.2.1, hC.2.2.2.1, hts⟩ (hM H.size) ⟨callB_of np hts (Tb_goodC h3) rfl rfl rfl (hts _ h2) (hts _ h1) h4 ⟨by show d' + 1 ≤ R.frames; omega, by show 8 + (maxL' + 11) + 128 * d' ≤ R.locals; omega⟩, hts _ h5, hts _ h6⟩ ⟨fb_Wd, hrecv, fun U hU hW' => ⟨rfl, by rw [hU], Wd_at (X := (ρ, Y, cells, slots)) hC hX hP hS hT U hU hW'⟩⟩ rfl hn (hl.1.trans hC.2.2.1) hst (lv_room hW) hdg ⟨hX.2.2.2.1, hX.2.2.2.2⟩
end US
theorem dJ0_coder_7d493_0 : decode cJ0_coder_7d493 0 = .ok (.getstatic 38, 3) := by decide +kernel
theorem dJ0_coder_7d493_3 : decode cJ0_coder_7d493 3 = .ok (.ifCond .eq 10, 3) := by decide +kernel
theorem dJ0_coder_7d493_6 : decode cJ0_coder_7d493 6 = .ok (.aload_n 0, 1) := by decide +kernel
theorem dJ0_coder_7d493_7 : decode cJ0_coder_7d493 7 = .ok (.getfield 15, 3) := by decide +kernel
theorem dJ0_coder_7d493_10 : decode cJ0_coder_7d493 10 = .ok (.goto 4, 3) := by decide +kernel
theorem dJ0_coder_7d493_13 : decode cJ0_coder_7d493 13 = .ok (.iconst 1, 1) := by decide +kernel
theorem dJ0_coder_7d493_14 : decode cJ0_coder_7d493 14 = .ok (.ireturn, 1) := by decide +kernel
theorem dJ0_isLatin1_aae02_0 : decode cJ0_isLatin1_aae02 0 = .ok (.getstatic 38, 3) := by decide +kernel
theorem dJ0_isLatin1_aae02_3 : decode cJ0_isLatin1_aae02 3 = .ok (.ifCond .eq 14, 3) := by decide +kernel
theorem dJ0_isLatin1_aae02_6 : decode cJ0_isLatin1_aae02 6 = .ok (.aload_n 0, 1) := by decide +kernel
theorem dJ0_isLatin1_aae02_7 : decode cJ0_isLatin1_aae02 7 = .ok (.getfield 15, 3) := by decide +kernel
theorem dJ0_isLatin1_aae02_10 : decode cJ0_isLatin1_aae02 10 = .ok (.ifCond .ne 7, 3) := by decide +kernel
theorem dJ0_isLatin1_aae02_13 : decode cJ0_isLatin1_aae02 13 = .ok (.iconst 1, 1) := by decide +kernel
theorem dJ0_isLatin1_aae02_14 : decode cJ0_isLatin1_aae02 14 = .ok (.goto 4, 3) := by decide +kernel
theorem dJ0_isLatin1_aae02_17 : decode cJ0_isLatin1_aae02 17 = .ok (.iconst 0, 1) := by decide +kernel
theorem dJ0_isLatin1_aae02_18 : decode cJ0_isLatin1_aae02 18 = .ok (.ireturn, 1) := by decide +kernel
theorem dJ0_length_8abf5_0 : decode cJ0_length_8abf5 0 = .ok (.aload_n 0, 1) := by decide +kernel
theorem dJ0_length_8abf5_1 : decode cJ0_length_8abf5 1 = .ok (.getfield 9, 3) := by decide +kernel
theorem dJ0_length_8abf5_4 : decode cJ0_length_8abf5 4 = .ok (.arraylength, 1) := by decide +kernel
theorem dJ0_length_8abf5_5 : decode cJ0_length_8abf5 5 = .ok (.aload_n 0, 1) := by decide +kernel
theorem dJ0_length_8abf5_6 : decode cJ0_length_8abf5 6 = .ok (.invokevirtual 335, 3) := by decide +kernel
theorem dJ0_length_8abf5_9 : decode cJ0_length_8abf5 9 = .ok (.ishr, 1) := by decide +kernel
theorem dJ0_length_8abf5_10 : decode cJ0_length_8abf5 10 = .ok (.ireturn, 1) := by decide +kernel
theorem dJ3_checkIndex_8e157_0 : decode cJ3_checkIndex_8e157 0 = .ok (.iload_n 0, 1) := by decide +kernel
theorem dJ3_checkIndex_8e157_1 : decode cJ3_checkIndex_8e157 1 = .ok (.ifCond .lt 8, 3) := by decide +kernel
theorem dJ3_checkIndex_8e157_4 : decode cJ3_checkIndex_8e157 4 = .ok (.iload_n 0, 1) := by decide +kernel
theorem dJ3_checkIndex_8e157_5 : decode cJ3_checkIndex_8e157 5 = .ok (.iload_n 1, 1) := by decide +kernel
theorem dJ3_checkIndex_8e157_6 : decode cJ3_checkIndex_8e157 6 = .ok (.if_icmp .lt 10, 3) := by decide +kernel
theorem dJ3_checkIndex_8e157_9 : decode cJ3_checkIndex_8e157 9 = .ok (.aload_n 2, 1) := by decide +kernel
theorem dJ3_checkIndex_8e157_10 : decode cJ3_checkIndex_8e157 10 = .ok (.iload_n 0, 1) := by decide +kernel
theorem dJ3_checkIndex_8e157_11 : decode cJ3_checkIndex_8e157 11 = .ok (.iload_n 1, 1) := by decide +kernel
theorem dJ3_checkIndex_8e157_12 : decode cJ3_checkIndex_8e157 12 = .ok (.invokestatic 95, 3) := by decide +kernel
theorem dJ3_checkIndex_8e157_15 : decode cJ3_checkIndex_8e157 15 = .ok (.athrow, 1) := by decide +kernel
theorem dJ3_checkIndex_8e157_16 : decode cJ3_checkIndex_8e157 16 = .ok (.iload_n 0, 1) := by decide +kernel
theorem dJ3_checkIndex_8e157_17 : decode cJ3_checkIndex_8e157 17 = .ok (.ireturn, 1) := by decide +kernel
theorem dJ0_checkIndex_df160_0 : decode cJ0_checkIndex_df160 0 = .ok (.iload_n 0, 1) := by decide +kernel
theorem dJ0_checkIndex_df160_1 : decode cJ0_checkIndex_df160 1 = .ok (.iload_n 1, 1) := by decide +kernel
theorem dJ0_checkIndex_df160_2 : decode cJ0_checkIndex_df160 2 = .ok (.getstatic 1053, 3) := by decide +kernel
theorem dJ0_checkIndex_df160_5 : decode cJ0_checkIndex_df160 5 = .ok (.invokestatic 1059, 3) := by decide +kernel
theorem dJ0_checkIndex_df160_8 : decode cJ0_checkIndex_df160 8 = .ok (.pop, 1) := by decide +kernel
theorem dJ0_checkIndex_df160_9 : decode cJ0_checkIndex_df160 9 = .ok (.return_, 1) := by decide +kernel
theorem dJ1_charAt_3b067_0 : decode cJ1_charAt_3b067 0 = .ok (.iload_n 1, 1) := by decide +kernel
theorem dJ1_charAt_3b067_1 : decode cJ1_charAt_3b067 1 = .ok (.aload_n 0, 1) := by decide +kernel
theorem dJ1_charAt_3b067_2 : decode cJ1_charAt_3b067 2 = .ok (.arraylength, 1) := by decide +kernel
theorem dJ1_charAt_3b067_3 : decode cJ1_charAt_3b067 3 = .ok (.invokestatic 9, 3) := by decide +kernel
theorem dJ1_charAt_3b067_6 : decode cJ1_charAt_3b067 6 = .ok (.aload_n 0, 1) := by decide +kernel
theorem dJ1_charAt_3b067_7 : decode cJ1_charAt_3b067 7 = .ok (.iload_n 1, 1) := by decide +kernel
theorem dJ1_charAt_3b067_8 : decode cJ1_charAt_3b067 8 = .ok (.baload, 1) := by decide +kernel
theorem dJ1_charAt_3b067_9 : decode cJ1_charAt_3b067 9 = .ok (.sipush 255, 3) := by decide +kernel
theorem dJ1_charAt_3b067_12 : decode cJ1_charAt_3b067 12 = .ok (.iand, 1) := by decide +kernel
theorem dJ1_charAt_3b067_13 : decode cJ1_charAt_3b067 13 = .ok (.i2c, 1) := by decide +kernel
theorem dJ1_charAt_3b067_14 : decode cJ1_charAt_3b067 14 = .ok (.ireturn, 1) := by decide +kernel
theorem dJ0_charAt_5068e_0 : decode cJ0_charAt_5068e 0 = .ok (.aload_n 0, 1) := by decide +kernel
theorem dJ0_charAt_5068e_1 : decode cJ0_charAt_5068e 1 = .ok (.invokevirtual 492, 3) := by decide +kernel
theorem dJ0_charAt_5068e_4 : decode cJ0_charAt_5068e 4 = .ok (.ifCond .eq 12, 3) := by decide +kernel
theorem dJ0_charAt_5068e_7 : decode cJ0_charAt_5068e 7 = .ok (.aload_n 0, 1) := by decide +kernel
theorem dJ0_charAt_5068e_8 : decode cJ0_charAt_5068e 8 = .ok (.getfield 9, 3) := by decide +kernel
theorem dJ0_charAt_5068e_11 : decode cJ0_charAt_5068e 11 = .ok (.iload_n 1, 1) := by decide +kernel
theorem dJ0_charAt_5068e_12 : decode cJ0_charAt_5068e 12 = .ok (.invokestatic 495, 3) := by decide +kernel
theorem dJ0_charAt_5068e_15 : decode cJ0_charAt_5068e 15 = .ok (.ireturn, 1) := by decide +kernel
theorem dJ0_charAt_5068e_16 : decode cJ0_charAt_5068e 16 = .ok (.aload_n 0, 1) := by decide +kernel
theorem dJ0_charAt_5068e_17 : decode cJ0_charAt_5068e 17 = .ok (.getfield 9, 3) := by decide +kernel
theorem dJ0_charAt_5068e_20 : decode cJ0_charAt_5068e 20 = .ok (.iload_n 1, 1) := by decide +kernel
theorem dJ0_charAt_5068e_21 : decode cJ0_charAt_5068e 21 = .ok (.invokestatic 498, 3) := by decide +kernel
theorem dJ0_charAt_5068e_24 : decode cJ0_charAt_5068e 24 = .ok (.ireturn, 1) := by decide +kernel
theorem ct_coder (l : Launch) (hl : l.stackTraces = false) (G : GT) (ρ : Nat → Nat) (Y : XS) (S : PS) (i : Nat) (hi : i < nStr) : Mt l G yJ0_coder_7d493 cJ0_coder_7d493 1 (some .byte) 1 ρ Y [.ref (gK G i)] S (some (.int 0)) S := by
  refine Mt_of hl (by decide) (Nat.le_of_ble_eq_true rfl) ?_
  intro C _ hG hC hR
  subst hG
  refine u_comp hC (tb_3 137 rfl rfl) dJ0_coder_7d493_0 ?_
  refine u_if_eq (α := Unit) (a := none) (b := some ()) (o := ()) (tgt := 13) hC dJ0_coder_7d493_3 (by decide) (by decide) (fun h _ => absurd h (by decide)) (fun _ _ => ?_)
  refine u_aload_n hC dJ0_coder_7d493_6 0 rfl rfl ?_
  refine u_scod hC hi (tb_8 143 rfl rfl) dJ0_coder_7d493_7 ?_
  refine u_goto (tgt := 14) hC dJ0_coder_7d493_10 (by decide) ?_
  exact hR _ _ dJ0_coder_7d493_14 rfl
theorem ct_isLatin1 (l : Launch) (hl : l.stackTraces = false) (G : GT) (ρ : Nat → Nat) (Y : XS) (S : PS) (i : Nat) (hi : i < nStr) : Mt l G yJ0_isLatin1_aae02 cJ0_isLatin1_aae02 1 (some .boolean) 1 ρ Y [.ref (gK G i)] S (some (.int 1)) S := by
  refine Mt_of hl (by decide) (Nat.le_of_ble_eq_true rfl) ?_
  intro C _ hG hC hR
  subst hG
  refine u_comp hC (tb_3 137 rfl rfl) dJ0_isLatin1_aae02_0 ?_
  refine u_if_eq (α := Unit) (a := none) (b := some ()) (o := ()) (tgt := 17) hC dJ0_isLatin1_aae02_3 (by decide) (by decide) (fun h _ => absurd h (by decide)) (fun _ _ => ?_)
  refine u_aload_n hC dJ0_isLatin1_aae02_6 0 rfl rfl ?_
  refine u_scod hC hi (tb_8 143 rfl rfl) dJ0_isLatin1_aae02_7 ?_
  refine u_if_ne (α := Unit) (a := none) (b := some ()) (o := ()) (tgt := 17) hC dJ0_isLatin1_aae02_10 (by decide) (by decide) (fun h _ => absurd rfl h) (fun _ _ => ?_)
  refine u_iconst (v := 1) hC dJ0_isLatin1_aae02_13 (by decide) ?_
  refine u_goto (tgt := 18) hC dJ0_isLatin1_aae02_14 (by decide) ?_
  exact hR _ _ dJ0_isLatin1_aae02_18 (Or.inr rfl)
theorem ct_length (l : Launch) (hl : l.stackTraces = false) (G : GT) (ρ : Nat → Nat) (Y : XS) (S : PS) (i : Nat) (hi : i < nStr) : Mt l G yJ0_length_8abf5 cJ0_length_8abf5 1 (some .int) 2 ρ Y [.ref (gK G i)] S (some (.int (Int32.ofNat (strL i)))) S := by
  refine Mt_of hl (by decide) (Nat.le_of_ble_eq_true rfl) ?_
  intro C _ hG hC hR
  subst hG
  refine u_aload_n hC dJ0_length_8abf5_0 0 rfl rfl ?_
  refine u_sval hC hi (tb_8 142 rfl rfl) dJ0_length_8abf5_1 ?_
  refine u_sbl hC hi dJ0_length_8abf5_4 ?_
  refine u_aload_n hC dJ0_length_8abf5_5 0 rfl rfl ?_
  refine u_callT hC (ct_coder (cL C) hC.tr (cG C) ρ Y S i hi) lk_J0_335 hi rfl rfl (by decide) (by decide) rfl rfl (Nat.le_of_ble_eq_true rfl) dJ0_length_8abf5_6 ?_
  refine u_ishr hC dJ0_length_8abf5_9 ?_
  rw [sb_shr0]
  exact hR _ _ dJ0_length_8abf5_10 trivial
theorem ct_checkIndex3 (l : Launch) (hl : l.stackTraces = false) (G : GT) (ρ : Nat → Nat) (Y : XS) (S : PS) (x0 x1 : Int32) (v : Value) (hv : v.category = 1) (h0 : ¬ x0 < 0) (h1 : x0 < x1) : Mt l G yJ3_checkIndex_8e157 cJ3_checkIndex_8e157 3 (some .int) 1 ρ Y [.int x0, .int x1, v] S (some (.int x0)) S := by
  refine Mt_of hl (by decide) (by simp [lg_sl, hv, show (Value.int x0).category = 1 from rfl, show (Value.int x1).category = 1 from rfl]) ?_
  intro C _ hG hC hR
  refine u_iload_n hC dJ3_checkIndex_8e157_0 0 rfl rfl ?_
  refine u_if_lt (α := Unit) (a := none) (b := some ()) (o := ()) (tgt := 9) hC dJ3_checkIndex_8e157_1 (by decide) (by rw [if_neg h0]) (fun h _ => absurd h h0) (fun _ _ => ?_)
  refine u_iload_n hC dJ3_checkIndex_8e157_4 0 rfl rfl ?_
  refine u_iload_n hC dJ3_checkIndex_8e157_5 1 rfl rfl ?_
  refine u_icmp_lt (α := Unit) (a := some ()) (b := none) (o := ()) (tgt := 16) hC dJ3_checkIndex_8e157_6 (by decide) (by rw [if_pos h1]) (fun _ _ => ?_) (fun h _ => absurd h1 h)
  refine u_iload_n hC dJ3_checkIndex_8e157_16 0 rfl rfl ?_
  exact hR _ _ dJ3_checkIndex_8e157_17 trivial
theorem ct_checkIndex2 (l : Launch) (hl : l.stackTraces = false) (G : GT) (ρ : Nat → Nat) (Y : XS) (S : PS) (x0 x1 : Int32) (h0 : ¬ x0 < 0) (h1 : x0 < x1) : Mt l G yJ0_checkIndex_df160 cJ0_checkIndex_df160 2 none 2 ρ Y [.int x0, .int x1] S none S := by
  refine Mt_of hl (by decide) (Nat.le_of_ble_eq_true rfl) ?_
  intro C _ hG hC hR
  refine u_iload_n hC dJ0_checkIndex_df160_0 0 rfl rfl ?_
  refine u_iload_n hC dJ0_checkIndex_df160_1 1 rfl rfl ?_
  refine u_form hC (tb_3 153 rfl rfl) dJ0_checkIndex_df160_2 (fun v hv => ?_)
  refine u_callS hC (ct_checkIndex3 (cL C) hC.tr (cG C) ρ Y S x0 x1 v hv h0 h1) lk_J0_1059 (by decide) (by decide) rfl rfl (Nat.le_of_ble_eq_true rfl) dJ0_checkIndex_df160_5 ?_
  refine u_pop hC dJ0_checkIndex_df160_8 rfl ?_
  exact hR _ _ dJ0_checkIndex_df160_9 trivial
def sch (i : Nat) (j : Int32) : Int32 := strB i j.toNatClampNeg &&& 255
theorem ct_charAtB (l : Launch) (hl : l.stackTraces = false) (G : GT) (ρ : Nat → Nat) (Y : XS) (S : PS) (i : Nat) (hi : i < nStr) (j : Int32) (hj : inb j (strL i) = true) (hL : strL i < 2 ^ 31) : Mt l G yJ1_charAt_3b067 cJ1_charAt_3b067 2 (some .char) 3 ρ Y [.ref (gV G i), .int j] S (some (.int (sch i j))) S := by
  refine Mt_of hl (by decide) (Nat.le_of_ble_eq_true rfl) ?_
  intro C _ hG hC hR
  subst hG
  have hin := inb_in.mp hj
  have h0 : ¬ j < 0 := fun h => hin (Or.inl h)
  have h1 : j < Int32.ofNat (strL i) := by
    obtain ⟨n, hn, rfl⟩ := vp_in_of hin hL
    exact nI_lt hn hL
  refine u_iload_n hC dJ1_charAt_3b067_0 1 rfl rfl ?_
  refine u_aload_n hC dJ1_charAt_3b067_1 0 rfl rfl ?_
  refine u_sbl hC hi dJ1_charAt_3b067_2 ?_
  refine u_callS hC (ct_checkIndex2 (cL C) hC.tr (cG C) ρ Y S j _ h0 h1) lk_J1_9 (by decide) (by decide) rfl rfl (Nat.le_of_ble_eq_true rfl) dJ1_charAt_3b067_3 ?_
  refine u_aload_n hC dJ1_charAt_3b067_6 0 rfl rfl ?_
  refine u_iload_n hC dJ1_charAt_3b067_7 1 rfl rfl ?_
  refine u_sba hC hi hj dJ1_charAt_3b067_8 ?_
  refine u_sipush (v := 255) hC dJ1_charAt_3b067_9 (by decide) ?_
  refine u_iand hC dJ1_charAt_3b067_12 ?_
  refine u_i2c hC dJ1_charAt_3b067_13 ?_
  rw [sc_c2]
  exact hR _ _ dJ1_charAt_3b067_14 (sc_nar _)
theorem ct_charAt (l : Launch) (hl : l.stackTraces = false) (G : GT) (ρ : Nat → Nat) (Y : XS) (S : PS) (i : Nat) (hi : i < nStr) (j : Int32) (hj : inb j (strL i) = true) (hL : strL i < 2 ^ 31) : Mt l G yJ0_charAt_5068e cJ0_charAt_5068e 2 (some .char) 4 ρ Y [.ref (gK G i), .int j] S (some (.int (sch i j))) S := by
  refine Mt_of hl (by decide) (Nat.le_of_ble_eq_true rfl) ?_
  intro C _ hG hC hR
  subst hG
  refine u_aload_n hC dJ0_charAt_5068e_0 0 rfl rfl ?_
  refine u_callT hC (ct_isLatin1 (cL C) hC.tr (cG C) ρ Y S i hi) lk_J0_492 hi rfl rfl (by decide) (by decide) rfl rfl (Nat.le_of_ble_eq_true rfl) dJ0_charAt_5068e_1 ?_
  refine u_if_eq (α := Unit) (a := none) (b := some ()) (o := ()) (tgt := 16) hC dJ0_charAt_5068e_4 (by decide) (by decide) (fun h _ => absurd h (by decide)) (fun _ _ => ?_)
  refine u_aload_n hC dJ0_charAt_5068e_7 0 rfl rfl ?_
  refine u_sval hC hi (tb_8 142 rfl rfl) dJ0_charAt_5068e_8 ?_
  refine u_iload_n hC dJ0_charAt_5068e_11 1 rfl rfl ?_
  refine u_callS hC (ct_charAtB (cL C) hC.tr (cG C) ρ Y S i hi j hj hL) lk_J0_495 (by decide) (by decide) rfl rfl (Nat.le_of_ble_eq_true rfl) dJ0_charAt_5068e_12 ?_
  exact hR _ _ dJ0_charAt_5068e_15 (sc_nar _)
/-- the rows that a walk uses -/
theorem strL_lt : ∀ i, i < nStr → strL i < 2 ^ 31 := by decide
def kch {α : Type} (i : Nat) (j : Int32) (K : Int32 → Option α) : Option α := if inb j (strL i) = true then K (sch i j) else none
theorem u_slen {C : CT} {X : XT} {S : PS} {own : String} {cc : ByteArray} {nL d : Nat} {ret : Option FieldType} {pc : Nat} {lv : List (Nat × Value)} {rest : List Value} (hC : CK C own cc nL ret d) {idx : Nat} (hL : Lv own idx yJ0_length_8abf5 cJ0_length_8abf5 1 (some .int) 0) {i : Nat} (hi : i < nStr) (h1d : 3 ≤ d) (hW : (rest.map fun v => v.category).sum ≤ 8) (hd : decode cc pc = .ok (.invokevirtual idx, 3)) (k : UW C X S (pc + 3) lv (.int (Int32.ofNat (strL i)) :: rest)) : UW C X S pc lv (.ref (gK (cG C) i) :: rest) :=
  u_callT hC (ct_length (cL C) hC.tr (cG C) X.1 X.2.1 S i hi) hL hi rfl rfl (by omega) (by decide) rfl rfl hW hd k
theorem u_sch {C : CT} {X : XT} {S : PS} {own : String} {cc : ByteArray} {nL d : Nat} {ret : Option FieldType} {pc : Nat} {lv : List (Nat × Value)} {rest : List Value} (hC : CK C own cc nL ret d) {idx : Nat} (hL : Lv own idx yJ0_charAt_5068e cJ0_charAt_5068e 2 (some .char) 1) {i : Nat} (hi : i < nStr) (h1d : 5 ≤ d) (hW : (rest.map fun v => v.category).sum ≤ 8) {j : Int32} (hd : decode cc pc = .ok (.invokevirtual idx, 3)) {α : Type} {o : α} {K : Int32 → Option α} (hf : kch i j K = some o) (k : ∀ x, K x = some o → UW C X S (pc + 3) lv (.int x :: rest)) : UW C X S pc lv (.int j :: .ref (gK (cG C) i) :: rest) := by
  unfold kch at hf
  by_cases hj : inb j (strL i) = true
  · rw [if_pos hj] at hf
    exact u_callT hC (ct_charAt (cL C) hC.tr (cG C) X.1 X.2.1 S i hi j hj (strL_lt i hi)) hL hi (Bs := [.int j]) rfl rfl (by omega) (by decide) rfl rfl hW hd (k _ hf)
  · rw [if_neg hj] at hf; cases hf
