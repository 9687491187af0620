/-! rows: one for each instruction, over UW -/
section UR
variable {C : CT} {X : XT} {S : PS} {own : String} {cc : ByteArray} {nL d : Nat} {ret : Option FieldType} {pc : Nat} {lv : List (Nat × Value)} {rest : List Value}
theorem u_iconst (hC : CK C own cc nL ret d) {n : Int} {v : Int32} (hd : decode cc pc = .ok (.iconst n, 1)) (hv : Int32.ofInt n = v) (k : UW C X S (pc + 1) lv (.int v :: rest)) : UW C X S pc lv (rest) := by
  obtain ⟨p, l, e, R, s, m, args, below, meth, c, Q, G, A⟩ := C
  obtain ⟨ρ, Y, cells, slots⟩ := X
  intro H locs ls hX hP hS hl hT
  exact lv_iconst hC.1 hC.2.1 hd hv (k H locs ls hX hP hS hl hT)
theorem u_bipush (hC : CK C own cc nL ret d) {n : Int} {v : Int32} (hd : decode cc pc = .ok (.bipush n, 2)) (hv : (Int8.ofInt n).toInt32 = v) (k : UW C X S (pc + 2) lv (.int v :: rest)) : UW C X S pc lv (rest) := by
  obtain ⟨p, l, e, R, s, m, args, below, meth, c, Q, G, A⟩ := C
  obtain ⟨ρ, Y, cells, slots⟩ := X
  intro H locs ls hX hP hS hl hT
  exact lv_bipush hC.1 hC.2.1 hd hv (k H locs ls hX hP hS hl hT)
theorem u_sipush (hC : CK C own cc nL ret d) {n : Int} {v : Int32} (hd : decode cc pc = .ok (.sipush n, 3)) (hv : (Int16.ofInt n).toInt32 = v) (k : UW C X S (pc + 3) lv (.int v :: rest)) : UW C X S pc lv (rest) := by
  obtain ⟨p, l, e, R, s, m, args, below, meth, c, Q, G, A⟩ := C
  obtain ⟨ρ, Y, cells, slots⟩ := X
  intro H locs ls hX hP hS hl hT
  exact lv_sipush hC.1 hC.2.1 hd hv (k H locs ls hX hP hS hl hT)
theorem u_lconst (hC : CK C own cc nL ret d) {n : Fin 2} {v : Int64} (hd : decode cc pc = .ok (.lconst n, 1)) (hv : Int64.ofNat (n : Nat) = v) (k : UW C X S (pc + 1) lv (.long v :: rest)) : UW C X S pc lv (rest) := by
  obtain ⟨p, l, e, R, s, m, args, below, meth, c, Q, G, A⟩ := C
  obtain ⟨ρ, Y, cells, slots⟩ := X
  intro H locs ls hX hP hS hl hT
  exact lv_lconst hC.1 hC.2.1 hd hv (k H locs ls hX hP hS hl hT)
theorem u_null (hC : CK C own cc nL ret d)  (hd : decode cc pc = .ok (.aconst_null, 1))  (k : UW C X S (pc + 1) lv (.null :: rest)) : UW C X S pc lv (rest) := by
  obtain ⟨p, l, e, R, s, m, args, below, meth, c, Q, G, A⟩ := C
  obtain ⟨ρ, Y, cells, slots⟩ := X
  intro H locs ls hX hP hS hl hT
  exact lv_null hC.1 hC.2.1 hd (k H locs ls hX hP hS hl hT)
theorem u_ldc (hC : CK C own cc nL ret d) {idx : Nat} {v : Int32} (hd : decode cc pc = .ok (.ldc idx, 2)) (hw : Cond.constant own idx v ∈ Tb) (k : UW C X S (pc + 2) lv (.int v :: rest)) : UW C X S pc lv (rest) := by
  obtain ⟨p, l, e, R, s, m, args, below, meth, c, Q, G, A⟩ := C
  obtain ⟨ρ, Y, cells, slots⟩ := X
  intro H locs ls hX hP hS hl hT
  exact lv_ldc hC.1 hC.2.1 hC.2.2.2.1 (hC.2.2.2.2.1 _ hw) hd (k H locs ls hX hP hS hl hT)
theorem u_ldcw (hC : CK C own cc nL ret d) {idx : Nat} {v : Int32} (hd : decode cc pc = .ok (.ldc_w idx, 3)) (hw : Cond.constant own idx v ∈ Tb) (k : UW C X S (pc + 3) lv (.int v :: rest)) : UW C X S pc lv (rest) := by
  obtain ⟨p, l, e, R, s, m, args, below, meth, c, Q, G, A⟩ := C
  obtain ⟨ρ, Y, cells, slots⟩ := X
  intro H locs ls hX hP hS hl hT
  exact lv_ldcw hC.1 hC.2.1 hC.2.2.2.1 (hC.2.2.2.2.1 _ hw) hd (k H locs ls hX hP hS hl hT)
theorem u_ldc2 (hC : CK C own cc nL ret d) {idx : Nat} {v : Int64} (hd : decode cc pc = .ok (.ldc2_w idx, 3)) (hw : Cond.constantLong own idx v ∈ Tb) (k : UW C X S (pc + 3) lv (.long v :: rest)) : UW C X S pc lv (rest) := by
  obtain ⟨p, l, e, R, s, m, args, below, meth, c, Q, G, A⟩ := C
  obtain ⟨ρ, Y, cells, slots⟩ := X
  intro H locs ls hX hP hS hl hT
  exact lv_ldc2 hC.1 hC.2.1 hC.2.2.2.1 (hC.2.2.2.2.1 _ hw) hd (k H locs ls hX hP hS hl hT)
theorem u_iload_n (hC : CK C own cc nL ret d) {k : Fin 4} {x : Int32} (hd : decode cc pc = .ok (.iload_n k, 1)) (j : Nat) {i : Nat} (hi : (k : Nat) = i) (hj : lv[j]? = some (i, .int x)) (k : UW C X S (pc + 1) lv (.int x :: rest)) : UW C X S pc lv rest := by
  obtain ⟨p, l, e, R, s, m, args, below, meth, c, Q, G, A⟩ := C
  obtain ⟨ρ, Y, cells, slots⟩ := X
  intro H locs ls hX hP hS hl hT
  exact lv_iload_n hC.1 hC.2.1 hd hi (lv_at hl j hj) (k H locs ls hX hP hS hl hT)
theorem u_iload (hC : CK C own cc nL ret d) {i : Nat} {x : Int32} (hd : decode cc pc = .ok (.iload i, 2)) (j : Nat) (hj : lv[j]? = some (i, .int x)) (k : UW C X S (pc + 2) lv (.int x :: rest)) : UW C X S pc lv rest := by
  obtain ⟨p, l, e, R, s, m, args, below, meth, c, Q, G, A⟩ := C
  obtain ⟨ρ, Y, cells, slots⟩ := X
  intro H locs ls hX hP hS hl hT
  exact lv_iload hC.1 hC.2.1 hd (lv_at hl j hj) (k H locs ls hX hP hS hl hT)
theorem u_istore_n (hC : CK C own cc nL ret d) {k : Fin 4} {x : Int32} (hd : decode cc pc = .ok (.istore_n k, 1)) {i : Nat} (hi : (k : Nat) = i) (hn : i < nL) {lv' : List (Nat × Value)} (hl' : (i, Value.int x) :: lv.filter (fun q => !(q.1 == i) && !(q.1 + 1 == i && q.2.category == 2)) = lv') (k : UW C X S (pc + 1) lv' rest) : UW C X S pc lv (.int x :: rest) := by
  obtain ⟨p, l, e, R, s, m, args, below, meth, c, Q, G, A⟩ := C
  obtain ⟨ρ, Y, cells, slots⟩ := X
  intro H locs ls hX hP hS hl hT
  exact lv_istore_n hC.1 hC.2.1 hd hi hl (by rw [hC.2.2.1]; exact hn) hl' (fun ls' h' => k H locs ls' hX hP hS h' hT)
theorem u_istore (hC : CK C own cc nL ret d) {i : Nat} {x : Int32} (hd : decode cc pc = .ok (.istore i, 2)) (hn : i < nL) {lv' : List (Nat × Value)} (hl' : (i, Value.int x) :: lv.filter (fun q => !(q.1 == i) && !(q.1 + 1 == i && q.2.category == 2)) = lv') (k : UW C X S (pc + 2) lv' rest) : UW C X S pc lv (.int x :: rest) := by
  obtain ⟨p, l, e, R, s, m, args, below, meth, c, Q, G, A⟩ := C
  obtain ⟨ρ, Y, cells, slots⟩ := X
  intro H locs ls hX hP hS hl hT
  exact lv_istore hC.1 hC.2.1 hd hl (by rw [hC.2.2.1]; exact hn) hl' (fun ls' h' => k H locs ls' hX hP hS h' hT)
theorem u_lload_n (hC : CK C own cc nL ret d) {k : Fin 4} {x : Int64} (hd : decode cc pc = .ok (.lload_n k, 1)) (j : Nat) {i : Nat} (hi : (k : Nat) = i) (hj : lv[j]? = some (i, .long x)) (k : UW C X S (pc + 1) lv (.long x :: rest)) : UW C X S pc lv rest := by
  obtain ⟨p, l, e, R, s, m, args, below, meth, c, Q, G, A⟩ := C
  obtain ⟨ρ, Y, cells, slots⟩ := X
  intro H locs ls hX hP hS hl hT
  exact lv_lload_n hC.1 hC.2.1 hd hi (lv_at hl j hj) (k H locs ls hX hP hS hl hT)
theorem u_lload (hC : CK C own cc nL ret d) {i : Nat} {x : Int64} (hd : decode cc pc = .ok (.lload i, 2)) (j : Nat) (hj : lv[j]? = some (i, .long x)) (k : UW C X S (pc + 2) lv (.long x :: rest)) : UW C X S pc lv rest := by
  obtain ⟨p, l, e, R, s, m, args, below, meth, c, Q, G, A⟩ := C
  obtain ⟨ρ, Y, cells, slots⟩ := X
  intro H locs ls hX hP hS hl hT
  exact lv_lload hC.1 hC.2.1 hd (lv_at hl j hj) (k H locs ls hX hP hS hl hT)
theorem u_aload_n (hC : CK C own cc nL ret d) {k : Fin 4} {x : Nat} (hd : decode cc pc = .ok (.aload_n k, 1)) (j : Nat) {i : Nat} (hi : (k : Nat) = i) (hj : lv[j]? = some (i, .ref x)) (k : UW C X S (pc + 1) lv (.ref x :: rest)) : UW C X S pc lv rest := by
  obtain ⟨p, l, e, R, s, m, args, below, meth, c, Q, G, A⟩ := C
  obtain ⟨ρ, Y, cells, slots⟩ := X
  intro H locs ls hX hP hS hl hT
  exact lv_aload_n hC.1 hC.2.1 hd hi (lv_at hl j hj) (k H locs ls hX hP hS hl hT)
theorem u_aload (hC : CK C own cc nL ret d) {i : Nat} {x : Nat} (hd : decode cc pc = .ok (.aload i, 2)) (j : Nat) (hj : lv[j]? = some (i, .ref x)) (k : UW C X S (pc + 2) lv (.ref x :: rest)) : UW C X S pc lv rest := by
  obtain ⟨p, l, e, R, s, m, args, below, meth, c, Q, G, A⟩ := C
  obtain ⟨ρ, Y, cells, slots⟩ := X
  intro H locs ls hX hP hS hl hT
  exact lv_aload hC.1 hC.2.1 hd (lv_at hl j hj) (k H locs ls hX hP hS hl hT)
theorem u_astore_n (hC : CK C own cc nL ret d) {k : Fin 4} {x : Nat} (hd : decode cc pc = .ok (.astore_n k, 1)) {i : Nat} (hi : (k : Nat) = i) (hn : i < nL) {lv' : List (Nat × Value)} (hl' : (i, Value.ref x) :: lv.filter (fun q => !(q.1 == i) && !(q.1 + 1 == i && q.2.category == 2)) = lv') (k : UW C X S (pc + 1) lv' rest) : UW C X S pc lv (.ref x :: rest) := by
  obtain ⟨p, l, e, R, s, m, args, below, meth, c, Q, G, A⟩ := C
  obtain ⟨ρ, Y, cells, slots⟩ := X
  intro H locs ls hX hP hS hl hT
  exact lv_astore_n hC.1 hC.2.1 hd hi hl (by rw [hC.2.2.1]; exact hn) hl' (fun ls' h' => k H locs ls' hX hP hS h' hT)
theorem u_astore (hC : CK C own cc nL ret d) {i : Nat} {x : Nat} (hd : decode cc pc = .ok (.astore i, 2)) (hn : i < nL) {lv' : List (Nat × Value)} (hl' : (i, Value.ref x) :: lv.filter (fun q => !(q.1 == i) && !(q.1 + 1 == i && q.2.category == 2)) = lv') (k : UW C X S (pc + 2) lv' rest) : UW C X S pc lv (.ref x :: rest) := by
  obtain ⟨p, l, e, R, s, m, args, below, meth, c, Q, G, A⟩ := C
  obtain ⟨ρ, Y, cells, slots⟩ := X
  intro H locs ls hX hP hS hl hT
  exact lv_astore hC.1 hC.2.1 hd hl (by rw [hC.2.2.1]; exact hn) hl' (fun ls' h' => k H locs ls' hX hP hS h' hT)
theorem u_iadd (hC : CK C own cc nL ret d) {x y : Int32} (hd : decode cc pc = .ok (.iadd, 1))  (k : UW C X S (pc + 1) lv (.int (x + y) :: rest)) : UW C X S pc lv (.int y :: .int x :: rest) := by
  obtain ⟨p, l, e, R, s, m, args, below, meth, c, Q, G, A⟩ := C
  obtain ⟨ρ, Y, cells, slots⟩ := X
  intro H locs ls hX hP hS hl hT
  exact lv_iadd hC.1 hC.2.1 hd (k H locs ls hX hP hS hl hT)
theorem u_isub (hC : CK C own cc nL ret d) {x y : Int32} (hd : decode cc pc = .ok (.isub, 1))  (k : UW C X S (pc + 1) lv (.int (x - y) :: rest)) : UW C X S pc lv (.int y :: .int x :: rest) := by
  obtain ⟨p, l, e, R, s, m, args, below, meth, c, Q, G, A⟩ := C
  obtain ⟨ρ, Y, cells, slots⟩ := X
  intro H locs ls hX hP hS hl hT
  exact lv_isub hC.1 hC.2.1 hd (k H locs ls hX hP hS hl hT)
theorem u_imul (hC : CK C own cc nL ret d) {x y : Int32} (hd : decode cc pc = .ok (.imul, 1))  (k : UW C X S (pc + 1) lv (.int (x * y) :: rest)) : UW C X S pc lv (.int y :: .int x :: rest) := by
  obtain ⟨p, l, e, R, s, m, args, below, meth, c, Q, G, A⟩ := C
  obtain ⟨ρ, Y, cells, slots⟩ := X
  intro H locs ls hX hP hS hl hT
  exact lv_imul hC.1 hC.2.1 hd (k H locs ls hX hP hS hl hT)
theorem u_iand (hC : CK C own cc nL ret d) {x y : Int32} (hd : decode cc pc = .ok (.iand, 1))  (k : UW C X S (pc + 1) lv (.int (x &&& y) :: rest)) : UW C X S pc lv (.int y :: .int x :: rest) := by
  obtain ⟨p, l, e, R, s, m, args, below, meth, c, Q, G, A⟩ := C
  obtain ⟨ρ, Y, cells, slots⟩ := X
  intro H locs ls hX hP hS hl hT
  exact lv_iand hC.1 hC.2.1 hd (k H locs ls hX hP hS hl hT)
theorem u_ior (hC : CK C own cc nL ret d) {x y : Int32} (hd : decode cc pc = .ok (.ior, 1))  (k : UW C X S (pc + 1) lv (.int (x ||| y) :: rest)) : UW C X S pc lv (.int y :: .int x :: rest) := by
  obtain ⟨p, l, e, R, s, m, args, below, meth, c, Q, G, A⟩ := C
  obtain ⟨ρ, Y, cells, slots⟩ := X
  intro H locs ls hX hP hS hl hT
  exact lv_ior hC.1 hC.2.1 hd (k H locs ls hX hP hS hl hT)
theorem u_ixor (hC : CK C own cc nL ret d) {x y : Int32} (hd : decode cc pc = .ok (.ixor, 1))  (k : UW C X S (pc + 1) lv (.int (x ^^^ y) :: rest)) : UW C X S pc lv (.int y :: .int x :: rest) := by
  obtain ⟨p, l, e, R, s, m, args, below, meth, c, Q, G, A⟩ := C
  obtain ⟨ρ, Y, cells, slots⟩ := X
  intro H locs ls hX hP hS hl hT
  exact lv_ixor hC.1 hC.2.1 hd (k H locs ls hX hP hS hl hT)
theorem u_ishl (hC : CK C own cc nL ret d) {x y : Int32} (hd : decode cc pc = .ok (.ishl, 1))  (k : UW C X S (pc + 1) lv (.int (x <<< (y &&& 31)) :: rest)) : UW C X S pc lv (.int y :: .int x :: rest) := by
  obtain ⟨p, l, e, R, s, m, args, below, meth, c, Q, G, A⟩ := C
  obtain ⟨ρ, Y, cells, slots⟩ := X
  intro H locs ls hX hP hS hl hT
  exact lv_ishl hC.1 hC.2.1 hd (k H locs ls hX hP hS hl hT)
theorem u_ishr (hC : CK C own cc nL ret d) {x y : Int32} (hd : decode cc pc = .ok (.ishr, 1))  (k : UW C X S (pc + 1) lv (.int (x >>> (y &&& 31)) :: rest)) : UW C X S pc lv (.int y :: .int x :: rest) := by
  obtain ⟨p, l, e, R, s, m, args, below, meth, c, Q, G, A⟩ := C
  obtain ⟨ρ, Y, cells, slots⟩ := X
  intro H locs ls hX hP hS hl hT
  exact lv_ishr hC.1 hC.2.1 hd (k H locs ls hX hP hS hl hT)
theorem u_ladd (hC : CK C own cc nL ret d) {x y : Int64} (hd : decode cc pc = .ok (.ladd, 1))  (k : UW C X S (pc + 1) lv (.long (x + y) :: rest)) : UW C X S pc lv (.long y :: .long x :: rest) := by
  obtain ⟨p, l, e, R, s, m, args, below, meth, c, Q, G, A⟩ := C
  obtain ⟨ρ, Y, cells, slots⟩ := X
  intro H locs ls hX hP hS hl hT
  exact lv_ladd hC.1 hC.2.1 hd (k H locs ls hX hP hS hl hT)
theorem u_lsub (hC : CK C own cc nL ret d) {x y : Int64} (hd : decode cc pc = .ok (.lsub, 1))  (k : UW C X S (pc + 1) lv (.long (x - y) :: rest)) : UW C X S pc lv (.long y :: .long x :: rest) := by
  obtain ⟨p, l, e, R, s, m, args, below, meth, c, Q, G, A⟩ := C
  obtain ⟨ρ, Y, cells, slots⟩ := X
  intro H locs ls hX hP hS hl hT
  exact lv_lsub hC.1 hC.2.1 hd (k H locs ls hX hP hS hl hT)
theorem u_lmul (hC : CK C own cc nL ret d) {x y : Int64} (hd : decode cc pc = .ok (.lmul, 1))  (k : UW C X S (pc + 1) lv (.long (x * y) :: rest)) : UW C X S pc lv (.long y :: .long x :: rest) := by
  obtain ⟨p, l, e, R, s, m, args, below, meth, c, Q, G, A⟩ := C
  obtain ⟨ρ, Y, cells, slots⟩ := X
  intro H locs ls hX hP hS hl hT
  exact lv_lmul hC.1 hC.2.1 hd (k H locs ls hX hP hS hl hT)
theorem u_ineg (hC : CK C own cc nL ret d) {x : Int32} (hd : decode cc pc = .ok (.ineg, 1))  (k : UW C X S (pc + 1) lv (.int (-x) :: rest)) : UW C X S pc lv (.int x :: rest) := by
  obtain ⟨p, l, e, R, s, m, args, below, meth, c, Q, G, A⟩ := C
  obtain ⟨ρ, Y, cells, slots⟩ := X
  intro H locs ls hX hP hS hl hT
  exact lv_ineg hC.1 hC.2.1 hd (k H locs ls hX hP hS hl hT)
theorem u_iushr (hC : CK C own cc nL ret d) {x y : Int32} (hd : decode cc pc = .ok (.iushr, 1))  (k : UW C X S (pc + 1) lv (.int (x.toUInt32 >>> (y.toUInt32 &&& Int32.toUInt32 31)).toInt32 :: rest)) : UW C X S pc lv (.int y :: .int x :: rest) := by
  obtain ⟨p, l, e, R, s, m, args, below, meth, c, Q, G, A⟩ := C
  obtain ⟨ρ, Y, cells, slots⟩ := X
  intro H locs ls hX hP hS hl hT
  exact lv_iushr hC.1 hC.2.1 hd rfl (k H locs ls hX hP hS hl hT)
theorem u_i2l (hC : CK C own cc nL ret d) {x : Int32} (hd : decode cc pc = .ok (.i2l, 1))  (k : UW C X S (pc + 1) lv (.long x.toInt64 :: rest)) : UW C X S pc lv (.int x :: rest) := by
  obtain ⟨p, l, e, R, s, m, args, below, meth, c, Q, G, A⟩ := C
  obtain ⟨ρ, Y, cells, slots⟩ := X
  intro H locs ls hX hP hS hl hT
  exact lv_i2l hC.1 hC.2.1 hd rfl (k H locs ls hX hP hS hl hT)
theorem u_l2i (hC : CK C own cc nL ret d) {x : Int64} (hd : decode cc pc = .ok (.l2i, 1))  (k : UW C X S (pc + 1) lv (.int x.toInt32 :: rest)) : UW C X S pc lv (.long x :: rest) := by
  obtain ⟨p, l, e, R, s, m, args, below, meth, c, Q, G, A⟩ := C
  obtain ⟨ρ, Y, cells, slots⟩ := X
  intro H locs ls hX hP hS hl hT
  exact lv_l2i hC.1 hC.2.1 hd rfl (k H locs ls hX hP hS hl hT)
theorem u_i2b (hC : CK C own cc nL ret d) {x : Int32} (hd : decode cc pc = .ok (.i2b, 1))  (k : UW C X S (pc + 1) lv (.int x.toInt8.toInt32 :: rest)) : UW C X S pc lv (.int x :: rest) := by
  obtain ⟨p, l, e, R, s, m, args, below, meth, c, Q, G, A⟩ := C
  obtain ⟨ρ, Y, cells, slots⟩ := X
  intro H locs ls hX hP hS hl hT
  exact lv_i2b hC.1 hC.2.1 hd rfl (k H locs ls hX hP hS hl hT)
theorem u_i2c (hC : CK C own cc nL ret d) {x : Int32} (hd : decode cc pc = .ok (.i2c, 1))  (k : UW C X S (pc + 1) lv (.int (x.toUInt32 % 65536).toInt32 :: rest)) : UW C X S pc lv (.int x :: rest) := by
  obtain ⟨p, l, e, R, s, m, args, below, meth, c, Q, G, A⟩ := C
  obtain ⟨ρ, Y, cells, slots⟩ := X
  intro H locs ls hX hP hS hl hT
  exact lv_i2c hC.1 hC.2.1 hd rfl (k H locs ls hX hP hS hl hT)
theorem u_lcmp (hC : CK C own cc nL ret d) {x y : Int64} (hd : decode cc pc = .ok (.lcmp, 1))  (k : UW C X S (pc + 1) lv (.int (lg_cmp x y) :: rest)) : UW C X S pc lv (.long y :: .long x :: rest) := by
  obtain ⟨p, l, e, R, s, m, args, below, meth, c, Q, G, A⟩ := C
  obtain ⟨ρ, Y, cells, slots⟩ := X
  intro H locs ls hX hP hS hl hT
  exact W.lcmp hC.1 hC.2.1 hd (k H locs ls hX hP hS hl hT)
theorem u_pop (hC : CK C own cc nL ret d) {va : Value} (hd : decode cc pc = .ok (.pop, 1)) (hva : va.category = 1) (k : UW C X S (pc + 1) lv (rest)) : UW C X S pc lv (va :: rest) := by
  obtain ⟨p, l, e, R, s, m, args, below, meth, c, Q, G, A⟩ := C
  obtain ⟨ρ, Y, cells, slots⟩ := X
  intro H locs ls hX hP hS hl hT
  exact lv_pop hC.1 hC.2.1 hd hva (k H locs ls hX hP hS hl hT)
theorem u_dup (hC : CK C own cc nL ret d) {va : Value} (hd : decode cc pc = .ok (.dup, 1)) (hva : va.category = 1) (k : UW C X S (pc + 1) lv (va :: va :: rest)) : UW C X S pc lv (va :: rest) := by
  obtain ⟨p, l, e, R, s, m, args, below, meth, c, Q, G, A⟩ := C
  obtain ⟨ρ, Y, cells, slots⟩ := X
  intro H locs ls hX hP hS hl hT
  exact lv_dup hC.1 hC.2.1 hd hva (k H locs ls hX hP hS hl hT)
theorem u_dup2 (hC : CK C own cc nL ret d) {va vb : Value} (hd : decode cc pc = .ok (.dup2, 1)) (hva : va.category = 1) (hvb : vb.category = 1) (k : UW C X S (pc + 1) lv (va :: vb :: va :: vb :: rest)) : UW C X S pc lv (va :: vb :: rest) := by
  obtain ⟨p, l, e, R, s, m, args, below, meth, c, Q, G, A⟩ := C
  obtain ⟨ρ, Y, cells, slots⟩ := X
  intro H locs ls hX hP hS hl hT
  exact lv_dup2_11 hC.1 hC.2.1 hd hva hvb (k H locs ls hX hP hS hl hT)
def kidiv {α : Type} (x y : Int32) (K : Int32 → Option α) : Option α := if y = 0 then none else K (x / y)
theorem u_idiv (hC : CK C own cc nL ret d) {x y : Int32} (hd : decode cc pc = .ok (.idiv, 1)) {α : Type} {K : Int32 → Option α} {o : α} (hf : kidiv x y K = some o) (k : ∀ z, K z = some o → UW C X S (pc + 1) lv (.int z :: rest)) : UW C X S pc lv (.int y :: .int x :: rest) := by
  obtain ⟨p, l, e, R, s, m, args, below, meth, c, Q, G, A⟩ := C
  obtain ⟨ρ, Y, cells, slots⟩ := X
  intro H locs ls hX hP hS hl hT
  unfold kidiv at hf
  by_cases h0 : y = 0
  · rw [if_pos h0] at hf; cases hf
  · rw [if_neg h0] at hf
    exact lv_idiv hC.1 hC.2.1 hd h0 (k _ hf H locs ls hX hP hS hl hT)
def kirem {α : Type} (x y : Int32) (K : Int32 → Option α) : Option α := if y = 0 then none else K (x - x / y * y)
theorem u_irem (hC : CK C own cc nL ret d) {x y : Int32} (hd : decode cc pc = .ok (.irem, 1)) {α : Type} {K : Int32 → Option α} {o : α} (hf : kirem x y K = some o) (k : ∀ z, K z = some o → UW C X S (pc + 1) lv (.int z :: rest)) : UW C X S pc lv (.int y :: .int x :: rest) := by
  obtain ⟨p, l, e, R, s, m, args, below, meth, c, Q, G, A⟩ := C
  obtain ⟨ρ, Y, cells, slots⟩ := X
  intro H locs ls hX hP hS hl hT
  unfold kirem at hf
  by_cases h0 : y = 0
  · rw [if_pos h0] at hf; cases hf
  · rw [if_neg h0] at hf
    exact lv_irem hC.1 hC.2.1 hd h0 (k _ hf H locs ls hX hP hS hl hT)
def kldiv {α : Type} (x y : Int64) (K : Int64 → Option α) : Option α := if y = 0 then none else K (x / y)
theorem u_ldiv (hC : CK C own cc nL ret d) {x y : Int64} (hd : decode cc pc = .ok (.ldiv, 1)) {α : Type} {K : Int64 → Option α} {o : α} (hf : kldiv x y K = some o) (k : ∀ z, K z = some o → UW C X S (pc + 1) lv (.long z :: rest)) : UW C X S pc lv (.long y :: .long x :: rest) := by
  obtain ⟨p, l, e, R, s, m, args, below, meth, c, Q, G, A⟩ := C
  obtain ⟨ρ, Y, cells, slots⟩ := X
  intro H locs ls hX hP hS hl hT
  unfold kldiv at hf
  by_cases h0 : y = 0
  · rw [if_pos h0] at hf; cases hf
  · rw [if_neg h0] at hf
    exact lv_ldiv hC.1 hC.2.1 hd h0 (k _ hf H locs ls hX hP hS hl hT)
theorem u_if_eq (hC : CK C own cc nL ret d) {x : Int32} {off : Int} {tgt : Nat} (hd : decode cc pc = .ok (.ifCond .eq off, 3)) (ht : (pc : Int) + off = (tgt : Int)) {α : Type} {a b : Option α} {o : α} (hf : (if x = 0 then a else b) = some o) (kt : x = 0 → a = some o → UW C X S tgt lv rest) (kf : ¬ x = 0 → b = some o → UW C X S (pc + 3) lv rest) : UW C X S pc lv (.int x :: rest) := by
  obtain ⟨p, l, e, R, s, m, args, below, meth, c, Q, G, A⟩ := C
  obtain ⟨ρ, Y, cells, slots⟩ := X
  intro H locs ls hX hP hS hl hT
  exact lv_if_eq hC.1 hC.2.1 hd ht (fun h => kt h (by rw [if_pos h] at hf; exact hf) H locs ls hX hP hS hl hT) (fun h => kf h (by rw [if_neg h] at hf; exact hf) H locs ls hX hP hS hl hT)
theorem u_icmp_eq (hC : CK C own cc nL ret d) {x y : Int32} {off : Int} {tgt : Nat} (hd : decode cc pc = .ok (.if_icmp .eq off, 3)) (ht : (pc : Int) + off = (tgt : Int)) {α : Type} {a b : Option α} {o : α} (hf : (if x = y then a else b) = some o) (kt : x = y → a = some o → UW C X S tgt lv rest) (kf : ¬ x = y → b = some o → UW C X S (pc + 3) lv rest) : UW C X S pc lv (.int y :: .int x :: rest) := by
  obtain ⟨p, l, e, R, s, m, args, below, meth, c, Q, G, A⟩ := C
  obtain ⟨ρ, Y, cells, slots⟩ := X
  intro H locs ls hX hP hS hl hT
  exact lv_icmp_eq hC.1 hC.2.1 hd ht (fun h => kt h (by rw [if_pos h] at hf; exact hf) H locs ls hX hP hS hl hT) (fun h => kf h (by rw [if_neg h] at hf; exact hf) H locs ls hX hP hS hl hT)
theorem u_if_ne (hC : CK C own cc nL ret d) {x : Int32} {off : Int} {tgt : Nat} (hd : decode cc pc = .ok (.ifCond .ne off, 3)) (ht : (pc : Int) + off = (tgt : Int)) {α : Type} {a b : Option α} {o : α} (hf : (if x = 0 then b else a) = some o) (kt : ¬ x = 0 → a = some o → UW C X S tgt lv rest) (kf : x = 0 → b = some o → UW C X S (pc + 3) lv rest) : UW C X S pc lv (.int x :: rest) := by
  obtain ⟨p, l, e, R, s, m, args, below, meth, c, Q, G, A⟩ := C
  obtain ⟨ρ, Y, cells, slots⟩ := X
  intro H locs ls hX hP hS hl hT
  exact lv_if_ne hC.1 hC.2.1 hd ht (fun h => kt h (by rw [if_neg h] at hf; exact hf) H locs ls hX hP hS hl hT) (fun h => kf h (by rw [if_pos h] at hf; exact hf) H locs ls hX hP hS hl hT)
theorem u_icmp_ne (hC : CK C own cc nL ret d) {x y : Int32} {off : Int} {tgt : Nat} (hd : decode cc pc = .ok (.if_icmp .ne off, 3)) (ht : (pc : Int) + off = (tgt : Int)) {α : Type} {a b : Option α} {o : α} (hf : (if x = y then b else a) = some o) (kt : ¬ x = y → a = some o → UW C X S tgt lv rest) (kf : x = y → b = some o → UW C X S (pc + 3) lv rest) : UW C X S pc lv (.int y :: .int x :: rest) := by
  obtain ⟨p, l, e, R, s, m, args, below, meth, c, Q, G, A⟩ := C
  obtain ⟨ρ, Y, cells, slots⟩ := X
  intro H locs ls hX hP hS hl hT
  exact lv_icmp_ne hC.1 hC.2.1 hd ht (fun h => kt h (by rw [if_neg h] at hf; exact hf) H locs ls hX hP hS hl hT) (fun h => kf h (by rw [if_pos h] at hf; exact hf) H locs ls hX hP hS hl hT)
theorem u_if_lt (hC : CK C own cc nL ret d) {x : Int32} {off : Int} {tgt : Nat} (hd : decode cc pc = .ok (.ifCond .lt off, 3)) (ht : (pc : Int) + off = (tgt : Int)) {α : Type} {a b : Option α} {o : α} (hf : (if x < 0 then a else b) = some o) (kt : x < 0 → a = some o → UW C X S tgt lv rest) (kf : ¬ x < 0 → b = some o → UW C X S (pc + 3) lv rest) : UW C X S pc lv (.int x :: rest) := by
  obtain ⟨p, l, e, R, s, m, args, below, meth, c, Q, G, A⟩ := C
  obtain ⟨ρ, Y, cells, slots⟩ := X
  intro H locs ls hX hP hS hl hT
  exact lv_if_lt hC.1 hC.2.1 hd ht (fun h => kt h (by rw [if_pos h] at hf; exact hf) H locs ls hX hP hS hl hT) (fun h => kf h (by rw [if_neg h] at hf; exact hf) H locs ls hX hP hS hl hT)
theorem u_icmp_lt (hC : CK C own cc nL ret d) {x y : Int32} {off : Int} {tgt : Nat} (hd : decode cc pc = .ok (.if_icmp .lt off, 3)) (ht : (pc : Int) + off = (tgt : Int)) {α : Type} {a b : Option α} {o : α} (hf : (if x < y then a else b) = some o) (kt : x < y → a = some o → UW C X S tgt lv rest) (kf : ¬ x < y → b = some o → UW C X S (pc + 3) lv rest) : UW C X S pc lv (.int y :: .int x :: rest) := by
  obtain ⟨p, l, e, R, s, m, args, below, meth, c, Q, G, A⟩ := C
  obtain ⟨ρ, Y, cells, slots⟩ := X
  intro H locs ls hX hP hS hl hT
  exact lv_icmp_lt hC.1 hC.2.1 hd ht (fun h => kt h (by rw [if_pos h] at hf; exact hf) H locs ls hX hP hS hl hT) (fun h => kf h (by rw [if_neg h] at hf; exact hf) H locs ls hX hP hS hl hT)
theorem u_if_ge (hC : CK C own cc nL ret d) {x : Int32} {off : Int} {tgt : Nat} (hd : decode cc pc = .ok (.ifCond .ge off, 3)) (ht : (pc : Int) + off = (tgt : Int)) {α : Type} {a b : Option α} {o : α} (hf : (if 0 ≤ x then a else b) = some o) (kt : 0 ≤ x → a = some o → UW C X S tgt lv rest) (kf : ¬ 0 ≤ x → b = some o → UW C X S (pc + 3) lv rest) : UW C X S pc lv (.int x :: rest) := by
  obtain ⟨p, l, e, R, s, m, args, below, meth, c, Q, G, A⟩ := C
  obtain ⟨ρ, Y, cells, slots⟩ := X
  intro H locs ls hX hP hS hl hT
  exact lv_if_ge hC.1 hC.2.1 hd ht (fun h => kt h (by rw [if_pos h] at hf; exact hf) H locs ls hX hP hS hl hT) (fun h => kf h (by rw [if_neg h] at hf; exact hf) H locs ls hX hP hS hl hT)
theorem u_icmp_ge (hC : CK C own cc nL ret d) {x y : Int32} {off : Int} {tgt : Nat} (hd : decode cc pc = .ok (.if_icmp .ge off, 3)) (ht : (pc : Int) + off = (tgt : Int)) {α : Type} {a b : Option α} {o : α} (hf : (if y ≤ x then a else b) = some o) (kt : y ≤ x → a = some o → UW C X S tgt lv rest) (kf : ¬ y ≤ x → b = some o → UW C X S (pc + 3) lv rest) : UW C X S pc lv (.int y :: .int x :: rest) := by
  obtain ⟨p, l, e, R, s, m, args, below, meth, c, Q, G, A⟩ := C
  obtain ⟨ρ, Y, cells, slots⟩ := X
  intro H locs ls hX hP hS hl hT
  exact lv_icmp_ge hC.1 hC.2.1 hd ht (fun h => kt h (by rw [if_pos h] at hf; exact hf) H locs ls hX hP hS hl hT) (fun h => kf h (by rw [if_neg h] at hf; exact hf) H locs ls hX hP hS hl hT)
theorem u_if_gt (hC : CK C own cc nL ret d) {x : Int32} {off : Int} {tgt : Nat} (hd : decode cc pc = .ok (.ifCond .gt off, 3)) (ht : (pc : Int) + off = (tgt : Int)) {α : Type} {a b : Option α} {o : α} (hf : (if 0 < x then a else b) = some o) (kt : 0 < x → a = some o → UW C X S tgt lv rest) (kf : ¬ 0 < x → b = some o → UW C X S (pc + 3) lv rest) : UW C X S pc lv (.int x :: rest) := by
  obtain ⟨p, l, e, R, s, m, args, below, meth, c, Q, G, A⟩ := C
  obtain ⟨ρ, Y, cells, slots⟩ := X
  intro H locs ls hX hP hS hl hT
  exact lv_if_gt hC.1 hC.2.1 hd ht (fun h => kt h (by rw [if_pos h] at hf; exact hf) H locs ls hX hP hS hl hT) (fun h => kf h (by rw [if_neg h] at hf; exact hf) H locs ls hX hP hS hl hT)
theorem u_icmp_gt (hC : CK C own cc nL ret d) {x y : Int32} {off : Int} {tgt : Nat} (hd : decode cc pc = .ok (.if_icmp .gt off, 3)) (ht : (pc : Int) + off = (tgt : Int)) {α : Type} {a b : Option α} {o : α} (hf : (if y < x then a else b) = some o) (kt : y < x → a = some o → UW C X S tgt lv rest) (kf : ¬ y < x → b = some o → UW C X S (pc + 3) lv rest) : UW C X S pc lv (.int y :: .int x :: rest) := by
  obtain ⟨p, l, e, R, s, m, args, below, meth, c, Q, G, A⟩ := C
  obtain ⟨ρ, Y, cells, slots⟩ := X
  intro H locs ls hX hP hS hl hT
  exact lv_icmp_gt hC.1 hC.2.1 hd ht (fun h => kt h (by rw [if_pos h] at hf; exact hf) H locs ls hX hP hS hl hT) (fun h => kf h (by rw [if_neg h] at hf; exact hf) H locs ls hX hP hS hl hT)
theorem u_if_le (hC : CK C own cc nL ret d) {x : Int32} {off : Int} {tgt : Nat} (hd : decode cc pc = .ok (.ifCond .le off, 3)) (ht : (pc : Int) + off = (tgt : Int)) {α : Type} {a b : Option α} {o : α} (hf : (if x ≤ 0 then a else b) = some o) (kt : x ≤ 0 → a = some o → UW C X S tgt lv rest) (kf : ¬ x ≤ 0 → b = some o → UW C X S (pc + 3) lv rest) : UW C X S pc lv (.int x :: rest) := by
  obtain ⟨p, l, e, R, s, m, args, below, meth, c, Q, G, A⟩ := C
  obtain ⟨ρ, Y, cells, slots⟩ := X
  intro H locs ls hX hP hS hl hT
  exact lv_if_le hC.1 hC.2.1 hd ht (fun h => kt h (by rw [if_pos h] at hf; exact hf) H locs ls hX hP hS hl hT) (fun h => kf h (by rw [if_neg h] at hf; exact hf) H locs ls hX hP hS hl hT)
theorem u_icmp_le (hC : CK C own cc nL ret d) {x y : Int32} {off : Int} {tgt : Nat} (hd : decode cc pc = .ok (.if_icmp .le off, 3)) (ht : (pc : Int) + off = (tgt : Int)) {α : Type} {a b : Option α} {o : α} (hf : (if x ≤ y then a else b) = some o) (kt : x ≤ y → a = some o → UW C X S tgt lv rest) (kf : ¬ x ≤ y → b = some o → UW C X S (pc + 3) lv rest) : UW C X S pc lv (.int y :: .int x :: rest) := by
  obtain ⟨p, l, e, R, s, m, args, below, meth, c, Q, G, A⟩ := C
  obtain ⟨ρ, Y, cells, slots⟩ := X
  intro H locs ls hX hP hS hl hT
  exact lv_icmp_le hC.1 hC.2.1 hd ht (fun h => kt h (by rw [if_pos h] at hf; exact hf) H locs ls hX hP hS hl hT) (fun h => kf h (by rw [if_neg h] at hf; exact hf) H locs ls hX hP hS hl hT)
theorem u_goto (hC : CK C own cc nL ret d) {off : Int} {tgt : Nat} (hd : decode cc pc = .ok (.goto off, 3)) (ht : (pc : Int) + off = (tgt : Int)) (k : UW C X S tgt lv rest) : UW C X S pc lv rest := by
  obtain ⟨p, l, e, R, s, m, args, below, meth, c, Q, G, A⟩ := C
  obtain ⟨ρ, Y, cells, slots⟩ := X
  intro H locs ls hX hP hS hl hT
  exact lv_goto hC.1 hC.2.1 hd ht (k H locs ls hX hP hS hl hT)
theorem u_iinc (hC : CK C own cc nL ret d) {i : Nat} {n : Int} {x v : Int32} {lv' : List (Nat × Value)} (hd : decode cc pc = .ok (.iinc i n, 3)) (j : Nat) (hj : lv[j]? = some (i, .int x)) (hv : x + Int32.ofInt n = v) (hn : i < nL) (hl' : (i, Value.int v) :: lv.filter (fun q => !(q.1 == i) && !(q.1 + 1 == i && q.2.category == 2)) = lv') (k : UW C X S (pc + 3) lv' rest) : UW C X S pc lv rest := by
  obtain ⟨p, l, e, R, s, m, args, below, meth, c, Q, G, A⟩ := C
  obtain ⟨ρ, Y, cells, slots⟩ := X
  intro H locs ls hX hP hS hl hT
  exact lv_iinc hC.1 hC.2.1 hd hl hj hv (by rw [hC.2.2.1]; exact hn) hl' (fun ls' h' => k H locs ls' hX hP hS h' hT)
theorem u_lstore_n (hC : CK C own cc nL ret d) {k : Fin 4} {x : Int64} (hd : decode cc pc = .ok (.lstore_n k, 1)) {i : Nat} (hi : (k : Nat) = i) (hn : i + 1 < nL) {lv' : List (Nat × Value)} (hl' : (i, Value.long x) :: lv.filter (fun q => !(q.1 == i) && (!(q.1 == i + 1) && !(q.1 + 1 == i && q.2.category == 2))) = lv') (k : UW C X S (pc + 1) lv' rest) : UW C X S pc lv (.long x :: rest) := by
  obtain ⟨p, l, e, R, s, m, args, below, meth, c, Q, G, A⟩ := C
  obtain ⟨ρ, Y, cells, slots⟩ := X
  intro H locs ls hX hP hS hl hT
  exact lv_lstore_n hC.1 hC.2.1 hd hi hl (by rw [hC.2.2.1]; exact hn) hl' (fun ls' h' => k H locs ls' hX hP hS h' hT)
theorem u_lstore (hC : CK C own cc nL ret d) {i : Nat} {x : Int64} (hd : decode cc pc = .ok (.lstore i, 2)) (hn : i + 1 < nL) {lv' : List (Nat × Value)} (hl' : (i, Value.long x) :: lv.filter (fun q => !(q.1 == i) && (!(q.1 == i + 1) && !(q.1 + 1 == i && q.2.category == 2))) = lv') (k : UW C X S (pc + 2) lv' rest) : UW C X S pc lv (.long x :: rest) := by
  obtain ⟨p, l, e, R, s, m, args, below, meth, c, Q, G, A⟩ := C
  obtain ⟨ρ, Y, cells, slots⟩ := X
  intro H locs ls hX hP hS hl hT
  exact lv_lstore hC.1 hC.2.1 hd hl (by rw [hC.2.2.1]; exact hn) hl' (fun ls' h' => k H locs ls' hX hP hS h' hT)
/-- fewer locals, in another order -/
theorem u_sub {lv' : List (Nat × Value)} {st : List Value} (ks : List Nat) (h : lv_pick lv ks = lv') (k : UW C X S pc lv' st) : UW C X S pc lv st := by
  obtain ⟨p, l, e, R, s, m, args, below, meth, c, Q, G, A⟩ := C
  obtain ⟨ρ, Y, cells, slots⟩ := X
  intro H locs ls hX hP hS hl hT
  exact k H locs ls hX hP hS (lv_sub hl ks h) hT
end UR
def iter {σ ρ : Type} (f : σ → Option (σ ⊕ ρ)) : Nat → σ → Option ρ
  | 0, _ => none
  | n + 1, s => match f s with
    | none => none
    | some (.inl s') => iter f n s'
    | some (.inr r) => some r
theorem iter_ind {σ ρ : Type} {f : σ → Option (σ ⊕ ρ)} {P : σ → Prop} {r : ρ} (hstep : ∀ (s : σ) (o : σ ⊕ ρ), f s = some o → (∀ s', o = .inl s' → P s') → (∀ r', o = .inr r' → r' = r) → P s) : ∀ (n : Nat) (s : σ), iter f n s = some r → P s
  | 0, s, h => by cases h
  | n + 1, s, h => by
    unfold iter at h
    cases hf : f s with
    | none => rw [hf] at h; cases h
    | some o =>
      rw [hf] at h
      cases o with
      | inl s' => exact hstep s _ hf (fun z hz => by cases hz; exact iter_ind hstep n s' h) (fun z hz => by cases hz)
      | inr r' => exact hstep s _ hf (fun z hz => by cases hz) (fun z hz => by cases hz; exact Option.some.inj h)
