/-! rows: switches, null, arraycopy; small facts for the walks -/
theorem kc_some {α β : Type} {m : Option β} {K : β → Option α} {o : α} (h : kc m K = some o) : ∃ b, m = some b ∧ K b = some o := by
  unfold kc at h
  cases m with
  | none => cases h
  | some b => exact ⟨b, rfl, h⟩
theorem kzr_some {α : Type} {v : Int32} {r : Option α} {o : α} (h : kzr v r = some o) : (v = 0 ∨ v = 1) ∧ r = some o := by
  unfold kzr at h
  by_cases hv : v = 0 ∨ v = 1
  · rw [if_pos hv] at h; exact ⟨hv, h⟩
  · rw [if_neg hv] at h; cases h
theorem CK.tr {C : CT} {own : String} {cc : ByteArray} {nL d : Nat} {ret : Option FieldType} (h : CK C own cc nL ret d) : (cL C).stackTraces = false := by
  obtain ⟨p, l, e, R, s, m, args, below, meth, c, Q, G, A⟩ := C
  exact h.2.2.2.2.2.2.2.2.2.2.2.2
/-- a reference that may be null -/
def kq {α : Type} (r : Option Nat) (a : Option α) (K : Nat → Option α) : Option α := match r with
  | none => a
  | some b => K b
section UM
variable {C : CT} {X : XT} {S : PS} {own : String} {cc : ByteArray} {nL d : Nat} {ret : Option FieldType} {pc : Nat} {lv : List (Nat × Value)} {rest : List Value} {α : Type} {o : α}
theorem u_tin (hC : CK C own cc nL ret d) {dflt lo hi : Int} {offs : Array Int} {len : Nat} {x : Int32} {off : Int} {tgt : Nat} (hd : decode cc pc = .ok (.tableswitch dflt lo hi offs, len)) (h1 : ¬ x.toInt < lo) (h2 : ¬ hi < x.toInt) (ho : offs[(x.toInt - lo).toNat]? = some off) (ht : (pc : Int) + off = (tgt : Int)) (k : UW C X S tgt lv rest) : UW C X S pc lv (.int x :: rest) := by
  obtain ⟨p, l, e, R, s, m, args, below, meth, c, Q, G, A⟩ := C
  obtain ⟨ρ, Y, cells, slots⟩ := X
  intro H locs ls hX hP hS hl hT
  exact lv_tableIn hC.1 hC.2.1 hd h1 h2 ho ht (k H locs ls hX hP hS hl hT)
theorem u_tout (hC : CK C own cc nL ret d) {dflt lo hi : Int} {offs : Array Int} {len : Nat} {x : Int32} {tgt : Nat} (hd : decode cc pc = .ok (.tableswitch dflt lo hi offs, len)) (h : x.toInt < lo ∨ hi < x.toInt) (ht : (pc : Int) + dflt = (tgt : Int)) (k : UW C X S tgt lv rest) : UW C X S pc lv (.int x :: rest) := by
  obtain ⟨p, l, e, R, s, m, args, below, meth, c, Q, G, A⟩ := C
  obtain ⟨ρ, Y, cells, slots⟩ := X
  intro H locs ls hX hP hS hl hT
  exact lv_tableOut hC.1 hC.2.1 hd h ht (k H locs ls hX hP hS hl hT)
theorem u_look (hC : CK C own cc nL ret d) {dflt : Int} {ps : Array (Int × Int)} {len : Nat} {x : Int32} {off : Int} {tgt : Nat} (hd : decode cc pc = .ok (.lookupswitch dflt ps, len)) (hp : (ps.toList.zip (ps.toList.drop 1)).all (fun (a, next) => a.1 < next.1) = true) (ho : Op.lookupswitch.offset ps.toList dflt x.toInt = off) (ht : (pc : Int) + off = (tgt : Int)) (k : UW C X S tgt lv rest) : UW C X S pc lv (.int x :: rest) := by
  obtain ⟨p, l, e, R, s, m, args, below, meth, c, Q, G, A⟩ := C
  obtain ⟨ρ, Y, cells, slots⟩ := X
  intro H locs ls hX hP hS hl hT
  exact lv_lookup hC.1 hC.2.1 hd hp ho ht (k H locs ls hX hP hS hl hT)
theorem u_ifnonnull (hC : CK C own cc nL ret d) {r : Option Nat} {off : Int} {tgt : Nat} (hd : decode cc pc = .ok (.ifnonnull off, 3)) (ht : (pc : Int) + off = (tgt : Int)) {a : Option α} {K : Nat → Option α} (hf : kq r a K = some o) (k0 : r = none → a = some o → UW C X S (pc + 3) lv rest) (k1 : ∀ b, r = some b → K b = some o → UW C X S tgt lv rest) : UW C X S pc lv (va_rf (r.map X.1) :: rest) := by
  obtain ⟨p, l, e, R, s, m, args, below, meth, c, Q, G, A⟩ := C
  obtain ⟨ρ, Y, cells, slots⟩ := X
  intro H locs ls hX hP hS hl hT
  cases r with
  | none => exact lv_ifnonnullN hC.1 hC.2.1 hd (k0 rfl hf H locs ls hX hP hS hl hT)
  | some b => exact lv_ifnonnull hC.1 hC.2.1 hd ht (k1 b rfl hf H locs ls hX hP hS hl hT)
theorem u_ifnull (hC : CK C own cc nL ret d) {r : Option Nat} {off : Int} {tgt : Nat} (hd : decode cc pc = .ok (.ifnull off, 3)) (ht : (pc : Int) + off = (tgt : Int)) {a : Option α} {K : Nat → Option α} (hf : kq r a K = some o) (k0 : r = none → a = some o → UW C X S tgt lv rest) (k1 : ∀ b, r = some b → K b = some o → UW C X S (pc + 3) lv rest) : UW C X S pc lv (va_rf (r.map X.1) :: rest) := by
  obtain ⟨p, l, e, R, s, m, args, below, meth, c, Q, G, A⟩ := C
  obtain ⟨ρ, Y, cells, slots⟩ := X
  intro H locs ls hX hP hS hl hT
  cases r with
  | none => exact lv_ifnullN hC.1 hC.2.1 hd ht (k0 rfl hf H locs ls hX hP hS hl hT)
  | some b => exact lv_ifnull hC.1 hC.2.1 hd (k1 b rfl hf H locs ls hX hP hS hl hT)
theorem u_aloadq_n (hC : CK C own cc nL ret d) {k : Fin 4} {r : Option Nat} (hd : decode cc pc = .ok (.aload_n k, 1)) (j : Nat) {i : Nat} (hi : (k : Nat) = i) (hj : lv[j]? = some (i, va_rf (r.map X.1))) (k : UW C X S (pc + 1) lv (va_rf (r.map X.1) :: rest)) : UW C X S pc lv rest := by
  obtain ⟨p, l, e, R, s, m, args, below, meth, c, Q, G, A⟩ := C
  obtain ⟨ρ, Y, cells, slots⟩ := X
  intro H locs ls hX hP hS hl hT
  cases r with
  | none => exact lv_aload_nN hC.1 hC.2.1 hd hi (lv_at hl j hj) (k H locs ls hX hP hS hl hT)
  | some b => exact lv_aload_n hC.1 hC.2.1 hd hi (lv_at hl j hj) (k H locs ls hX hP hS hl hT)
theorem u_astoreq_n (hC : CK C own cc nL ret d) {k : Fin 4} {r : Option Nat} (hd : decode cc pc = .ok (.astore_n k, 1)) {i : Nat} (hi : (k : Nat) = i) (hn : i < nL) {lv' : List (Nat × Value)} (hl' : (i, va_rf (r.map X.1)) :: lv.filter (fun q => !(q.1 == i) && !(q.1 + 1 == i && q.2.category == 2)) = lv') (k : UW C X S (pc + 1) lv' rest) : UW C X S pc lv (va_rf (r.map X.1) :: rest) := by
  obtain ⟨p, l, e, R, s, m, args, below, meth, c, Q, G, A⟩ := C
  obtain ⟨ρ, Y, cells, slots⟩ := X
  intro H locs ls hX hP hS hl hT
  cases r with
  | none => exact lv_astore_nN hC.1 hC.2.1 hd hi hl (by rw [hC.2.2.1]; exact hn) hl' (fun ls' h' => k H locs ls' hX hP hS h' hT)
  | some b => exact lv_astore_n hC.1 hC.2.1 hd hi hl (by rw [hC.2.2.1]; exact hn) hl' (fun ls' h' => k H locs ls' hX hP hS h' hT)
theorem u_cp (hC : CK C own cc nL ret d) {idx : Nat} (hL : Cond.methodLink own idx arraycopyName ∈ Tb) (h1d : 1 ≤ d) {a b : Nat} (hTa : Ty X.2.1 a 12) (hTb : Ty X.2.1 b 12) {sp dp n : Int32} (hW : (rest.map fun v => v.category).sum ≤ 8) (hd : decode cc pc = .ok (.invokestatic idx, 3)) {K : PS → Option α} (hf : kcp X.2.1 S a sp b dp n K = some o) (kk : ∀ S1, K S1 = some o → UW C X S1 (pc + 3) lv rest) : UW C X S pc lv (.int n :: .int dp :: .ref (X.1 b) :: .int sp :: .ref (X.1 a) :: rest) := by
  obtain ⟨p, l, e, R, s, m, args, below, meth, c, Q, ⟨dC, dI, cy, B0, sK, sV⟩, A⟩ := C
  obtain ⟨ρ, Y, cells, slots⟩ := X
  intro H locs ls hX hP hS hl hT
  have hts : ∀ w ∈ Tb, w.before args s = true := hC.2.2.2.2.1
  have hR1 : d ≤ R.frames := hC.2.2.2.2.2.2.2.2.2.2.1
  have hR2 : 128 * d ≤ R.locals := hC.2.2.2.2.2.2.2.2.2.2.2.1
  unfold kcp at hf
  by_cases hg : ¬ sp < 0 ∧ ¬ dp < 0 ∧ ¬ n < 0 ∧ sp.toNatClampNeg + n.toNatClampNeg ≤ ln Y a ∧ dp.toNatClampNeg + n.toNatClampNeg ≤ ln Y b
  · rw [if_pos hg] at hf
    refine va_copyi hC.1 hC.2.1 hl.1.symm hC.2.2.2.1 (hts _ hL) (hts _ (tb_2 201 rfl rfl)) (hts _ (tb_2 200 rfl rfl)) (hts _ (tb_1 23 rfl rfl)) hC.2.2.2.2.2.1.1 hP (wl_D hX.1 hX.2.1) hS a b 0 0 (f := S.1 a) (g := S.1 b) (ty := .int) (by rw [wl_at hTa.1, cf_int hTa.2 (by decide) (by decide)]) (by rw [wl_at hTb.1, cf_int hTb.2 (by decide) (by decide)]) rfl rfl rfl hg.1 hg.2.1 hg.2.2.1 hg.2.2.2.1 hg.2.2.2.2 (fun _ _ => rfl) (by omega) (by rw [show nativeFrameWords "java/lang/System" "arraycopy" 5 = 7 from rfl]; omega) hd (fun H1 locs1 hP1 _ hS1 => ?_)
    rw [wl_set (S' := sc S b (va_cpy (S.1 a) (S.1 b) sp.toNatClampNeg dp.toNatClampNeg n.toNatClampNeg)) hTb.1 (by rw [cf_int hTb.2 (by decide) (by decide)]; simp [sc]) (fun b' hb => cf_sc hb)] at hP1
    exact kk _ hf H1 locs1 ls hX hP1 hS1 hl hT
  · rw [if_neg hg] at hf; cases hf
end UM
def ks {α β γ : Type} (r : α ⊕ β) (f : α → Option γ) (g : β → Option γ) : Option γ := match r with
  | .inl a => f a
  | .inr b => g b
theorem ks_l {α β γ : Type} {a : α} {f : α → Option γ} {g : β → Option γ} {o : γ} (h : ks (.inl a) f g = some o) : f a = some o := h
theorem ks_r {α β γ : Type} {b : β} {f : α → Option γ} {g : β → Option γ} {o : γ} (h : ks (.inr b) f g = some o) : g b = some o := h
def imax (x y : Int32) : Int32 := if x < y then y else x
theorem u_mmax {C : CT} {X : XT} {S : PS} {own : String} {cc : ByteArray} {nL d : Nat} {ret : Option FieldType} {pc : Nat} {lv : List (Nat × Value)} {rest : List Value} (hC : CK C own cc nL ret d) {idx : Nat} (hL : Cond.methodLink own idx Lib.Math.max.name ∈ Tb) (h1d : 1 ≤ d) (hW : (rest.map fun v => v.category).sum ≤ 8) {x y : Int32} (hd : decode cc pc = .ok (.invokestatic idx, 3)) (k : UW C X S (pc + 3) lv (.int (imax x y) :: rest)) : UW C X S pc lv (.int y :: .int x :: rest) := by
  obtain ⟨p, l, e, R, s, m, args, below, meth, c, Q, G, A⟩ := C
  obtain ⟨ρ, Y, cells, slots⟩ := X
  intro H locs ls hX hP hS hl hT
  have hts : ∀ w ∈ Tb, w.before args s = true := hC.2.2.2.2.1
  have hR1 : d ≤ R.frames := hC.2.2.2.2.2.2.2.2.2.2.1
  have hR2 : 128 * d ≤ R.locals := hC.2.2.2.2.2.2.2.2.2.2.2.1
  exact va_mmax hC.1 hC.2.1 hl.1.symm hC.2.2.2.1 (hts _ hL) (hts _ (tb_2 239 rfl rfl)) (hts _ (tb_1 17 rfl rfl)) (hts _ (tb_3 0 rfl rfl)) (by omega) (by omega) hX.2.2.2.1 hX.2.2.2.2 hd (k H locs ls hX hP hS hl hT)
def imin (x y : Int32) : Int32 := if y < x then y else x
theorem u_mmin {C : CT} {X : XT} {S : PS} {own : String} {cc : ByteArray} {nL d : Nat} {ret : Option FieldType} {pc : Nat} {lv : List (Nat × Value)} {rest : List Value} (hC : CK C own cc nL ret d) {idx : Nat} (hL : Cond.methodLink own idx Lib.Math.min.name ∈ Tb) (h1d : 1 ≤ d) (hW : (rest.map fun v => v.category).sum ≤ 8) {x y : Int32} (hd : decode cc pc = .ok (.invokestatic idx, 3)) (k : UW C X S (pc + 3) lv (.int (imin x y) :: rest)) : UW C X S pc lv (.int y :: .int x :: rest) := by
  obtain ⟨p, l, e, R, s, m, args, below, meth, c, Q, G, A⟩ := C
  obtain ⟨ρ, Y, cells, slots⟩ := X
  intro H locs ls hX hP hS hl hT
  have hts : ∀ w ∈ Tb, w.before args s = true := hC.2.2.2.2.1
  have hR1 : d ≤ R.frames := hC.2.2.2.2.2.2.2.2.2.2.1
  have hR2 : 128 * d ≤ R.locals := hC.2.2.2.2.2.2.2.2.2.2.2.1
  exact va_mmin hC.1 hC.2.1 hl.1.symm hC.2.2.2.1 (hts _ hL) (hts _ (tb_2 236 rfl rfl)) (hts _ (tb_1 17 rfl rfl)) (hts _ (tb_2 237 rfl rfl)) (by omega) (by omega) hX.2.2.2.1 hX.2.2.2.2 hd (k H locs ls hX hP hS hl hT)
def lmax (x y : Int64) : Int64 := if y < x then x else y
theorem u_mmaxl {C : CT} {X : XT} {S : PS} {own : String} {cc : ByteArray} {nL d : Nat} {ret : Option FieldType} {pc : Nat} {lv : List (Nat × Value)} {rest : List Value} (hC : CK C own cc nL ret d) {idx : Nat} (hL : Cond.methodLink own idx Lib.MathLoose.max_long.x ∈ Tb) (h1d : 1 ≤ d) (hW : (rest.map fun v => v.category).sum ≤ 8) {x y : Int64} (hd : decode cc pc = .ok (.invokestatic idx, 3)) (k : UW C X S (pc + 3) lv (.long (lmax x y) :: rest)) : UW C X S pc lv (.long y :: .long x :: rest) := by
  obtain ⟨p, l, e, R, s, m, args, below, meth, c, Q, G, A⟩ := C
  obtain ⟨ρ, Y, cells, slots⟩ := X
  intro H locs ls hX hP hS hl hT
  have hts : ∀ w ∈ Tb, w.before args s = true := hC.2.2.2.2.1
  have hR1 : d ≤ R.frames := hC.2.2.2.2.2.2.2.2.2.2.1
  have hR2 : 128 * d ≤ R.locals := hC.2.2.2.2.2.2.2.2.2.2.2.1
  exact va_mmax_long hC.1 hC.2.1 hl.1.symm hC.2.2.2.1 (hts _ hL) (hts _ (tb_7 105 rfl rfl)) (hts _ (tb_1 17 rfl rfl)) (hts _ (tb_7 106 rfl rfl)) (by omega) (by omega) hX.2.2.2.1 hX.2.2.2.2 hd (k H locs ls hX hP hS hl hT)
def lmin (x y : Int64) : Int64 := if y < x then y else x
theorem u_mminl {C : CT} {X : XT} {S : PS} {own : String} {cc : ByteArray} {nL d : Nat} {ret : Option FieldType} {pc : Nat} {lv : List (Nat × Value)} {rest : List Value} (hC : CK C own cc nL ret d) {idx : Nat} (hL : Cond.methodLink own idx Lib.MathLoose.min_long.x ∈ Tb) (h1d : 1 ≤ d) (hW : (rest.map fun v => v.category).sum ≤ 8) {x y : Int64} (hd : decode cc pc = .ok (.invokestatic idx, 3)) (k : UW C X S (pc + 3) lv (.long (lmin x y) :: rest)) : UW C X S pc lv (.long y :: .long x :: rest) := by
  obtain ⟨p, l, e, R, s, m, args, below, meth, c, Q, G, A⟩ := C
  obtain ⟨ρ, Y, cells, slots⟩ := X
  intro H locs ls hX hP hS hl hT
  have hts : ∀ w ∈ Tb, w.before args s = true := hC.2.2.2.2.1
  have hR1 : d ≤ R.frames := hC.2.2.2.2.2.2.2.2.2.2.1
  have hR2 : 128 * d ≤ R.locals := hC.2.2.2.2.2.2.2.2.2.2.2.1
  exact va_mmin_long hC.1 hC.2.1 hl.1.symm hC.2.2.2.1 (hts _ hL) (hts _ (tb_4 163 rfl rfl)) (hts _ (tb_1 17 rfl rfl)) (hts _ (tb_4 164 rfl rfl)) (by omega) (by omega) hX.2.2.2.1 hX.2.2.2.2 hd (k H locs ls hX hP hS hl hT)
