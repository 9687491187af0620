/-! methods that return or throw: their contract, their calls -/
def exN : Nat → String
  | 1 => "java/util/NoSuchElementException"
  | _ => "java/lang/IllegalArgumentException"
/-- places in SharedPurse's file: the class, its constructor -/
def exK : Nat → Nat
  | 1 => 185
  | _ => 83
def exI : Nat → Nat
  | 1 => 189
  | _ => 87
theorem ot_of {w : Cond} (h : w ∈ Tb ∨ w ∈ nestT) : vx_ot w = true := by
  rcases h with h | h
  · have := (List.mem_filter.mp h).2
    simp [vx_ot, this]
  · have h2 := (List.mem_filter.mp h).2
    cases w <;> first | rfl | (simp [isNest] at h2)
theorem be_of {w : Cond} {args : Array Value} {s : State} (hts : ∀ w ∈ Tb, w.before args s = true) (hn : ∀ w ∈ nestT, va_Nw w s) (h : w ∈ Tb ∨ w ∈ nestT) : w.before args s = true := by
  rcases h with h | h
  · exact hts w h
  · have h1 := hn w h
    have h2 := (List.mem_filter.mp h).2
    cases w <;> first | exact va_Nw.use rfl h1 | (simp [isNest] at h2)
theorem nxw_1 : ∀ w ∈ (nx_at "SharedPurse" 189 "java/util/NoSuchElementException" 13 prog_31_method_4_code "java/lang/RuntimeException" ["java/lang/Exception"]).filter vx_no, w ∈ Tb ∨ w ∈ nestT := by
  intro w hw
  obtain ⟨hw, hno⟩ := List.mem_filter.mp hw
  simp only [nx_at, Bundle.throwableAtoms, Bundle.throwableSAtoms, Bundle.passSAtoms, Bundle.chainSAtoms, List.mem_append, List.mem_cons, List.not_mem_nil, or_false, or_assoc] at hw
  rcases hw with rfl | rfl | rfl | rfl | rfl | rfl | rfl | rfl | rfl | rfl | rfl | rfl | rfl | rfl | rfl | rfl | rfl | rfl | rfl | rfl | rfl | rfl | rfl | rfl | rfl | rfl | rfl | rfl | rfl | rfl | rfl | rfl | rfl | rfl | rfl | rfl | rfl | rfl | rfl | rfl | rfl | rfl | rfl | rfl | rfl | rfl | rfl | rfl | rfl | rfl | rfl | rfl | rfl | rfl | rfl | rfl | rfl
  · exact Or.inl (tb_1 12 rfl rfl)
  · exact Or.inl (tb_3 44 rfl rfl)
  · exact Or.inl (tb_3 53 rfl rfl)
  · exact Or.inl (tb_3 56 rfl rfl)
  · exact Or.inl (tb_3 59 rfl rfl)
  · exact Or.inl (tb_3 61 rfl rfl)
  · exact Or.inl (tb_3 45 rfl rfl)
  · exact Or.inl (tb_3 46 rfl rfl)
  · exact Or.inl (tb_1 32 rfl rfl)
  · exact Or.inl (tb_1 33 rfl rfl)
  · exact Or.inl (tb_3 47 rfl rfl)
  · exact Or.inl (tb_3 52 rfl rfl)
  · exact Or.inl (tb_3 57 rfl rfl)
  · exact Or.inl (tb_3 77 rfl rfl)
  · exact Or.inl (tb_3 34 rfl rfl)
  · exact Or.inl (tb_3 78 rfl rfl)
  · exact Or.inl (tb_3 36 rfl rfl)
  · exact Or.inl (tb_3 79 rfl rfl)
  · exact Or.inl (tb_3 38 rfl rfl)
  · exact Or.inl (tb_3 48 rfl rfl)
  · exact absurd hno (by decide +kernel)
  · exact Or.inl (tb_3 50 rfl rfl)
  · exact absurd hno (by decide +kernel)
  · exact Or.inl (tb_3 40 rfl rfl)
  · exact Or.inl (tb_3 73 rfl rfl)
  · exact Or.inl (tb_3 74 rfl rfl)
  · exact Or.inl (tb_3 76 rfl rfl)
  · exact Or.inl (tb_3 40 rfl rfl)
  · exact Or.inl (tb_4 72 rfl rfl)
  · exact Or.inl (tb_4 73 rfl rfl)
  · exact Or.inl (tb_4 74 rfl rfl)
  · exact Or.inl (tb_3 67 rfl rfl)
  · exact Or.inr (nt_3 26 rfl rfl)
  · exact Or.inl (tb_3 67 rfl rfl)
  · exact Or.inl (tb_3 68 rfl rfl)
  · exact Or.inl (tb_3 69 rfl rfl)
  · exact Or.inl (tb_3 70 rfl rfl)
  · exact Or.inr (nt_3 28 rfl rfl)
  · exact Or.inl (tb_3 70 rfl rfl)
  · exact Or.inl (tb_3 71 rfl rfl)
  · exact Or.inl (tb_3 72 rfl rfl)
  · exact Or.inl (tb_3 73 rfl rfl)
  · exact Or.inr (nt_3 30 rfl rfl)
  · exact Or.inl (tb_4 71 rfl rfl)
  · exact Or.inl (tb_4 62 rfl rfl)
  · exact Or.inr (nt_4 63 rfl rfl)
  · exact Or.inl (tb_4 64 rfl rfl)
  · exact Or.inl (tb_3 55 rfl rfl)
  · exact Or.inl (tb_4 65 rfl rfl)
  · exact Or.inl (tb_4 66 rfl rfl)
  · exact Or.inl (tb_4 67 rfl rfl)
  · exact Or.inl (tb_4 68 rfl rfl)
  · exact absurd hno (by decide +kernel)
  · exact absurd hno (by decide +kernel)
  · exact Or.inl (tb_3 43 rfl rfl)
  · exact Or.inl (tb_3 42 rfl rfl)
  · exact Or.inl (tb_4 69 rfl rfl)
theorem nxw_2 : ∀ w ∈ (nx_at "SharedPurse" 87 "java/lang/IllegalArgumentException" 7 prog_19_method_2_code "java/lang/RuntimeException" ["java/lang/Exception"]).filter vx_no, w ∈ Tb ∨ w ∈ nestT := by
  intro w hw
  obtain ⟨hw, hno⟩ := List.mem_filter.mp hw
  simp only [nx_at, Bundle.throwableAtoms, Bundle.throwableSAtoms, Bundle.passSAtoms, Bundle.chainSAtoms, List.mem_append, List.mem_cons, List.not_mem_nil, or_false, or_assoc] at hw
  rcases hw with rfl | rfl | rfl | rfl | rfl | rfl | rfl | rfl | rfl | rfl | rfl | rfl | rfl | rfl | rfl | rfl | rfl | rfl | rfl | rfl | rfl | rfl | rfl | rfl | rfl | rfl | rfl | rfl | rfl | rfl | rfl | rfl | rfl | rfl | rfl | rfl | rfl | rfl | rfl | rfl | rfl | rfl | rfl | rfl | rfl | rfl | rfl | rfl | rfl | rfl | rfl | rfl | rfl | rfl | rfl | rfl | rfl
  · exact Or.inl (tb_1 12 rfl rfl)
  · exact Or.inl (tb_3 44 rfl rfl)
  · exact Or.inl (tb_3 53 rfl rfl)
  · exact Or.inl (tb_3 56 rfl rfl)
  · exact Or.inl (tb_3 59 rfl rfl)
  · exact Or.inl (tb_3 61 rfl rfl)
  · exact Or.inl (tb_3 45 rfl rfl)
  · exact Or.inl (tb_3 46 rfl rfl)
  · exact Or.inl (tb_1 32 rfl rfl)
  · exact Or.inl (tb_1 33 rfl rfl)
  · exact Or.inl (tb_3 47 rfl rfl)
  · exact Or.inl (tb_3 52 rfl rfl)
  · exact Or.inl (tb_3 57 rfl rfl)
  · exact Or.inl (tb_3 77 rfl rfl)
  · exact Or.inl (tb_3 34 rfl rfl)
  · exact Or.inl (tb_3 78 rfl rfl)
  · exact Or.inl (tb_3 36 rfl rfl)
  · exact Or.inl (tb_3 79 rfl rfl)
  · exact Or.inl (tb_3 38 rfl rfl)
  · exact Or.inl (tb_3 48 rfl rfl)
  · exact absurd hno (by decide +kernel)
  · exact Or.inl (tb_3 50 rfl rfl)
  · exact absurd hno (by decide +kernel)
  · exact Or.inl (tb_3 40 rfl rfl)
  · exact Or.inl (tb_3 73 rfl rfl)
  · exact Or.inl (tb_3 74 rfl rfl)
  · exact Or.inl (tb_3 76 rfl rfl)
  · exact Or.inl (tb_3 40 rfl rfl)
  · exact Or.inl (tb_3 64 rfl rfl)
  · exact Or.inl (tb_3 65 rfl rfl)
  · exact Or.inl (tb_3 66 rfl rfl)
  · exact Or.inl (tb_3 67 rfl rfl)
  · exact Or.inr (nt_3 26 rfl rfl)
  · exact Or.inl (tb_3 67 rfl rfl)
  · exact Or.inl (tb_3 68 rfl rfl)
  · exact Or.inl (tb_3 69 rfl rfl)
  · exact Or.inl (tb_3 70 rfl rfl)
  · exact Or.inr (nt_3 28 rfl rfl)
  · exact Or.inl (tb_3 70 rfl rfl)
  · exact Or.inl (tb_3 71 rfl rfl)
  · exact Or.inl (tb_3 72 rfl rfl)
  · exact Or.inl (tb_3 73 rfl rfl)
  · exact Or.inr (nt_3 30 rfl rfl)
  · exact Or.inl (tb_3 63 rfl rfl)
  · exact Or.inl (tb_3 23 rfl rfl)
  · exact Or.inr (nt_3 24 rfl rfl)
  · exact Or.inl (tb_3 31 rfl rfl)
  · exact Or.inl (tb_3 32 rfl rfl)
  · exact Or.inl (tb_3 33 rfl rfl)
  · exact Or.inl (tb_3 35 rfl rfl)
  · exact Or.inl (tb_3 37 rfl rfl)
  · exact Or.inl (tb_3 39 rfl rfl)
  · exact absurd hno (by decide +kernel)
  · exact absurd hno (by decide +kernel)
  · exact Or.inl (tb_3 43 rfl rfl)
  · exact Or.inl (tb_3 42 rfl rfl)
  · exact Or.inl (tb_3 41 rfl rfl)
abbrev MR : Type := (Option Value × PS) ⊕ (Nat × PS)
/-- a method that returns or throws; cells and slots that it may make -/
def Mx (l : Launch) (G : GT) (y : MethodName) (cc : ByteArray) (maxL : Nat) (ret : Option FieldType) (d mc ms : Nat) (ρ : Nat → Nat) (Y : XS) (As : List Value) (S : PS) (r : MR) : Prop :=
  ∀ sz : Nat, vx_Met l y (.code y cc maxL ret :: Tb) (rmd d mc ms) (va_Pc As (fun U => U.heap.size = sz ∧ Wd G ρ Y S U)) (fun _ st oc t => ∃ v S', r = .inl (v, S') ∧ oc = .returned v ∧ Wd G ρ Y S' t ∧ va_F (aA ρ (nX Y) sz) st t) (fun E st t => ∃ c S', r = .inr (c, S') ∧ E = exN c ∧ (Wc G ρ Y S' t.heap ∧ WT Y S') ∧ va_F (aA ρ (nX Y) sz) st t) mc ms (aA ρ (nX Y) sz)
/-- an exception that a callee threw, over the frame -/
def Thr (C : CT) (X : XT) (S : PS) (k : Nat) : Prop := match C, X with
  | (p, l, e, R, s, m, args, below, meth, c, Q, G, A), (ρ, Y, cells, slots) => ∀ (H : Heap) (locs : List Loc) (ls : Array Slot) (pc : Nat) (rest : List Value) (q : Addr) (ce : Cell), XO (p, l, e, R, s, m, args, below, meth, c, Q, G, A) (ρ, Y, cells, slots) → Wc G ρ Y S H → va_S A s.heap H locs → WT Y S → H[q]? = some ce → ce.vm = .none → s.vm.findClass (exN k) = some ce.cls → ls.size = c.maxLocals → vx_W p l e R s m args below meth c H locs cells slots Q (F0 m pc ls rest) q
def XB (C : CT) (X : XT) (mc ms : Nat) : Prop := X.2.2.1 + mc ≤ C.2.2.2.1.cells ∧ X.2.2.2 + ms ≤ C.2.2.2.1.slots
section UX
variable {C : CT} {X : XT} {S : PS} {own : String} {cc : ByteArray} {nL d : Nat} {ret : Option FieldType} {pc : Nat} {lv : List (Nat × Value)} {rest : List Value}
variable {y : MethodName} {cc' : ByteArray} {maxL' d' np idx mc ms : Nat} {ret' : Option FieldType} {As : List Value} {r : MR}
theorem u_afterX (hC : CK C own cc nL ret d) {H : Heap} {locs : List Loc} {ls : Array Slot} {st : List Value} (hX : XO C X) (hB : XB C X mc ms) (hS : va_S C.2.2.2.2.2.2.2.2.2.2.2.2 C.2.2.2.2.1.heap H locs) (hl : lv_has ls C.2.2.2.2.2.2.2.2.2.1.maxLocals lv)
    (hr : vx_Run C.1 C.2.1 C.2.2.1 C.2.2.2.1 C.2.2.2.2.1 C.2.2.2.2.2.1 C.2.2.2.2.2.2.1 C.2.2.2.2.2.2.2.1 C.2.2.2.2.2.2.2.2.1 C.2.2.2.2.2.2.2.2.2.1 H locs X.2.2.1 X.2.2.2 mc ms (F0 C.2.2.2.2.2.1 pc ls st) rest (fun st0 oc t => ∃ v S', r = .inl (v, S') ∧ oc = .returned v ∧ Wd (cG C) X.1 X.2.1 S' t ∧ va_F (aA X.1 (nX X.2.1) H.size) st0 t) (fun E st t => ∃ c S', r = .inr (c, S') ∧ E = exN c ∧ (Wc (cG C) X.1 X.2.1 S' t.heap ∧ WT X.2.1 S') ∧ va_F (aA X.1 (nX X.2.1) H.size) st t) (aA X.1 (nX X.2.1) H.size))
    (kr : ∀ v S', r = .inl (v, S') → UW C (X.1, X.2.1, X.2.2.1 + mc, X.2.2.2 + ms) S' (pc + 3) lv (v.toList ++ rest))
    (kt : ∀ k S', r = .inr (k, S') → Thr C (X.1, X.2.1, X.2.2.1 + mc, X.2.2.2 + ms) S' k) : W C.1 C.2.1 C.2.2.1 C.2.2.2.1 C.2.2.2.2.1 C.2.2.2.2.2.1 C.2.2.2.2.2.2.1 C.2.2.2.2.2.2.2.1 C.2.2.2.2.2.2.2.2.1 C.2.2.2.2.2.2.2.2.2.1 H locs X.2.2.1 X.2.2.2 C.2.2.2.2.2.2.2.2.2.2.1 (F0 C.2.2.2.2.2.1 pc ls st) := by
  obtain ⟨p, l, e, R, s, m, args, below, meth, c, Q, G, A⟩ := C
  obtain ⟨ρ, Y, cells, slots⟩ := X
  have hA1 : ∀ q, s.heap.size ≤ q → A q := hC.2.2.2.2.2.2.1
  have hX' : XO (p, l, e, R, s, m, args, below, meth, c, Q, G, A) (ρ, Y, cells + mc, slots + ms) := ⟨hX.1, hX.2.1, hX.2.2.1, hB.1, hB.2⟩
  have hAA : ∀ q, aA ρ (nX Y) H.size q → A q := by
    rintro q (⟨a, ha, rfl⟩ | hq)
    · exact hX.2.1 a ha
    · exact hA1 q (Nat.le_trans hS.1 hq)
  intro T hT0 X0
  rcases hr T hT0 X0 with ⟨v', st₀, t, T', L, h0, Xs, hL, e1, e2, ⟨v, S', hr', hv, hWd, hF⟩, st⟩ | ⟨q, st₀, t, T', L, E, ce, h0, Xs, hL, e1, e2, ⟨k, S', hr', rfl, hWd, hF⟩, hce, hcv, hcl, st⟩
  · cases hv
    obtain ⟨k1, k2, k3⟩ := vx_keep h0 e1 hS (fun q _ h => hAA q h) hAA hL hF
    obtain ⟨t2, a1, b1⟩ := kr _ _ hr' T'.heap (locs ++ L) ls hX' (by rw [e1]; exact hWd.1) k3 hl hWd.2.2.1 T' rfl Xs
    exact ⟨t2, st t2 a1, b1⟩
  · obtain ⟨k1, k2, k3⟩ := vx_keep h0 e1 hS (fun q _ h => hAA q h) hAA hL hF
    obtain ⟨t2, a1, b1⟩ := kt _ _ hr' T'.heap (locs ++ L) ls pc rest q ce hX' (by rw [e1]; exact hWd.1) k3 hWd.2 (by rw [e1]; exact hce) hcv hcl hl.1 T' rfl Xs
    exact ⟨t2, st.trans a1, b1⟩
theorem u_callVX (hC : CK C own cc nL ret d) (hM : Mx (cL C) (cG C) y cc' maxL' ret' d' mc ms X.1 X.2.1 As S r) (hB : XB C X mc ms) (hL : Lv own idx y cc' maxL' ret' np) {a ci : Nat} {Bs : List Value} (hAs : As = .ref (X.1 a) :: Bs) (hTa : Ty X.2.1 a ci) (hci : ci < 12) (hcl : y.cls = cN ci) (hd' : d' + 1 ≤ d) (hm : 19 + maxL' ≤ 128) (hn : Bs.length = np) {st : List Value} (hst : st = Bs.reverse ++ .ref (X.1 a) :: rest) (hW : (rest.map fun v => v.category).sum ≤ 8) (hdg : decode cc pc = .ok (.invokevirtual idx, 3))
    (kr : ∀ v S', r = .inl (v, S') → UW C (X.1, X.2.1, X.2.2.1 + mc, X.2.2.2 + ms) S' (pc + 3) lv (v.toList ++ rest)) (kt : ∀ k S', r = .inr (k, S') → Thr C (X.1, X.2.1, X.2.2.1 + mc, X.2.2.2 + ms) S' k) : UW C X S pc lv st := by
  obtain ⟨p, l, e, R, s, m, args, below, meth, c, Q, G, A⟩ := C
  obtain ⟨ρ, Y, cells, slots⟩ := X
  intro H locs ls hX hP hS hl hT
  subst hAs
  obtain ⟨⟨h1, h2, h3, h4⟩, h5, h6⟩ := hL
  have hts : ∀ w ∈ Tb, w.before args s = true := hC.2.2.2.2.1
  have hR1 : d ≤ R.frames := hC.2.2.2.2.2.2.2.2.2.2.1
  have hR2 : 128 * d ≤ R.locals := hC.2.2.2.2.2.2.2.2.2.2.2.1
  have hrecv : ∃ cell : Cell, H[ρ a]? = some cell ∧ cell.vm.isStatics = false ∧ s.vm.findClass y.cls = some cell.cls := by
    obtain ⟨dC, dI, cy, B0, sK, sV⟩ := G
    rw [hcl]
    exact va_recv (q := (cN ci, cT ci, nf ci)) hC.2.2.2.2.2.1.1 hP (cls_at ci hci) (q0 := a) (fs := ov ρ S ci a) (by rw [wl_at hTa.1, cf_obj hTa.2 hci])
  refine u_afterX (X := (ρ, Y, cells, slots)) (r := r) (rest := rest) hC hX hB hS hl ?_ kr kt
  exact vx_runV (As := Bs) (rest := rest) (C := y.cls) (b := ρ a) ⟨hC.1, hC.2.1, hC.2.2.1, hC.2.2.2.1, hts⟩ (hM H.size) ⟨callB_of np hts (Tb_goodC h3) rfl rfl rfl (hts _ h2) (hts _ h1) h4 ⟨by show d' + 1 ≤ R.frames; omega, by show 8 + (maxL' + 11) + 128 * d' ≤ R.locals; omega⟩, hts _ h5, hts _ h6⟩ ⟨fb_Wd, hrecv, fun U hU hW' => ⟨rfl, by rw [hU], Wd_at (X := (ρ, Y, cells, slots)) hC hX hP hS hT U hU hW'⟩⟩ rfl hn (hl.1.trans hC.2.2.1) hst (lv_room hW) hdg ⟨hB.1, hB.2⟩
theorem u_callSX (hC : CK C own cc nL ret d) (hM : Mx (cL C) (cG C) y cc' maxL' ret' d' mc ms X.1 X.2.1 As S r) (hB : XB C X mc ms) (hL : Ls own idx y cc' maxL' ret' np) (hd' : d' + 1 ≤ d) (hm : 19 + maxL' ≤ 128) (hn : As.length = np) {st : List Value} (hst : st = As.reverse ++ rest) (hW : (rest.map fun v => v.category).sum ≤ 8) (hdg : decode cc pc = .ok (.invokestatic idx, 3))
    (kr : ∀ v S', r = .inl (v, S') → UW C (X.1, X.2.1, X.2.2.1 + mc, X.2.2.2 + ms) S' (pc + 3) lv (v.toList ++ rest)) (kt : ∀ k S', r = .inr (k, S') → Thr C (X.1, X.2.1, X.2.2.1 + mc, X.2.2.2 + ms) S' k) : UW C X S pc lv st := by
  obtain ⟨p, l, e, R, s, m, args, below, meth, c, Q, G, A⟩ := C
  obtain ⟨ρ, Y, cells, slots⟩ := X
  intro H locs ls hX hP hS hl hT
  obtain ⟨⟨h1, h2, h3, h4⟩, h5⟩ := hL
  have hts : ∀ w ∈ Tb, w.before args s = true := hC.2.2.2.2.1
  have hR1 : d ≤ R.frames := hC.2.2.2.2.2.2.2.2.2.2.1
  have hR2 : 128 * d ≤ R.locals := hC.2.2.2.2.2.2.2.2.2.2.2.1
  refine u_afterX (X := (ρ, Y, cells, slots)) (r := r) (rest := rest) hC hX hB hS hl ?_ kr kt
  exact vx_runS (As := As) (rest := rest) ⟨hC.1, hC.2.1, hC.2.2.1, hC.2.2.2.1, hts⟩ (hM H.size) ⟨callB_of np hts (Tb_goodC h3) rfl rfl rfl (hts _ h2) (hts _ h1) h4 ⟨by show d' + 1 ≤ R.frames; omega, by show 8 + (maxL' + 11) + 128 * d' ≤ R.locals; omega⟩, hts _ h5⟩ ⟨fb_Wd, fun U hU hW' => ⟨rfl, by rw [hU], Wd_at (X := (ρ, Y, cells, slots)) hC hX hP hS hT U hU hW'⟩⟩ rfl hn (hl.1.trans hC.2.2.1) hst (lv_room hW) hdg ⟨hB.1, hB.2⟩
end UX
/-- 'throw new E(text i)' at pc -/
def thd (cc : ByteArray) (pc k i : Nat) : Prop := i < nStr ∧ strO i = "SharedPurse" ∧ decode cc pc = .ok (.new (exK k), 3) ∧ decode cc (pc + 3) = .ok (.dup, 1) ∧
  ((decode cc (pc + 4) = .ok (.ldc (strI i), 2) ∧ decode cc (pc + 6) = .ok (.invokespecial (exI k), 3) ∧ decode cc (pc + 9) = .ok (.athrow, 1)) ∨ (decode cc (pc + 4) = .ok (.ldc_w (strI i), 3) ∧ decode cc (pc + 7) = .ok (.invokespecial (exI k), 3) ∧ decode cc (pc + 10) = .ok (.athrow, 1)))
/-- the ends of a method that returns or throws -/
def RtX (C : CT) (ρ : Nat → Nat) (Y : XS) (cc : ByteArray) (ret : Option FieldType) (mc ms : Nat) (r : MR) : Prop := ∀ v S', r = .inl (v, S') → ∀ k z, k ≤ mc → z ≤ ms → Rt C (ρ, Y, k, z) cc ret v S'
def ThO (C : CT) (ρ : Nat → Nat) (Y : XS) (cc : ByteArray) (mc ms : Nat) (r : MR) : Prop := ∀ e S', r = .inr (e, S') → (e = 1 ∨ e = 2) → ∀ k z, k + 1 ≤ mc → z + 6 ≤ ms → ∀ pc lv i, thd cc pc e i → UW C (ρ, Y, k, z) S' pc lv []
def ThP (C : CT) (ρ : Nat → Nat) (Y : XS) (mc ms : Nat) (r : MR) : Prop := ∀ e S', r = .inr (e, S') → ∀ k z, k ≤ mc → z ≤ ms → Thr C (ρ, Y, k, z) S' e
set_option maxHeartbeats 2000000 in
theorem Mx_of {l : Launch} {G : GT} {y : MethodName} {cc : ByteArray} {maxL : Nat} {ret : Option FieldType} {d mc ms : Nat} {ρ : Nat → Nat} {Y : XS} {As : List Value} {S : PS} {r : MR} (hl0 : l.stackTraces = false) (hy : plainName y.cls = true) (hys : y.cls = "SharedPurse") (hd6 : 6 ≤ d) (hlen : (lg_sl As).length ≤ maxL)
    (body : ∀ (C : CT), cL C = l → cG C = G → CK C y.cls cc maxL ret d → XB C (ρ, Y, 0, 0) mc ms → RtX C ρ Y cc ret mc ms r → ThO C ρ Y cc mc ms r → ThP C ρ Y mc ms r → UW C (ρ, Y, 0, 0) S 0 (lv_args 0 As) []) : Mx l G y cc maxL ret d mc ms ρ Y As S r := by
  intro sz
  refine vx_ofW (cc := cc) (maxL := maxL) (ret := ret) hy rfl ?_
  intro p e s m args below meth c s₁ B hml hnot hv
  obtain ⟨rfl, hsz, hW⟩ := hv
  have hx := B.exec
  have hb := B.bytes
  have hr := B.returns
  have hts := atoms_spec (ws := .code y cc maxL ret :: Tb) B.pre
  have hown : s.vm.findClass y.cls = some m.cls := findClass_of_methodNamed B.named
  have hlocks := B.notSynchronized
  subst hsz
  have hl := lv_entry As (n := maxL) hlen
  rw [lg_entry_eq]
  generalize (lg_sl As ++ List.replicate (maxL - (lg_sl As).length) Slot.unset).toArray = ls at hl ⊢
  generalize hQc : (fun (_ : Array Value) (st : State) (oc : Outcome) (t : State) => ∃ v S', r = .inl (v, S') ∧ oc = .returned v ∧ Wd G ρ Y S' t ∧ va_F (aA ρ (nX Y) s.heap.size) st t) = Qc
  generalize hXC : (fun (E : String) (st t : State) => ∃ c S', r = .inr (c, S') ∧ E = exN c ∧ (Wc G ρ Y S' t.heap ∧ WT Y S') ∧ va_F (aA ρ (nX Y) s.heap.size) st t) = XC
  have hC : CK (p, l, e, rmd d mc ms, s, m, As.toArray, below, meth, c, vx_MQ below Qc XC As.toArray s mc ms (aA ρ (nX Y) s.heap.size), G, aA ρ (nX Y) s.heap.size) y.cls cc maxL ret d := by
    refine ⟨hx, hb, hml, hown, fun w h => hts w (List.mem_cons_of_mem _ h), hW.2.1, fun q h => Or.inr h, ?_, hlocks, hr, Nat.le_refl _, Nat.le_refl _, hl0⟩
    rintro q (⟨a, ha, rfl⟩ | h)
    · exact hW.2.2.2.2.1 a ha
    · exact Nat.le_trans hW.2.2.2.2.2 h
  have hX : XO (p, l, e, rmd d mc ms, s, m, As.toArray, below, meth, c, vx_MQ below Qc XC As.toArray s mc ms (aA ρ (nX Y) s.heap.size), G, aA ρ (nX Y) s.heap.size) (ρ, Y, 0, 0) := ⟨hW.2.2.2.1, fun a ha => Or.inl ⟨a, ha, rfl⟩, hW.2.2.2.2.1, Nat.zero_le _, Nat.zero_le _⟩
  have hK : Kw G s s.heap := hW.2.1
  have hwd : ∀ w ∈ Tb, w.before As.toArray s = true := fun w h => hts w (List.mem_cons_of_mem _ h)
  refine body _ rfl rfl hC ⟨by show 0 + mc ≤ mc; omega, by show 0 + ms ≤ ms; omega⟩ ?_ ?_ ?_ s.heap [] ls hX hW.1 va_S.rf (by rw [hml]; exact hl) hW.2.2.1
  · intro v S' hr' k z hk hz pc lv hdec hok H locs ls hX hP hS hl hT
    refine W.widen hk hz ?_
    refine vx_ret ?_
    have hq : ∀ t : State, t.heap = H → s.WarmedH t.vm → Qc As.toArray s (.returned v) t := fun t ht hWt => by
      rw [← hQc]
      exact ⟨v, S', hr', rfl, Wd_at (X := (ρ, Y, k, z)) hC hX hP hS hT t ht hWt, hS.F ht⟩
    match ret, v, hok, hdec, hr, hq with
    | none, none, _, hdec, hr, hq => exact W.vret hx hb hr hq hS.2.2 hdec
    | some .int, some (.int _), _, hdec, hr, hq => exact W.iret hx hb hr hq hS.2.2 hdec
    | some .boolean, some (.int x), hok, hdec, hr, hq => exact W.zret hx hb hr (by rcases hok with rfl | rfl <;> rfl) hq hS.2.2 hdec
    | some .long, some (.long _), _, hdec, hr, hq => exact W.lret hx hb hr hq hS.2.2 hdec
    | some .char, some (.int x), hok, hdec, hr, hq => exact W.zret hx hb hr hok hq hS.2.2 hdec
    | some .byte, some (.int x), hok, hdec, hr, hq => exact W.zret hx hb hr hok hq hS.2.2 hdec
    | some (.object _), some (.ref _), _, hdec, hr, hq => exact W.aret hx hb hr (Or.inl ⟨_, rfl⟩) (Or.inr ⟨_, rfl⟩) hq hS.2.2 hdec
  · intro ec S' hr' hec k z hk hz pc lv i hth H locs ls hX hP hS hl hT
    obtain ⟨hi, ho, t0, t3, tt⟩ := hth
    obtain ⟨dC, dI, cy, B0, sK, sV⟩ := G
    have hAB : ∀ q, aA ρ (nX Y) s.heap.size q → B0 ≤ q := hC.2.2.2.2.2.2.2.1
    have hstr : vk_R (strO i) (strI i) (strT i) (sK i) s := hK.2.2.1 i hi
    rw [ho] at hstr
    have hU := hK.2.2.2.2.1.1.narrow hAB
    have hN := hK.2.2.2.2.1.2.narrow hAB
    rw [hys] at hown
    have hend : ∀ t : State, s.vm.Alike t.vm → H.size ≤ t.heap.size → (∀ q : Nat, q < H.size → t.heap[q]? = H[q]?) → XC (exN ec) s t := by
      intro t _ hz2 hq2
      rw [← hXC]
      refine ⟨ec, S', hr', rfl, ⟨?_, hT⟩, Nat.le_trans hS.1 hz2, fun q h1 h2 => ?_⟩
      · exact va_P.kept hP (fun k' x hx' => hq2 x.1 ((hP k' x hx').lt))
      · rw [hq2 q (Nat.lt_of_lt_of_le h1 hS.1)]
        exact hS.2.1 q h1 h2
    have hlsz : ls.size = c.maxLocals := hl.1
    have hfr : (["java/lang/Exception"] : List String).length + 4 < (rmd d mc ms).frames := by show 1 + 4 < d; omega
    have hlo : ((([] : List Value).map fun v => v.category).sum + (13 * ((["java/lang/Exception"] : List String).length + 2) + 43) ≤ (rmd d mc ms).locals) := by show 0 + (13 * (1 + 2) + 43) ≤ 128 * d; omega
    have hnest : ∀ w ∈ nestT, va_Nw w s := hK.2.1
    rcases hec with rfl | rfl
    · have hat : ∀ w ∈ (nx_at "SharedPurse" 189 "java/util/NoSuchElementException" 13 prog_31_method_4_code "java/lang/RuntimeException" ["java/lang/Exception"]).filter vx_no, w.before As.toArray s = true := fun w h => be_of hwd hnest (nxw_1 w h)
      have hgood : ∀ w ∈ Cond.classLink "SharedPurse" 185 "java/util/NoSuchElementException" :: Cond.initialized "java/util/NoSuchElementException" :: (nx_at "SharedPurse" 189 "java/util/NoSuchElementException" 13 prog_31_method_4_code "java/lang/RuntimeException" ["java/lang/Exception"]).filter vx_no, vx_ot w = true := by
        intro w h
        rcases List.mem_cons.mp h with rfl | h
        · rfl
        rcases List.mem_cons.mp h with rfl | h
        · rfl
        exact ot_of (nxw_1 w h)
      rcases tt with ⟨t4, t6, t9⟩ | ⟨t4, t7, t10⟩
      · exact nx_throwS (own := "SharedPurse") (cls := "java/util/NoSuchElementException") (i1 := 13) (b1 := prog_31_method_4_code) (sup := "java/lang/RuntimeException") (names := ["java/lang/Exception"]) (ik := 185) (ic := 189) hx hb hl0 hown (by decide +kernel) (by decide +kernel) (by decide +kernel) (by decide +kernel) (by decide +kernel) (by decide +kernel) (by decide +kernel) (hwd _ (tb_4 61 rfl rfl)) (hwd _ (tb_1 24 rfl rfl)) hstr hat hgood hU hN hS hlsz t0 t3 t4 t6 t9 (fun x hx => (hnot x hx).elim) hfr hlo hk hz hlocks hend hS.2.2 hk hz
      · exact nx_throwSW (own := "SharedPurse") (cls := "java/util/NoSuchElementException") (i1 := 13) (b1 := prog_31_method_4_code) (sup := "java/lang/RuntimeException") (names := ["java/lang/Exception"]) (ik := 185) (ic := 189) hx hb hl0 hown (by decide +kernel) (by decide +kernel) (by decide +kernel) (by decide +kernel) (by decide +kernel) (by decide +kernel) (by decide +kernel) (hwd _ (tb_4 61 rfl rfl)) (hwd _ (tb_1 24 rfl rfl)) hstr hat hgood hU hN hS hlsz t0 t3 t4 t7 t10 (fun x hx => (hnot x hx).elim) hfr hlo hk hz hlocks hend hS.2.2 hk hz
    · have hat : ∀ w ∈ (nx_at "SharedPurse" 87 "java/lang/IllegalArgumentException" 7 prog_19_method_2_code "java/lang/RuntimeException" ["java/lang/Exception"]).filter vx_no, w.before As.toArray s = true := fun w h => be_of hwd hnest (nxw_2 w h)
      have hgood : ∀ w ∈ Cond.classLink "SharedPurse" 83 "java/lang/IllegalArgumentException" :: Cond.initialized "java/lang/IllegalArgumentException" :: (nx_at "SharedPurse" 87 "java/lang/IllegalArgumentException" 7 prog_19_method_2_code "java/lang/RuntimeException" ["java/lang/Exception"]).filter vx_no, vx_ot w = true := by
        intro w h
        rcases List.mem_cons.mp h with rfl | h
        · rfl
        rcases List.mem_cons.mp h with rfl | h
        · rfl
        exact ot_of (nxw_2 w h)
      rcases tt with ⟨t4, t6, t9⟩ | ⟨t4, t7, t10⟩
      · exact nx_throwS (own := "SharedPurse") (cls := "java/lang/IllegalArgumentException") (i1 := 7) (b1 := prog_19_method_2_code) (sup := "java/lang/RuntimeException") (names := ["java/lang/Exception"]) (ik := 83) (ic := 87) hx hb hl0 hown (by decide +kernel) (by decide +kernel) (by decide +kernel) (by decide +kernel) (by decide +kernel) (by decide +kernel) (by decide +kernel) (hwd _ (tb_3 22 rfl rfl)) (hwd _ (tb_1 15 rfl rfl)) hstr hat hgood hU hN hS hlsz t0 t3 t4 t6 t9 (fun x hx => (hnot x hx).elim) hfr hlo hk hz hlocks hend hS.2.2 hk hz
      · exact nx_throwSW (own := "SharedPurse") (cls := "java/lang/IllegalArgumentException") (i1 := 7) (b1 := prog_19_method_2_code) (sup := "java/lang/RuntimeException") (names := ["java/lang/Exception"]) (ik := 83) (ic := 87) hx hb hl0 hown (by decide +kernel) (by decide +kernel) (by decide +kernel) (by decide +kernel) (by decide +kernel) (by decide +kernel) (by decide +kernel) (hwd _ (tb_3 22 rfl rfl)) (hwd _ (tb_1 15 rfl rfl)) hstr hat hgood hU hN hS hlsz t0 t3 t4 t7 t10 (fun x hx => (hnot x hx).elim) hfr hlo hk hz hlocks hend hS.2.2 hk hz
  · intro ec S' hr' k z hk hz H locs ls pc rest q ce hX hP hS hT hce hcv hcl hls
    refine vx_out (fun x hx => (hnot x hx).elim) hlocks hce hcv hcl (fun t ht hal => ?_) hS.2.2 hk hz
    rw [← hXC]
    exact ⟨ec, S', hr', rfl, ⟨by rw [ht]; exact hP, hT⟩, hS.F ht⟩
