/-! contracts and calls -/
def cL (C : CT) : Launch := C.2.1
def cG (C : CT) : GT := C.2.2.2.2.2.2.2.2.2.2.2.1
/-- a method that makes nothing: from the heap S, with these arguments, it answers v and leaves the heap S' -/
def Mt (l : Launch) (G : GT) (y : MethodName) (cc : ByteArray) (maxL : Nat) (ret : Option FieldType) (d : Nat) (ρ : Nat → Nat) (Y : XS) (As : List Value) (S : PS) (v : Option Value) (S' : PS) : Prop :=
  ∀ sz : Nat, Met l y (.code y cc maxL ret :: Tb) (rmd d 0 0) (va_Pc As (fun U => U.heap.size = sz ∧ Wd G ρ Y S U)) (fun _ st oc t => oc = .returned v ∧ Wd G ρ Y S' t ∧ va_F (aA ρ (nX Y) sz) st t) 0 0 (aA ρ (nX Y) sz)
def Lm (own : String) (idx : Nat) (y : MethodName) (cc : ByteArray) (maxL : Nat) (ret : Option FieldType) (np : Nat) : Prop :=
  Cond.methodLink own idx y ∈ Tb ∧ Cond.initialized y.cls ∈ Tb ∧ Cond.code y cc maxL ret ∈ Tb ∧ (y.cls ≠ "java/lang/invoke/MethodHandle" ∧ y.cls ≠ "java/lang/invoke/VarHandle" ∧ (parseMethodDescriptor y.desc).map (fun d => d.parameters.length) = some np)
def Lv (own : String) (idx : Nat) (y : MethodName) (cc : ByteArray) (maxL : Nat) (ret : Option FieldType) (np : Nat) : Prop := Lm own idx y cc maxL ret np ∧ Cond.instanceMethod y ∈ Tb ∧ Cond.selects y.cls y y ∈ Tb
def Ls (own : String) (idx : Nat) (y : MethodName) (cc : ByteArray) (maxL : Nat) (ret : Option FieldType) (np : Nat) : Prop := Lm own idx y cc maxL ret np ∧ Cond.static y ∈ Tb
def Ln (own : String) (idx : Nat) (y : MethodName) (cc : ByteArray) (maxL : Nat) (ret : Option FieldType) (np : Nat) (host : String) : Prop :=
  Cond.methodLinkNest own idx y host ∈ nestT ∧ Cond.initialized y.cls ∈ Tb ∧ Cond.code y cc maxL ret ∈ Tb ∧ (y.cls ≠ "java/lang/invoke/MethodHandle" ∧ y.cls ≠ "java/lang/invoke/VarHandle" ∧ (parseMethodDescriptor y.desc).map (fun d => d.parameters.length) = some np)
theorem Tb_good : ∀ w ∈ Tb, w ∈ Tb ∧ ((w.onTables && w.keeps) = true ∨ ∃ ty, w = .arrayClass ty) := fun w h => ⟨h, good_of_word (List.mem_filter.mp h).2⟩
theorem Tb_goodC {w : Cond} (hw : w ∈ Tb) : GoodIn Tb (w :: Tb) := fun w' h => (List.mem_cons.mp h).elim (fun e => e ▸ Tb_good w hw) (Tb_good w')
theorem fb_Wd {G : GT} {ρ : Nat → Nat} {Y : XS} {S : PS} {As : List Value} {sz : Nat} : FrameBlind (va_Pc As (fun U => U.heap.size = sz ∧ Wd G ρ Y S U)) := fun _ U g mk q => ⟨q.1, q.2.1, Wd.same (s := U) rfl rfl q.2.2⟩
/-- the world as a callee finds it -/
theorem Wd_at {C : CT} {X : XT} {S : PS} {own : String} {cc : ByteArray} {nL d : Nat} {ret : Option FieldType} (hC : CK C own cc nL ret d) {H : Heap} {locs : List Loc} (hX : XO C X) (hP : Wc (cG C) X.1 X.2.1 S H) (hS : va_S C.2.2.2.2.2.2.2.2.2.2.2.2 C.2.2.2.2.1.heap H locs) (hT : WT X.2.1 S) (U : State) (hU : U.heap = H) (hW : C.2.2.2.2.1.WarmedH U.vm) : Wd (cG C) X.1 X.2.1 S U := by
  obtain ⟨p, l, e, R, s, m, args, below, meth, c, Q, G, A⟩ := C
  obtain ⟨ρ, Y, cells, slots⟩ := X
  have hK : Kw G s s.heap := hC.2.2.2.2.2.1
  have hA1 : ∀ q, s.heap.size ≤ q → A q := hC.2.2.2.2.2.2.1
  have hA2 : ∀ q, A q → gB G ≤ q := hC.2.2.2.2.2.2.2.1
  refine ⟨by rw [hU]; exact hP, by rw [hU]; exact (hK.kept (fun a h1 h2 => hS.2.1 a h1 (fun h => h2 (hA2 a h)))).warm hW, hT, hX.1, hX.2.2.1, ?_⟩
  rw [hU]
  exact Nat.le_trans (hA2 _ (hA1 _ (Nat.le_refl _))) hS.1
section UC
variable {C : CT} {X : XT} {S : PS} {own : String} {cc : ByteArray} {nL d : Nat} {ret : Option FieldType} {pc : Nat} {lv : List (Nat × Value)} {rest : List Value}
variable {y : MethodName} {cc' : ByteArray} {maxL' d' np idx : Nat} {ret' : Option FieldType} {As : List Value} {v : Option Value} {S' : PS}
/-- behind a call -/
theorem u_after (hC : CK C own cc nL ret d) {H : Heap} {locs : List Loc} {ls : Array Slot} {st : List Value} (hX : XO C X) (hS : va_S C.2.2.2.2.2.2.2.2.2.2.2.2 C.2.2.2.2.1.heap H locs) (hl : lv_has ls C.2.2.2.2.2.2.2.2.2.1.maxLocals lv)
    (hr : va_Run C.1 C.2.1 C.2.2.1 C.2.2.2.1 C.2.2.2.2.1 C.2.2.2.2.2.1 C.2.2.2.2.2.2.1 C.2.2.2.2.2.2.2.1 C.2.2.2.2.2.2.2.2.1 C.2.2.2.2.2.2.2.2.2.1 H locs X.2.2.1 X.2.2.2 0 0 (F0 C.2.2.2.2.2.1 pc ls st) rest (fun st0 oc t => oc = .returned v ∧ Wd (cG C) X.1 X.2.1 S' t ∧ va_F (aA X.1 (nX X.2.1) H.size) st0 t) (aA X.1 (nX X.2.1) H.size))
    (k : UW C X S' (pc + 3) lv (v.toList ++ rest)) : W C.1 C.2.1 C.2.2.1 C.2.2.2.1 C.2.2.2.2.1 C.2.2.2.2.2.1 C.2.2.2.2.2.2.1 C.2.2.2.2.2.2.2.1 C.2.2.2.2.2.2.2.2.1 C.2.2.2.2.2.2.2.2.2.1 H locs X.2.2.1 X.2.2.2 C.2.2.2.2.2.2.2.2.2.2.1 (F0 C.2.2.2.2.2.1 pc ls st) := by
  obtain ⟨p, l, e, R, s, m, args, below, meth, c, Q, G, A⟩ := C
  obtain ⟨ρ, Y, cells, slots⟩ := X
  have hA1 : ∀ q, s.heap.size ≤ q → A q := hC.2.2.2.2.2.2.1
  intro T hT0 X0
  obtain ⟨v', st₀, t, T', L, h0, X', hL, e1, e2, ⟨hv, hWd, hF⟩, st⟩ := hr T hT0 X0
  cases hv
  have hAA : ∀ q, aA ρ (nX Y) H.size q → A q := by
    rintro q (⟨a, ha, rfl⟩ | hq)
    · exact hX.2.1 a ha
    · exact hA1 q (Nat.le_trans hS.1 hq)
  obtain ⟨k1, k2, k3⟩ := vx_keep h0 e1 hS (fun q _ h => hAA q h) hAA hL hF
  obtain ⟨t2, a1, b1⟩ := k T'.heap (locs ++ L) ls hX (by rw [e1]; exact hWd.1) k3 hl hWd.2.2.1 T' rfl X'
  exact ⟨t2, st t2 a1, b1⟩
theorem u_callV (hC : CK C own cc nL ret d) (hM : Mt (cL C) (cG C) y cc' maxL' ret' d' X.1 X.2.1 As S v S') (hL : Lv own idx y cc' maxL' ret' np) {a ci : Nat} {Bs : List Value} (hAs : As = .ref (X.1 a) :: Bs) (hTa : Ty X.2.1 a ci) (hci : ci < 12) (hcl : y.cls = cN ci) (hd' : d' + 1 ≤ d) (hm : 19 + maxL' ≤ 128) (hn : Bs.length = np) {st : List Value} (hst : st = Bs.reverse ++ .ref (X.1 a) :: rest) (hW : (rest.map fun v => v.category).sum ≤ 8) (hdg : decode cc pc = .ok (.invokevirtual idx, 3)) (k : UW C X S' (pc + 3) lv (v.toList ++ rest)) : UW C X S pc lv st := by
  obtain ⟨p, l, e, R, s, m, args, below, meth, c, Q, G, A⟩ := C
  obtain ⟨ρ, Y, cells, slots⟩ := X
  intro H locs ls hX hP hS hl hT
  subst hAs
  obtain ⟨⟨h1, h2, h3, h4⟩, h5, h6⟩ := hL
  have hts : ∀ w ∈ Tb, w.before args s = true := hC.2.2.2.2.1
  have hR1 : d ≤ R.frames := hC.2.2.2.2.2.2.2.2.2.2.1
  have hR2 : 128 * d ≤ R.locals := hC.2.2.2.2.2.2.2.2.2.2.2.1
  have hrecv : ∃ cell : Cell, H[ρ a]? = some cell ∧ cell.vm.isStatics = false ∧ s.vm.findClass y.cls = some cell.cls := by
    obtain ⟨dC, dI, cy, B0, sK, sV⟩ := G
    rw [hcl]
    exact va_recv (q := (cN ci, cT ci, nf ci)) hC.2.2.2.2.2.1.1 hP (cls_at ci hci) (q0 := a) (fs := ov ρ S ci a) (by rw [wl_at hTa.1, cf_obj hTa.2 hci])
  refine u_after (X := (ρ, Y, cells, slots)) (S' := S') (v := v) (rest := rest) hC hX hS hl ?_ k
  exact va_runV (As := Bs) (rest := rest) (C := y.cls) (b := ρ a) ⟨hC.1, hC.2.1, hC.2.2.1, hC.2.2.2.1, hts⟩ (hM H.size) ⟨callB_of np hts (Tb_goodC h3) rfl rfl rfl (hts _ h2) (hts _ h1) h4 ⟨by show d' + 1 ≤ R.frames; omega, by show 8 + (maxL' + 11) + 128 * d' ≤ R.locals; omega⟩, hts _ h5, hts _ h6⟩ ⟨fb_Wd, hrecv, fun U hU hW' => ⟨rfl, by rw [hU], Wd_at (X := (ρ, Y, cells, slots)) hC hX hP hS hT U hU hW'⟩⟩ rfl hn (hl.1.trans hC.2.2.1) hst (lv_room hW) hdg ⟨hX.2.2.2.1, hX.2.2.2.2⟩
theorem u_callS (hC : CK C own cc nL ret d) (hM : Mt (cL C) (cG C) y cc' maxL' ret' d' X.1 X.2.1 As S v S') (hL : Ls own idx y cc' maxL' ret' np) (hd' : d' + 1 ≤ d) (hm : 19 + maxL' ≤ 128) (hn : As.length = np) {st : List Value} (hst : st = As.reverse ++ rest) (hW : (rest.map fun v => v.category).sum ≤ 8) (hdg : decode cc pc = .ok (.invokestatic idx, 3)) (k : UW C X S' (pc + 3) lv (v.toList ++ rest)) : UW C X S pc lv st := by
  obtain ⟨p, l, e, R, s, m, args, below, meth, c, Q, G, A⟩ := C
  obtain ⟨ρ, Y, cells, slots⟩ := X
  intro H locs ls hX hP hS hl hT
  obtain ⟨⟨h1, h2, h3, h4⟩, h5⟩ := hL
  have hts : ∀ w ∈ Tb, w.before args s = true := hC.2.2.2.2.1
  have hR1 : d ≤ R.frames := hC.2.2.2.2.2.2.2.2.2.2.1
  have hR2 : 128 * d ≤ R.locals := hC.2.2.2.2.2.2.2.2.2.2.2.1
  refine u_after (X := (ρ, Y, cells, slots)) (S' := S') (v := v) (rest := rest) hC hX hS hl ?_ k
  exact va_runS (As := As) (rest := rest) ⟨hC.1, hC.2.1, hC.2.2.1, hC.2.2.2.1, hts⟩ (hM H.size) ⟨callB_of np hts (Tb_goodC h3) rfl rfl rfl (hts _ h2) (hts _ h1) h4 ⟨by show d' + 1 ≤ R.frames; omega, by show 8 + (maxL' + 11) + 128 * d' ≤ R.locals; omega⟩, hts _ h5⟩ ⟨fb_Wd, fun U hU hW' => ⟨rfl, by rw [hU], Wd_at (X := (ρ, Y, cells, slots)) hC hX hP hS hT U hU hW'⟩⟩ rfl hn (hl.1.trans hC.2.2.1) hst (lv_room hW) hdg ⟨hX.2.2.2.1, hX.2.2.2.2⟩
theorem u_callSN (hC : CK C own cc nL ret d) {host : String} (hM : Mt (cL C) (cG C) y cc' maxL' ret' d' X.1 X.2.1 As S v S') (hL : Ln own idx y cc' maxL' ret' np host) (hst2 : Cond.static y ∈ Tb) (hd' : d' + 1 ≤ d) (hm : 19 + maxL' ≤ 128) (hn : As.length = np) {st : List Value} (hst : st = As.reverse ++ rest) (hW : (rest.map fun v => v.category).sum ≤ 8) (hdg : decode cc pc = .ok (.invokestatic idx, 3)) (k : UW C X S' (pc + 3) lv (v.toList ++ rest)) : UW C X S pc lv st := by
  obtain ⟨p, l, e, R, s, m, args, below, meth, c, Q, G, A⟩ := C
  obtain ⟨ρ, Y, cells, slots⟩ := X
  intro H locs ls hX hP hS hl hT
  obtain ⟨h1, h2, h3, h4⟩ := hL
  have hts : ∀ w ∈ Tb, w.before args s = true := hC.2.2.2.2.1
  have hR1 : d ≤ R.frames := hC.2.2.2.2.2.2.2.2.2.2.1
  have hR2 : 128 * d ≤ R.locals := hC.2.2.2.2.2.2.2.2.2.2.2.1
  have hnest : ∀ w ∈ nestT, va_Nw w s := by
    obtain ⟨dC, dI, cy, B0, sK, sV⟩ := G
    exact hC.2.2.2.2.2.1.2.1
  refine u_after (X := (ρ, Y, cells, slots)) (S' := S') (v := v) (rest := rest) hC hX hS hl ?_ k
  exact va_runSN (As := As) (rest := rest) (host := host) ⟨hC.1, hC.2.1, hC.2.2.1, hC.2.2.2.1, hts⟩ (hM H.size) ⟨va_cnB np hts (Tb_goodC h3) rfl rfl rfl (hnest _ h1) (hts _ h2) h4 ⟨by show d' + 1 ≤ R.frames; omega, by show 8 + (maxL' + 11) + 128 * d' ≤ R.locals; omega⟩, hts _ hst2, trivial⟩ ⟨fb_Wd, fun U hU hW' => ⟨rfl, by rw [hU], Wd_at (X := (ρ, Y, cells, slots)) hC hX hP hS hT U hU hW'⟩⟩ rfl hn (hl.1.trans hC.2.2.1) hst (lv_room hW) hdg ⟨hX.2.2.2.1, hX.2.2.2.2⟩
end UC
/-- which answer a method may give, and by which instruction -/
def rok (ret : Option FieldType) (v : Option Value) : Prop := match ret, v with
  | none, none => True
  | some .int, some (.int _) => True
  | some .boolean, some (.int x) => x = 0 ∨ x = 1
  | some .long, some (.long _) => True
  | some .char, some (.int x) => narrow .char (.int x) = .int x
  | some .byte, some (.int x) => narrow .byte (.int x) = .int x
  | some (.object _), some (.ref _) => True
  | _, _ => False
def rdec (cc : ByteArray) (pc : Nat) (v : Option Value) : Prop := match v with
  | none => decode cc pc = .ok (.return_, 1)
  | some (.int _) => decode cc pc = .ok (.ireturn, 1)
  | some (.long _) => decode cc pc = .ok (.lreturn, 1)
  | _ => decode cc pc = .ok (.areturn, 1)
def Rt (C : CT) (X : XT) (cc : ByteArray) (ret : Option FieldType) (v : Option Value) (S' : PS) : Prop := ∀ (pc : Nat) (lv : List (Nat × Value)), rdec cc pc v → rok ret v → UW C X S' pc lv v.toList
theorem Mt_of {l : Launch} {G : GT} {y : MethodName} {cc : ByteArray} {maxL : Nat} {ret : Option FieldType} {d : Nat} {ρ : Nat → Nat} {Y : XS} {As : List Value} {S : PS} {v : Option Value} {S' : PS} (hl0 : l.stackTraces = false) (hy : plainName y.cls = true) (hlen : (lg_sl As).length ≤ maxL)
    (body : ∀ (C : CT), cL C = l → cG C = G → CK C y.cls cc maxL ret d → Rt C (ρ, Y, 0, 0) cc ret v S' → UW C (ρ, Y, 0, 0) S 0 (lv_args 0 As) []) : Mt l G y cc maxL ret d ρ Y As S v S' := by
  intro sz
  refine Met.ofW (cc := cc) (maxL := maxL) (ret := ret) hy rfl ?_
  intro p e s m args below meth c s₁ B hml hv
  obtain ⟨rfl, hsz, hW⟩ := hv
  have hx := B.exec
  have hb := B.bytes
  have hr := B.returns
  have hts := atoms_spec (ws := .code y cc maxL ret :: Tb) B.pre
  have hown : s.vm.findClass y.cls = some m.cls := findClass_of_methodNamed B.named
  have hlocks := B.notSynchronized
  subst hsz
  have hl := lv_entry As (n := maxL) hlen
  rw [lg_entry_eq]
  generalize (lg_sl As ++ List.replicate (maxL - (lg_sl As).length) Slot.unset).toArray = ls at hl ⊢
  have hC : CK (p, l, e, rmd d 0 0, s, m, As.toArray, below, meth, c, MQ below (fun _ st oc t => oc = .returned v ∧ Wd G ρ Y S' t ∧ va_F (aA ρ (nX Y) s.heap.size) st t) As.toArray s 0 0 (aA ρ (nX Y) s.heap.size), G, aA ρ (nX Y) s.heap.size) y.cls cc maxL ret d := by
    refine ⟨hx, hb, hml, hown, fun w h => hts w (List.mem_cons_of_mem _ h), hW.2.1, fun q h => Or.inr h, ?_, hlocks, hr, Nat.le_refl _, Nat.le_refl _, hl0⟩
    rintro q (⟨a, ha, rfl⟩ | h)
    · exact hW.2.2.2.2.1 a ha
    · exact Nat.le_trans hW.2.2.2.2.2 h
  have hX : XO (p, l, e, rmd d 0 0, s, m, As.toArray, below, meth, c, MQ below (fun _ st oc t => oc = .returned v ∧ Wd G ρ Y S' t ∧ va_F (aA ρ (nX Y) s.heap.size) st t) As.toArray s 0 0 (aA ρ (nX Y) s.heap.size), G, aA ρ (nX Y) s.heap.size) (ρ, Y, 0, 0) := ⟨hW.2.2.2.1, fun a ha => Or.inl ⟨a, ha, rfl⟩, hW.2.2.2.2.1, Nat.zero_le _, Nat.zero_le _⟩
  refine body _ rfl rfl hC ?_ s.heap [] ls hX hW.1 va_S.rf (by rw [hml]; exact hl) hW.2.2.1
  intro pc lv hdec hok H locs ls hX hP hS hl hT
  have hq : ∀ t : State, t.heap = H → s.WarmedH t.vm → (.returned v : Outcome) = .returned v ∧ Wd G ρ Y S' t ∧ va_F (aA ρ (nX Y) s.heap.size) s t := fun t ht hWt => ⟨rfl, Wd_at (X := (ρ, Y, 0, 0)) hC hX hP hS hT t ht hWt, hS.F ht⟩
  match ret, v, hok, hdec, hr, hq with
  | none, none, _, hdec, hr, hq => exact W.vret hx hb hr hq hS.2.2 hdec
  | some .int, some (.int _), _, hdec, hr, hq => exact W.iret hx hb hr hq hS.2.2 hdec
  | some .boolean, some (.int x), hok, hdec, hr, hq => exact W.zret hx hb hr (by rcases hok with rfl | rfl <;> rfl) hq hS.2.2 hdec
  | some .long, some (.long _), _, hdec, hr, hq => exact W.lret hx hb hr hq hS.2.2 hdec
  | some .char, some (.int x), hok, hdec, hr, hq => exact W.zret hx hb hr hok hq hS.2.2 hdec
  | some .byte, some (.int x), hok, hdec, hr, hq => exact W.zret hx hb hr hok hq hS.2.2 hdec
  | some (.object _), some (.ref _), _, hdec, hr, hq => exact W.aret hx hb hr (Or.inl ⟨_, rfl⟩) (Or.inr ⟨_, rfl⟩) hq hS.2.2 hdec
