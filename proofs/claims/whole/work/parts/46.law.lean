/-! the law's body -/
/-- the script: an int array that nothing writes -/
def SC (C : CT) (b L : Nat) (xs : Nat → Int32) : Prop := va_X b L xs C.2.2.2.2.1 C.2.2.2.2.1.heap ∧ b < C.2.2.2.2.1.heap.size ∧ ¬ C.2.2.2.2.2.2.2.2.2.2.2.2 b
def ksc {α : Type} (xs : Nat → Int32) (L : Nat) (i : Int32) (K : Int32 → Option α) : Option α := if inb i L = true then K (xs i.toNatClampNeg) else none
def bz (y : Int32) : Int32 := if y = 0 then 0 else 1
def bzl (y : Int32) : Int64 := if y = 0 then 0 else 1
section UL
variable {C : CT} {X : XT} {S : PS} {own : String} {cc : ByteArray} {nL d : Nat} {ret : Option FieldType} {pc : Nat} {lv : List (Nat × Value)} {rest : List Value} {α : Type} {o : α}
theorem u_scr (hC : CK C own cc nL ret d) {b L : Nat} {xs : Nat → Int32} (hSC : SC C b L xs) {i : Int32} (hd : decode cc pc = .ok (.iaload, 1)) {K : Int32 → Option α} (hf : ksc xs L i K = some o) (kk : ∀ y, K y = some o → UW C X S (pc + 1) lv (.int y :: rest)) : UW C X S pc lv (.int i :: .ref b :: rest) := by
  obtain ⟨p, l, e, R, s, m, args, below, meth, c, Q, G, A⟩ := C
  obtain ⟨ρ, Y, cells, slots⟩ := X
  intro H locs ls hX hP hS hl hT
  unfold ksc at hf
  by_cases h : inb i L = true
  · rw [if_pos h] at hf
    exact va_sld hC.1 hC.2.1 hSC.1 hSC.2.1 hSC.2.2 hS (inb_in.mp h) hd (kk _ hf H locs ls hX hP hS hl hT)
  · rw [if_neg h] at hf; cases hf
theorem u_slen2 (hC : CK C own cc nL ret d) {b L : Nat} {xs : Nat → Int32} (hSC : SC C b L xs) (hd : decode cc pc = .ok (.arraylength, 1)) (kk : UW C X S (pc + 1) lv (.int (Int32.ofNat L) :: rest)) : UW C X S pc lv (.ref b :: rest) := by
  obtain ⟨p, l, e, R, s, m, args, below, meth, c, Q, G, A⟩ := C
  obtain ⟨ρ, Y, cells, slots⟩ := X
  intro H locs ls hX hP hS hl hT
  exact va_slen hC.1 hC.2.1 hSC.1 hSC.2.1 hSC.2.2 hS hd (kk H locs ls hX hP hS hl hT)
theorem u_bool (hC : CK C own cc nL ret d) {y : Int32} {o1 o2 : Int} {t1 t2 : Nat} (h1 : decode cc pc = .ok (.ifCond .eq o1, 3)) (e1 : (pc : Int) + o1 = (t1 : Int)) (h2 : decode cc (pc + 3) = .ok (.iconst 1, 1)) (h3 : decode cc (pc + 4) = .ok (.goto o2, 3)) (e2 : ((pc + 4 : Nat) : Int) + o2 = (t2 : Int)) (h4 : decode cc t1 = .ok (.iconst 0, 1)) (e4 : t1 + 1 = t2) (kk : UW C X S t2 lv (.int (bz y) :: rest)) : UW C X S pc lv (.int y :: rest) := by
  by_cases h : y = 0
  · have e : bz y = 0 := if_pos h
    rw [e] at kk
    refine u_if_eq (tgt := t1) (α := Unit) (a := some ()) (b := none) (o := ()) hC h1 e1 (if_pos h) (fun _ _ => ?_) (fun _ hx => nomatch hx)
    refine u_iconst (v := (0 : Int32)) hC h4 (by decide) ?_
    rw [e4]
    exact kk
  · have e : bz y = 1 := if_neg h
    rw [e] at kk
    refine u_if_eq (tgt := t1) (α := Unit) (a := none) (b := some ()) (o := ()) hC h1 e1 (if_neg h) (fun _ hx => nomatch hx) (fun _ _ => ?_)
    refine u_iconst (v := (1 : Int32)) hC h2 (by decide) ?_
    exact u_goto (tgt := t2) hC h3 e2 kk
theorem u_boolL (hC : CK C own cc nL ret d) {y : Int32} {o1 o2 : Int} {t1 t2 : Nat} (h1 : decode cc pc = .ok (.ifCond .eq o1, 3)) (e1 : (pc : Int) + o1 = (t1 : Int)) (h2 : decode cc (pc + 3) = .ok (.lconst 1, 1)) (h3 : decode cc (pc + 4) = .ok (.goto o2, 3)) (e2 : ((pc + 4 : Nat) : Int) + o2 = (t2 : Int)) (h4 : decode cc t1 = .ok (.lconst 0, 1)) (e4 : t1 + 1 = t2) (kk : UW C X S t2 lv (.long (bzl y) :: rest)) : UW C X S pc lv (.int y :: rest) := by
  by_cases h : y = 0
  · have e : bzl y = 0 := if_pos h
    rw [e] at kk
    refine u_if_eq (tgt := t1) (α := Unit) (a := some ()) (b := none) (o := ()) hC h1 e1 (if_pos h) (fun _ _ => ?_) (fun _ hx => nomatch hx)
    refine u_lconst (v := (0 : Int64)) hC h4 (by decide) ?_
    rw [e4]
    exact kk
  · have e : bzl y = 1 := if_neg h
    rw [e] at kk
    refine u_if_eq (tgt := t1) (α := Unit) (a := none) (b := some ()) (o := ()) hC h1 e1 (if_neg h) (fun _ hx => nomatch hx) (fun _ _ => ?_)
    refine u_lconst (v := (1 : Int64)) hC h2 (by decide) ?_
    exact u_goto (tgt := t2) hC h3 e2 kk
theorem u_widen {ρ : Nat → Nat} {Y : XS} {c1 z1 c2 z2 : Nat} {st : List Value} (h1 : c1 ≤ c2) (h2 : z1 ≤ z2) (hR : c2 ≤ C.2.2.2.1.cells ∧ z2 ≤ C.2.2.2.1.slots) (k : UW C (ρ, Y, c2, z2) S pc lv st) : UW C (ρ, Y, c1, z1) S pc lv st := by
  obtain ⟨p, l, e, R, s, m, args, below, meth, c, Q, G, A⟩ := C
  intro H locs ls hX hP hS hl hT
  exact W.widen h1 h2 (k H locs ls ⟨hX.1, hX.2.1, hX.2.2.1, hR.1, hR.2⟩ hP hS hl hT)
def Lw (own : String) (idx : Nat) (y : MethodName) (cc : ByteArray) (maxL : Nat) (hh : List (Nat × Nat × Nat × Nat)) (np : Nat) : Prop :=
  Cond.methodLink own idx y ∈ Tb ∧ Cond.initialized y.cls ∈ Tb ∧ Cond.static y ∈ Tb ∧ Cond.codeWith y cc maxL (some .int) hh ∈ Tb ∧ (y.cls ≠ "java/lang/invoke/MethodHandle" ∧ y.cls ≠ "java/lang/invoke/VarHandle" ∧ (parseMethodDescriptor y.desc).map (fun d => d.parameters.length) = some np)
theorem u_callW (hC : CK C own cc nL ret d) (hNc : va_Nc eI eN C.2.2.2.2.1) {y : MethodName} {cc' : ByteArray} {maxL' d' np idx mc ms : Nat} {hh : List (Nat × Nat × Nat × Nat)} {As : List Value} {kv : Int32} {S' : PS} {Y' : XS} (hM : Mw (cL C) (cG C) y cc' maxL' hh d' mc ms X.1 X.2.1 As S kv S' Y') (hB : XB C X mc ms) (hL : Lw own idx y cc' maxL' hh np) (hd' : d' + 1 ≤ d) (hm : 19 + maxL' ≤ 128) (hn : As.length = np) {st : List Value} (hst : st = As.reverse ++ rest) (hW : (rest.map fun v => v.category).sum ≤ 8) (hdg : decode cc pc = .ok (.invokestatic idx, 3))
    (k : ∀ ρ' : Nat → Nat, AG X.1 X.2.1 ρ' Y' → UW C (ρ', Y', X.2.2.1 + mc, X.2.2.2 + ms) S' (pc + 3) lv (.int kv :: rest)) : UW C X S pc lv st := by
  obtain ⟨p, l, e, R, s, m, args, below, meth, c, Q, G, A⟩ := C
  obtain ⟨ρ, Y, cells, slots⟩ := X
  intro H locs ls hX hP hS hl hT
  obtain ⟨h1, h2, h5, h3, h4⟩ := hL
  have hts : ∀ w ∈ Tb, w.before args s = true := hC.2.2.2.2.1
  have hR1 : d ≤ R.frames := hC.2.2.2.2.2.2.2.2.2.2.1
  have hR2 : 128 * d ≤ R.locals := hC.2.2.2.2.2.2.2.2.2.2.2.1
  have hA1 : ∀ q, s.heap.size ≤ q → A q := hC.2.2.2.2.2.2.1
  have hAA : ∀ q, aA ρ (nX Y) H.size q → A q := by
    rintro q (⟨a, ha, rfl⟩ | hq)
    · exact hX.2.1 a ha
    · exact hA1 q (Nat.le_trans hS.1 hq)
  have hT1 : GoodIn Tb (va_wsS own idx y (.codeWith y cc' maxL' (some .int) hh :: Tb)) := by
    intro w hw
    have hw' : w ∈ Tb := by
      simp only [va_wsS, List.mem_append, List.mem_cons, List.not_mem_nil, or_false] at hw
      rcases hw with hw | hw
      · rcases hw with rfl | rfl | rfl <;> assumption
      · rcases hw with rfl | hw <;> assumption
    exact Tb_good w hw'
  have hr := vx_runSX (p := p) (l := l) (e := e) (R := R) (below := below) (meth := meth) (H := H) (locs := locs) (cells := cells) (slots := slots) (g := F0 m pc ls st) (As := As) (rest := rest) (hh := hh) ⟨hC.1, hC.2.1, hC.2.2.1, hC.2.2.2.1, hts⟩ (hM H.size) (vx_cwSW np hts hT1 rfl rfl rfl h4 ⟨by show d' + 1 ≤ R.frames; omega, by show 8 + (maxL' + 11) + 128 * d' ≤ R.locals; omega⟩) ⟨fun _ U g mk q => ⟨q.1, ⟨q.2.1.1, Wd.same (s := U) rfl rfl q.2.1.2⟩, q.2.2.moved (Vm.Alike.refl _)⟩, fun U hU hW' => ⟨rfl, ⟨by rw [hU], Wd_at (X := (ρ, Y, cells, slots)) hC hX hP hS hT U hU hW'⟩, hNc.moved hW'.alike⟩⟩ rfl hn (hl.1.trans hC.2.2.1) hst (lv_room hW) hdg ⟨hB.1, hB.2⟩
  intro T hT0 X0
  rcases hr T hT0 X0 with ⟨v', st₀, t, T', L, h0, Xs, hL, e1, e2, ⟨ρ', hag, hnew, hv, hWd, hF⟩, st⟩ | ⟨q, st₀, t, T', L, E, ce, h0, Xs, hL, e1, e2, hfalse, hce, hcv, hcl, st⟩
  · cases hv
    obtain ⟨k1, k2, k3⟩ := vx_keep h0 e1 hS (fun q _ h => hAA q h) hAA hL hF
    have hX2 : XO (p, l, e, R, s, m, args, below, meth, c, Q, G, A) (ρ', Y', cells + mc, slots + ms) := by
      refine ⟨hWd.2.2.2.1, fun a ha => ?_, hWd.2.2.2.2.1, hB.1, hB.2⟩
      by_cases h : a < nX Y
      · rw [(hag a (kd Y a) ⟨h, rfl⟩).1]; exact hX.2.1 a h
      · exact hA1 _ (Nat.le_trans hS.1 (hnew a ha h))
    obtain ⟨t2, a1, b1⟩ := k ρ' hag T'.heap (locs ++ L) ls hX2 (by rw [e1]; exact hWd.1) k3 hl hWd.2.2.1 T' rfl Xs
    exact ⟨t2, st t2 a1, b1⟩
  · exact hfalse.elim
end UL

theorem XB.more {C : CT} {ρ ρ' : Nat → Nat} {Y Y' : XS} {cells slots mc ms c' z' a b : Nat} (hB : XB C (ρ, Y, cells, slots) mc ms) (h1 : c' + a ≤ cells + mc) (h2 : z' + b ≤ slots + ms) : XB C (ρ', Y', c', z') a b := by
  obtain ⟨p, l, e, R, s, m, args, below, meth, c, Q, G, A⟩ := C
  have hb1 : cells + mc ≤ R.cells := hB.1
  have hb2 : slots + ms ≤ R.slots := hB.2
  exact ⟨by show c' + a ≤ R.cells; omega, by show z' + b ≤ R.slots; omega⟩
theorem dL_law_0 : decode cL_law 0 = .ok (.new 8, 3) := by decide +kernel
theorem dL_law_3 : decode cL_law 3 = .ok (.dup, 1) := by decide +kernel
theorem dL_law_4 : decode cL_law 4 = .ok (.invokespecial 92, 3) := by decide +kernel
theorem dL_law_7 : decode cL_law 7 = .ok (.astore_n 1, 1) := by decide +kernel
theorem dL_law_8 : decode cL_law 8 = .ok (.new 93, 3) := by decide +kernel
theorem dL_law_11 : decode cL_law 11 = .ok (.dup, 1) := by decide +kernel
theorem dL_law_12 : decode cL_law 12 = .ok (.invokespecial 95, 3) := by decide +kernel
theorem dL_law_15 : decode cL_law 15 = .ok (.astore_n 2, 1) := by decide +kernel
theorem dL_law_16 : decode cL_law 16 = .ok (.iconst 1, 1) := by decide +kernel
theorem dL_law_17 : decode cL_law 17 = .ok (.newarray .long, 2) := by decide +kernel
theorem dL_law_19 : decode cL_law 19 = .ok (.astore_n 3, 1) := by decide +kernel
theorem dL_law_20 : decode cL_law 20 = .ok (.iconst 0, 1) := by decide +kernel
theorem dL_law_21 : decode cL_law 21 = .ok (.istore 4, 2) := by decide +kernel
theorem dL_law_23 : decode cL_law 23 = .ok (.iload 4, 2) := by decide +kernel
theorem dL_law_25 : decode cL_law 25 = .ok (.aload_n 0, 1) := by decide +kernel
theorem dL_law_26 : decode cL_law 26 = .ok (.arraylength, 1) := by decide +kernel
theorem dL_law_27 : decode cL_law 27 = .ok (.bipush 6, 2) := by decide +kernel
theorem dL_law_29 : decode cL_law 29 = .ok (.isub, 1) := by decide +kernel
theorem dL_law_30 : decode cL_law 30 = .ok (.if_icmp .gt 2006, 3) := by decide +kernel
theorem dL_law_33 : decode cL_law 33 = .ok (.aload_n 0, 1) := by decide +kernel
theorem dL_law_34 : decode cL_law 34 = .ok (.iload 4, 2) := by decide +kernel
theorem dL_law_36 : decode cL_law 36 = .ok (.iaload, 1) := by decide +kernel
theorem dL_law_37 : decode cL_law 37 = .ok (.bipush 31, 2) := by decide +kernel
theorem dL_law_39 : decode cL_law 39 = .ok (.iand, 1) := by decide +kernel
theorem dL_law_40 : decode cL_law 40 = .ok (.tableswitch 1990 0 28 #[132, 205, 261, 274, 330, 398, 494, 562, 630, 698, 778, 846, 914, 982, 1050, 1153, 1221, 1289, 1357, 1449, 1529, 1597, 1665, 1721, 1789, 1869, 1953, 1966, 1977], 132) := by decide +kernel
theorem dL_law_172 : decode cL_law 172 = .ok (.aload_n 1, 1) := by decide +kernel
theorem dL_law_173 : decode cL_law 173 = .ok (.aload_n 0, 1) := by decide +kernel
theorem dL_law_174 : decode cL_law 174 = .ok (.iload 4, 2) := by decide +kernel
theorem dL_law_176 : decode cL_law 176 = .ok (.iconst 1, 1) := by decide +kernel
theorem dL_law_177 : decode cL_law 177 = .ok (.iadd, 1) := by decide +kernel
theorem dL_law_178 : decode cL_law 178 = .ok (.iaload, 1) := by decide +kernel
theorem dL_law_179 : decode cL_law 179 = .ok (.aload_n 0, 1) := by decide +kernel
theorem dL_law_180 : decode cL_law 180 = .ok (.iload 4, 2) := by decide +kernel
theorem dL_law_182 : decode cL_law 182 = .ok (.iconst 2, 1) := by decide +kernel
theorem dL_law_183 : decode cL_law 183 = .ok (.iadd, 1) := by decide +kernel
theorem dL_law_184 : decode cL_law 184 = .ok (.iaload, 1) := by decide +kernel
theorem dL_law_185 : decode cL_law 185 = .ok (.aload_n 0, 1) := by decide +kernel
theorem dL_law_186 : decode cL_law 186 = .ok (.iload 4, 2) := by decide +kernel
theorem dL_law_188 : decode cL_law 188 = .ok (.iconst 3, 1) := by decide +kernel
theorem dL_law_189 : decode cL_law 189 = .ok (.iadd, 1) := by decide +kernel
theorem dL_law_190 : decode cL_law 190 = .ok (.iaload, 1) := by decide +kernel
theorem dL_law_191 : decode cL_law 191 = .ok (.aload_n 0, 1) := by decide +kernel
theorem dL_law_192 : decode cL_law 192 = .ok (.iload 4, 2) := by decide +kernel
theorem dL_law_194 : decode cL_law 194 = .ok (.iconst 4, 1) := by decide +kernel
theorem dL_law_195 : decode cL_law 195 = .ok (.iadd, 1) := by decide +kernel
theorem dL_law_196 : decode cL_law 196 = .ok (.iaload, 1) := by decide +kernel
theorem dL_law_197 : decode cL_law 197 = .ok (.aload_n 0, 1) := by decide +kernel
theorem dL_law_198 : decode cL_law 198 = .ok (.iload 4, 2) := by decide +kernel
theorem dL_law_200 : decode cL_law 200 = .ok (.iconst 5, 1) := by decide +kernel
theorem dL_law_201 : decode cL_law 201 = .ok (.iadd, 1) := by decide +kernel
theorem dL_law_202 : decode cL_law 202 = .ok (.iaload, 1) := by decide +kernel
theorem dL_law_203 : decode cL_law 203 = .ok (.invokevirtual 96, 3) := by decide +kernel
theorem dL_law_206 : decode cL_law 206 = .ok (.aload_n 2, 1) := by decide +kernel
theorem dL_law_207 : decode cL_law 207 = .ok (.aload_n 0, 1) := by decide +kernel
theorem dL_law_208 : decode cL_law 208 = .ok (.iload 4, 2) := by decide +kernel
theorem dL_law_210 : decode cL_law 210 = .ok (.iconst 1, 1) := by decide +kernel
theorem dL_law_211 : decode cL_law 211 = .ok (.iadd, 1) := by decide +kernel
theorem dL_law_212 : decode cL_law 212 = .ok (.iaload, 1) := by decide +kernel
theorem dL_law_213 : decode cL_law 213 = .ok (.aload_n 0, 1) := by decide +kernel
theorem dL_law_214 : decode cL_law 214 = .ok (.iload 4, 2) := by decide +kernel
theorem dL_law_216 : decode cL_law 216 = .ok (.iconst 2, 1) := by decide +kernel
theorem dL_law_217 : decode cL_law 217 = .ok (.iadd, 1) := by decide +kernel
theorem dL_law_218 : decode cL_law 218 = .ok (.iaload, 1) := by decide +kernel
theorem dL_law_219 : decode cL_law 219 = .ok (.aload_n 0, 1) := by decide +kernel
theorem dL_law_220 : decode cL_law 220 = .ok (.iload 4, 2) := by decide +kernel
theorem dL_law_222 : decode cL_law 222 = .ok (.iconst 3, 1) := by decide +kernel
theorem dL_law_223 : decode cL_law 223 = .ok (.iadd, 1) := by decide +kernel
theorem dL_law_224 : decode cL_law 224 = .ok (.iaload, 1) := by decide +kernel
theorem dL_law_225 : decode cL_law 225 = .ok (.aload_n 0, 1) := by decide +kernel
theorem dL_law_226 : decode cL_law 226 = .ok (.iload 4, 2) := by decide +kernel
theorem dL_law_228 : decode cL_law 228 = .ok (.iconst 4, 1) := by decide +kernel
theorem dL_law_229 : decode cL_law 229 = .ok (.iadd, 1) := by decide +kernel
theorem dL_law_230 : decode cL_law 230 = .ok (.iaload, 1) := by decide +kernel
theorem dL_law_231 : decode cL_law 231 = .ok (.aload_n 0, 1) := by decide +kernel
theorem dL_law_232 : decode cL_law 232 = .ok (.iload 4, 2) := by decide +kernel
theorem dL_law_234 : decode cL_law 234 = .ok (.iconst 5, 1) := by decide +kernel
theorem dL_law_235 : decode cL_law 235 = .ok (.iadd, 1) := by decide +kernel
theorem dL_law_236 : decode cL_law 236 = .ok (.iaload, 1) := by decide +kernel
theorem dL_law_237 : decode cL_law 237 = .ok (.invokevirtual 100, 3) := by decide +kernel
theorem dL_law_240 : decode cL_law 240 = .ok (.if_icmp .eq 1790, 3) := by decide +kernel
theorem dL_law_243 : decode cL_law 243 = .ok (.iconst 0, 1) := by decide +kernel
theorem dL_law_244 : decode cL_law 244 = .ok (.ireturn, 1) := by decide +kernel
theorem dL_law_245 : decode cL_law 245 = .ok (.aload_n 1, 1) := by decide +kernel
theorem dL_law_246 : decode cL_law 246 = .ok (.aload_n 0, 1) := by decide +kernel
theorem dL_law_247 : decode cL_law 247 = .ok (.iload 4, 2) := by decide +kernel
theorem dL_law_249 : decode cL_law 249 = .ok (.iconst 1, 1) := by decide +kernel
theorem dL_law_250 : decode cL_law 250 = .ok (.iadd, 1) := by decide +kernel
theorem dL_law_251 : decode cL_law 251 = .ok (.iaload, 1) := by decide +kernel
theorem dL_law_252 : decode cL_law 252 = .ok (.aload_n 3, 1) := by decide +kernel
theorem dL_law_253 : decode cL_law 253 = .ok (.invokestatic 101, 3) := by decide +kernel
theorem dL_law_256 : decode cL_law 256 = .ok (.istore 5, 2) := by decide +kernel
theorem dL_law_258 : decode cL_law 258 = .ok (.aload_n 2, 1) := by decide +kernel
theorem dL_law_259 : decode cL_law 259 = .ok (.aload_n 0, 1) := by decide +kernel
theorem dL_law_260 : decode cL_law 260 = .ok (.iload 4, 2) := by decide +kernel
theorem dL_law_262 : decode cL_law 262 = .ok (.iconst 1, 1) := by decide +kernel
theorem dL_law_263 : decode cL_law 263 = .ok (.iadd, 1) := by decide +kernel
theorem dL_law_264 : decode cL_law 264 = .ok (.iaload, 1) := by decide +kernel
theorem dL_law_265 : decode cL_law 265 = .ok (.invokevirtual 106, 3) := by decide +kernel
theorem dL_law_268 : decode cL_law 268 = .ok (.istore 6, 2) := by decide +kernel
theorem dL_law_270 : decode cL_law 270 = .ok (.aload_n 2, 1) := by decide +kernel
theorem dL_law_271 : decode cL_law 271 = .ok (.invokevirtual 107, 3) := by decide +kernel
theorem dL_law_274 : decode cL_law 274 = .ok (.iload 5, 2) := by decide +kernel
theorem dL_law_276 : decode cL_law 276 = .ok (.if_icmp .eq 5, 3) := by decide +kernel
theorem dL_law_279 : decode cL_law 279 = .ok (.iconst 0, 1) := by decide +kernel
theorem dL_law_280 : decode cL_law 280 = .ok (.ireturn, 1) := by decide +kernel
theorem dL_law_281 : decode cL_law 281 = .ok (.iload 5, 2) := by decide +kernel
theorem dL_law_283 : decode cL_law 283 = .ok (.ifCond .ne 15, 3) := by decide +kernel
theorem dL_law_286 : decode cL_law 286 = .ok (.aload_n 3, 1) := by decide +kernel
theorem dL_law_287 : decode cL_law 287 = .ok (.iconst 0, 1) := by decide +kernel
theorem dL_law_288 : decode cL_law 288 = .ok (.laload, 1) := by decide +kernel
theorem dL_law_289 : decode cL_law 289 = .ok (.iload 6, 2) := by decide +kernel
theorem dL_law_291 : decode cL_law 291 = .ok (.i2l, 1) := by decide +kernel
theorem dL_law_292 : decode cL_law 292 = .ok (.lcmp, 1) := by decide +kernel
theorem dL_law_293 : decode cL_law 293 = .ok (.ifCond .eq 5, 3) := by decide +kernel
theorem dL_law_296 : decode cL_law 296 = .ok (.iconst 0, 1) := by decide +kernel
theorem dL_law_297 : decode cL_law 297 = .ok (.ireturn, 1) := by decide +kernel
theorem dL_law_298 : decode cL_law 298 = .ok (.goto 1732, 3) := by decide +kernel
theorem dL_law_301 : decode cL_law 301 = .ok (.aload_n 1, 1) := by decide +kernel
theorem dL_law_302 : decode cL_law 302 = .ok (.invokevirtual 111, 3) := by decide +kernel
theorem dL_law_305 : decode cL_law 305 = .ok (.aload_n 2, 1) := by decide +kernel
theorem dL_law_306 : decode cL_law 306 = .ok (.invokevirtual 114, 3) := by decide +kernel
theorem dL_law_309 : decode cL_law 309 = .ok (.if_icmp .eq 1721, 3) := by decide +kernel
theorem dL_law_312 : decode cL_law 312 = .ok (.iconst 0, 1) := by decide +kernel
theorem dL_law_313 : decode cL_law 313 = .ok (.ireturn, 1) := by decide +kernel
theorem dL_law_314 : decode cL_law 314 = .ok (.aload_n 1, 1) := by decide +kernel
theorem dL_law_315 : decode cL_law 315 = .ok (.aload_n 0, 1) := by decide +kernel
theorem dL_law_316 : decode cL_law 316 = .ok (.iload 4, 2) := by decide +kernel
theorem dL_law_318 : decode cL_law 318 = .ok (.iconst 1, 1) := by decide +kernel
theorem dL_law_319 : decode cL_law 319 = .ok (.iadd, 1) := by decide +kernel
theorem dL_law_320 : decode cL_law 320 = .ok (.iaload, 1) := by decide +kernel
theorem dL_law_321 : decode cL_law 321 = .ok (.aload_n 3, 1) := by decide +kernel
theorem dL_law_322 : decode cL_law 322 = .ok (.invokestatic 115, 3) := by decide +kernel
theorem dL_law_325 : decode cL_law 325 = .ok (.istore 5, 2) := by decide +kernel
theorem dL_law_327 : decode cL_law 327 = .ok (.aload_n 2, 1) := by decide +kernel
theorem dL_law_328 : decode cL_law 328 = .ok (.aload_n 0, 1) := by decide +kernel
theorem dL_law_329 : decode cL_law 329 = .ok (.iload 4, 2) := by decide +kernel
theorem dL_law_331 : decode cL_law 331 = .ok (.iconst 1, 1) := by decide +kernel
theorem dL_law_332 : decode cL_law 332 = .ok (.iadd, 1) := by decide +kernel
theorem dL_law_333 : decode cL_law 333 = .ok (.iaload, 1) := by decide +kernel
theorem dL_law_334 : decode cL_law 334 = .ok (.invokevirtual 117, 3) := by decide +kernel
theorem dL_law_337 : decode cL_law 337 = .ok (.istore 6, 2) := by decide +kernel
theorem dL_law_339 : decode cL_law 339 = .ok (.aload_n 2, 1) := by decide +kernel
theorem dL_law_340 : decode cL_law 340 = .ok (.invokevirtual 107, 3) := by decide +kernel
theorem dL_law_343 : decode cL_law 343 = .ok (.iload 5, 2) := by decide +kernel
theorem dL_law_345 : decode cL_law 345 = .ok (.if_icmp .eq 5, 3) := by decide +kernel
theorem dL_law_348 : decode cL_law 348 = .ok (.iconst 0, 1) := by decide +kernel
theorem dL_law_349 : decode cL_law 349 = .ok (.ireturn, 1) := by decide +kernel
theorem dL_law_350 : decode cL_law 350 = .ok (.iload 5, 2) := by decide +kernel
theorem dL_law_352 : decode cL_law 352 = .ok (.ifCond .ne 15, 3) := by decide +kernel
theorem dL_law_355 : decode cL_law 355 = .ok (.aload_n 3, 1) := by decide +kernel
theorem dL_law_356 : decode cL_law 356 = .ok (.iconst 0, 1) := by decide +kernel
theorem dL_law_357 : decode cL_law 357 = .ok (.laload, 1) := by decide +kernel
theorem dL_law_358 : decode cL_law 358 = .ok (.iload 6, 2) := by decide +kernel
theorem dL_law_360 : decode cL_law 360 = .ok (.i2l, 1) := by decide +kernel
theorem dL_law_361 : decode cL_law 361 = .ok (.lcmp, 1) := by decide +kernel
theorem dL_law_362 : decode cL_law 362 = .ok (.ifCond .eq 5, 3) := by decide +kernel
theorem dL_law_365 : decode cL_law 365 = .ok (.iconst 0, 1) := by decide +kernel
theorem dL_law_366 : decode cL_law 366 = .ok (.ireturn, 1) := by decide +kernel
theorem dL_law_367 : decode cL_law 367 = .ok (.goto 1663, 3) := by decide +kernel
theorem dL_law_370 : decode cL_law 370 = .ok (.aload_n 1, 1) := by decide +kernel
theorem dL_law_371 : decode cL_law 371 = .ok (.aload_n 0, 1) := by decide +kernel
theorem dL_law_372 : decode cL_law 372 = .ok (.iload 4, 2) := by decide +kernel
theorem dL_law_374 : decode cL_law 374 = .ok (.iconst 1, 1) := by decide +kernel
theorem dL_law_375 : decode cL_law 375 = .ok (.iadd, 1) := by decide +kernel
theorem dL_law_376 : decode cL_law 376 = .ok (.iaload, 1) := by decide +kernel
theorem dL_law_377 : decode cL_law 377 = .ok (.aload_n 0, 1) := by decide +kernel
theorem dL_law_378 : decode cL_law 378 = .ok (.iload 4, 2) := by decide +kernel
theorem dL_law_380 : decode cL_law 380 = .ok (.iconst 2, 1) := by decide +kernel
theorem dL_law_381 : decode cL_law 381 = .ok (.iadd, 1) := by decide +kernel
theorem dL_law_382 : decode cL_law 382 = .ok (.iaload, 1) := by decide +kernel
theorem dL_law_383 : decode cL_law 383 = .ok (.aload_n 3, 1) := by decide +kernel
theorem dL_law_384 : decode cL_law 384 = .ok (.invokestatic 118, 3) := by decide +kernel
theorem dL_law_387 : decode cL_law 387 = .ok (.istore 5, 2) := by decide +kernel
theorem dL_law_389 : decode cL_law 389 = .ok (.aload_n 2, 1) := by decide +kernel
theorem dL_law_390 : decode cL_law 390 = .ok (.aload_n 0, 1) := by decide +kernel
theorem dL_law_391 : decode cL_law 391 = .ok (.iload 4, 2) := by decide +kernel
theorem dL_law_393 : decode cL_law 393 = .ok (.iconst 1, 1) := by decide +kernel
theorem dL_law_394 : decode cL_law 394 = .ok (.iadd, 1) := by decide +kernel
theorem dL_law_395 : decode cL_law 395 = .ok (.iaload, 1) := by decide +kernel
theorem dL_law_396 : decode cL_law 396 = .ok (.aload_n 0, 1) := by decide +kernel
theorem dL_law_397 : decode cL_law 397 = .ok (.iload 4, 2) := by decide +kernel
theorem dL_law_399 : decode cL_law 399 = .ok (.iconst 2, 1) := by decide +kernel
theorem dL_law_400 : decode cL_law 400 = .ok (.iadd, 1) := by decide +kernel
theorem dL_law_401 : decode cL_law 401 = .ok (.iaload, 1) := by decide +kernel
theorem dL_law_402 : decode cL_law 402 = .ok (.invokevirtual 121, 3) := by decide +kernel
theorem dL_law_405 : decode cL_law 405 = .ok (.istore 6, 2) := by decide +kernel
theorem dL_law_407 : decode cL_law 407 = .ok (.aload_n 2, 1) := by decide +kernel
theorem dL_law_408 : decode cL_law 408 = .ok (.invokevirtual 107, 3) := by decide +kernel
theorem dL_law_411 : decode cL_law 411 = .ok (.iload 5, 2) := by decide +kernel
theorem dL_law_413 : decode cL_law 413 = .ok (.if_icmp .eq 5, 3) := by decide +kernel
theorem dL_law_416 : decode cL_law 416 = .ok (.iconst 0, 1) := by decide +kernel
theorem dL_law_417 : decode cL_law 417 = .ok (.ireturn, 1) := by decide +kernel
theorem dL_law_418 : decode cL_law 418 = .ok (.iload 5, 2) := by decide +kernel
theorem dL_law_420 : decode cL_law 420 = .ok (.ifCond .ne 15, 3) := by decide +kernel
theorem dL_law_423 : decode cL_law 423 = .ok (.aload_n 3, 1) := by decide +kernel
theorem dL_law_424 : decode cL_law 424 = .ok (.iconst 0, 1) := by decide +kernel
theorem dL_law_425 : decode cL_law 425 = .ok (.laload, 1) := by decide +kernel
theorem dL_law_426 : decode cL_law 426 = .ok (.iload 6, 2) := by decide +kernel
theorem dL_law_428 : decode cL_law 428 = .ok (.i2l, 1) := by decide +kernel
theorem dL_law_429 : decode cL_law 429 = .ok (.lcmp, 1) := by decide +kernel
theorem dL_law_430 : decode cL_law 430 = .ok (.ifCond .eq 5, 3) := by decide +kernel
theorem dL_law_433 : decode cL_law 433 = .ok (.iconst 0, 1) := by decide +kernel
theorem dL_law_434 : decode cL_law 434 = .ok (.ireturn, 1) := by decide +kernel
theorem dL_law_435 : decode cL_law 435 = .ok (.goto 1595, 3) := by decide +kernel
theorem dL_law_438 : decode cL_law 438 = .ok (.aload_n 1, 1) := by decide +kernel
theorem dL_law_439 : decode cL_law 439 = .ok (.aload_n 0, 1) := by decide +kernel
theorem dL_law_440 : decode cL_law 440 = .ok (.iload 4, 2) := by decide +kernel
theorem dL_law_442 : decode cL_law 442 = .ok (.iconst 1, 1) := by decide +kernel
theorem dL_law_443 : decode cL_law 443 = .ok (.iadd, 1) := by decide +kernel
theorem dL_law_444 : decode cL_law 444 = .ok (.iaload, 1) := by decide +kernel
theorem dL_law_445 : decode cL_law 445 = .ok (.aload_n 0, 1) := by decide +kernel
theorem dL_law_446 : decode cL_law 446 = .ok (.iload 4, 2) := by decide +kernel
theorem dL_law_448 : decode cL_law 448 = .ok (.iconst 2, 1) := by decide +kernel
theorem dL_law_449 : decode cL_law 449 = .ok (.iadd, 1) := by decide +kernel
theorem dL_law_450 : decode cL_law 450 = .ok (.iaload, 1) := by decide +kernel
theorem dL_law_451 : decode cL_law 451 = .ok (.aload_n 0, 1) := by decide +kernel
theorem dL_law_452 : decode cL_law 452 = .ok (.iload 4, 2) := by decide +kernel
theorem dL_law_454 : decode cL_law 454 = .ok (.iconst 3, 1) := by decide +kernel
theorem dL_law_455 : decode cL_law 455 = .ok (.iadd, 1) := by decide +kernel
theorem dL_law_456 : decode cL_law 456 = .ok (.iaload, 1) := by decide +kernel
theorem dL_law_457 : decode cL_law 457 = .ok (.ifCond .eq 7, 3) := by decide +kernel
theorem dL_law_460 : decode cL_law 460 = .ok (.iconst 1, 1) := by decide +kernel
theorem dL_law_461 : decode cL_law 461 = .ok (.goto 4, 3) := by decide +kernel
theorem dL_law_464 : decode cL_law 464 = .ok (.iconst 0, 1) := by decide +kernel
theorem dL_law_465 : decode cL_law 465 = .ok (.aload_n 3, 1) := by decide +kernel
theorem dL_law_466 : decode cL_law 466 = .ok (.invokestatic 122, 3) := by decide +kernel
theorem dL_law_469 : decode cL_law 469 = .ok (.istore 5, 2) := by decide +kernel
theorem dL_law_471 : decode cL_law 471 = .ok (.aload_n 2, 1) := by decide +kernel
theorem dL_law_472 : decode cL_law 472 = .ok (.aload_n 0, 1) := by decide +kernel
theorem dL_law_473 : decode cL_law 473 = .ok (.iload 4, 2) := by decide +kernel
theorem dL_law_475 : decode cL_law 475 = .ok (.iconst 1, 1) := by decide +kernel
theorem dL_law_476 : decode cL_law 476 = .ok (.iadd, 1) := by decide +kernel
theorem dL_law_477 : decode cL_law 477 = .ok (.iaload, 1) := by decide +kernel
theorem dL_law_478 : decode cL_law 478 = .ok (.aload_n 0, 1) := by decide +kernel
theorem dL_law_479 : decode cL_law 479 = .ok (.iload 4, 2) := by decide +kernel
theorem dL_law_481 : decode cL_law 481 = .ok (.iconst 2, 1) := by decide +kernel
theorem dL_law_482 : decode cL_law 482 = .ok (.iadd, 1) := by decide +kernel
theorem dL_law_483 : decode cL_law 483 = .ok (.iaload, 1) := by decide +kernel
theorem dL_law_484 : decode cL_law 484 = .ok (.aload_n 0, 1) := by decide +kernel
theorem dL_law_485 : decode cL_law 485 = .ok (.iload 4, 2) := by decide +kernel
theorem dL_law_487 : decode cL_law 487 = .ok (.iconst 3, 1) := by decide +kernel
theorem dL_law_488 : decode cL_law 488 = .ok (.iadd, 1) := by decide +kernel
theorem dL_law_489 : decode cL_law 489 = .ok (.iaload, 1) := by decide +kernel
theorem dL_law_490 : decode cL_law 490 = .ok (.ifCond .eq 7, 3) := by decide +kernel
theorem dL_law_493 : decode cL_law 493 = .ok (.iconst 1, 1) := by decide +kernel
theorem dL_law_494 : decode cL_law 494 = .ok (.goto 4, 3) := by decide +kernel
theorem dL_law_497 : decode cL_law 497 = .ok (.iconst 0, 1) := by decide +kernel
theorem dL_law_498 : decode cL_law 498 = .ok (.invokevirtual 125, 3) := by decide +kernel
theorem dL_law_501 : decode cL_law 501 = .ok (.istore 6, 2) := by decide +kernel
theorem dL_law_503 : decode cL_law 503 = .ok (.aload_n 2, 1) := by decide +kernel
theorem dL_law_504 : decode cL_law 504 = .ok (.invokevirtual 107, 3) := by decide +kernel
theorem dL_law_507 : decode cL_law 507 = .ok (.iload 5, 2) := by decide +kernel
theorem dL_law_509 : decode cL_law 509 = .ok (.if_icmp .eq 5, 3) := by decide +kernel
theorem dL_law_512 : decode cL_law 512 = .ok (.iconst 0, 1) := by decide +kernel
theorem dL_law_513 : decode cL_law 513 = .ok (.ireturn, 1) := by decide +kernel
theorem dL_law_514 : decode cL_law 514 = .ok (.iload 5, 2) := by decide +kernel
theorem dL_law_516 : decode cL_law 516 = .ok (.ifCond .ne 15, 3) := by decide +kernel
theorem dL_law_519 : decode cL_law 519 = .ok (.aload_n 3, 1) := by decide +kernel
theorem dL_law_520 : decode cL_law 520 = .ok (.iconst 0, 1) := by decide +kernel
theorem dL_law_521 : decode cL_law 521 = .ok (.laload, 1) := by decide +kernel
theorem dL_law_522 : decode cL_law 522 = .ok (.iload 6, 2) := by decide +kernel
theorem dL_law_524 : decode cL_law 524 = .ok (.i2l, 1) := by decide +kernel
theorem dL_law_525 : decode cL_law 525 = .ok (.lcmp, 1) := by decide +kernel
theorem dL_law_526 : decode cL_law 526 = .ok (.ifCond .eq 5, 3) := by decide +kernel
theorem dL_law_529 : decode cL_law 529 = .ok (.iconst 0, 1) := by decide +kernel
theorem dL_law_530 : decode cL_law 530 = .ok (.ireturn, 1) := by decide +kernel
theorem dL_law_531 : decode cL_law 531 = .ok (.goto 1499, 3) := by decide +kernel
theorem dL_law_534 : decode cL_law 534 = .ok (.aload_n 1, 1) := by decide +kernel
theorem dL_law_535 : decode cL_law 535 = .ok (.aload_n 0, 1) := by decide +kernel
theorem dL_law_536 : decode cL_law 536 = .ok (.iload 4, 2) := by decide +kernel
theorem dL_law_538 : decode cL_law 538 = .ok (.iconst 1, 1) := by decide +kernel
theorem dL_law_539 : decode cL_law 539 = .ok (.iadd, 1) := by decide +kernel
theorem dL_law_540 : decode cL_law 540 = .ok (.iaload, 1) := by decide +kernel
theorem dL_law_541 : decode cL_law 541 = .ok (.aload_n 0, 1) := by decide +kernel
theorem dL_law_542 : decode cL_law 542 = .ok (.iload 4, 2) := by decide +kernel
theorem dL_law_544 : decode cL_law 544 = .ok (.iconst 2, 1) := by decide +kernel
theorem dL_law_545 : decode cL_law 545 = .ok (.iadd, 1) := by decide +kernel
theorem dL_law_546 : decode cL_law 546 = .ok (.iaload, 1) := by decide +kernel
theorem dL_law_547 : decode cL_law 547 = .ok (.aload_n 3, 1) := by decide +kernel
theorem dL_law_548 : decode cL_law 548 = .ok (.invokestatic 126, 3) := by decide +kernel
theorem dL_law_551 : decode cL_law 551 = .ok (.istore 5, 2) := by decide +kernel
theorem dL_law_553 : decode cL_law 553 = .ok (.aload_n 2, 1) := by decide +kernel
theorem dL_law_554 : decode cL_law 554 = .ok (.aload_n 0, 1) := by decide +kernel
theorem dL_law_555 : decode cL_law 555 = .ok (.iload 4, 2) := by decide +kernel
theorem dL_law_557 : decode cL_law 557 = .ok (.iconst 1, 1) := by decide +kernel
theorem dL_law_558 : decode cL_law 558 = .ok (.iadd, 1) := by decide +kernel
theorem dL_law_559 : decode cL_law 559 = .ok (.iaload, 1) := by decide +kernel
theorem dL_law_560 : decode cL_law 560 = .ok (.aload_n 0, 1) := by decide +kernel
theorem dL_law_561 : decode cL_law 561 = .ok (.iload 4, 2) := by decide +kernel
theorem dL_law_563 : decode cL_law 563 = .ok (.iconst 2, 1) := by decide +kernel
theorem dL_law_564 : decode cL_law 564 = .ok (.iadd, 1) := by decide +kernel
theorem dL_law_565 : decode cL_law 565 = .ok (.iaload, 1) := by decide +kernel
theorem dL_law_566 : decode cL_law 566 = .ok (.invokevirtual 128, 3) := by decide +kernel
theorem dL_law_569 : decode cL_law 569 = .ok (.istore 6, 2) := by decide +kernel
theorem dL_law_571 : decode cL_law 571 = .ok (.aload_n 2, 1) := by decide +kernel
theorem dL_law_572 : decode cL_law 572 = .ok (.invokevirtual 107, 3) := by decide +kernel
theorem dL_law_575 : decode cL_law 575 = .ok (.iload 5, 2) := by decide +kernel
theorem dL_law_577 : decode cL_law 577 = .ok (.if_icmp .eq 5, 3) := by decide +kernel
theorem dL_law_580 : decode cL_law 580 = .ok (.iconst 0, 1) := by decide +kernel
theorem dL_law_581 : decode cL_law 581 = .ok (.ireturn, 1) := by decide +kernel
theorem dL_law_582 : decode cL_law 582 = .ok (.iload 5, 2) := by decide +kernel
theorem dL_law_584 : decode cL_law 584 = .ok (.ifCond .ne 15, 3) := by decide +kernel
theorem dL_law_587 : decode cL_law 587 = .ok (.aload_n 3, 1) := by decide +kernel
theorem dL_law_588 : decode cL_law 588 = .ok (.iconst 0, 1) := by decide +kernel
theorem dL_law_589 : decode cL_law 589 = .ok (.laload, 1) := by decide +kernel
theorem dL_law_590 : decode cL_law 590 = .ok (.iload 6, 2) := by decide +kernel
theorem dL_law_592 : decode cL_law 592 = .ok (.i2l, 1) := by decide +kernel
theorem dL_law_593 : decode cL_law 593 = .ok (.lcmp, 1) := by decide +kernel
theorem dL_law_594 : decode cL_law 594 = .ok (.ifCond .eq 5, 3) := by decide +kernel
theorem dL_law_597 : decode cL_law 597 = .ok (.iconst 0, 1) := by decide +kernel
theorem dL_law_598 : decode cL_law 598 = .ok (.ireturn, 1) := by decide +kernel
theorem dL_law_599 : decode cL_law 599 = .ok (.goto 1431, 3) := by decide +kernel
theorem dL_law_602 : decode cL_law 602 = .ok (.aload_n 1, 1) := by decide +kernel
theorem dL_law_603 : decode cL_law 603 = .ok (.aload_n 0, 1) := by decide +kernel
theorem dL_law_604 : decode cL_law 604 = .ok (.iload 4, 2) := by decide +kernel
theorem dL_law_606 : decode cL_law 606 = .ok (.iconst 1, 1) := by decide +kernel
theorem dL_law_607 : decode cL_law 607 = .ok (.iadd, 1) := by decide +kernel
theorem dL_law_608 : decode cL_law 608 = .ok (.iaload, 1) := by decide +kernel
theorem dL_law_609 : decode cL_law 609 = .ok (.aload_n 0, 1) := by decide +kernel
theorem dL_law_610 : decode cL_law 610 = .ok (.iload 4, 2) := by decide +kernel
theorem dL_law_612 : decode cL_law 612 = .ok (.iconst 2, 1) := by decide +kernel
theorem dL_law_613 : decode cL_law 613 = .ok (.iadd, 1) := by decide +kernel
theorem dL_law_614 : decode cL_law 614 = .ok (.iaload, 1) := by decide +kernel
theorem dL_law_615 : decode cL_law 615 = .ok (.aload_n 3, 1) := by decide +kernel
theorem dL_law_616 : decode cL_law 616 = .ok (.invokestatic 129, 3) := by decide +kernel
theorem dL_law_619 : decode cL_law 619 = .ok (.istore 5, 2) := by decide +kernel
theorem dL_law_621 : decode cL_law 621 = .ok (.aload_n 2, 1) := by decide +kernel
theorem dL_law_622 : decode cL_law 622 = .ok (.aload_n 0, 1) := by decide +kernel
theorem dL_law_623 : decode cL_law 623 = .ok (.iload 4, 2) := by decide +kernel
theorem dL_law_625 : decode cL_law 625 = .ok (.iconst 1, 1) := by decide +kernel
theorem dL_law_626 : decode cL_law 626 = .ok (.iadd, 1) := by decide +kernel
theorem dL_law_627 : decode cL_law 627 = .ok (.iaload, 1) := by decide +kernel
theorem dL_law_628 : decode cL_law 628 = .ok (.aload_n 0, 1) := by decide +kernel
theorem dL_law_629 : decode cL_law 629 = .ok (.iload 4, 2) := by decide +kernel
theorem dL_law_631 : decode cL_law 631 = .ok (.iconst 2, 1) := by decide +kernel
theorem dL_law_632 : decode cL_law 632 = .ok (.iadd, 1) := by decide +kernel
theorem dL_law_633 : decode cL_law 633 = .ok (.iaload, 1) := by decide +kernel
theorem dL_law_634 : decode cL_law 634 = .ok (.invokevirtual 131, 3) := by decide +kernel
theorem dL_law_637 : decode cL_law 637 = .ok (.istore 6, 2) := by decide +kernel
theorem dL_law_639 : decode cL_law 639 = .ok (.aload_n 2, 1) := by decide +kernel
theorem dL_law_640 : decode cL_law 640 = .ok (.invokevirtual 107, 3) := by decide +kernel
theorem dL_law_643 : decode cL_law 643 = .ok (.iload 5, 2) := by decide +kernel
theorem dL_law_645 : decode cL_law 645 = .ok (.if_icmp .eq 5, 3) := by decide +kernel
theorem dL_law_648 : decode cL_law 648 = .ok (.iconst 0, 1) := by decide +kernel
theorem dL_law_649 : decode cL_law 649 = .ok (.ireturn, 1) := by decide +kernel
theorem dL_law_650 : decode cL_law 650 = .ok (.iload 5, 2) := by decide +kernel
theorem dL_law_652 : decode cL_law 652 = .ok (.ifCond .ne 15, 3) := by decide +kernel
theorem dL_law_655 : decode cL_law 655 = .ok (.aload_n 3, 1) := by decide +kernel
theorem dL_law_656 : decode cL_law 656 = .ok (.iconst 0, 1) := by decide +kernel
theorem dL_law_657 : decode cL_law 657 = .ok (.laload, 1) := by decide +kernel
theorem dL_law_658 : decode cL_law 658 = .ok (.iload 6, 2) := by decide +kernel
theorem dL_law_660 : decode cL_law 660 = .ok (.i2l, 1) := by decide +kernel
theorem dL_law_661 : decode cL_law 661 = .ok (.lcmp, 1) := by decide +kernel
theorem dL_law_662 : decode cL_law 662 = .ok (.ifCond .eq 5, 3) := by decide +kernel
theorem dL_law_665 : decode cL_law 665 = .ok (.iconst 0, 1) := by decide +kernel
theorem dL_law_666 : decode cL_law 666 = .ok (.ireturn, 1) := by decide +kernel
theorem dL_law_667 : decode cL_law 667 = .ok (.goto 1363, 3) := by decide +kernel
theorem dL_law_670 : decode cL_law 670 = .ok (.aload_n 1, 1) := by decide +kernel
theorem dL_law_671 : decode cL_law 671 = .ok (.aload_n 0, 1) := by decide +kernel
theorem dL_law_672 : decode cL_law 672 = .ok (.iload 4, 2) := by decide +kernel
theorem dL_law_674 : decode cL_law 674 = .ok (.iconst 1, 1) := by decide +kernel
theorem dL_law_675 : decode cL_law 675 = .ok (.iadd, 1) := by decide +kernel
theorem dL_law_676 : decode cL_law 676 = .ok (.iaload, 1) := by decide +kernel
theorem dL_law_677 : decode cL_law 677 = .ok (.aload_n 0, 1) := by decide +kernel
theorem dL_law_678 : decode cL_law 678 = .ok (.iload 4, 2) := by decide +kernel
theorem dL_law_680 : decode cL_law 680 = .ok (.iconst 2, 1) := by decide +kernel
theorem dL_law_681 : decode cL_law 681 = .ok (.iadd, 1) := by decide +kernel
theorem dL_law_682 : decode cL_law 682 = .ok (.iaload, 1) := by decide +kernel
theorem dL_law_683 : decode cL_law 683 = .ok (.aload_n 3, 1) := by decide +kernel
theorem dL_law_684 : decode cL_law 684 = .ok (.invokestatic 132, 3) := by decide +kernel
theorem dL_law_687 : decode cL_law 687 = .ok (.istore 5, 2) := by decide +kernel
theorem dL_law_689 : decode cL_law 689 = .ok (.aload_n 2, 1) := by decide +kernel
theorem dL_law_690 : decode cL_law 690 = .ok (.aload_n 0, 1) := by decide +kernel
theorem dL_law_691 : decode cL_law 691 = .ok (.iload 4, 2) := by decide +kernel
theorem dL_law_693 : decode cL_law 693 = .ok (.iconst 1, 1) := by decide +kernel
theorem dL_law_694 : decode cL_law 694 = .ok (.iadd, 1) := by decide +kernel
theorem dL_law_695 : decode cL_law 695 = .ok (.iaload, 1) := by decide +kernel
theorem dL_law_696 : decode cL_law 696 = .ok (.aload_n 0, 1) := by decide +kernel
theorem dL_law_697 : decode cL_law 697 = .ok (.iload 4, 2) := by decide +kernel
theorem dL_law_699 : decode cL_law 699 = .ok (.iconst 2, 1) := by decide +kernel
theorem dL_law_700 : decode cL_law 700 = .ok (.iadd, 1) := by decide +kernel
theorem dL_law_701 : decode cL_law 701 = .ok (.iaload, 1) := by decide +kernel
theorem dL_law_702 : decode cL_law 702 = .ok (.invokevirtual 134, 3) := by decide +kernel
theorem dL_law_705 : decode cL_law 705 = .ok (.istore 6, 2) := by decide +kernel
theorem dL_law_707 : decode cL_law 707 = .ok (.aload_n 2, 1) := by decide +kernel
theorem dL_law_708 : decode cL_law 708 = .ok (.invokevirtual 107, 3) := by decide +kernel
theorem dL_law_711 : decode cL_law 711 = .ok (.iload 5, 2) := by decide +kernel
theorem dL_law_713 : decode cL_law 713 = .ok (.if_icmp .eq 5, 3) := by decide +kernel
theorem dL_law_716 : decode cL_law 716 = .ok (.iconst 0, 1) := by decide +kernel
theorem dL_law_717 : decode cL_law 717 = .ok (.ireturn, 1) := by decide +kernel
theorem dL_law_718 : decode cL_law 718 = .ok (.iload 5, 2) := by decide +kernel
theorem dL_law_720 : decode cL_law 720 = .ok (.ifCond .ne 15, 3) := by decide +kernel
theorem dL_law_723 : decode cL_law 723 = .ok (.aload_n 3, 1) := by decide +kernel
theorem dL_law_724 : decode cL_law 724 = .ok (.iconst 0, 1) := by decide +kernel
theorem dL_law_725 : decode cL_law 725 = .ok (.laload, 1) := by decide +kernel
theorem dL_law_726 : decode cL_law 726 = .ok (.iload 6, 2) := by decide +kernel
theorem dL_law_728 : decode cL_law 728 = .ok (.i2l, 1) := by decide +kernel
theorem dL_law_729 : decode cL_law 729 = .ok (.lcmp, 1) := by decide +kernel
theorem dL_law_730 : decode cL_law 730 = .ok (.ifCond .eq 5, 3) := by decide +kernel
theorem dL_law_733 : decode cL_law 733 = .ok (.iconst 0, 1) := by decide +kernel
theorem dL_law_734 : decode cL_law 734 = .ok (.ireturn, 1) := by decide +kernel
theorem dL_law_735 : decode cL_law 735 = .ok (.goto 1295, 3) := by decide +kernel
theorem dL_law_738 : decode cL_law 738 = .ok (.aload_n 1, 1) := by decide +kernel
theorem dL_law_739 : decode cL_law 739 = .ok (.aload_n 0, 1) := by decide +kernel
theorem dL_law_740 : decode cL_law 740 = .ok (.iload 4, 2) := by decide +kernel
theorem dL_law_742 : decode cL_law 742 = .ok (.iconst 1, 1) := by decide +kernel
theorem dL_law_743 : decode cL_law 743 = .ok (.iadd, 1) := by decide +kernel
theorem dL_law_744 : decode cL_law 744 = .ok (.iaload, 1) := by decide +kernel
theorem dL_law_745 : decode cL_law 745 = .ok (.aload_n 0, 1) := by decide +kernel
theorem dL_law_746 : decode cL_law 746 = .ok (.iload 4, 2) := by decide +kernel
theorem dL_law_748 : decode cL_law 748 = .ok (.iconst 2, 1) := by decide +kernel
theorem dL_law_749 : decode cL_law 749 = .ok (.iadd, 1) := by decide +kernel
theorem dL_law_750 : decode cL_law 750 = .ok (.iaload, 1) := by decide +kernel
theorem dL_law_751 : decode cL_law 751 = .ok (.aload_n 0, 1) := by decide +kernel
theorem dL_law_752 : decode cL_law 752 = .ok (.iload 4, 2) := by decide +kernel
theorem dL_law_754 : decode cL_law 754 = .ok (.iconst 3, 1) := by decide +kernel
theorem dL_law_755 : decode cL_law 755 = .ok (.iadd, 1) := by decide +kernel
theorem dL_law_756 : decode cL_law 756 = .ok (.iaload, 1) := by decide +kernel
theorem dL_law_757 : decode cL_law 757 = .ok (.aload_n 3, 1) := by decide +kernel
theorem dL_law_758 : decode cL_law 758 = .ok (.invokestatic 135, 3) := by decide +kernel
theorem dL_law_761 : decode cL_law 761 = .ok (.istore 5, 2) := by decide +kernel
theorem dL_law_763 : decode cL_law 763 = .ok (.aload_n 2, 1) := by decide +kernel
theorem dL_law_764 : decode cL_law 764 = .ok (.aload_n 0, 1) := by decide +kernel
theorem dL_law_765 : decode cL_law 765 = .ok (.iload 4, 2) := by decide +kernel
theorem dL_law_767 : decode cL_law 767 = .ok (.iconst 1, 1) := by decide +kernel
theorem dL_law_768 : decode cL_law 768 = .ok (.iadd, 1) := by decide +kernel
theorem dL_law_769 : decode cL_law 769 = .ok (.iaload, 1) := by decide +kernel
theorem dL_law_770 : decode cL_law 770 = .ok (.aload_n 0, 1) := by decide +kernel
theorem dL_law_771 : decode cL_law 771 = .ok (.iload 4, 2) := by decide +kernel
theorem dL_law_773 : decode cL_law 773 = .ok (.iconst 2, 1) := by decide +kernel
theorem dL_law_774 : decode cL_law 774 = .ok (.iadd, 1) := by decide +kernel
theorem dL_law_775 : decode cL_law 775 = .ok (.iaload, 1) := by decide +kernel
theorem dL_law_776 : decode cL_law 776 = .ok (.aload_n 0, 1) := by decide +kernel
theorem dL_law_777 : decode cL_law 777 = .ok (.iload 4, 2) := by decide +kernel
theorem dL_law_779 : decode cL_law 779 = .ok (.iconst 3, 1) := by decide +kernel
theorem dL_law_780 : decode cL_law 780 = .ok (.iadd, 1) := by decide +kernel
theorem dL_law_781 : decode cL_law 781 = .ok (.iaload, 1) := by decide +kernel
theorem dL_law_782 : decode cL_law 782 = .ok (.invokevirtual 138, 3) := by decide +kernel
theorem dL_law_785 : decode cL_law 785 = .ok (.istore 6, 2) := by decide +kernel
theorem dL_law_787 : decode cL_law 787 = .ok (.aload_n 2, 1) := by decide +kernel
theorem dL_law_788 : decode cL_law 788 = .ok (.invokevirtual 107, 3) := by decide +kernel
theorem dL_law_791 : decode cL_law 791 = .ok (.iload 5, 2) := by decide +kernel
theorem dL_law_793 : decode cL_law 793 = .ok (.if_icmp .eq 5, 3) := by decide +kernel
theorem dL_law_796 : decode cL_law 796 = .ok (.iconst 0, 1) := by decide +kernel
theorem dL_law_797 : decode cL_law 797 = .ok (.ireturn, 1) := by decide +kernel
theorem dL_law_798 : decode cL_law 798 = .ok (.iload 5, 2) := by decide +kernel
theorem dL_law_800 : decode cL_law 800 = .ok (.ifCond .ne 15, 3) := by decide +kernel
theorem dL_law_803 : decode cL_law 803 = .ok (.aload_n 3, 1) := by decide +kernel
theorem dL_law_804 : decode cL_law 804 = .ok (.iconst 0, 1) := by decide +kernel
theorem dL_law_805 : decode cL_law 805 = .ok (.laload, 1) := by decide +kernel
theorem dL_law_806 : decode cL_law 806 = .ok (.iload 6, 2) := by decide +kernel
theorem dL_law_808 : decode cL_law 808 = .ok (.i2l, 1) := by decide +kernel
theorem dL_law_809 : decode cL_law 809 = .ok (.lcmp, 1) := by decide +kernel
theorem dL_law_810 : decode cL_law 810 = .ok (.ifCond .eq 5, 3) := by decide +kernel
theorem dL_law_813 : decode cL_law 813 = .ok (.iconst 0, 1) := by decide +kernel
theorem dL_law_814 : decode cL_law 814 = .ok (.ireturn, 1) := by decide +kernel
theorem dL_law_815 : decode cL_law 815 = .ok (.goto 1215, 3) := by decide +kernel
theorem dL_law_818 : decode cL_law 818 = .ok (.aload_n 1, 1) := by decide +kernel
theorem dL_law_819 : decode cL_law 819 = .ok (.aload_n 0, 1) := by decide +kernel
theorem dL_law_820 : decode cL_law 820 = .ok (.iload 4, 2) := by decide +kernel
theorem dL_law_822 : decode cL_law 822 = .ok (.iconst 1, 1) := by decide +kernel
theorem dL_law_823 : decode cL_law 823 = .ok (.iadd, 1) := by decide +kernel
theorem dL_law_824 : decode cL_law 824 = .ok (.iaload, 1) := by decide +kernel
theorem dL_law_825 : decode cL_law 825 = .ok (.aload_n 0, 1) := by decide +kernel
theorem dL_law_826 : decode cL_law 826 = .ok (.iload 4, 2) := by decide +kernel
theorem dL_law_828 : decode cL_law 828 = .ok (.iconst 2, 1) := by decide +kernel
theorem dL_law_829 : decode cL_law 829 = .ok (.iadd, 1) := by decide +kernel
theorem dL_law_830 : decode cL_law 830 = .ok (.iaload, 1) := by decide +kernel
theorem dL_law_831 : decode cL_law 831 = .ok (.aload_n 3, 1) := by decide +kernel
theorem dL_law_832 : decode cL_law 832 = .ok (.invokestatic 139, 3) := by decide +kernel
theorem dL_law_835 : decode cL_law 835 = .ok (.istore 5, 2) := by decide +kernel
theorem dL_law_837 : decode cL_law 837 = .ok (.aload_n 2, 1) := by decide +kernel
theorem dL_law_838 : decode cL_law 838 = .ok (.aload_n 0, 1) := by decide +kernel
theorem dL_law_839 : decode cL_law 839 = .ok (.iload 4, 2) := by decide +kernel
theorem dL_law_841 : decode cL_law 841 = .ok (.iconst 1, 1) := by decide +kernel
theorem dL_law_842 : decode cL_law 842 = .ok (.iadd, 1) := by decide +kernel
theorem dL_law_843 : decode cL_law 843 = .ok (.iaload, 1) := by decide +kernel
theorem dL_law_844 : decode cL_law 844 = .ok (.aload_n 0, 1) := by decide +kernel
theorem dL_law_845 : decode cL_law 845 = .ok (.iload 4, 2) := by decide +kernel
theorem dL_law_847 : decode cL_law 847 = .ok (.iconst 2, 1) := by decide +kernel
theorem dL_law_848 : decode cL_law 848 = .ok (.iadd, 1) := by decide +kernel
theorem dL_law_849 : decode cL_law 849 = .ok (.iaload, 1) := by decide +kernel
theorem dL_law_850 : decode cL_law 850 = .ok (.invokevirtual 141, 3) := by decide +kernel
theorem dL_law_853 : decode cL_law 853 = .ok (.istore 6, 2) := by decide +kernel
theorem dL_law_855 : decode cL_law 855 = .ok (.aload_n 2, 1) := by decide +kernel
theorem dL_law_856 : decode cL_law 856 = .ok (.invokevirtual 107, 3) := by decide +kernel
theorem dL_law_859 : decode cL_law 859 = .ok (.iload 5, 2) := by decide +kernel
theorem dL_law_861 : decode cL_law 861 = .ok (.if_icmp .eq 5, 3) := by decide +kernel
theorem dL_law_864 : decode cL_law 864 = .ok (.iconst 0, 1) := by decide +kernel
theorem dL_law_865 : decode cL_law 865 = .ok (.ireturn, 1) := by decide +kernel
theorem dL_law_866 : decode cL_law 866 = .ok (.iload 5, 2) := by decide +kernel
theorem dL_law_868 : decode cL_law 868 = .ok (.ifCond .ne 15, 3) := by decide +kernel
theorem dL_law_871 : decode cL_law 871 = .ok (.aload_n 3, 1) := by decide +kernel
theorem dL_law_872 : decode cL_law 872 = .ok (.iconst 0, 1) := by decide +kernel
theorem dL_law_873 : decode cL_law 873 = .ok (.laload, 1) := by decide +kernel
theorem dL_law_874 : decode cL_law 874 = .ok (.iload 6, 2) := by decide +kernel
theorem dL_law_876 : decode cL_law 876 = .ok (.i2l, 1) := by decide +kernel
theorem dL_law_877 : decode cL_law 877 = .ok (.lcmp, 1) := by decide +kernel
theorem dL_law_878 : decode cL_law 878 = .ok (.ifCond .eq 5, 3) := by decide +kernel
theorem dL_law_881 : decode cL_law 881 = .ok (.iconst 0, 1) := by decide +kernel
theorem dL_law_882 : decode cL_law 882 = .ok (.ireturn, 1) := by decide +kernel
theorem dL_law_883 : decode cL_law 883 = .ok (.goto 1147, 3) := by decide +kernel
theorem dL_law_886 : decode cL_law 886 = .ok (.aload_n 1, 1) := by decide +kernel
theorem dL_law_887 : decode cL_law 887 = .ok (.aload_n 0, 1) := by decide +kernel
theorem dL_law_888 : decode cL_law 888 = .ok (.iload 4, 2) := by decide +kernel
theorem dL_law_890 : decode cL_law 890 = .ok (.iconst 1, 1) := by decide +kernel
theorem dL_law_891 : decode cL_law 891 = .ok (.iadd, 1) := by decide +kernel
theorem dL_law_892 : decode cL_law 892 = .ok (.iaload, 1) := by decide +kernel
theorem dL_law_893 : decode cL_law 893 = .ok (.aload_n 0, 1) := by decide +kernel
theorem dL_law_894 : decode cL_law 894 = .ok (.iload 4, 2) := by decide +kernel
theorem dL_law_896 : decode cL_law 896 = .ok (.iconst 2, 1) := by decide +kernel
theorem dL_law_897 : decode cL_law 897 = .ok (.iadd, 1) := by decide +kernel
theorem dL_law_898 : decode cL_law 898 = .ok (.iaload, 1) := by decide +kernel
theorem dL_law_899 : decode cL_law 899 = .ok (.aload_n 3, 1) := by decide +kernel
theorem dL_law_900 : decode cL_law 900 = .ok (.invokestatic 142, 3) := by decide +kernel
theorem dL_law_903 : decode cL_law 903 = .ok (.istore 5, 2) := by decide +kernel
theorem dL_law_905 : decode cL_law 905 = .ok (.aload_n 2, 1) := by decide +kernel
theorem dL_law_906 : decode cL_law 906 = .ok (.aload_n 0, 1) := by decide +kernel
theorem dL_law_907 : decode cL_law 907 = .ok (.iload 4, 2) := by decide +kernel
theorem dL_law_909 : decode cL_law 909 = .ok (.iconst 1, 1) := by decide +kernel
theorem dL_law_910 : decode cL_law 910 = .ok (.iadd, 1) := by decide +kernel
theorem dL_law_911 : decode cL_law 911 = .ok (.iaload, 1) := by decide +kernel
theorem dL_law_912 : decode cL_law 912 = .ok (.aload_n 0, 1) := by decide +kernel
theorem dL_law_913 : decode cL_law 913 = .ok (.iload 4, 2) := by decide +kernel
theorem dL_law_915 : decode cL_law 915 = .ok (.iconst 2, 1) := by decide +kernel
theorem dL_law_916 : decode cL_law 916 = .ok (.iadd, 1) := by decide +kernel
theorem dL_law_917 : decode cL_law 917 = .ok (.iaload, 1) := by decide +kernel
theorem dL_law_918 : decode cL_law 918 = .ok (.invokevirtual 144, 3) := by decide +kernel
theorem dL_law_921 : decode cL_law 921 = .ok (.istore 6, 2) := by decide +kernel
theorem dL_law_923 : decode cL_law 923 = .ok (.aload_n 2, 1) := by decide +kernel
theorem dL_law_924 : decode cL_law 924 = .ok (.invokevirtual 107, 3) := by decide +kernel
theorem dL_law_927 : decode cL_law 927 = .ok (.iload 5, 2) := by decide +kernel
theorem dL_law_929 : decode cL_law 929 = .ok (.if_icmp .eq 5, 3) := by decide +kernel
theorem dL_law_932 : decode cL_law 932 = .ok (.iconst 0, 1) := by decide +kernel
theorem dL_law_933 : decode cL_law 933 = .ok (.ireturn, 1) := by decide +kernel
theorem dL_law_934 : decode cL_law 934 = .ok (.iload 5, 2) := by decide +kernel
theorem dL_law_936 : decode cL_law 936 = .ok (.ifCond .ne 15, 3) := by decide +kernel
theorem dL_law_939 : decode cL_law 939 = .ok (.aload_n 3, 1) := by decide +kernel
theorem dL_law_940 : decode cL_law 940 = .ok (.iconst 0, 1) := by decide +kernel
theorem dL_law_941 : decode cL_law 941 = .ok (.laload, 1) := by decide +kernel
theorem dL_law_942 : decode cL_law 942 = .ok (.iload 6, 2) := by decide +kernel
theorem dL_law_944 : decode cL_law 944 = .ok (.i2l, 1) := by decide +kernel
theorem dL_law_945 : decode cL_law 945 = .ok (.lcmp, 1) := by decide +kernel
theorem dL_law_946 : decode cL_law 946 = .ok (.ifCond .eq 5, 3) := by decide +kernel
theorem dL_law_949 : decode cL_law 949 = .ok (.iconst 0, 1) := by decide +kernel
theorem dL_law_950 : decode cL_law 950 = .ok (.ireturn, 1) := by decide +kernel
theorem dL_law_951 : decode cL_law 951 = .ok (.goto 1079, 3) := by decide +kernel
theorem dL_law_954 : decode cL_law 954 = .ok (.aload_n 1, 1) := by decide +kernel
theorem dL_law_955 : decode cL_law 955 = .ok (.aload_n 0, 1) := by decide +kernel
theorem dL_law_956 : decode cL_law 956 = .ok (.iload 4, 2) := by decide +kernel
theorem dL_law_958 : decode cL_law 958 = .ok (.iconst 1, 1) := by decide +kernel
theorem dL_law_959 : decode cL_law 959 = .ok (.iadd, 1) := by decide +kernel
theorem dL_law_960 : decode cL_law 960 = .ok (.iaload, 1) := by decide +kernel
theorem dL_law_961 : decode cL_law 961 = .ok (.aload_n 0, 1) := by decide +kernel
theorem dL_law_962 : decode cL_law 962 = .ok (.iload 4, 2) := by decide +kernel
theorem dL_law_964 : decode cL_law 964 = .ok (.iconst 2, 1) := by decide +kernel
theorem dL_law_965 : decode cL_law 965 = .ok (.iadd, 1) := by decide +kernel
theorem dL_law_966 : decode cL_law 966 = .ok (.iaload, 1) := by decide +kernel
theorem dL_law_967 : decode cL_law 967 = .ok (.aload_n 3, 1) := by decide +kernel
theorem dL_law_968 : decode cL_law 968 = .ok (.invokestatic 145, 3) := by decide +kernel
theorem dL_law_971 : decode cL_law 971 = .ok (.istore 5, 2) := by decide +kernel
theorem dL_law_973 : decode cL_law 973 = .ok (.aload_n 2, 1) := by decide +kernel
theorem dL_law_974 : decode cL_law 974 = .ok (.aload_n 0, 1) := by decide +kernel
theorem dL_law_975 : decode cL_law 975 = .ok (.iload 4, 2) := by decide +kernel
theorem dL_law_977 : decode cL_law 977 = .ok (.iconst 1, 1) := by decide +kernel
theorem dL_law_978 : decode cL_law 978 = .ok (.iadd, 1) := by decide +kernel
theorem dL_law_979 : decode cL_law 979 = .ok (.iaload, 1) := by decide +kernel
theorem dL_law_980 : decode cL_law 980 = .ok (.aload_n 0, 1) := by decide +kernel
theorem dL_law_981 : decode cL_law 981 = .ok (.iload 4, 2) := by decide +kernel
theorem dL_law_983 : decode cL_law 983 = .ok (.iconst 2, 1) := by decide +kernel
theorem dL_law_984 : decode cL_law 984 = .ok (.iadd, 1) := by decide +kernel
theorem dL_law_985 : decode cL_law 985 = .ok (.iaload, 1) := by decide +kernel
theorem dL_law_986 : decode cL_law 986 = .ok (.invokevirtual 147, 3) := by decide +kernel
theorem dL_law_989 : decode cL_law 989 = .ok (.istore 6, 2) := by decide +kernel
theorem dL_law_991 : decode cL_law 991 = .ok (.aload_n 2, 1) := by decide +kernel
theorem dL_law_992 : decode cL_law 992 = .ok (.invokevirtual 107, 3) := by decide +kernel
theorem dL_law_995 : decode cL_law 995 = .ok (.iload 5, 2) := by decide +kernel
theorem dL_law_997 : decode cL_law 997 = .ok (.if_icmp .eq 5, 3) := by decide +kernel
theorem dL_law_1000 : decode cL_law 1000 = .ok (.iconst 0, 1) := by decide +kernel
theorem dL_law_1001 : decode cL_law 1001 = .ok (.ireturn, 1) := by decide +kernel
theorem dL_law_1002 : decode cL_law 1002 = .ok (.iload 5, 2) := by decide +kernel
theorem dL_law_1004 : decode cL_law 1004 = .ok (.ifCond .ne 15, 3) := by decide +kernel
theorem dL_law_1007 : decode cL_law 1007 = .ok (.aload_n 3, 1) := by decide +kernel
theorem dL_law_1008 : decode cL_law 1008 = .ok (.iconst 0, 1) := by decide +kernel
theorem dL_law_1009 : decode cL_law 1009 = .ok (.laload, 1) := by decide +kernel
theorem dL_law_1010 : decode cL_law 1010 = .ok (.iload 6, 2) := by decide +kernel
theorem dL_law_1012 : decode cL_law 1012 = .ok (.i2l, 1) := by decide +kernel
theorem dL_law_1013 : decode cL_law 1013 = .ok (.lcmp, 1) := by decide +kernel
theorem dL_law_1014 : decode cL_law 1014 = .ok (.ifCond .eq 5, 3) := by decide +kernel
theorem dL_law_1017 : decode cL_law 1017 = .ok (.iconst 0, 1) := by decide +kernel
theorem dL_law_1018 : decode cL_law 1018 = .ok (.ireturn, 1) := by decide +kernel
theorem dL_law_1019 : decode cL_law 1019 = .ok (.goto 1011, 3) := by decide +kernel
theorem dL_law_1022 : decode cL_law 1022 = .ok (.aload_n 1, 1) := by decide +kernel
theorem dL_law_1023 : decode cL_law 1023 = .ok (.aload_n 0, 1) := by decide +kernel
theorem dL_law_1024 : decode cL_law 1024 = .ok (.iload 4, 2) := by decide +kernel
theorem dL_law_1026 : decode cL_law 1026 = .ok (.iconst 1, 1) := by decide +kernel
theorem dL_law_1027 : decode cL_law 1027 = .ok (.iadd, 1) := by decide +kernel
theorem dL_law_1028 : decode cL_law 1028 = .ok (.iaload, 1) := by decide +kernel
theorem dL_law_1029 : decode cL_law 1029 = .ok (.aload_n 0, 1) := by decide +kernel
theorem dL_law_1030 : decode cL_law 1030 = .ok (.iload 4, 2) := by decide +kernel
theorem dL_law_1032 : decode cL_law 1032 = .ok (.iconst 2, 1) := by decide +kernel
theorem dL_law_1033 : decode cL_law 1033 = .ok (.iadd, 1) := by decide +kernel
theorem dL_law_1034 : decode cL_law 1034 = .ok (.iaload, 1) := by decide +kernel
theorem dL_law_1035 : decode cL_law 1035 = .ok (.aload_n 3, 1) := by decide +kernel
theorem dL_law_1036 : decode cL_law 1036 = .ok (.invokestatic 148, 3) := by decide +kernel
theorem dL_law_1039 : decode cL_law 1039 = .ok (.istore 5, 2) := by decide +kernel
theorem dL_law_1041 : decode cL_law 1041 = .ok (.aload_n 2, 1) := by decide +kernel
theorem dL_law_1042 : decode cL_law 1042 = .ok (.aload_n 0, 1) := by decide +kernel
theorem dL_law_1043 : decode cL_law 1043 = .ok (.iload 4, 2) := by decide +kernel
theorem dL_law_1045 : decode cL_law 1045 = .ok (.iconst 1, 1) := by decide +kernel
theorem dL_law_1046 : decode cL_law 1046 = .ok (.iadd, 1) := by decide +kernel
theorem dL_law_1047 : decode cL_law 1047 = .ok (.iaload, 1) := by decide +kernel
theorem dL_law_1048 : decode cL_law 1048 = .ok (.aload_n 0, 1) := by decide +kernel
theorem dL_law_1049 : decode cL_law 1049 = .ok (.iload 4, 2) := by decide +kernel
theorem dL_law_1051 : decode cL_law 1051 = .ok (.iconst 2, 1) := by decide +kernel
theorem dL_law_1052 : decode cL_law 1052 = .ok (.iadd, 1) := by decide +kernel
theorem dL_law_1053 : decode cL_law 1053 = .ok (.iaload, 1) := by decide +kernel
theorem dL_law_1054 : decode cL_law 1054 = .ok (.invokevirtual 150, 3) := by decide +kernel
theorem dL_law_1057 : decode cL_law 1057 = .ok (.istore 6, 2) := by decide +kernel
theorem dL_law_1059 : decode cL_law 1059 = .ok (.aload_n 2, 1) := by decide +kernel
theorem dL_law_1060 : decode cL_law 1060 = .ok (.invokevirtual 107, 3) := by decide +kernel
theorem dL_law_1063 : decode cL_law 1063 = .ok (.iload 5, 2) := by decide +kernel
theorem dL_law_1065 : decode cL_law 1065 = .ok (.if_icmp .eq 5, 3) := by decide +kernel
theorem dL_law_1068 : decode cL_law 1068 = .ok (.iconst 0, 1) := by decide +kernel
theorem dL_law_1069 : decode cL_law 1069 = .ok (.ireturn, 1) := by decide +kernel
theorem dL_law_1070 : decode cL_law 1070 = .ok (.iload 5, 2) := by decide +kernel
theorem dL_law_1072 : decode cL_law 1072 = .ok (.ifCond .ne 15, 3) := by decide +kernel
theorem dL_law_1075 : decode cL_law 1075 = .ok (.aload_n 3, 1) := by decide +kernel
theorem dL_law_1076 : decode cL_law 1076 = .ok (.iconst 0, 1) := by decide +kernel
theorem dL_law_1077 : decode cL_law 1077 = .ok (.laload, 1) := by decide +kernel
theorem dL_law_1078 : decode cL_law 1078 = .ok (.iload 6, 2) := by decide +kernel
theorem dL_law_1080 : decode cL_law 1080 = .ok (.i2l, 1) := by decide +kernel
theorem dL_law_1081 : decode cL_law 1081 = .ok (.lcmp, 1) := by decide +kernel
theorem dL_law_1082 : decode cL_law 1082 = .ok (.ifCond .eq 5, 3) := by decide +kernel
theorem dL_law_1085 : decode cL_law 1085 = .ok (.iconst 0, 1) := by decide +kernel
theorem dL_law_1086 : decode cL_law 1086 = .ok (.ireturn, 1) := by decide +kernel
theorem dL_law_1087 : decode cL_law 1087 = .ok (.goto 943, 3) := by decide +kernel
theorem dL_law_1090 : decode cL_law 1090 = .ok (.aload_n 1, 1) := by decide +kernel
theorem dL_law_1091 : decode cL_law 1091 = .ok (.aload_n 0, 1) := by decide +kernel
theorem dL_law_1092 : decode cL_law 1092 = .ok (.iload 4, 2) := by decide +kernel
theorem dL_law_1094 : decode cL_law 1094 = .ok (.iconst 1, 1) := by decide +kernel
theorem dL_law_1095 : decode cL_law 1095 = .ok (.iadd, 1) := by decide +kernel
theorem dL_law_1096 : decode cL_law 1096 = .ok (.iaload, 1) := by decide +kernel
theorem dL_law_1097 : decode cL_law 1097 = .ok (.aload_n 0, 1) := by decide +kernel
theorem dL_law_1098 : decode cL_law 1098 = .ok (.iload 4, 2) := by decide +kernel
theorem dL_law_1100 : decode cL_law 1100 = .ok (.iconst 2, 1) := by decide +kernel
theorem dL_law_1101 : decode cL_law 1101 = .ok (.iadd, 1) := by decide +kernel
theorem dL_law_1102 : decode cL_law 1102 = .ok (.iaload, 1) := by decide +kernel
theorem dL_law_1103 : decode cL_law 1103 = .ok (.aload_n 0, 1) := by decide +kernel
theorem dL_law_1104 : decode cL_law 1104 = .ok (.iload 4, 2) := by decide +kernel
theorem dL_law_1106 : decode cL_law 1106 = .ok (.iconst 3, 1) := by decide +kernel
theorem dL_law_1107 : decode cL_law 1107 = .ok (.iadd, 1) := by decide +kernel
theorem dL_law_1108 : decode cL_law 1108 = .ok (.iaload, 1) := by decide +kernel
theorem dL_law_1109 : decode cL_law 1109 = .ok (.ifCond .eq 7, 3) := by decide +kernel
theorem dL_law_1112 : decode cL_law 1112 = .ok (.iconst 1, 1) := by decide +kernel
theorem dL_law_1113 : decode cL_law 1113 = .ok (.goto 4, 3) := by decide +kernel
theorem dL_law_1116 : decode cL_law 1116 = .ok (.iconst 0, 1) := by decide +kernel
theorem dL_law_1117 : decode cL_law 1117 = .ok (.aload_n 3, 1) := by decide +kernel
theorem dL_law_1118 : decode cL_law 1118 = .ok (.invokestatic 151, 3) := by decide +kernel
theorem dL_law_1121 : decode cL_law 1121 = .ok (.istore 5, 2) := by decide +kernel
theorem dL_law_1123 : decode cL_law 1123 = .ok (.aload_n 2, 1) := by decide +kernel
theorem dL_law_1124 : decode cL_law 1124 = .ok (.aload_n 0, 1) := by decide +kernel
theorem dL_law_1125 : decode cL_law 1125 = .ok (.iload 4, 2) := by decide +kernel
theorem dL_law_1127 : decode cL_law 1127 = .ok (.iconst 1, 1) := by decide +kernel
theorem dL_law_1128 : decode cL_law 1128 = .ok (.iadd, 1) := by decide +kernel
theorem dL_law_1129 : decode cL_law 1129 = .ok (.iaload, 1) := by decide +kernel
theorem dL_law_1130 : decode cL_law 1130 = .ok (.aload_n 0, 1) := by decide +kernel
theorem dL_law_1131 : decode cL_law 1131 = .ok (.iload 4, 2) := by decide +kernel
theorem dL_law_1133 : decode cL_law 1133 = .ok (.iconst 2, 1) := by decide +kernel
theorem dL_law_1134 : decode cL_law 1134 = .ok (.iadd, 1) := by decide +kernel
theorem dL_law_1135 : decode cL_law 1135 = .ok (.iaload, 1) := by decide +kernel
theorem dL_law_1136 : decode cL_law 1136 = .ok (.aload_n 0, 1) := by decide +kernel
theorem dL_law_1137 : decode cL_law 1137 = .ok (.iload 4, 2) := by decide +kernel
theorem dL_law_1139 : decode cL_law 1139 = .ok (.iconst 3, 1) := by decide +kernel
theorem dL_law_1140 : decode cL_law 1140 = .ok (.iadd, 1) := by decide +kernel
theorem dL_law_1141 : decode cL_law 1141 = .ok (.iaload, 1) := by decide +kernel
theorem dL_law_1142 : decode cL_law 1142 = .ok (.ifCond .eq 7, 3) := by decide +kernel
theorem dL_law_1145 : decode cL_law 1145 = .ok (.iconst 1, 1) := by decide +kernel
theorem dL_law_1146 : decode cL_law 1146 = .ok (.goto 4, 3) := by decide +kernel
theorem dL_law_1149 : decode cL_law 1149 = .ok (.iconst 0, 1) := by decide +kernel
theorem dL_law_1150 : decode cL_law 1150 = .ok (.invokevirtual 153, 3) := by decide +kernel
theorem dL_law_1153 : decode cL_law 1153 = .ok (.istore 6, 2) := by decide +kernel
theorem dL_law_1155 : decode cL_law 1155 = .ok (.aload_n 2, 1) := by decide +kernel
theorem dL_law_1156 : decode cL_law 1156 = .ok (.invokevirtual 107, 3) := by decide +kernel
theorem dL_law_1159 : decode cL_law 1159 = .ok (.iload 5, 2) := by decide +kernel
theorem dL_law_1161 : decode cL_law 1161 = .ok (.if_icmp .eq 5, 3) := by decide +kernel
theorem dL_law_1164 : decode cL_law 1164 = .ok (.iconst 0, 1) := by decide +kernel
theorem dL_law_1165 : decode cL_law 1165 = .ok (.ireturn, 1) := by decide +kernel
theorem dL_law_1166 : decode cL_law 1166 = .ok (.iload 5, 2) := by decide +kernel
theorem dL_law_1168 : decode cL_law 1168 = .ok (.ifCond .ne 22, 3) := by decide +kernel
theorem dL_law_1171 : decode cL_law 1171 = .ok (.aload_n 3, 1) := by decide +kernel
theorem dL_law_1172 : decode cL_law 1172 = .ok (.iconst 0, 1) := by decide +kernel
theorem dL_law_1173 : decode cL_law 1173 = .ok (.laload, 1) := by decide +kernel
theorem dL_law_1174 : decode cL_law 1174 = .ok (.iload 6, 2) := by decide +kernel
theorem dL_law_1176 : decode cL_law 1176 = .ok (.ifCond .eq 7, 3) := by decide +kernel
theorem dL_law_1179 : decode cL_law 1179 = .ok (.lconst 1, 1) := by decide +kernel
theorem dL_law_1180 : decode cL_law 1180 = .ok (.goto 4, 3) := by decide +kernel
theorem dL_law_1183 : decode cL_law 1183 = .ok (.lconst 0, 1) := by decide +kernel
theorem dL_law_1184 : decode cL_law 1184 = .ok (.lcmp, 1) := by decide +kernel
theorem dL_law_1185 : decode cL_law 1185 = .ok (.ifCond .eq 5, 3) := by decide +kernel
theorem dL_law_1188 : decode cL_law 1188 = .ok (.iconst 0, 1) := by decide +kernel
theorem dL_law_1189 : decode cL_law 1189 = .ok (.ireturn, 1) := by decide +kernel
theorem dL_law_1190 : decode cL_law 1190 = .ok (.goto 840, 3) := by decide +kernel
theorem dL_law_1193 : decode cL_law 1193 = .ok (.aload_n 1, 1) := by decide +kernel
theorem dL_law_1194 : decode cL_law 1194 = .ok (.aload_n 0, 1) := by decide +kernel
theorem dL_law_1195 : decode cL_law 1195 = .ok (.iload 4, 2) := by decide +kernel
theorem dL_law_1197 : decode cL_law 1197 = .ok (.iconst 1, 1) := by decide +kernel
theorem dL_law_1198 : decode cL_law 1198 = .ok (.iadd, 1) := by decide +kernel
theorem dL_law_1199 : decode cL_law 1199 = .ok (.iaload, 1) := by decide +kernel
theorem dL_law_1200 : decode cL_law 1200 = .ok (.aload_n 0, 1) := by decide +kernel
theorem dL_law_1201 : decode cL_law 1201 = .ok (.iload 4, 2) := by decide +kernel
theorem dL_law_1203 : decode cL_law 1203 = .ok (.iconst 2, 1) := by decide +kernel
theorem dL_law_1204 : decode cL_law 1204 = .ok (.iadd, 1) := by decide +kernel
theorem dL_law_1205 : decode cL_law 1205 = .ok (.iaload, 1) := by decide +kernel
theorem dL_law_1206 : decode cL_law 1206 = .ok (.aload_n 3, 1) := by decide +kernel
theorem dL_law_1207 : decode cL_law 1207 = .ok (.invokestatic 154, 3) := by decide +kernel
theorem dL_law_1210 : decode cL_law 1210 = .ok (.istore 5, 2) := by decide +kernel
theorem dL_law_1212 : decode cL_law 1212 = .ok (.aload_n 2, 1) := by decide +kernel
theorem dL_law_1213 : decode cL_law 1213 = .ok (.aload_n 0, 1) := by decide +kernel
theorem dL_law_1214 : decode cL_law 1214 = .ok (.iload 4, 2) := by decide +kernel
theorem dL_law_1216 : decode cL_law 1216 = .ok (.iconst 1, 1) := by decide +kernel
theorem dL_law_1217 : decode cL_law 1217 = .ok (.iadd, 1) := by decide +kernel
theorem dL_law_1218 : decode cL_law 1218 = .ok (.iaload, 1) := by decide +kernel
theorem dL_law_1219 : decode cL_law 1219 = .ok (.aload_n 0, 1) := by decide +kernel
theorem dL_law_1220 : decode cL_law 1220 = .ok (.iload 4, 2) := by decide +kernel
theorem dL_law_1222 : decode cL_law 1222 = .ok (.iconst 2, 1) := by decide +kernel
theorem dL_law_1223 : decode cL_law 1223 = .ok (.iadd, 1) := by decide +kernel
theorem dL_law_1224 : decode cL_law 1224 = .ok (.iaload, 1) := by decide +kernel
theorem dL_law_1225 : decode cL_law 1225 = .ok (.invokevirtual 156, 3) := by decide +kernel
theorem dL_law_1228 : decode cL_law 1228 = .ok (.istore 6, 2) := by decide +kernel
theorem dL_law_1230 : decode cL_law 1230 = .ok (.aload_n 2, 1) := by decide +kernel
theorem dL_law_1231 : decode cL_law 1231 = .ok (.invokevirtual 107, 3) := by decide +kernel
theorem dL_law_1234 : decode cL_law 1234 = .ok (.iload 5, 2) := by decide +kernel
theorem dL_law_1236 : decode cL_law 1236 = .ok (.if_icmp .eq 5, 3) := by decide +kernel
theorem dL_law_1239 : decode cL_law 1239 = .ok (.iconst 0, 1) := by decide +kernel
theorem dL_law_1240 : decode cL_law 1240 = .ok (.ireturn, 1) := by decide +kernel
theorem dL_law_1241 : decode cL_law 1241 = .ok (.iload 5, 2) := by decide +kernel
theorem dL_law_1243 : decode cL_law 1243 = .ok (.ifCond .ne 15, 3) := by decide +kernel
theorem dL_law_1246 : decode cL_law 1246 = .ok (.aload_n 3, 1) := by decide +kernel
theorem dL_law_1247 : decode cL_law 1247 = .ok (.iconst 0, 1) := by decide +kernel
theorem dL_law_1248 : decode cL_law 1248 = .ok (.laload, 1) := by decide +kernel
theorem dL_law_1249 : decode cL_law 1249 = .ok (.iload 6, 2) := by decide +kernel
theorem dL_law_1251 : decode cL_law 1251 = .ok (.i2l, 1) := by decide +kernel
theorem dL_law_1252 : decode cL_law 1252 = .ok (.lcmp, 1) := by decide +kernel
theorem dL_law_1253 : decode cL_law 1253 = .ok (.ifCond .eq 5, 3) := by decide +kernel
theorem dL_law_1256 : decode cL_law 1256 = .ok (.iconst 0, 1) := by decide +kernel
theorem dL_law_1257 : decode cL_law 1257 = .ok (.ireturn, 1) := by decide +kernel
theorem dL_law_1258 : decode cL_law 1258 = .ok (.goto 772, 3) := by decide +kernel
theorem dL_law_1261 : decode cL_law 1261 = .ok (.aload_n 1, 1) := by decide +kernel
theorem dL_law_1262 : decode cL_law 1262 = .ok (.aload_n 0, 1) := by decide +kernel
theorem dL_law_1263 : decode cL_law 1263 = .ok (.iload 4, 2) := by decide +kernel
theorem dL_law_1265 : decode cL_law 1265 = .ok (.iconst 1, 1) := by decide +kernel
theorem dL_law_1266 : decode cL_law 1266 = .ok (.iadd, 1) := by decide +kernel
theorem dL_law_1267 : decode cL_law 1267 = .ok (.iaload, 1) := by decide +kernel
theorem dL_law_1268 : decode cL_law 1268 = .ok (.aload_n 0, 1) := by decide +kernel
theorem dL_law_1269 : decode cL_law 1269 = .ok (.iload 4, 2) := by decide +kernel
theorem dL_law_1271 : decode cL_law 1271 = .ok (.iconst 2, 1) := by decide +kernel
theorem dL_law_1272 : decode cL_law 1272 = .ok (.iadd, 1) := by decide +kernel
theorem dL_law_1273 : decode cL_law 1273 = .ok (.iaload, 1) := by decide +kernel
theorem dL_law_1274 : decode cL_law 1274 = .ok (.aload_n 3, 1) := by decide +kernel
theorem dL_law_1275 : decode cL_law 1275 = .ok (.invokestatic 157, 3) := by decide +kernel
theorem dL_law_1278 : decode cL_law 1278 = .ok (.istore 5, 2) := by decide +kernel
theorem dL_law_1280 : decode cL_law 1280 = .ok (.aload_n 2, 1) := by decide +kernel
theorem dL_law_1281 : decode cL_law 1281 = .ok (.aload_n 0, 1) := by decide +kernel
theorem dL_law_1282 : decode cL_law 1282 = .ok (.iload 4, 2) := by decide +kernel
theorem dL_law_1284 : decode cL_law 1284 = .ok (.iconst 1, 1) := by decide +kernel
theorem dL_law_1285 : decode cL_law 1285 = .ok (.iadd, 1) := by decide +kernel
theorem dL_law_1286 : decode cL_law 1286 = .ok (.iaload, 1) := by decide +kernel
theorem dL_law_1287 : decode cL_law 1287 = .ok (.aload_n 0, 1) := by decide +kernel
theorem dL_law_1288 : decode cL_law 1288 = .ok (.iload 4, 2) := by decide +kernel
theorem dL_law_1290 : decode cL_law 1290 = .ok (.iconst 2, 1) := by decide +kernel
theorem dL_law_1291 : decode cL_law 1291 = .ok (.iadd, 1) := by decide +kernel
theorem dL_law_1292 : decode cL_law 1292 = .ok (.iaload, 1) := by decide +kernel
theorem dL_law_1293 : decode cL_law 1293 = .ok (.invokevirtual 159, 3) := by decide +kernel
theorem dL_law_1296 : decode cL_law 1296 = .ok (.istore 6, 2) := by decide +kernel
theorem dL_law_1298 : decode cL_law 1298 = .ok (.aload_n 2, 1) := by decide +kernel
theorem dL_law_1299 : decode cL_law 1299 = .ok (.invokevirtual 107, 3) := by decide +kernel
theorem dL_law_1302 : decode cL_law 1302 = .ok (.iload 5, 2) := by decide +kernel
theorem dL_law_1304 : decode cL_law 1304 = .ok (.if_icmp .eq 5, 3) := by decide +kernel
theorem dL_law_1307 : decode cL_law 1307 = .ok (.iconst 0, 1) := by decide +kernel
theorem dL_law_1308 : decode cL_law 1308 = .ok (.ireturn, 1) := by decide +kernel
theorem dL_law_1309 : decode cL_law 1309 = .ok (.iload 5, 2) := by decide +kernel
theorem dL_law_1311 : decode cL_law 1311 = .ok (.ifCond .ne 15, 3) := by decide +kernel
theorem dL_law_1314 : decode cL_law 1314 = .ok (.aload_n 3, 1) := by decide +kernel
theorem dL_law_1315 : decode cL_law 1315 = .ok (.iconst 0, 1) := by decide +kernel
theorem dL_law_1316 : decode cL_law 1316 = .ok (.laload, 1) := by decide +kernel
theorem dL_law_1317 : decode cL_law 1317 = .ok (.iload 6, 2) := by decide +kernel
theorem dL_law_1319 : decode cL_law 1319 = .ok (.i2l, 1) := by decide +kernel
theorem dL_law_1320 : decode cL_law 1320 = .ok (.lcmp, 1) := by decide +kernel
theorem dL_law_1321 : decode cL_law 1321 = .ok (.ifCond .eq 5, 3) := by decide +kernel
theorem dL_law_1324 : decode cL_law 1324 = .ok (.iconst 0, 1) := by decide +kernel
theorem dL_law_1325 : decode cL_law 1325 = .ok (.ireturn, 1) := by decide +kernel
theorem dL_law_1326 : decode cL_law 1326 = .ok (.goto 704, 3) := by decide +kernel
theorem dL_law_1329 : decode cL_law 1329 = .ok (.aload_n 1, 1) := by decide +kernel
theorem dL_law_1330 : decode cL_law 1330 = .ok (.aload_n 0, 1) := by decide +kernel
theorem dL_law_1331 : decode cL_law 1331 = .ok (.iload 4, 2) := by decide +kernel
theorem dL_law_1333 : decode cL_law 1333 = .ok (.iconst 1, 1) := by decide +kernel
theorem dL_law_1334 : decode cL_law 1334 = .ok (.iadd, 1) := by decide +kernel
theorem dL_law_1335 : decode cL_law 1335 = .ok (.iaload, 1) := by decide +kernel
theorem dL_law_1336 : decode cL_law 1336 = .ok (.aload_n 0, 1) := by decide +kernel
theorem dL_law_1337 : decode cL_law 1337 = .ok (.iload 4, 2) := by decide +kernel
theorem dL_law_1339 : decode cL_law 1339 = .ok (.iconst 2, 1) := by decide +kernel
theorem dL_law_1340 : decode cL_law 1340 = .ok (.iadd, 1) := by decide +kernel
theorem dL_law_1341 : decode cL_law 1341 = .ok (.iaload, 1) := by decide +kernel
theorem dL_law_1342 : decode cL_law 1342 = .ok (.aload_n 3, 1) := by decide +kernel
theorem dL_law_1343 : decode cL_law 1343 = .ok (.invokestatic 160, 3) := by decide +kernel
theorem dL_law_1346 : decode cL_law 1346 = .ok (.istore 5, 2) := by decide +kernel
theorem dL_law_1348 : decode cL_law 1348 = .ok (.aload_n 2, 1) := by decide +kernel
theorem dL_law_1349 : decode cL_law 1349 = .ok (.aload_n 0, 1) := by decide +kernel
theorem dL_law_1350 : decode cL_law 1350 = .ok (.iload 4, 2) := by decide +kernel
theorem dL_law_1352 : decode cL_law 1352 = .ok (.iconst 1, 1) := by decide +kernel
theorem dL_law_1353 : decode cL_law 1353 = .ok (.iadd, 1) := by decide +kernel
theorem dL_law_1354 : decode cL_law 1354 = .ok (.iaload, 1) := by decide +kernel
theorem dL_law_1355 : decode cL_law 1355 = .ok (.aload_n 0, 1) := by decide +kernel
theorem dL_law_1356 : decode cL_law 1356 = .ok (.iload 4, 2) := by decide +kernel
theorem dL_law_1358 : decode cL_law 1358 = .ok (.iconst 2, 1) := by decide +kernel
theorem dL_law_1359 : decode cL_law 1359 = .ok (.iadd, 1) := by decide +kernel
theorem dL_law_1360 : decode cL_law 1360 = .ok (.iaload, 1) := by decide +kernel
theorem dL_law_1361 : decode cL_law 1361 = .ok (.invokevirtual 162, 3) := by decide +kernel
theorem dL_law_1364 : decode cL_law 1364 = .ok (.istore 6, 2) := by decide +kernel
theorem dL_law_1366 : decode cL_law 1366 = .ok (.aload_n 2, 1) := by decide +kernel
theorem dL_law_1367 : decode cL_law 1367 = .ok (.invokevirtual 107, 3) := by decide +kernel
theorem dL_law_1370 : decode cL_law 1370 = .ok (.iload 5, 2) := by decide +kernel
theorem dL_law_1372 : decode cL_law 1372 = .ok (.if_icmp .eq 5, 3) := by decide +kernel
theorem dL_law_1375 : decode cL_law 1375 = .ok (.iconst 0, 1) := by decide +kernel
theorem dL_law_1376 : decode cL_law 1376 = .ok (.ireturn, 1) := by decide +kernel
theorem dL_law_1377 : decode cL_law 1377 = .ok (.iload 5, 2) := by decide +kernel
theorem dL_law_1379 : decode cL_law 1379 = .ok (.ifCond .ne 15, 3) := by decide +kernel
theorem dL_law_1382 : decode cL_law 1382 = .ok (.aload_n 3, 1) := by decide +kernel
theorem dL_law_1383 : decode cL_law 1383 = .ok (.iconst 0, 1) := by decide +kernel
theorem dL_law_1384 : decode cL_law 1384 = .ok (.laload, 1) := by decide +kernel
theorem dL_law_1385 : decode cL_law 1385 = .ok (.iload 6, 2) := by decide +kernel
theorem dL_law_1387 : decode cL_law 1387 = .ok (.i2l, 1) := by decide +kernel
theorem dL_law_1388 : decode cL_law 1388 = .ok (.lcmp, 1) := by decide +kernel
theorem dL_law_1389 : decode cL_law 1389 = .ok (.ifCond .eq 5, 3) := by decide +kernel
theorem dL_law_1392 : decode cL_law 1392 = .ok (.iconst 0, 1) := by decide +kernel
theorem dL_law_1393 : decode cL_law 1393 = .ok (.ireturn, 1) := by decide +kernel
theorem dL_law_1394 : decode cL_law 1394 = .ok (.goto 636, 3) := by decide +kernel
theorem dL_law_1397 : decode cL_law 1397 = .ok (.aload_n 1, 1) := by decide +kernel
theorem dL_law_1398 : decode cL_law 1398 = .ok (.aload_n 0, 1) := by decide +kernel
theorem dL_law_1399 : decode cL_law 1399 = .ok (.iload 4, 2) := by decide +kernel
theorem dL_law_1401 : decode cL_law 1401 = .ok (.iconst 1, 1) := by decide +kernel
theorem dL_law_1402 : decode cL_law 1402 = .ok (.iadd, 1) := by decide +kernel
theorem dL_law_1403 : decode cL_law 1403 = .ok (.iaload, 1) := by decide +kernel
theorem dL_law_1404 : decode cL_law 1404 = .ok (.aload_n 0, 1) := by decide +kernel
theorem dL_law_1405 : decode cL_law 1405 = .ok (.iload 4, 2) := by decide +kernel
theorem dL_law_1407 : decode cL_law 1407 = .ok (.iconst 2, 1) := by decide +kernel
theorem dL_law_1408 : decode cL_law 1408 = .ok (.iadd, 1) := by decide +kernel
theorem dL_law_1409 : decode cL_law 1409 = .ok (.iaload, 1) := by decide +kernel
theorem dL_law_1410 : decode cL_law 1410 = .ok (.aload_n 0, 1) := by decide +kernel
theorem dL_law_1411 : decode cL_law 1411 = .ok (.iload 4, 2) := by decide +kernel
theorem dL_law_1413 : decode cL_law 1413 = .ok (.iconst 3, 1) := by decide +kernel
theorem dL_law_1414 : decode cL_law 1414 = .ok (.iadd, 1) := by decide +kernel
theorem dL_law_1415 : decode cL_law 1415 = .ok (.iaload, 1) := by decide +kernel
theorem dL_law_1416 : decode cL_law 1416 = .ok (.aload_n 0, 1) := by decide +kernel
theorem dL_law_1417 : decode cL_law 1417 = .ok (.iload 4, 2) := by decide +kernel
theorem dL_law_1419 : decode cL_law 1419 = .ok (.iconst 4, 1) := by decide +kernel
theorem dL_law_1420 : decode cL_law 1420 = .ok (.iadd, 1) := by decide +kernel
theorem dL_law_1421 : decode cL_law 1421 = .ok (.iaload, 1) := by decide +kernel
theorem dL_law_1422 : decode cL_law 1422 = .ok (.aload_n 3, 1) := by decide +kernel
theorem dL_law_1423 : decode cL_law 1423 = .ok (.invokestatic 163, 3) := by decide +kernel
theorem dL_law_1426 : decode cL_law 1426 = .ok (.istore 5, 2) := by decide +kernel
theorem dL_law_1428 : decode cL_law 1428 = .ok (.aload_n 2, 1) := by decide +kernel
theorem dL_law_1429 : decode cL_law 1429 = .ok (.aload_n 0, 1) := by decide +kernel
theorem dL_law_1430 : decode cL_law 1430 = .ok (.iload 4, 2) := by decide +kernel
theorem dL_law_1432 : decode cL_law 1432 = .ok (.iconst 1, 1) := by decide +kernel
theorem dL_law_1433 : decode cL_law 1433 = .ok (.iadd, 1) := by decide +kernel
theorem dL_law_1434 : decode cL_law 1434 = .ok (.iaload, 1) := by decide +kernel
theorem dL_law_1435 : decode cL_law 1435 = .ok (.aload_n 0, 1) := by decide +kernel
theorem dL_law_1436 : decode cL_law 1436 = .ok (.iload 4, 2) := by decide +kernel
theorem dL_law_1438 : decode cL_law 1438 = .ok (.iconst 2, 1) := by decide +kernel
theorem dL_law_1439 : decode cL_law 1439 = .ok (.iadd, 1) := by decide +kernel
theorem dL_law_1440 : decode cL_law 1440 = .ok (.iaload, 1) := by decide +kernel
theorem dL_law_1441 : decode cL_law 1441 = .ok (.aload_n 0, 1) := by decide +kernel
theorem dL_law_1442 : decode cL_law 1442 = .ok (.iload 4, 2) := by decide +kernel
theorem dL_law_1444 : decode cL_law 1444 = .ok (.iconst 3, 1) := by decide +kernel
theorem dL_law_1445 : decode cL_law 1445 = .ok (.iadd, 1) := by decide +kernel
theorem dL_law_1446 : decode cL_law 1446 = .ok (.iaload, 1) := by decide +kernel
theorem dL_law_1447 : decode cL_law 1447 = .ok (.aload_n 0, 1) := by decide +kernel
theorem dL_law_1448 : decode cL_law 1448 = .ok (.iload 4, 2) := by decide +kernel
theorem dL_law_1450 : decode cL_law 1450 = .ok (.iconst 4, 1) := by decide +kernel
theorem dL_law_1451 : decode cL_law 1451 = .ok (.iadd, 1) := by decide +kernel
theorem dL_law_1452 : decode cL_law 1452 = .ok (.iaload, 1) := by decide +kernel
theorem dL_law_1453 : decode cL_law 1453 = .ok (.invokevirtual 166, 3) := by decide +kernel
theorem dL_law_1456 : decode cL_law 1456 = .ok (.istore 6, 2) := by decide +kernel
theorem dL_law_1458 : decode cL_law 1458 = .ok (.aload_n 2, 1) := by decide +kernel
theorem dL_law_1459 : decode cL_law 1459 = .ok (.invokevirtual 107, 3) := by decide +kernel
theorem dL_law_1462 : decode cL_law 1462 = .ok (.iload 5, 2) := by decide +kernel
theorem dL_law_1464 : decode cL_law 1464 = .ok (.if_icmp .eq 5, 3) := by decide +kernel
theorem dL_law_1467 : decode cL_law 1467 = .ok (.iconst 0, 1) := by decide +kernel
theorem dL_law_1468 : decode cL_law 1468 = .ok (.ireturn, 1) := by decide +kernel
theorem dL_law_1469 : decode cL_law 1469 = .ok (.iload 5, 2) := by decide +kernel
theorem dL_law_1471 : decode cL_law 1471 = .ok (.ifCond .ne 15, 3) := by decide +kernel
theorem dL_law_1474 : decode cL_law 1474 = .ok (.aload_n 3, 1) := by decide +kernel
theorem dL_law_1475 : decode cL_law 1475 = .ok (.iconst 0, 1) := by decide +kernel
theorem dL_law_1476 : decode cL_law 1476 = .ok (.laload, 1) := by decide +kernel
theorem dL_law_1477 : decode cL_law 1477 = .ok (.iload 6, 2) := by decide +kernel
theorem dL_law_1479 : decode cL_law 1479 = .ok (.i2l, 1) := by decide +kernel
theorem dL_law_1480 : decode cL_law 1480 = .ok (.lcmp, 1) := by decide +kernel
theorem dL_law_1481 : decode cL_law 1481 = .ok (.ifCond .eq 5, 3) := by decide +kernel
theorem dL_law_1484 : decode cL_law 1484 = .ok (.iconst 0, 1) := by decide +kernel
theorem dL_law_1485 : decode cL_law 1485 = .ok (.ireturn, 1) := by decide +kernel
theorem dL_law_1486 : decode cL_law 1486 = .ok (.goto 544, 3) := by decide +kernel
theorem dL_law_1489 : decode cL_law 1489 = .ok (.aload_n 1, 1) := by decide +kernel
theorem dL_law_1490 : decode cL_law 1490 = .ok (.aload_n 0, 1) := by decide +kernel
theorem dL_law_1491 : decode cL_law 1491 = .ok (.iload 4, 2) := by decide +kernel
theorem dL_law_1493 : decode cL_law 1493 = .ok (.iconst 1, 1) := by decide +kernel
theorem dL_law_1494 : decode cL_law 1494 = .ok (.iadd, 1) := by decide +kernel
theorem dL_law_1495 : decode cL_law 1495 = .ok (.iaload, 1) := by decide +kernel
theorem dL_law_1496 : decode cL_law 1496 = .ok (.aload_n 0, 1) := by decide +kernel
theorem dL_law_1497 : decode cL_law 1497 = .ok (.iload 4, 2) := by decide +kernel
theorem dL_law_1499 : decode cL_law 1499 = .ok (.iconst 2, 1) := by decide +kernel
theorem dL_law_1500 : decode cL_law 1500 = .ok (.iadd, 1) := by decide +kernel
theorem dL_law_1501 : decode cL_law 1501 = .ok (.iaload, 1) := by decide +kernel
theorem dL_law_1502 : decode cL_law 1502 = .ok (.aload_n 0, 1) := by decide +kernel
theorem dL_law_1503 : decode cL_law 1503 = .ok (.iload 4, 2) := by decide +kernel
theorem dL_law_1505 : decode cL_law 1505 = .ok (.iconst 3, 1) := by decide +kernel
theorem dL_law_1506 : decode cL_law 1506 = .ok (.iadd, 1) := by decide +kernel
theorem dL_law_1507 : decode cL_law 1507 = .ok (.iaload, 1) := by decide +kernel
theorem dL_law_1508 : decode cL_law 1508 = .ok (.aload_n 3, 1) := by decide +kernel
theorem dL_law_1509 : decode cL_law 1509 = .ok (.invokestatic 167, 3) := by decide +kernel
theorem dL_law_1512 : decode cL_law 1512 = .ok (.istore 5, 2) := by decide +kernel
theorem dL_law_1514 : decode cL_law 1514 = .ok (.aload_n 2, 1) := by decide +kernel
theorem dL_law_1515 : decode cL_law 1515 = .ok (.aload_n 0, 1) := by decide +kernel
theorem dL_law_1516 : decode cL_law 1516 = .ok (.iload 4, 2) := by decide +kernel
theorem dL_law_1518 : decode cL_law 1518 = .ok (.iconst 1, 1) := by decide +kernel
theorem dL_law_1519 : decode cL_law 1519 = .ok (.iadd, 1) := by decide +kernel
theorem dL_law_1520 : decode cL_law 1520 = .ok (.iaload, 1) := by decide +kernel
theorem dL_law_1521 : decode cL_law 1521 = .ok (.aload_n 0, 1) := by decide +kernel
theorem dL_law_1522 : decode cL_law 1522 = .ok (.iload 4, 2) := by decide +kernel
theorem dL_law_1524 : decode cL_law 1524 = .ok (.iconst 2, 1) := by decide +kernel
theorem dL_law_1525 : decode cL_law 1525 = .ok (.iadd, 1) := by decide +kernel
theorem dL_law_1526 : decode cL_law 1526 = .ok (.iaload, 1) := by decide +kernel
theorem dL_law_1527 : decode cL_law 1527 = .ok (.aload_n 0, 1) := by decide +kernel
theorem dL_law_1528 : decode cL_law 1528 = .ok (.iload 4, 2) := by decide +kernel
theorem dL_law_1530 : decode cL_law 1530 = .ok (.iconst 3, 1) := by decide +kernel
theorem dL_law_1531 : decode cL_law 1531 = .ok (.iadd, 1) := by decide +kernel
theorem dL_law_1532 : decode cL_law 1532 = .ok (.iaload, 1) := by decide +kernel
theorem dL_law_1533 : decode cL_law 1533 = .ok (.invokevirtual 169, 3) := by decide +kernel
theorem dL_law_1536 : decode cL_law 1536 = .ok (.istore 6, 2) := by decide +kernel
theorem dL_law_1538 : decode cL_law 1538 = .ok (.aload_n 2, 1) := by decide +kernel
theorem dL_law_1539 : decode cL_law 1539 = .ok (.invokevirtual 107, 3) := by decide +kernel
theorem dL_law_1542 : decode cL_law 1542 = .ok (.iload 5, 2) := by decide +kernel
theorem dL_law_1544 : decode cL_law 1544 = .ok (.if_icmp .eq 5, 3) := by decide +kernel
theorem dL_law_1547 : decode cL_law 1547 = .ok (.iconst 0, 1) := by decide +kernel
theorem dL_law_1548 : decode cL_law 1548 = .ok (.ireturn, 1) := by decide +kernel
theorem dL_law_1549 : decode cL_law 1549 = .ok (.iload 5, 2) := by decide +kernel
theorem dL_law_1551 : decode cL_law 1551 = .ok (.ifCond .ne 15, 3) := by decide +kernel
theorem dL_law_1554 : decode cL_law 1554 = .ok (.aload_n 3, 1) := by decide +kernel
theorem dL_law_1555 : decode cL_law 1555 = .ok (.iconst 0, 1) := by decide +kernel
theorem dL_law_1556 : decode cL_law 1556 = .ok (.laload, 1) := by decide +kernel
theorem dL_law_1557 : decode cL_law 1557 = .ok (.iload 6, 2) := by decide +kernel
theorem dL_law_1559 : decode cL_law 1559 = .ok (.i2l, 1) := by decide +kernel
theorem dL_law_1560 : decode cL_law 1560 = .ok (.lcmp, 1) := by decide +kernel
theorem dL_law_1561 : decode cL_law 1561 = .ok (.ifCond .eq 5, 3) := by decide +kernel
theorem dL_law_1564 : decode cL_law 1564 = .ok (.iconst 0, 1) := by decide +kernel
theorem dL_law_1565 : decode cL_law 1565 = .ok (.ireturn, 1) := by decide +kernel
theorem dL_law_1566 : decode cL_law 1566 = .ok (.goto 464, 3) := by decide +kernel
theorem dL_law_1569 : decode cL_law 1569 = .ok (.aload_n 1, 1) := by decide +kernel
theorem dL_law_1570 : decode cL_law 1570 = .ok (.aload_n 0, 1) := by decide +kernel
theorem dL_law_1571 : decode cL_law 1571 = .ok (.iload 4, 2) := by decide +kernel
theorem dL_law_1573 : decode cL_law 1573 = .ok (.iconst 1, 1) := by decide +kernel
theorem dL_law_1574 : decode cL_law 1574 = .ok (.iadd, 1) := by decide +kernel
theorem dL_law_1575 : decode cL_law 1575 = .ok (.iaload, 1) := by decide +kernel
theorem dL_law_1576 : decode cL_law 1576 = .ok (.aload_n 0, 1) := by decide +kernel
theorem dL_law_1577 : decode cL_law 1577 = .ok (.iload 4, 2) := by decide +kernel
theorem dL_law_1579 : decode cL_law 1579 = .ok (.iconst 2, 1) := by decide +kernel
theorem dL_law_1580 : decode cL_law 1580 = .ok (.iadd, 1) := by decide +kernel
theorem dL_law_1581 : decode cL_law 1581 = .ok (.iaload, 1) := by decide +kernel
theorem dL_law_1582 : decode cL_law 1582 = .ok (.aload_n 3, 1) := by decide +kernel
theorem dL_law_1583 : decode cL_law 1583 = .ok (.invokestatic 170, 3) := by decide +kernel
theorem dL_law_1586 : decode cL_law 1586 = .ok (.istore 5, 2) := by decide +kernel
theorem dL_law_1588 : decode cL_law 1588 = .ok (.aload_n 2, 1) := by decide +kernel
theorem dL_law_1589 : decode cL_law 1589 = .ok (.aload_n 0, 1) := by decide +kernel
theorem dL_law_1590 : decode cL_law 1590 = .ok (.iload 4, 2) := by decide +kernel
theorem dL_law_1592 : decode cL_law 1592 = .ok (.iconst 1, 1) := by decide +kernel
theorem dL_law_1593 : decode cL_law 1593 = .ok (.iadd, 1) := by decide +kernel
theorem dL_law_1594 : decode cL_law 1594 = .ok (.iaload, 1) := by decide +kernel
theorem dL_law_1595 : decode cL_law 1595 = .ok (.aload_n 0, 1) := by decide +kernel
theorem dL_law_1596 : decode cL_law 1596 = .ok (.iload 4, 2) := by decide +kernel
theorem dL_law_1598 : decode cL_law 1598 = .ok (.iconst 2, 1) := by decide +kernel
theorem dL_law_1599 : decode cL_law 1599 = .ok (.iadd, 1) := by decide +kernel
theorem dL_law_1600 : decode cL_law 1600 = .ok (.iaload, 1) := by decide +kernel
theorem dL_law_1601 : decode cL_law 1601 = .ok (.invokevirtual 172, 3) := by decide +kernel
theorem dL_law_1604 : decode cL_law 1604 = .ok (.istore 6, 2) := by decide +kernel
theorem dL_law_1606 : decode cL_law 1606 = .ok (.aload_n 2, 1) := by decide +kernel
theorem dL_law_1607 : decode cL_law 1607 = .ok (.invokevirtual 107, 3) := by decide +kernel
theorem dL_law_1610 : decode cL_law 1610 = .ok (.iload 5, 2) := by decide +kernel
theorem dL_law_1612 : decode cL_law 1612 = .ok (.if_icmp .eq 5, 3) := by decide +kernel
theorem dL_law_1615 : decode cL_law 1615 = .ok (.iconst 0, 1) := by decide +kernel
theorem dL_law_1616 : decode cL_law 1616 = .ok (.ireturn, 1) := by decide +kernel
theorem dL_law_1617 : decode cL_law 1617 = .ok (.iload 5, 2) := by decide +kernel
theorem dL_law_1619 : decode cL_law 1619 = .ok (.ifCond .ne 15, 3) := by decide +kernel
theorem dL_law_1622 : decode cL_law 1622 = .ok (.aload_n 3, 1) := by decide +kernel
theorem dL_law_1623 : decode cL_law 1623 = .ok (.iconst 0, 1) := by decide +kernel
theorem dL_law_1624 : decode cL_law 1624 = .ok (.laload, 1) := by decide +kernel
theorem dL_law_1625 : decode cL_law 1625 = .ok (.iload 6, 2) := by decide +kernel
theorem dL_law_1627 : decode cL_law 1627 = .ok (.i2l, 1) := by decide +kernel
theorem dL_law_1628 : decode cL_law 1628 = .ok (.lcmp, 1) := by decide +kernel
theorem dL_law_1629 : decode cL_law 1629 = .ok (.ifCond .eq 5, 3) := by decide +kernel
theorem dL_law_1632 : decode cL_law 1632 = .ok (.iconst 0, 1) := by decide +kernel
theorem dL_law_1633 : decode cL_law 1633 = .ok (.ireturn, 1) := by decide +kernel
theorem dL_law_1634 : decode cL_law 1634 = .ok (.goto 396, 3) := by decide +kernel
theorem dL_law_1637 : decode cL_law 1637 = .ok (.aload_n 1, 1) := by decide +kernel
theorem dL_law_1638 : decode cL_law 1638 = .ok (.aload_n 0, 1) := by decide +kernel
theorem dL_law_1639 : decode cL_law 1639 = .ok (.iload 4, 2) := by decide +kernel
theorem dL_law_1641 : decode cL_law 1641 = .ok (.iconst 1, 1) := by decide +kernel
theorem dL_law_1642 : decode cL_law 1642 = .ok (.iadd, 1) := by decide +kernel
theorem dL_law_1643 : decode cL_law 1643 = .ok (.iaload, 1) := by decide +kernel
theorem dL_law_1644 : decode cL_law 1644 = .ok (.aload_n 0, 1) := by decide +kernel
theorem dL_law_1645 : decode cL_law 1645 = .ok (.iload 4, 2) := by decide +kernel
theorem dL_law_1647 : decode cL_law 1647 = .ok (.iconst 2, 1) := by decide +kernel
theorem dL_law_1648 : decode cL_law 1648 = .ok (.iadd, 1) := by decide +kernel
theorem dL_law_1649 : decode cL_law 1649 = .ok (.iaload, 1) := by decide +kernel
theorem dL_law_1650 : decode cL_law 1650 = .ok (.aload_n 3, 1) := by decide +kernel
theorem dL_law_1651 : decode cL_law 1651 = .ok (.invokestatic 173, 3) := by decide +kernel
theorem dL_law_1654 : decode cL_law 1654 = .ok (.istore 5, 2) := by decide +kernel
theorem dL_law_1656 : decode cL_law 1656 = .ok (.aload_n 2, 1) := by decide +kernel
theorem dL_law_1657 : decode cL_law 1657 = .ok (.aload_n 0, 1) := by decide +kernel
theorem dL_law_1658 : decode cL_law 1658 = .ok (.iload 4, 2) := by decide +kernel
theorem dL_law_1660 : decode cL_law 1660 = .ok (.iconst 1, 1) := by decide +kernel
theorem dL_law_1661 : decode cL_law 1661 = .ok (.iadd, 1) := by decide +kernel
theorem dL_law_1662 : decode cL_law 1662 = .ok (.iaload, 1) := by decide +kernel
theorem dL_law_1663 : decode cL_law 1663 = .ok (.aload_n 0, 1) := by decide +kernel
theorem dL_law_1664 : decode cL_law 1664 = .ok (.iload 4, 2) := by decide +kernel
theorem dL_law_1666 : decode cL_law 1666 = .ok (.iconst 2, 1) := by decide +kernel
theorem dL_law_1667 : decode cL_law 1667 = .ok (.iadd, 1) := by decide +kernel
theorem dL_law_1668 : decode cL_law 1668 = .ok (.iaload, 1) := by decide +kernel
theorem dL_law_1669 : decode cL_law 1669 = .ok (.invokevirtual 175, 3) := by decide +kernel
theorem dL_law_1672 : decode cL_law 1672 = .ok (.istore 6, 2) := by decide +kernel
theorem dL_law_1674 : decode cL_law 1674 = .ok (.aload_n 2, 1) := by decide +kernel
theorem dL_law_1675 : decode cL_law 1675 = .ok (.invokevirtual 107, 3) := by decide +kernel
theorem dL_law_1678 : decode cL_law 1678 = .ok (.iload 5, 2) := by decide +kernel
theorem dL_law_1680 : decode cL_law 1680 = .ok (.if_icmp .eq 5, 3) := by decide +kernel
theorem dL_law_1683 : decode cL_law 1683 = .ok (.iconst 0, 1) := by decide +kernel
theorem dL_law_1684 : decode cL_law 1684 = .ok (.ireturn, 1) := by decide +kernel
theorem dL_law_1685 : decode cL_law 1685 = .ok (.iload 5, 2) := by decide +kernel
theorem dL_law_1687 : decode cL_law 1687 = .ok (.ifCond .ne 15, 3) := by decide +kernel
theorem dL_law_1690 : decode cL_law 1690 = .ok (.aload_n 3, 1) := by decide +kernel
theorem dL_law_1691 : decode cL_law 1691 = .ok (.iconst 0, 1) := by decide +kernel
theorem dL_law_1692 : decode cL_law 1692 = .ok (.laload, 1) := by decide +kernel
theorem dL_law_1693 : decode cL_law 1693 = .ok (.iload 6, 2) := by decide +kernel
theorem dL_law_1695 : decode cL_law 1695 = .ok (.i2l, 1) := by decide +kernel
theorem dL_law_1696 : decode cL_law 1696 = .ok (.lcmp, 1) := by decide +kernel
theorem dL_law_1697 : decode cL_law 1697 = .ok (.ifCond .eq 5, 3) := by decide +kernel
theorem dL_law_1700 : decode cL_law 1700 = .ok (.iconst 0, 1) := by decide +kernel
theorem dL_law_1701 : decode cL_law 1701 = .ok (.ireturn, 1) := by decide +kernel
theorem dL_law_1702 : decode cL_law 1702 = .ok (.goto 328, 3) := by decide +kernel
theorem dL_law_1705 : decode cL_law 1705 = .ok (.aload_n 1, 1) := by decide +kernel
theorem dL_law_1706 : decode cL_law 1706 = .ok (.aload_n 0, 1) := by decide +kernel
theorem dL_law_1707 : decode cL_law 1707 = .ok (.iload 4, 2) := by decide +kernel
theorem dL_law_1709 : decode cL_law 1709 = .ok (.iconst 1, 1) := by decide +kernel
theorem dL_law_1710 : decode cL_law 1710 = .ok (.iadd, 1) := by decide +kernel
theorem dL_law_1711 : decode cL_law 1711 = .ok (.iaload, 1) := by decide +kernel
theorem dL_law_1712 : decode cL_law 1712 = .ok (.aload_n 3, 1) := by decide +kernel
theorem dL_law_1713 : decode cL_law 1713 = .ok (.invokestatic 176, 3) := by decide +kernel
theorem dL_law_1716 : decode cL_law 1716 = .ok (.istore 5, 2) := by decide +kernel
theorem dL_law_1718 : decode cL_law 1718 = .ok (.aload_n 2, 1) := by decide +kernel
theorem dL_law_1719 : decode cL_law 1719 = .ok (.aload_n 0, 1) := by decide +kernel
theorem dL_law_1720 : decode cL_law 1720 = .ok (.iload 4, 2) := by decide +kernel
theorem dL_law_1722 : decode cL_law 1722 = .ok (.iconst 1, 1) := by decide +kernel
theorem dL_law_1723 : decode cL_law 1723 = .ok (.iadd, 1) := by decide +kernel
theorem dL_law_1724 : decode cL_law 1724 = .ok (.iaload, 1) := by decide +kernel
theorem dL_law_1725 : decode cL_law 1725 = .ok (.invokevirtual 178, 3) := by decide +kernel
theorem dL_law_1728 : decode cL_law 1728 = .ok (.istore 6, 2) := by decide +kernel
theorem dL_law_1730 : decode cL_law 1730 = .ok (.aload_n 2, 1) := by decide +kernel
theorem dL_law_1731 : decode cL_law 1731 = .ok (.invokevirtual 107, 3) := by decide +kernel
theorem dL_law_1734 : decode cL_law 1734 = .ok (.iload 5, 2) := by decide +kernel
theorem dL_law_1736 : decode cL_law 1736 = .ok (.if_icmp .eq 5, 3) := by decide +kernel
theorem dL_law_1739 : decode cL_law 1739 = .ok (.iconst 0, 1) := by decide +kernel
theorem dL_law_1740 : decode cL_law 1740 = .ok (.ireturn, 1) := by decide +kernel
theorem dL_law_1741 : decode cL_law 1741 = .ok (.iload 5, 2) := by decide +kernel
theorem dL_law_1743 : decode cL_law 1743 = .ok (.ifCond .ne 15, 3) := by decide +kernel
theorem dL_law_1746 : decode cL_law 1746 = .ok (.aload_n 3, 1) := by decide +kernel
theorem dL_law_1747 : decode cL_law 1747 = .ok (.iconst 0, 1) := by decide +kernel
theorem dL_law_1748 : decode cL_law 1748 = .ok (.laload, 1) := by decide +kernel
theorem dL_law_1749 : decode cL_law 1749 = .ok (.iload 6, 2) := by decide +kernel
theorem dL_law_1751 : decode cL_law 1751 = .ok (.i2l, 1) := by decide +kernel
theorem dL_law_1752 : decode cL_law 1752 = .ok (.lcmp, 1) := by decide +kernel
theorem dL_law_1753 : decode cL_law 1753 = .ok (.ifCond .eq 5, 3) := by decide +kernel
theorem dL_law_1756 : decode cL_law 1756 = .ok (.iconst 0, 1) := by decide +kernel
theorem dL_law_1757 : decode cL_law 1757 = .ok (.ireturn, 1) := by decide +kernel
theorem dL_law_1758 : decode cL_law 1758 = .ok (.goto 272, 3) := by decide +kernel
theorem dL_law_1761 : decode cL_law 1761 = .ok (.aload_n 1, 1) := by decide +kernel
theorem dL_law_1762 : decode cL_law 1762 = .ok (.aload_n 0, 1) := by decide +kernel
theorem dL_law_1763 : decode cL_law 1763 = .ok (.iload 4, 2) := by decide +kernel
theorem dL_law_1765 : decode cL_law 1765 = .ok (.iconst 1, 1) := by decide +kernel
theorem dL_law_1766 : decode cL_law 1766 = .ok (.iadd, 1) := by decide +kernel
theorem dL_law_1767 : decode cL_law 1767 = .ok (.iaload, 1) := by decide +kernel
theorem dL_law_1768 : decode cL_law 1768 = .ok (.aload_n 0, 1) := by decide +kernel
theorem dL_law_1769 : decode cL_law 1769 = .ok (.iload 4, 2) := by decide +kernel
theorem dL_law_1771 : decode cL_law 1771 = .ok (.iconst 2, 1) := by decide +kernel
theorem dL_law_1772 : decode cL_law 1772 = .ok (.iadd, 1) := by decide +kernel
theorem dL_law_1773 : decode cL_law 1773 = .ok (.iaload, 1) := by decide +kernel
theorem dL_law_1774 : decode cL_law 1774 = .ok (.aload_n 3, 1) := by decide +kernel
theorem dL_law_1775 : decode cL_law 1775 = .ok (.invokestatic 179, 3) := by decide +kernel
theorem dL_law_1778 : decode cL_law 1778 = .ok (.istore 5, 2) := by decide +kernel
theorem dL_law_1780 : decode cL_law 1780 = .ok (.aload_n 2, 1) := by decide +kernel
theorem dL_law_1781 : decode cL_law 1781 = .ok (.aload_n 0, 1) := by decide +kernel
theorem dL_law_1782 : decode cL_law 1782 = .ok (.iload 4, 2) := by decide +kernel
theorem dL_law_1784 : decode cL_law 1784 = .ok (.iconst 1, 1) := by decide +kernel
theorem dL_law_1785 : decode cL_law 1785 = .ok (.iadd, 1) := by decide +kernel
theorem dL_law_1786 : decode cL_law 1786 = .ok (.iaload, 1) := by decide +kernel
theorem dL_law_1787 : decode cL_law 1787 = .ok (.aload_n 0, 1) := by decide +kernel
theorem dL_law_1788 : decode cL_law 1788 = .ok (.iload 4, 2) := by decide +kernel
theorem dL_law_1790 : decode cL_law 1790 = .ok (.iconst 2, 1) := by decide +kernel
theorem dL_law_1791 : decode cL_law 1791 = .ok (.iadd, 1) := by decide +kernel
theorem dL_law_1792 : decode cL_law 1792 = .ok (.iaload, 1) := by decide +kernel
theorem dL_law_1793 : decode cL_law 1793 = .ok (.invokevirtual 181, 3) := by decide +kernel
theorem dL_law_1796 : decode cL_law 1796 = .ok (.istore 6, 2) := by decide +kernel
theorem dL_law_1798 : decode cL_law 1798 = .ok (.aload_n 2, 1) := by decide +kernel
theorem dL_law_1799 : decode cL_law 1799 = .ok (.invokevirtual 107, 3) := by decide +kernel
theorem dL_law_1802 : decode cL_law 1802 = .ok (.iload 5, 2) := by decide +kernel
theorem dL_law_1804 : decode cL_law 1804 = .ok (.if_icmp .eq 5, 3) := by decide +kernel
theorem dL_law_1807 : decode cL_law 1807 = .ok (.iconst 0, 1) := by decide +kernel
theorem dL_law_1808 : decode cL_law 1808 = .ok (.ireturn, 1) := by decide +kernel
theorem dL_law_1809 : decode cL_law 1809 = .ok (.iload 5, 2) := by decide +kernel
theorem dL_law_1811 : decode cL_law 1811 = .ok (.ifCond .ne 15, 3) := by decide +kernel
theorem dL_law_1814 : decode cL_law 1814 = .ok (.aload_n 3, 1) := by decide +kernel
theorem dL_law_1815 : decode cL_law 1815 = .ok (.iconst 0, 1) := by decide +kernel
theorem dL_law_1816 : decode cL_law 1816 = .ok (.laload, 1) := by decide +kernel
theorem dL_law_1817 : decode cL_law 1817 = .ok (.iload 6, 2) := by decide +kernel
theorem dL_law_1819 : decode cL_law 1819 = .ok (.i2l, 1) := by decide +kernel
theorem dL_law_1820 : decode cL_law 1820 = .ok (.lcmp, 1) := by decide +kernel
theorem dL_law_1821 : decode cL_law 1821 = .ok (.ifCond .eq 5, 3) := by decide +kernel
theorem dL_law_1824 : decode cL_law 1824 = .ok (.iconst 0, 1) := by decide +kernel
theorem dL_law_1825 : decode cL_law 1825 = .ok (.ireturn, 1) := by decide +kernel
theorem dL_law_1826 : decode cL_law 1826 = .ok (.goto 204, 3) := by decide +kernel
theorem dL_law_1829 : decode cL_law 1829 = .ok (.aload_n 1, 1) := by decide +kernel
theorem dL_law_1830 : decode cL_law 1830 = .ok (.aload_n 0, 1) := by decide +kernel
theorem dL_law_1831 : decode cL_law 1831 = .ok (.iload 4, 2) := by decide +kernel
theorem dL_law_1833 : decode cL_law 1833 = .ok (.iconst 1, 1) := by decide +kernel
theorem dL_law_1834 : decode cL_law 1834 = .ok (.iadd, 1) := by decide +kernel
theorem dL_law_1835 : decode cL_law 1835 = .ok (.iaload, 1) := by decide +kernel
theorem dL_law_1836 : decode cL_law 1836 = .ok (.aload_n 0, 1) := by decide +kernel
theorem dL_law_1837 : decode cL_law 1837 = .ok (.iload 4, 2) := by decide +kernel
theorem dL_law_1839 : decode cL_law 1839 = .ok (.iconst 2, 1) := by decide +kernel
theorem dL_law_1840 : decode cL_law 1840 = .ok (.iadd, 1) := by decide +kernel
theorem dL_law_1841 : decode cL_law 1841 = .ok (.iaload, 1) := by decide +kernel
theorem dL_law_1842 : decode cL_law 1842 = .ok (.aload_n 0, 1) := by decide +kernel
theorem dL_law_1843 : decode cL_law 1843 = .ok (.iload 4, 2) := by decide +kernel
theorem dL_law_1845 : decode cL_law 1845 = .ok (.iconst 3, 1) := by decide +kernel
theorem dL_law_1846 : decode cL_law 1846 = .ok (.iadd, 1) := by decide +kernel
theorem dL_law_1847 : decode cL_law 1847 = .ok (.iaload, 1) := by decide +kernel
theorem dL_law_1848 : decode cL_law 1848 = .ok (.aload_n 3, 1) := by decide +kernel
theorem dL_law_1849 : decode cL_law 1849 = .ok (.invokestatic 182, 3) := by decide +kernel
theorem dL_law_1852 : decode cL_law 1852 = .ok (.istore 5, 2) := by decide +kernel
theorem dL_law_1854 : decode cL_law 1854 = .ok (.aload_n 2, 1) := by decide +kernel
theorem dL_law_1855 : decode cL_law 1855 = .ok (.aload_n 0, 1) := by decide +kernel
theorem dL_law_1856 : decode cL_law 1856 = .ok (.iload 4, 2) := by decide +kernel
theorem dL_law_1858 : decode cL_law 1858 = .ok (.iconst 1, 1) := by decide +kernel
theorem dL_law_1859 : decode cL_law 1859 = .ok (.iadd, 1) := by decide +kernel
theorem dL_law_1860 : decode cL_law 1860 = .ok (.iaload, 1) := by decide +kernel
theorem dL_law_1861 : decode cL_law 1861 = .ok (.aload_n 0, 1) := by decide +kernel
theorem dL_law_1862 : decode cL_law 1862 = .ok (.iload 4, 2) := by decide +kernel
theorem dL_law_1864 : decode cL_law 1864 = .ok (.iconst 2, 1) := by decide +kernel
theorem dL_law_1865 : decode cL_law 1865 = .ok (.iadd, 1) := by decide +kernel
theorem dL_law_1866 : decode cL_law 1866 = .ok (.iaload, 1) := by decide +kernel
theorem dL_law_1867 : decode cL_law 1867 = .ok (.aload_n 0, 1) := by decide +kernel
theorem dL_law_1868 : decode cL_law 1868 = .ok (.iload 4, 2) := by decide +kernel
theorem dL_law_1870 : decode cL_law 1870 = .ok (.iconst 3, 1) := by decide +kernel
theorem dL_law_1871 : decode cL_law 1871 = .ok (.iadd, 1) := by decide +kernel
theorem dL_law_1872 : decode cL_law 1872 = .ok (.iaload, 1) := by decide +kernel
theorem dL_law_1873 : decode cL_law 1873 = .ok (.invokevirtual 184, 3) := by decide +kernel
theorem dL_law_1876 : decode cL_law 1876 = .ok (.istore 6, 2) := by decide +kernel
theorem dL_law_1878 : decode cL_law 1878 = .ok (.aload_n 2, 1) := by decide +kernel
theorem dL_law_1879 : decode cL_law 1879 = .ok (.invokevirtual 107, 3) := by decide +kernel
theorem dL_law_1882 : decode cL_law 1882 = .ok (.iload 5, 2) := by decide +kernel
theorem dL_law_1884 : decode cL_law 1884 = .ok (.if_icmp .eq 5, 3) := by decide +kernel
theorem dL_law_1887 : decode cL_law 1887 = .ok (.iconst 0, 1) := by decide +kernel
theorem dL_law_1888 : decode cL_law 1888 = .ok (.ireturn, 1) := by decide +kernel
theorem dL_law_1889 : decode cL_law 1889 = .ok (.iload 5, 2) := by decide +kernel
theorem dL_law_1891 : decode cL_law 1891 = .ok (.ifCond .ne 15, 3) := by decide +kernel
theorem dL_law_1894 : decode cL_law 1894 = .ok (.aload_n 3, 1) := by decide +kernel
theorem dL_law_1895 : decode cL_law 1895 = .ok (.iconst 0, 1) := by decide +kernel
theorem dL_law_1896 : decode cL_law 1896 = .ok (.laload, 1) := by decide +kernel
theorem dL_law_1897 : decode cL_law 1897 = .ok (.iload 6, 2) := by decide +kernel
theorem dL_law_1899 : decode cL_law 1899 = .ok (.i2l, 1) := by decide +kernel
theorem dL_law_1900 : decode cL_law 1900 = .ok (.lcmp, 1) := by decide +kernel
theorem dL_law_1901 : decode cL_law 1901 = .ok (.ifCond .eq 5, 3) := by decide +kernel
theorem dL_law_1904 : decode cL_law 1904 = .ok (.iconst 0, 1) := by decide +kernel
theorem dL_law_1905 : decode cL_law 1905 = .ok (.ireturn, 1) := by decide +kernel
theorem dL_law_1906 : decode cL_law 1906 = .ok (.goto 124, 3) := by decide +kernel
theorem dL_law_1909 : decode cL_law 1909 = .ok (.aload_n 1, 1) := by decide +kernel
theorem dL_law_1910 : decode cL_law 1910 = .ok (.aload_n 0, 1) := by decide +kernel
theorem dL_law_1911 : decode cL_law 1911 = .ok (.iload 4, 2) := by decide +kernel
theorem dL_law_1913 : decode cL_law 1913 = .ok (.iconst 1, 1) := by decide +kernel
theorem dL_law_1914 : decode cL_law 1914 = .ok (.iadd, 1) := by decide +kernel
theorem dL_law_1915 : decode cL_law 1915 = .ok (.iaload, 1) := by decide +kernel
theorem dL_law_1916 : decode cL_law 1916 = .ok (.ifCond .eq 7, 3) := by decide +kernel
theorem dL_law_1919 : decode cL_law 1919 = .ok (.iconst 1, 1) := by decide +kernel
theorem dL_law_1920 : decode cL_law 1920 = .ok (.goto 4, 3) := by decide +kernel
theorem dL_law_1923 : decode cL_law 1923 = .ok (.iconst 0, 1) := by decide +kernel
theorem dL_law_1924 : decode cL_law 1924 = .ok (.aload_n 0, 1) := by decide +kernel
theorem dL_law_1925 : decode cL_law 1925 = .ok (.iload 4, 2) := by decide +kernel
theorem dL_law_1927 : decode cL_law 1927 = .ok (.iconst 2, 1) := by decide +kernel
theorem dL_law_1928 : decode cL_law 1928 = .ok (.iadd, 1) := by decide +kernel
theorem dL_law_1929 : decode cL_law 1929 = .ok (.iaload, 1) := by decide +kernel
theorem dL_law_1930 : decode cL_law 1930 = .ok (.aload_n 3, 1) := by decide +kernel
theorem dL_law_1931 : decode cL_law 1931 = .ok (.invokestatic 185, 3) := by decide +kernel
theorem dL_law_1934 : decode cL_law 1934 = .ok (.istore 5, 2) := by decide +kernel
theorem dL_law_1936 : decode cL_law 1936 = .ok (.aload_n 2, 1) := by decide +kernel
theorem dL_law_1937 : decode cL_law 1937 = .ok (.aload_n 0, 1) := by decide +kernel
theorem dL_law_1938 : decode cL_law 1938 = .ok (.iload 4, 2) := by decide +kernel
theorem dL_law_1940 : decode cL_law 1940 = .ok (.iconst 1, 1) := by decide +kernel
theorem dL_law_1941 : decode cL_law 1941 = .ok (.iadd, 1) := by decide +kernel
theorem dL_law_1942 : decode cL_law 1942 = .ok (.iaload, 1) := by decide +kernel
theorem dL_law_1943 : decode cL_law 1943 = .ok (.ifCond .eq 7, 3) := by decide +kernel
theorem dL_law_1946 : decode cL_law 1946 = .ok (.iconst 1, 1) := by decide +kernel
theorem dL_law_1947 : decode cL_law 1947 = .ok (.goto 4, 3) := by decide +kernel
theorem dL_law_1950 : decode cL_law 1950 = .ok (.iconst 0, 1) := by decide +kernel
theorem dL_law_1951 : decode cL_law 1951 = .ok (.aload_n 0, 1) := by decide +kernel
theorem dL_law_1952 : decode cL_law 1952 = .ok (.iload 4, 2) := by decide +kernel
theorem dL_law_1954 : decode cL_law 1954 = .ok (.iconst 2, 1) := by decide +kernel
theorem dL_law_1955 : decode cL_law 1955 = .ok (.iadd, 1) := by decide +kernel
theorem dL_law_1956 : decode cL_law 1956 = .ok (.iaload, 1) := by decide +kernel
theorem dL_law_1957 : decode cL_law 1957 = .ok (.invokevirtual 188, 3) := by decide +kernel
theorem dL_law_1960 : decode cL_law 1960 = .ok (.istore 6, 2) := by decide +kernel
theorem dL_law_1962 : decode cL_law 1962 = .ok (.aload_n 2, 1) := by decide +kernel
theorem dL_law_1963 : decode cL_law 1963 = .ok (.invokevirtual 107, 3) := by decide +kernel
theorem dL_law_1966 : decode cL_law 1966 = .ok (.iload 5, 2) := by decide +kernel
theorem dL_law_1968 : decode cL_law 1968 = .ok (.if_icmp .eq 5, 3) := by decide +kernel
theorem dL_law_1971 : decode cL_law 1971 = .ok (.iconst 0, 1) := by decide +kernel
theorem dL_law_1972 : decode cL_law 1972 = .ok (.ireturn, 1) := by decide +kernel
theorem dL_law_1973 : decode cL_law 1973 = .ok (.iload 5, 2) := by decide +kernel
theorem dL_law_1975 : decode cL_law 1975 = .ok (.ifCond .ne 15, 3) := by decide +kernel
theorem dL_law_1978 : decode cL_law 1978 = .ok (.aload_n 3, 1) := by decide +kernel
theorem dL_law_1979 : decode cL_law 1979 = .ok (.iconst 0, 1) := by decide +kernel
theorem dL_law_1980 : decode cL_law 1980 = .ok (.laload, 1) := by decide +kernel
theorem dL_law_1981 : decode cL_law 1981 = .ok (.iload 6, 2) := by decide +kernel
theorem dL_law_1983 : decode cL_law 1983 = .ok (.i2l, 1) := by decide +kernel
theorem dL_law_1984 : decode cL_law 1984 = .ok (.lcmp, 1) := by decide +kernel
theorem dL_law_1985 : decode cL_law 1985 = .ok (.ifCond .eq 5, 3) := by decide +kernel
theorem dL_law_1988 : decode cL_law 1988 = .ok (.iconst 0, 1) := by decide +kernel
theorem dL_law_1989 : decode cL_law 1989 = .ok (.ireturn, 1) := by decide +kernel
theorem dL_law_1990 : decode cL_law 1990 = .ok (.goto 40, 3) := by decide +kernel
theorem dL_law_1993 : decode cL_law 1993 = .ok (.aload_n 1, 1) := by decide +kernel
theorem dL_law_1994 : decode cL_law 1994 = .ok (.invokevirtual 189, 3) := by decide +kernel
theorem dL_law_1997 : decode cL_law 1997 = .ok (.aload_n 2, 1) := by decide +kernel
theorem dL_law_1998 : decode cL_law 1998 = .ok (.invokevirtual 192, 3) := by decide +kernel
theorem dL_law_2001 : decode cL_law 2001 = .ok (.if_icmp .eq 29, 3) := by decide +kernel
theorem dL_law_2004 : decode cL_law 2004 = .ok (.iconst 0, 1) := by decide +kernel
theorem dL_law_2005 : decode cL_law 2005 = .ok (.ireturn, 1) := by decide +kernel
theorem dL_law_2006 : decode cL_law 2006 = .ok (.aload_n 1, 1) := by decide +kernel
theorem dL_law_2007 : decode cL_law 2007 = .ok (.invokevirtual 193, 3) := by decide +kernel
theorem dL_law_2010 : decode cL_law 2010 = .ok (.aload_n 2, 1) := by decide +kernel
theorem dL_law_2011 : decode cL_law 2011 = .ok (.invokevirtual 196, 3) := by decide +kernel
theorem dL_law_2014 : decode cL_law 2014 = .ok (.goto 16, 3) := by decide +kernel
theorem dL_law_2017 : decode cL_law 2017 = .ok (.aload_n 1, 1) := by decide +kernel
theorem dL_law_2018 : decode cL_law 2018 = .ok (.invokevirtual 197, 3) := by decide +kernel
theorem dL_law_2021 : decode cL_law 2021 = .ok (.aload_n 2, 1) := by decide +kernel
theorem dL_law_2022 : decode cL_law 2022 = .ok (.invokevirtual 201, 3) := by decide +kernel
theorem dL_law_2025 : decode cL_law 2025 = .ok (.if_icmp .eq 5, 3) := by decide +kernel
theorem dL_law_2028 : decode cL_law 2028 = .ok (.iconst 0, 1) := by decide +kernel
theorem dL_law_2029 : decode cL_law 2029 = .ok (.ireturn, 1) := by decide +kernel
theorem dL_law_2030 : decode cL_law 2030 = .ok (.iinc 4 6, 3) := by decide +kernel
theorem dL_law_2033 : decode cL_law 2033 = .ok (.goto (-2010), 3) := by decide +kernel
theorem dL_law_2036 : decode cL_law 2036 = .ok (.iconst 1, 1) := by decide +kernel
theorem dL_law_2037 : decode cL_law 2037 = .ok (.ireturn, 1) := by decide +kernel
theorem lw_L_election : Lw RL 101 yL_election cL_election 4 hL_election 3 := ⟨(tb_3 14 rfl rfl), (tb_1 0 rfl rfl), (tb_3 15 rfl rfl), (tb_3 16 rfl rfl), by decide⟩
theorem lw_L_count : Lw RL 115 yL_count cL_count 4 hL_count 3 := ⟨(tb_4 50 rfl rfl), (tb_1 0 rfl rfl), (tb_4 51 rfl rfl), (tb_4 52 rfl rfl), by decide⟩
theorem lw_L_project : Lw RL 118 yL_project cL_project 5 hL_project 4 := ⟨(tb_4 82 rfl rfl), (tb_1 0 rfl rfl), (tb_4 83 rfl rfl), (tb_4 84 rfl rfl), by decide⟩
theorem lw_L_vote : Lw RL 122 yL_vote cL_vote 6 hL_vote 5 := ⟨(tb_4 94 rfl rfl), (tb_1 0 rfl rfl), (tb_4 95 rfl rfl), (tb_4 96 rfl rfl), by decide⟩
theorem lw_L_outcome : Lw RL 126 yL_outcome cL_outcome 5 hL_outcome 4 := ⟨(tb_4 106 rfl rfl), (tb_1 0 rfl rfl), (tb_4 107 rfl rfl), (tb_4 108 rfl rfl), by decide⟩
theorem lw_L_chosen : Lw RL 129 yL_chosen cL_chosen 5 hL_chosen 4 := ⟨(tb_5 25 rfl rfl), (tb_1 0 rfl rfl), (tb_5 26 rfl rfl), (tb_5 27 rfl rfl), by decide⟩
theorem lw_L_served : Lw RL 132 yL_served cL_served 5 hL_served 4 := ⟨(tb_5 33 rfl rfl), (tb_1 0 rfl rfl), (tb_5 34 rfl rfl), (tb_5 35 rfl rfl), by decide⟩
theorem lw_L_paid : Lw RL 135 yL_paid cL_paid 6 hL_paid 5 := ⟨(tb_5 41 rfl rfl), (tb_1 0 rfl rfl), (tb_5 42 rfl rfl), (tb_5 43 rfl rfl), by decide⟩
theorem lw_L_left : Lw RL 139 yL_left cL_left 5 hL_left 4 := ⟨(tb_5 56 rfl rfl), (tb_1 0 rfl rfl), (tb_5 57 rfl rfl), (tb_5 58 rfl rfl), by decide⟩
theorem lw_L_step : Lw RL 142 yL_step cL_step 5 hL_step 4 := ⟨(tb_5 63 rfl rfl), (tb_1 0 rfl rfl), (tb_5 64 rfl rfl), (tb_5 65 rfl rfl), by decide⟩
theorem lw_L_price : Lw RL 145 yL_price cL_price 5 hL_price 4 := ⟨(tb_5 70 rfl rfl), (tb_1 0 rfl rfl), (tb_5 71 rfl rfl), (tb_5 72 rfl rfl), by decide⟩
theorem lw_L_group : Lw RL 148 yL_group cL_group 5 hL_group 4 := ⟨(tb_5 87 rfl rfl), (tb_1 0 rfl rfl), (tb_5 88 rfl rfl), (tb_5 89 rfl rfl), by decide⟩
theorem lw_L_isServed : Lw RL 151 yL_isServed cL_isServed 6 hL_isServed 5 := ⟨(tb_5 109 rfl rfl), (tb_1 0 rfl rfl), (tb_5 110 rfl rfl), (tb_5 111 rfl rfl), by decide⟩
theorem lw_L_groups : Lw RL 154 yL_groups cL_groups 5 hL_groups 4 := ⟨(tb_5 127 rfl rfl), (tb_1 0 rfl rfl), (tb_5 128 rfl rfl), (tb_5 129 rfl rfl), by decide⟩
theorem lw_L_away : Lw RL 157 yL_away cL_away 5 hL_away 4 := ⟨(tb_5 154 rfl rfl), (tb_1 0 rfl rfl), (tb_5 155 rfl rfl), (tb_5 156 rfl rfl), by decide⟩
theorem lw_L_with : Lw RL 160 yL_with cL_with 5 hL_with 4 := ⟨(tb_5 175 rfl rfl), (tb_1 0 rfl rfl), (tb_5 176 rfl rfl), (tb_5 177 rfl rfl), by decide⟩
theorem lw_L_voting : Lw RL 163 yL_voting cL_voting 7 hL_voting 6 := ⟨(tb_5 187 rfl rfl), (tb_1 0 rfl rfl), (tb_5 188 rfl rfl), (tb_5 189 rfl rfl), by decide⟩
theorem lw_L_ride : Lw RL 167 yL_ride cL_ride 6 hL_ride 5 := ⟨(tb_5 199 rfl rfl), (tb_1 0 rfl rfl), (tb_5 200 rfl rfl), (tb_5 201 rfl rfl), by decide⟩
theorem lw_L_push : Lw RL 170 yL_push cL_push 5 hL_push 4 := ⟨(tb_5 206 rfl rfl), (tb_1 0 rfl rfl), (tb_5 207 rfl rfl), (tb_5 208 rfl rfl), by decide⟩
theorem lw_L_discount : Lw RL 173 yL_discount cL_discount 5 hL_discount 4 := ⟨(tb_5 215 rfl rfl), (tb_1 0 rfl rfl), (tb_5 216 rfl rfl), (tb_5 217 rfl rfl), by decide⟩
theorem lw_L_budget : Lw RL 176 yL_budget cL_budget 4 hL_budget 3 := ⟨(tb_5 223 rfl rfl), (tb_1 0 rfl rfl), (tb_5 224 rfl rfl), (tb_5 225 rfl rfl), by decide⟩
theorem lw_L_cost : Lw RL 179 yL_cost cL_cost 5 hL_cost 4 := ⟨(tb_5 235 rfl rfl), (tb_1 0 rfl rfl), (tb_5 236 rfl rfl), (tb_5 237 rfl rfl), by decide⟩
theorem lw_L_score : Lw RL 182 yL_score cL_score 6 hL_score 5 := ⟨(tb_6 2 rfl rfl), (tb_1 0 rfl rfl), (tb_6 3 rfl rfl), (tb_6 4 rfl rfl), by decide⟩
theorem lw_L_go : Lw RL 185 yL_go cL_go 5 hL_go 4 := ⟨(tb_6 9 rfl rfl), (tb_1 0 rfl rfl), (tb_6 10 rfl rfl), (tb_6 11 rfl rfl), by decide⟩
def g0 (xs : Nat → Int32) (L : Nat) (n : Nat) (ax am ao : Nat) (i : Int32) (Y : XS) (S : PS) : Option (XS × PS) :=
  ksc xs L (i + (1 : Int32)) (fun y178 => ksc xs L (i + (2 : Int32)) (fun y184 => ksc xs L (i + (3 : Int32)) (fun y190 => ksc xs L (i + (4 : Int32)) (fun y196 => ksc xs L (i + (5 : Int32)) (fun y202 => kc (fX10_feed Y n S ax y178 y184 y190 y196 y202) (fun q203 => ksc xs L (i + (1 : Int32)) (fun y212 => ksc xs L (i + (2 : Int32)) (fun y218 => ksc xs L (i + (3 : Int32)) (fun y224 => ksc xs L (i + (4 : Int32)) (fun y230 => ksc xs L (i + (5 : Int32)) (fun y236 => kc (fX11_feed Y n q203.2 am y212 y218 y224 y230 y236) (fun q237 => (if q203.1 = q237.1 then some (Y, q237.2) else none)))))))))))))
theorem wg0 {C : CT} {ρ : Nat → Nat} {Y : XS} {cells slots : Nat} (hC : CK C RL cL_law 7 ret 100) {b L : Nat} {xs : Nat → Int32} (hSC : SC C b L xs) (hNc : va_Nc eI eN C.2.2.2.2.1) (n : Nat) (S : PS) (i : Int32) (ax am ao : Nat) (hTx : Ty Y ax 10) (hTm : Ty Y am 11) (hTo : Ty Y ao 15) {o : XS × PS} (hf : g0 xs L n ax am ao i Y S = some o) (hB : XB C (ρ, Y, cells, slots) 8 508) (hK : ∀ ρ' c' z', AG ρ Y ρ' o.1 → c' ≤ cells + 8 → z' ≤ slots + 508 → UW C (ρ', o.1, c', z') o.2 2030 [(4, .int i), (3, .ref (ρ' ao)), (2, .ref (ρ' am)), (1, .ref (ρ' ax)), (0, .ref b)] []) : UW C (ρ, Y, cells, slots) S 172 [(4, .int i), (3, .ref (ρ ao)), (2, .ref (ρ am)), (1, .ref (ρ ax)), (0, .ref b)] [] := by
  unfold g0 at hf
  have hAG := AG.refl ρ Y
  refine u_aload_n hC dL_law_172 3 rfl rfl ?_
  refine u_aload_n hC dL_law_173 4 rfl rfl ?_
  refine u_iload hC dL_law_174 0 rfl ?_
  refine u_iconst (v := (1 : Int32)) hC dL_law_176 (by decide) ?_
  refine u_iadd hC dL_law_177 ?_
  refine u_scr hC hSC dL_law_178 hf (fun y178 hf => ?_)
  refine u_aload_n hC dL_law_179 4 rfl rfl ?_
  refine u_iload hC dL_law_180 0 rfl ?_
  refine u_iconst (v := (2 : Int32)) hC dL_law_182 (by decide) ?_
  refine u_iadd hC dL_law_183 ?_
  refine u_scr hC hSC dL_law_184 hf (fun y184 hf => ?_)
  refine u_aload_n hC dL_law_185 4 rfl rfl ?_
  refine u_iload hC dL_law_186 0 rfl ?_
  refine u_iconst (v := (3 : Int32)) hC dL_law_188 (by decide) ?_
  refine u_iadd hC dL_law_189 ?_
  refine u_scr hC hSC dL_law_190 hf (fun y190 hf => ?_)
  refine u_aload_n hC dL_law_191 4 rfl rfl ?_
  refine u_iload hC dL_law_192 0 rfl ?_
  refine u_iconst (v := (4 : Int32)) hC dL_law_194 (by decide) ?_
  refine u_iadd hC dL_law_195 ?_
  refine u_scr hC hSC dL_law_196 hf (fun y196 hf => ?_)
  refine u_aload_n hC dL_law_197 4 rfl rfl ?_
  refine u_iload hC dL_law_198 0 rfl ?_
  refine u_iconst (v := (5 : Int32)) hC dL_law_200 (by decide) ?_
  refine u_iadd hC dL_law_201 ?_
  refine u_scr hC hSC dL_law_202 hf (fun y202 hf => ?_)
  obtain ⟨q203, hq203, hf⟩ := kc_some hf
  refine u_callV (X := (ρ, Y, cells, slots)) (a := ax) (rest := []) hC (ctX10_feed (cL C) hC.tr (cG C) ρ Y n S ax y178 y184 y190 y196 y202 hTx hq203) lk_L_96 rfl hTx (by decide) rfl (by decide) (by decide) rfl rfl (Nat.le_of_ble_eq_true rfl) dL_law_203 ?_
  refine u_aload_n hC dL_law_206 2 rfl rfl ?_
  refine u_aload_n hC dL_law_207 4 rfl rfl ?_
  refine u_iload hC dL_law_208 0 rfl ?_
  refine u_iconst (v := (1 : Int32)) hC dL_law_210 (by decide) ?_
  refine u_iadd hC dL_law_211 ?_
  refine u_scr hC hSC dL_law_212 hf (fun y212 hf => ?_)
  refine u_aload_n hC dL_law_213 4 rfl rfl ?_
  refine u_iload hC dL_law_214 0 rfl ?_
  refine u_iconst (v := (2 : Int32)) hC dL_law_216 (by decide) ?_
  refine u_iadd hC dL_law_217 ?_
  refine u_scr hC hSC dL_law_218 hf (fun y218 hf => ?_)
  refine u_aload_n hC dL_law_219 4 rfl rfl ?_
  refine u_iload hC dL_law_220 0 rfl ?_
  refine u_iconst (v := (3 : Int32)) hC dL_law_222 (by decide) ?_
  refine u_iadd hC dL_law_223 ?_
  refine u_scr hC hSC dL_law_224 hf (fun y224 hf => ?_)
  refine u_aload_n hC dL_law_225 4 rfl rfl ?_
  refine u_iload hC dL_law_226 0 rfl ?_
  refine u_iconst (v := (4 : Int32)) hC dL_law_228 (by decide) ?_
  refine u_iadd hC dL_law_229 ?_
  refine u_scr hC hSC dL_law_230 hf (fun y230 hf => ?_)
  refine u_aload_n hC dL_law_231 4 rfl rfl ?_
  refine u_iload hC dL_law_232 0 rfl ?_
  refine u_iconst (v := (5 : Int32)) hC dL_law_234 (by decide) ?_
  refine u_iadd hC dL_law_235 ?_
  refine u_scr hC hSC dL_law_236 hf (fun y236 hf => ?_)
  obtain ⟨q237, hq237, hf⟩ := kc_some hf
  refine u_callV (X := (ρ, Y, cells, slots)) (a := am) (rest := [.int q203.1]) hC (ctX11_feed (cL C) hC.tr (cG C) ρ Y n q203.2 am y212 y218 y224 y230 y236 hTm hq237) lk_L_100 rfl hTm (by decide) rfl (by decide) (by decide) rfl rfl (Nat.le_of_ble_eq_true rfl) dL_law_237 ?_
  refine u_icmp_eq (tgt := 2030) hC dL_law_240 (by decide) hf (fun h240 hf => ?_) (fun h240 hf => nomatch hf)
  cases hf
  exact hK ρ cells slots hAG (by omega) (by omega)
def g1 (xs : Nat → Int32) (L : Nat) (n : Nat) (ax am ao : Nat) (i : Int32) (Y : XS) (S : PS) : Option (XS × PS) :=
  ksc xs L (i + (1 : Int32)) (fun y251 => kc (fL_election Y n S ax y251 ao) (fun q253 => ksc xs L (i + (1 : Int32)) (fun y264 => kc (fX11_election q253.2.1 n q253.2.2 am y264) (fun q265 => kc (fX11_thrown q253.2.1 n q265.2 am ) (fun q271 => (if q271 = q253.1 then (if q253.1 = 0 then kal q253.2.1 q265.2 ao (0 : Int32) (fun w288 => (if (lg_cmp w288 (Int32.toInt64 q265.1)) = 0 then some (q253.2.1, q265.2) else none)) else some (q253.2.1, q265.2)) else none))))))
theorem wg1 {C : CT} {ρ : Nat → Nat} {Y : XS} {cells slots : Nat} (hC : CK C RL cL_law 7 ret 100) {b L : Nat} {xs : Nat → Int32} (hSC : SC C b L xs) (hNc : va_Nc eI eN C.2.2.2.2.1) (n : Nat) (S : PS) (i : Int32) (ax am ao : Nat) (hTx : Ty Y ax 10) (hTm : Ty Y am 11) (hTo : Ty Y ao 15) {o : XS × PS} (hf : g1 xs L n ax am ao i Y S = some o) (hB : XB C (ρ, Y, cells, slots) 8 508) (hK : ∀ ρ' c' z', AG ρ Y ρ' o.1 → c' ≤ cells + 8 → z' ≤ slots + 508 → UW C (ρ', o.1, c', z') o.2 2030 [(4, .int i), (3, .ref (ρ' ao)), (2, .ref (ρ' am)), (1, .ref (ρ' ax)), (0, .ref b)] []) : UW C (ρ, Y, cells, slots) S 245 [(4, .int i), (3, .ref (ρ ao)), (2, .ref (ρ am)), (1, .ref (ρ ax)), (0, .ref b)] [] := by
  unfold g1 at hf
  have hAG := AG.refl ρ Y
  refine u_aload_n hC dL_law_245 3 rfl rfl ?_
  refine u_aload_n hC dL_law_246 4 rfl rfl ?_
  refine u_iload hC dL_law_247 0 rfl ?_
  refine u_iconst (v := (1 : Int32)) hC dL_law_249 (by decide) ?_
  refine u_iadd hC dL_law_250 ?_
  refine u_scr hC hSC dL_law_251 hf (fun y251 hf => ?_)
  refine u_aload_n hC dL_law_252 1 rfl rfl ?_
  obtain ⟨q253, hq253, hf⟩ := kc_some hf
  refine u_callW (X := (ρ, Y, cells, slots)) (rest := []) hC hNc (ctL_election (cL C) hC.tr (cG C) ρ Y n S ax y251 ao hTx hTo hq253) (hB.more (by omega) (by omega)) lw_L_election (by decide) (by decide) rfl rfl (Nat.le_of_ble_eq_true rfl) dL_law_253 (fun ρ253 hag => ?_)
  replace hag : AG ρ Y ρ253 q253.2.1 := hag
  show UW C (ρ253, q253.2.1, cells + 3, slots + 508) q253.2.2 _ [(4, .int i), (3, .ref (ρ ao)), (2, .ref (ρ am)), (1, .ref (ρ ax)), (0, .ref b)] [.int q253.1]
  rw [← (hag ax _ hTx).1, ← (hag am _ hTm).1, ← (hag ao _ hTo).1]
  have hTx := (hag _ _ hTx).2
  have hTm := (hag _ _ hTm).2
  have hTo := (hag _ _ hTo).2
  have hAG := AG.trans hAG hag
  refine u_istore (lv' := [(5, .int q253.1), (4, .int i), (3, .ref (ρ253 ao)), (2, .ref (ρ253 am)), (1, .ref (ρ253 ax)), (0, .ref b)]) hC dL_law_256 (by decide) rfl ?_
  refine u_aload_n hC dL_law_258 3 rfl rfl ?_
  refine u_aload_n hC dL_law_259 5 rfl rfl ?_
  refine u_iload hC dL_law_260 1 rfl ?_
  refine u_iconst (v := (1 : Int32)) hC dL_law_262 (by decide) ?_
  refine u_iadd hC dL_law_263 ?_
  refine u_scr hC hSC dL_law_264 hf (fun y264 hf => ?_)
  obtain ⟨q265, hq265, hf⟩ := kc_some hf
  refine u_callV (X := (ρ253, q253.2.1, cells + 3, slots + 508)) (a := am) (rest := []) hC (ctX11_election (cL C) hC.tr (cG C) ρ253 q253.2.1 n q253.2.2 am y264 hTm hq265) lk_L_106 rfl hTm (by decide) rfl (by decide) (by decide) rfl rfl (Nat.le_of_ble_eq_true rfl) dL_law_265 ?_
  refine u_istore (lv' := [(6, .int q265.1), (5, .int q253.1), (4, .int i), (3, .ref (ρ253 ao)), (2, .ref (ρ253 am)), (1, .ref (ρ253 ax)), (0, .ref b)]) hC dL_law_268 (by decide) rfl ?_
  refine u_aload_n hC dL_law_270 4 rfl rfl ?_
  obtain ⟨q271, hq271, hf⟩ := kc_some hf
  refine u_callV (X := (ρ253, q253.2.1, cells + 3, slots + 508)) (a := am) (rest := []) hC (ctX11_thrown (cL C) hC.tr (cG C) ρ253 q253.2.1 n q265.2 am  hTm hq271) lk_L_107 rfl hTm (by decide) rfl (by decide) (by decide) rfl rfl (Nat.le_of_ble_eq_true rfl) dL_law_271 ?_
  refine u_iload hC dL_law_274 1 rfl ?_
  refine u_icmp_eq (tgt := 281) hC dL_law_276 (by decide) hf (fun h276 hf => ?_) (fun h276 hf => nomatch hf)
  refine u_iload hC dL_law_281 1 rfl ?_
  refine u_if_ne (tgt := 298) hC dL_law_283 (by decide) hf (fun h283 hf => ?_) (fun h283 hf => ?_)
  · skip
    refine u_goto (tgt := 2030) hC dL_law_298 (by decide) ?_
    refine u_sub (lv' := [(4, .int i), (3, .ref (ρ253 ao)), (2, .ref (ρ253 am)), (1, .ref (ρ253 ax)), (0, .ref b)]) [2, 3, 4, 5, 6] rfl ?_
    cases hf
    exact hK ρ253 (cells + 3) (slots + 508) hAG (by omega) (by omega)
  · skip
    refine u_aload_n hC dL_law_286 3 rfl rfl ?_
    refine u_iconst (v := (0 : Int32)) hC dL_law_287 (by decide) ?_
    refine u_al (X := (ρ253, q253.2.1, cells + 3, slots + 508)) (a := ao) hC hTo dL_law_288 hf (fun w288 hf => ?_)
    refine u_iload hC dL_law_289 0 rfl ?_
    refine u_i2l hC dL_law_291 ?_
    refine u_lcmp hC dL_law_292 ?_
    refine u_if_eq (tgt := 298) hC dL_law_293 (by decide) hf (fun h293 hf => ?_) (fun h293 hf => nomatch hf)
    refine u_goto (tgt := 2030) hC dL_law_298 (by decide) ?_
    refine u_sub (lv' := [(4, .int i), (3, .ref (ρ253 ao)), (2, .ref (ρ253 am)), (1, .ref (ρ253 ax)), (0, .ref b)]) [2, 3, 4, 5, 6] rfl ?_
    cases hf
    exact hK ρ253 (cells + 3) (slots + 508) hAG (by omega) (by omega)
def g2 (xs : Nat → Int32) (L : Nat) (n : Nat) (ax am ao : Nat) (i : Int32) (Y : XS) (S : PS) : Option (XS × PS) :=
  kc (fX10_fault Y n S ax ) (fun q302 => kc (fX11_fault Y n S am ) (fun q306 => (if q302 = q306.1 then some (Y, q306.2) else none)))
theorem wg2 {C : CT} {ρ : Nat → Nat} {Y : XS} {cells slots : Nat} (hC : CK C RL cL_law 7 ret 100) {b L : Nat} {xs : Nat → Int32} (hSC : SC C b L xs) (hNc : va_Nc eI eN C.2.2.2.2.1) (n : Nat) (S : PS) (i : Int32) (ax am ao : Nat) (hTx : Ty Y ax 10) (hTm : Ty Y am 11) (hTo : Ty Y ao 15) {o : XS × PS} (hf : g2 xs L n ax am ao i Y S = some o) (hB : XB C (ρ, Y, cells, slots) 8 508) (hK : ∀ ρ' c' z', AG ρ Y ρ' o.1 → c' ≤ cells + 8 → z' ≤ slots + 508 → UW C (ρ', o.1, c', z') o.2 2030 [(4, .int i), (3, .ref (ρ' ao)), (2, .ref (ρ' am)), (1, .ref (ρ' ax)), (0, .ref b)] []) : UW C (ρ, Y, cells, slots) S 301 [(4, .int i), (3, .ref (ρ ao)), (2, .ref (ρ am)), (1, .ref (ρ ax)), (0, .ref b)] [] := by
  unfold g2 at hf
  have hAG := AG.refl ρ Y
  refine u_aload_n hC dL_law_301 3 rfl rfl ?_
  obtain ⟨q302, hq302, hf⟩ := kc_some hf
  refine u_callV (X := (ρ, Y, cells, slots)) (a := ax) (rest := []) hC (ctX10_fault (cL C) hC.tr (cG C) ρ Y n S ax  hTx hq302) lk_L_111 rfl hTx (by decide) rfl (by decide) (by decide) rfl rfl (Nat.le_of_ble_eq_true rfl) dL_law_302 ?_
  refine u_aload_n hC dL_law_305 2 rfl rfl ?_
  obtain ⟨q306, hq306, hf⟩ := kc_some hf
  refine u_callV (X := (ρ, Y, cells, slots)) (a := am) (rest := [.int q302]) hC (ctX11_fault (cL C) hC.tr (cG C) ρ Y n S am  hTm hq306) lk_L_114 rfl hTm (by decide) rfl (by decide) (by decide) rfl rfl (Nat.le_of_ble_eq_true rfl) dL_law_306 ?_
  refine u_icmp_eq (tgt := 2030) hC dL_law_309 (by decide) hf (fun h309 hf => ?_) (fun h309 hf => nomatch hf)
  cases hf
  exact hK ρ cells slots hAG (by omega) (by omega)
def g3 (xs : Nat → Int32) (L : Nat) (n : Nat) (ax am ao : Nat) (i : Int32) (Y : XS) (S : PS) : Option (XS × PS) :=
  ksc xs L (i + (1 : Int32)) (fun y320 => kc (fL_count Y n S ax y320 ao) (fun q322 => ksc xs L (i + (1 : Int32)) (fun y333 => kc (fX11_count q322.2.1 n q322.2.2 am y333) (fun q334 => kc (fX11_thrown q322.2.1 n q334.2 am ) (fun q340 => (if q340 = q322.1 then (if q322.1 = 0 then kal q322.2.1 q334.2 ao (0 : Int32) (fun w357 => (if (lg_cmp w357 (Int32.toInt64 q334.1)) = 0 then some (q322.2.1, q334.2) else none)) else some (q322.2.1, q334.2)) else none))))))
theorem wg3 {C : CT} {ρ : Nat → Nat} {Y : XS} {cells slots : Nat} (hC : CK C RL cL_law 7 ret 100) {b L : Nat} {xs : Nat → Int32} (hSC : SC C b L xs) (hNc : va_Nc eI eN C.2.2.2.2.1) (n : Nat) (S : PS) (i : Int32) (ax am ao : Nat) (hTx : Ty Y ax 10) (hTm : Ty Y am 11) (hTo : Ty Y ao 15) {o : XS × PS} (hf : g3 xs L n ax am ao i Y S = some o) (hB : XB C (ρ, Y, cells, slots) 8 508) (hK : ∀ ρ' c' z', AG ρ Y ρ' o.1 → c' ≤ cells + 8 → z' ≤ slots + 508 → UW C (ρ', o.1, c', z') o.2 2030 [(4, .int i), (3, .ref (ρ' ao)), (2, .ref (ρ' am)), (1, .ref (ρ' ax)), (0, .ref b)] []) : UW C (ρ, Y, cells, slots) S 314 [(4, .int i), (3, .ref (ρ ao)), (2, .ref (ρ am)), (1, .ref (ρ ax)), (0, .ref b)] [] := by
  unfold g3 at hf
  have hAG := AG.refl ρ Y
  refine u_aload_n hC dL_law_314 3 rfl rfl ?_
  refine u_aload_n hC dL_law_315 4 rfl rfl ?_
  refine u_iload hC dL_law_316 0 rfl ?_
  refine u_iconst (v := (1 : Int32)) hC dL_law_318 (by decide) ?_
  refine u_iadd hC dL_law_319 ?_
  refine u_scr hC hSC dL_law_320 hf (fun y320 hf => ?_)
  refine u_aload_n hC dL_law_321 1 rfl rfl ?_
  obtain ⟨q322, hq322, hf⟩ := kc_some hf
  refine u_callW (X := (ρ, Y, cells, slots)) (rest := []) hC hNc (ctL_count (cL C) hC.tr (cG C) ρ Y n S ax y320 ao hTx hTo hq322) (hB.more (by omega) (by omega)) lw_L_count (by decide) (by decide) rfl rfl (Nat.le_of_ble_eq_true rfl) dL_law_322 (fun ρ322 hag => ?_)
  replace hag : AG ρ Y ρ322 q322.2.1 := hag
  show UW C (ρ322, q322.2.1, cells + 8, slots + 48) q322.2.2 _ [(4, .int i), (3, .ref (ρ ao)), (2, .ref (ρ am)), (1, .ref (ρ ax)), (0, .ref b)] [.int q322.1]
  rw [← (hag ax _ hTx).1, ← (hag am _ hTm).1, ← (hag ao _ hTo).1]
  have hTx := (hag _ _ hTx).2
  have hTm := (hag _ _ hTm).2
  have hTo := (hag _ _ hTo).2
  have hAG := AG.trans hAG hag
  refine u_istore (lv' := [(5, .int q322.1), (4, .int i), (3, .ref (ρ322 ao)), (2, .ref (ρ322 am)), (1, .ref (ρ322 ax)), (0, .ref b)]) hC dL_law_325 (by decide) rfl ?_
  refine u_aload_n hC dL_law_327 3 rfl rfl ?_
  refine u_aload_n hC dL_law_328 5 rfl rfl ?_
  refine u_iload hC dL_law_329 1 rfl ?_
  refine u_iconst (v := (1 : Int32)) hC dL_law_331 (by decide) ?_
  refine u_iadd hC dL_law_332 ?_
  refine u_scr hC hSC dL_law_333 hf (fun y333 hf => ?_)
  obtain ⟨q334, hq334, hf⟩ := kc_some hf
  refine u_callV (X := (ρ322, q322.2.1, cells + 8, slots + 48)) (a := am) (rest := []) hC (ctX11_count (cL C) hC.tr (cG C) ρ322 q322.2.1 n q322.2.2 am y333 hTm hq334) lk_L_117 rfl hTm (by decide) rfl (by decide) (by decide) rfl rfl (Nat.le_of_ble_eq_true rfl) dL_law_334 ?_
  refine u_istore (lv' := [(6, .int q334.1), (5, .int q322.1), (4, .int i), (3, .ref (ρ322 ao)), (2, .ref (ρ322 am)), (1, .ref (ρ322 ax)), (0, .ref b)]) hC dL_law_337 (by decide) rfl ?_
  refine u_aload_n hC dL_law_339 4 rfl rfl ?_
  obtain ⟨q340, hq340, hf⟩ := kc_some hf
  refine u_callV (X := (ρ322, q322.2.1, cells + 8, slots + 48)) (a := am) (rest := []) hC (ctX11_thrown (cL C) hC.tr (cG C) ρ322 q322.2.1 n q334.2 am  hTm hq340) lk_L_107 rfl hTm (by decide) rfl (by decide) (by decide) rfl rfl (Nat.le_of_ble_eq_true rfl) dL_law_340 ?_
  refine u_iload hC dL_law_343 1 rfl ?_
  refine u_icmp_eq (tgt := 350) hC dL_law_345 (by decide) hf (fun h345 hf => ?_) (fun h345 hf => nomatch hf)
  refine u_iload hC dL_law_350 1 rfl ?_
  refine u_if_ne (tgt := 367) hC dL_law_352 (by decide) hf (fun h352 hf => ?_) (fun h352 hf => ?_)
  · skip
    refine u_goto (tgt := 2030) hC dL_law_367 (by decide) ?_
    refine u_sub (lv' := [(4, .int i), (3, .ref (ρ322 ao)), (2, .ref (ρ322 am)), (1, .ref (ρ322 ax)), (0, .ref b)]) [2, 3, 4, 5, 6] rfl ?_
    cases hf
    exact hK ρ322 (cells + 8) (slots + 48) hAG (by omega) (by omega)
  · skip
    refine u_aload_n hC dL_law_355 3 rfl rfl ?_
    refine u_iconst (v := (0 : Int32)) hC dL_law_356 (by decide) ?_
    refine u_al (X := (ρ322, q322.2.1, cells + 8, slots + 48)) (a := ao) hC hTo dL_law_357 hf (fun w357 hf => ?_)
    refine u_iload hC dL_law_358 0 rfl ?_
    refine u_i2l hC dL_law_360 ?_
    refine u_lcmp hC dL_law_361 ?_
    refine u_if_eq (tgt := 367) hC dL_law_362 (by decide) hf (fun h362 hf => ?_) (fun h362 hf => nomatch hf)
    refine u_goto (tgt := 2030) hC dL_law_367 (by decide) ?_
    refine u_sub (lv' := [(4, .int i), (3, .ref (ρ322 ao)), (2, .ref (ρ322 am)), (1, .ref (ρ322 ax)), (0, .ref b)]) [2, 3, 4, 5, 6] rfl ?_
    cases hf
    exact hK ρ322 (cells + 8) (slots + 48) hAG (by omega) (by omega)
def g4 (xs : Nat → Int32) (L : Nat) (n : Nat) (ax am ao : Nat) (i : Int32) (Y : XS) (S : PS) : Option (XS × PS) :=
  ksc xs L (i + (1 : Int32)) (fun y376 => ksc xs L (i + (2 : Int32)) (fun y382 => kc (fL_project Y n S ax y376 y382 ao) (fun q384 => ksc xs L (i + (1 : Int32)) (fun y395 => ksc xs L (i + (2 : Int32)) (fun y401 => kc (fX11_project q384.2.1 n q384.2.2 am y395 y401) (fun q402 => kc (fX11_thrown q384.2.1 n q402.2 am ) (fun q408 => (if q408 = q384.1 then (if q384.1 = 0 then kal q384.2.1 q402.2 ao (0 : Int32) (fun w425 => (if (lg_cmp w425 (Int32.toInt64 q402.1)) = 0 then some (q384.2.1, q402.2) else none)) else some (q384.2.1, q402.2)) else none))))))))
theorem wg4 {C : CT} {ρ : Nat → Nat} {Y : XS} {cells slots : Nat} (hC : CK C RL cL_law 7 ret 100) {b L : Nat} {xs : Nat → Int32} (hSC : SC C b L xs) (hNc : va_Nc eI eN C.2.2.2.2.1) (n : Nat) (S : PS) (i : Int32) (ax am ao : Nat) (hTx : Ty Y ax 10) (hTm : Ty Y am 11) (hTo : Ty Y ao 15) {o : XS × PS} (hf : g4 xs L n ax am ao i Y S = some o) (hB : XB C (ρ, Y, cells, slots) 8 508) (hK : ∀ ρ' c' z', AG ρ Y ρ' o.1 → c' ≤ cells + 8 → z' ≤ slots + 508 → UW C (ρ', o.1, c', z') o.2 2030 [(4, .int i), (3, .ref (ρ' ao)), (2, .ref (ρ' am)), (1, .ref (ρ' ax)), (0, .ref b)] []) : UW C (ρ, Y, cells, slots) S 370 [(4, .int i), (3, .ref (ρ ao)), (2, .ref (ρ am)), (1, .ref (ρ ax)), (0, .ref b)] [] := by
  unfold g4 at hf
  have hAG := AG.refl ρ Y
  refine u_aload_n hC dL_law_370 3 rfl rfl ?_
  refine u_aload_n hC dL_law_371 4 rfl rfl ?_
  refine u_iload hC dL_law_372 0 rfl ?_
  refine u_iconst (v := (1 : Int32)) hC dL_law_374 (by decide) ?_
  refine u_iadd hC dL_law_375 ?_
  refine u_scr hC hSC dL_law_376 hf (fun y376 hf => ?_)
  refine u_aload_n hC dL_law_377 4 rfl rfl ?_
  refine u_iload hC dL_law_378 0 rfl ?_
  refine u_iconst (v := (2 : Int32)) hC dL_law_380 (by decide) ?_
  refine u_iadd hC dL_law_381 ?_
  refine u_scr hC hSC dL_law_382 hf (fun y382 hf => ?_)
  refine u_aload_n hC dL_law_383 1 rfl rfl ?_
  obtain ⟨q384, hq384, hf⟩ := kc_some hf
  refine u_callW (X := (ρ, Y, cells, slots)) (rest := []) hC hNc (ctL_project (cL C) hC.tr (cG C) ρ Y n S ax y376 y382 ao hTx hTo hq384) (hB.more (by omega) (by omega)) lw_L_project (by decide) (by decide) rfl rfl (Nat.le_of_ble_eq_true rfl) dL_law_384 (fun ρ384 hag => ?_)
  replace hag : AG ρ Y ρ384 q384.2.1 := hag
  show UW C (ρ384, q384.2.1, cells + 8, slots + 48) q384.2.2 _ [(4, .int i), (3, .ref (ρ ao)), (2, .ref (ρ am)), (1, .ref (ρ ax)), (0, .ref b)] [.int q384.1]
  rw [← (hag ax _ hTx).1, ← (hag am _ hTm).1, ← (hag ao _ hTo).1]
  have hTx := (hag _ _ hTx).2
  have hTm := (hag _ _ hTm).2
  have hTo := (hag _ _ hTo).2
  have hAG := AG.trans hAG hag
  refine u_istore (lv' := [(5, .int q384.1), (4, .int i), (3, .ref (ρ384 ao)), (2, .ref (ρ384 am)), (1, .ref (ρ384 ax)), (0, .ref b)]) hC dL_law_387 (by decide) rfl ?_
  refine u_aload_n hC dL_law_389 3 rfl rfl ?_
  refine u_aload_n hC dL_law_390 5 rfl rfl ?_
  refine u_iload hC dL_law_391 1 rfl ?_
  refine u_iconst (v := (1 : Int32)) hC dL_law_393 (by decide) ?_
  refine u_iadd hC dL_law_394 ?_
  refine u_scr hC hSC dL_law_395 hf (fun y395 hf => ?_)
  refine u_aload_n hC dL_law_396 5 rfl rfl ?_
  refine u_iload hC dL_law_397 1 rfl ?_
  refine u_iconst (v := (2 : Int32)) hC dL_law_399 (by decide) ?_
  refine u_iadd hC dL_law_400 ?_
  refine u_scr hC hSC dL_law_401 hf (fun y401 hf => ?_)
  obtain ⟨q402, hq402, hf⟩ := kc_some hf
  refine u_callV (X := (ρ384, q384.2.1, cells + 8, slots + 48)) (a := am) (rest := []) hC (ctX11_project (cL C) hC.tr (cG C) ρ384 q384.2.1 n q384.2.2 am y395 y401 hTm hq402) lk_L_121 rfl hTm (by decide) rfl (by decide) (by decide) rfl rfl (Nat.le_of_ble_eq_true rfl) dL_law_402 ?_
  refine u_istore (lv' := [(6, .int q402.1), (5, .int q384.1), (4, .int i), (3, .ref (ρ384 ao)), (2, .ref (ρ384 am)), (1, .ref (ρ384 ax)), (0, .ref b)]) hC dL_law_405 (by decide) rfl ?_
  refine u_aload_n hC dL_law_407 4 rfl rfl ?_
  obtain ⟨q408, hq408, hf⟩ := kc_some hf
  refine u_callV (X := (ρ384, q384.2.1, cells + 8, slots + 48)) (a := am) (rest := []) hC (ctX11_thrown (cL C) hC.tr (cG C) ρ384 q384.2.1 n q402.2 am  hTm hq408) lk_L_107 rfl hTm (by decide) rfl (by decide) (by decide) rfl rfl (Nat.le_of_ble_eq_true rfl) dL_law_408 ?_
  refine u_iload hC dL_law_411 1 rfl ?_
  refine u_icmp_eq (tgt := 418) hC dL_law_413 (by decide) hf (fun h413 hf => ?_) (fun h413 hf => nomatch hf)
  refine u_iload hC dL_law_418 1 rfl ?_
  refine u_if_ne (tgt := 435) hC dL_law_420 (by decide) hf (fun h420 hf => ?_) (fun h420 hf => ?_)
  · skip
    refine u_goto (tgt := 2030) hC dL_law_435 (by decide) ?_
    refine u_sub (lv' := [(4, .int i), (3, .ref (ρ384 ao)), (2, .ref (ρ384 am)), (1, .ref (ρ384 ax)), (0, .ref b)]) [2, 3, 4, 5, 6] rfl ?_
    cases hf
    exact hK ρ384 (cells + 8) (slots + 48) hAG (by omega) (by omega)
  · skip
    refine u_aload_n hC dL_law_423 3 rfl rfl ?_
    refine u_iconst (v := (0 : Int32)) hC dL_law_424 (by decide) ?_
    refine u_al (X := (ρ384, q384.2.1, cells + 8, slots + 48)) (a := ao) hC hTo dL_law_425 hf (fun w425 hf => ?_)
    refine u_iload hC dL_law_426 0 rfl ?_
    refine u_i2l hC dL_law_428 ?_
    refine u_lcmp hC dL_law_429 ?_
    refine u_if_eq (tgt := 435) hC dL_law_430 (by decide) hf (fun h430 hf => ?_) (fun h430 hf => nomatch hf)
    refine u_goto (tgt := 2030) hC dL_law_435 (by decide) ?_
    refine u_sub (lv' := [(4, .int i), (3, .ref (ρ384 ao)), (2, .ref (ρ384 am)), (1, .ref (ρ384 ax)), (0, .ref b)]) [2, 3, 4, 5, 6] rfl ?_
    cases hf
    exact hK ρ384 (cells + 8) (slots + 48) hAG (by omega) (by omega)
def g5 (xs : Nat → Int32) (L : Nat) (n : Nat) (ax am ao : Nat) (i : Int32) (Y : XS) (S : PS) : Option (XS × PS) :=
  ksc xs L (i + (1 : Int32)) (fun y444 => ksc xs L (i + (2 : Int32)) (fun y450 => ksc xs L (i + (3 : Int32)) (fun y456 => kc (fL_vote Y n S ax y444 y450 (bz y456) ao) (fun q466 => ksc xs L (i + (1 : Int32)) (fun y477 => ksc xs L (i + (2 : Int32)) (fun y483 => ksc xs L (i + (3 : Int32)) (fun y489 => kc (fX11_vote q466.2.1 n q466.2.2 am y477 y483 (bz y489)) (fun q498 => kc (fX11_thrown q466.2.1 n q498.2 am ) (fun q504 => (if q504 = q466.1 then (if q466.1 = 0 then kal q466.2.1 q498.2 ao (0 : Int32) (fun w521 => (if (lg_cmp w521 (Int32.toInt64 q498.1)) = 0 then some (q466.2.1, q498.2) else none)) else some (q466.2.1, q498.2)) else none))))))))))
theorem wg5 {C : CT} {ρ : Nat → Nat} {Y : XS} {cells slots : Nat} (hC : CK C RL cL_law 7 ret 100) {b L : Nat} {xs : Nat → Int32} (hSC : SC C b L xs) (hNc : va_Nc eI eN C.2.2.2.2.1) (n : Nat) (S : PS) (i : Int32) (ax am ao : Nat) (hTx : Ty Y ax 10) (hTm : Ty Y am 11) (hTo : Ty Y ao 15) {o : XS × PS} (hf : g5 xs L n ax am ao i Y S = some o) (hB : XB C (ρ, Y, cells, slots) 8 508) (hK : ∀ ρ' c' z', AG ρ Y ρ' o.1 → c' ≤ cells + 8 → z' ≤ slots + 508 → UW C (ρ', o.1, c', z') o.2 2030 [(4, .int i), (3, .ref (ρ' ao)), (2, .ref (ρ' am)), (1, .ref (ρ' ax)), (0, .ref b)] []) : UW C (ρ, Y, cells, slots) S 438 [(4, .int i), (3, .ref (ρ ao)), (2, .ref (ρ am)), (1, .ref (ρ ax)), (0, .ref b)] [] := by
  unfold g5 at hf
  have hAG := AG.refl ρ Y
  refine u_aload_n hC dL_law_438 3 rfl rfl ?_
  refine u_aload_n hC dL_law_439 4 rfl rfl ?_
  refine u_iload hC dL_law_440 0 rfl ?_
  refine u_iconst (v := (1 : Int32)) hC dL_law_442 (by decide) ?_
  refine u_iadd hC dL_law_443 ?_
  refine u_scr hC hSC dL_law_444 hf (fun y444 hf => ?_)
  refine u_aload_n hC dL_law_445 4 rfl rfl ?_
  refine u_iload hC dL_law_446 0 rfl ?_
  refine u_iconst (v := (2 : Int32)) hC dL_law_448 (by decide) ?_
  refine u_iadd hC dL_law_449 ?_
  refine u_scr hC hSC dL_law_450 hf (fun y450 hf => ?_)
  refine u_aload_n hC dL_law_451 4 rfl rfl ?_
  refine u_iload hC dL_law_452 0 rfl ?_
  refine u_iconst (v := (3 : Int32)) hC dL_law_454 (by decide) ?_
  refine u_iadd hC dL_law_455 ?_
  refine u_scr hC hSC dL_law_456 hf (fun y456 hf => ?_)
  refine u_bool (t1 := 464) (t2 := 465) hC dL_law_457 (by decide) dL_law_460 dL_law_461 (by decide) dL_law_464 rfl ?_
  refine u_aload_n hC dL_law_465 1 rfl rfl ?_
  obtain ⟨q466, hq466, hf⟩ := kc_some hf
  refine u_callW (X := (ρ, Y, cells, slots)) (rest := []) hC hNc (ctL_vote (cL C) hC.tr (cG C) ρ Y n S ax y444 y450 (bz y456) ao hTx hTo hq466) (hB.more (by omega) (by omega)) lw_L_vote (by decide) (by decide) rfl rfl (Nat.le_of_ble_eq_true rfl) dL_law_466 (fun ρ466 hag => ?_)
  replace hag : AG ρ Y ρ466 q466.2.1 := hag
  show UW C (ρ466, q466.2.1, cells + 8, slots + 48) q466.2.2 _ [(4, .int i), (3, .ref (ρ ao)), (2, .ref (ρ am)), (1, .ref (ρ ax)), (0, .ref b)] [.int q466.1]
  rw [← (hag ax _ hTx).1, ← (hag am _ hTm).1, ← (hag ao _ hTo).1]
  have hTx := (hag _ _ hTx).2
  have hTm := (hag _ _ hTm).2
  have hTo := (hag _ _ hTo).2
  have hAG := AG.trans hAG hag
  refine u_istore (lv' := [(5, .int q466.1), (4, .int i), (3, .ref (ρ466 ao)), (2, .ref (ρ466 am)), (1, .ref (ρ466 ax)), (0, .ref b)]) hC dL_law_469 (by decide) rfl ?_
  refine u_aload_n hC dL_law_471 3 rfl rfl ?_
  refine u_aload_n hC dL_law_472 5 rfl rfl ?_
  refine u_iload hC dL_law_473 1 rfl ?_
  refine u_iconst (v := (1 : Int32)) hC dL_law_475 (by decide) ?_
  refine u_iadd hC dL_law_476 ?_
  refine u_scr hC hSC dL_law_477 hf (fun y477 hf => ?_)
  refine u_aload_n hC dL_law_478 5 rfl rfl ?_
  refine u_iload hC dL_law_479 1 rfl ?_
  refine u_iconst (v := (2 : Int32)) hC dL_law_481 (by decide) ?_
  refine u_iadd hC dL_law_482 ?_
  refine u_scr hC hSC dL_law_483 hf (fun y483 hf => ?_)
  refine u_aload_n hC dL_law_484 5 rfl rfl ?_
  refine u_iload hC dL_law_485 1 rfl ?_
  refine u_iconst (v := (3 : Int32)) hC dL_law_487 (by decide) ?_
  refine u_iadd hC dL_law_488 ?_
  refine u_scr hC hSC dL_law_489 hf (fun y489 hf => ?_)
  refine u_bool (t1 := 497) (t2 := 498) hC dL_law_490 (by decide) dL_law_493 dL_law_494 (by decide) dL_law_497 rfl ?_
  obtain ⟨q498, hq498, hf⟩ := kc_some hf
  refine u_callV (X := (ρ466, q466.2.1, cells + 8, slots + 48)) (a := am) (rest := []) hC (ctX11_vote (cL C) hC.tr (cG C) ρ466 q466.2.1 n q466.2.2 am y477 y483 (bz y489) hTm hq498) lk_L_125 rfl hTm (by decide) rfl (by decide) (by decide) rfl rfl (Nat.le_of_ble_eq_true rfl) dL_law_498 ?_
  refine u_istore (lv' := [(6, .int q498.1), (5, .int q466.1), (4, .int i), (3, .ref (ρ466 ao)), (2, .ref (ρ466 am)), (1, .ref (ρ466 ax)), (0, .ref b)]) hC dL_law_501 (by decide) rfl ?_
  refine u_aload_n hC dL_law_503 4 rfl rfl ?_
  obtain ⟨q504, hq504, hf⟩ := kc_some hf
  refine u_callV (X := (ρ466, q466.2.1, cells + 8, slots + 48)) (a := am) (rest := []) hC (ctX11_thrown (cL C) hC.tr (cG C) ρ466 q466.2.1 n q498.2 am  hTm hq504) lk_L_107 rfl hTm (by decide) rfl (by decide) (by decide) rfl rfl (Nat.le_of_ble_eq_true rfl) dL_law_504 ?_
  refine u_iload hC dL_law_507 1 rfl ?_
  refine u_icmp_eq (tgt := 514) hC dL_law_509 (by decide) hf (fun h509 hf => ?_) (fun h509 hf => nomatch hf)
  refine u_iload hC dL_law_514 1 rfl ?_
  refine u_if_ne (tgt := 531) hC dL_law_516 (by decide) hf (fun h516 hf => ?_) (fun h516 hf => ?_)
  · skip
    refine u_goto (tgt := 2030) hC dL_law_531 (by decide) ?_
    refine u_sub (lv' := [(4, .int i), (3, .ref (ρ466 ao)), (2, .ref (ρ466 am)), (1, .ref (ρ466 ax)), (0, .ref b)]) [2, 3, 4, 5, 6] rfl ?_
    cases hf
    exact hK ρ466 (cells + 8) (slots + 48) hAG (by omega) (by omega)
  · skip
    refine u_aload_n hC dL_law_519 3 rfl rfl ?_
    refine u_iconst (v := (0 : Int32)) hC dL_law_520 (by decide) ?_
    refine u_al (X := (ρ466, q466.2.1, cells + 8, slots + 48)) (a := ao) hC hTo dL_law_521 hf (fun w521 hf => ?_)
    refine u_iload hC dL_law_522 0 rfl ?_
    refine u_i2l hC dL_law_524 ?_
    refine u_lcmp hC dL_law_525 ?_
    refine u_if_eq (tgt := 531) hC dL_law_526 (by decide) hf (fun h526 hf => ?_) (fun h526 hf => nomatch hf)
    refine u_goto (tgt := 2030) hC dL_law_531 (by decide) ?_
    refine u_sub (lv' := [(4, .int i), (3, .ref (ρ466 ao)), (2, .ref (ρ466 am)), (1, .ref (ρ466 ax)), (0, .ref b)]) [2, 3, 4, 5, 6] rfl ?_
    cases hf
    exact hK ρ466 (cells + 8) (slots + 48) hAG (by omega) (by omega)
def g6 (xs : Nat → Int32) (L : Nat) (n : Nat) (ax am ao : Nat) (i : Int32) (Y : XS) (S : PS) : Option (XS × PS) :=
  ksc xs L (i + (1 : Int32)) (fun y540 => ksc xs L (i + (2 : Int32)) (fun y546 => kc (fL_outcome Y n S ax y540 y546 ao) (fun q548 => ksc xs L (i + (1 : Int32)) (fun y559 => ksc xs L (i + (2 : Int32)) (fun y565 => kc (fX11_outcome q548.2.1 n q548.2.2 am y559 y565) (fun q566 => kc (fX11_thrown q548.2.1 n q566.2 am ) (fun q572 => (if q572 = q548.1 then (if q548.1 = 0 then kal q548.2.1 q566.2 ao (0 : Int32) (fun w589 => (if (lg_cmp w589 (Int32.toInt64 q566.1)) = 0 then some (q548.2.1, q566.2) else none)) else some (q548.2.1, q566.2)) else none))))))))
theorem wg6 {C : CT} {ρ : Nat → Nat} {Y : XS} {cells slots : Nat} (hC : CK C RL cL_law 7 ret 100) {b L : Nat} {xs : Nat → Int32} (hSC : SC C b L xs) (hNc : va_Nc eI eN C.2.2.2.2.1) (n : Nat) (S : PS) (i : Int32) (ax am ao : Nat) (hTx : Ty Y ax 10) (hTm : Ty Y am 11) (hTo : Ty Y ao 15) {o : XS × PS} (hf : g6 xs L n ax am ao i Y S = some o) (hB : XB C (ρ, Y, cells, slots) 8 508) (hK : ∀ ρ' c' z', AG ρ Y ρ' o.1 → c' ≤ cells + 8 → z' ≤ slots + 508 → UW C (ρ', o.1, c', z') o.2 2030 [(4, .int i), (3, .ref (ρ' ao)), (2, .ref (ρ' am)), (1, .ref (ρ' ax)), (0, .ref b)] []) : UW C (ρ, Y, cells, slots) S 534 [(4, .int i), (3, .ref (ρ ao)), (2, .ref (ρ am)), (1, .ref (ρ ax)), (0, .ref b)] [] := by
  unfold g6 at hf
  have hAG := AG.refl ρ Y
  refine u_aload_n hC dL_law_534 3 rfl rfl ?_
  refine u_aload_n hC dL_law_535 4 rfl rfl ?_
  refine u_iload hC dL_law_536 0 rfl ?_
  refine u_iconst (v := (1 : Int32)) hC dL_law_538 (by decide) ?_
  refine u_iadd hC dL_law_539 ?_
  refine u_scr hC hSC dL_law_540 hf (fun y540 hf => ?_)
  refine u_aload_n hC dL_law_541 4 rfl rfl ?_
  refine u_iload hC dL_law_542 0 rfl ?_
  refine u_iconst (v := (2 : Int32)) hC dL_law_544 (by decide) ?_
  refine u_iadd hC dL_law_545 ?_
  refine u_scr hC hSC dL_law_546 hf (fun y546 hf => ?_)
  refine u_aload_n hC dL_law_547 1 rfl rfl ?_
  obtain ⟨q548, hq548, hf⟩ := kc_some hf
  refine u_callW (X := (ρ, Y, cells, slots)) (rest := []) hC hNc (ctL_outcome (cL C) hC.tr (cG C) ρ Y n S ax y540 y546 ao hTx hTo hq548) (hB.more (by omega) (by omega)) lw_L_outcome (by decide) (by decide) rfl rfl (Nat.le_of_ble_eq_true rfl) dL_law_548 (fun ρ548 hag => ?_)
  replace hag : AG ρ Y ρ548 q548.2.1 := hag
  show UW C (ρ548, q548.2.1, cells + 8, slots + 48) q548.2.2 _ [(4, .int i), (3, .ref (ρ ao)), (2, .ref (ρ am)), (1, .ref (ρ ax)), (0, .ref b)] [.int q548.1]
  rw [← (hag ax _ hTx).1, ← (hag am _ hTm).1, ← (hag ao _ hTo).1]
  have hTx := (hag _ _ hTx).2
  have hTm := (hag _ _ hTm).2
  have hTo := (hag _ _ hTo).2
  have hAG := AG.trans hAG hag
  refine u_istore (lv' := [(5, .int q548.1), (4, .int i), (3, .ref (ρ548 ao)), (2, .ref (ρ548 am)), (1, .ref (ρ548 ax)), (0, .ref b)]) hC dL_law_551 (by decide) rfl ?_
  refine u_aload_n hC dL_law_553 3 rfl rfl ?_
  refine u_aload_n hC dL_law_554 5 rfl rfl ?_
  refine u_iload hC dL_law_555 1 rfl ?_
  refine u_iconst (v := (1 : Int32)) hC dL_law_557 (by decide) ?_
  refine u_iadd hC dL_law_558 ?_
  refine u_scr hC hSC dL_law_559 hf (fun y559 hf => ?_)
  refine u_aload_n hC dL_law_560 5 rfl rfl ?_
  refine u_iload hC dL_law_561 1 rfl ?_
  refine u_iconst (v := (2 : Int32)) hC dL_law_563 (by decide) ?_
  refine u_iadd hC dL_law_564 ?_
  refine u_scr hC hSC dL_law_565 hf (fun y565 hf => ?_)
  obtain ⟨q566, hq566, hf⟩ := kc_some hf
  refine u_callV (X := (ρ548, q548.2.1, cells + 8, slots + 48)) (a := am) (rest := []) hC (ctX11_outcome (cL C) hC.tr (cG C) ρ548 q548.2.1 n q548.2.2 am y559 y565 hTm hq566) lk_L_128 rfl hTm (by decide) rfl (by decide) (by decide) rfl rfl (Nat.le_of_ble_eq_true rfl) dL_law_566 ?_
  refine u_istore (lv' := [(6, .int q566.1), (5, .int q548.1), (4, .int i), (3, .ref (ρ548 ao)), (2, .ref (ρ548 am)), (1, .ref (ρ548 ax)), (0, .ref b)]) hC dL_law_569 (by decide) rfl ?_
  refine u_aload_n hC dL_law_571 4 rfl rfl ?_
  obtain ⟨q572, hq572, hf⟩ := kc_some hf
  refine u_callV (X := (ρ548, q548.2.1, cells + 8, slots + 48)) (a := am) (rest := []) hC (ctX11_thrown (cL C) hC.tr (cG C) ρ548 q548.2.1 n q566.2 am  hTm hq572) lk_L_107 rfl hTm (by decide) rfl (by decide) (by decide) rfl rfl (Nat.le_of_ble_eq_true rfl) dL_law_572 ?_
  refine u_iload hC dL_law_575 1 rfl ?_
  refine u_icmp_eq (tgt := 582) hC dL_law_577 (by decide) hf (fun h577 hf => ?_) (fun h577 hf => nomatch hf)
  refine u_iload hC dL_law_582 1 rfl ?_
  refine u_if_ne (tgt := 599) hC dL_law_584 (by decide) hf (fun h584 hf => ?_) (fun h584 hf => ?_)
  · skip
    refine u_goto (tgt := 2030) hC dL_law_599 (by decide) ?_
    refine u_sub (lv' := [(4, .int i), (3, .ref (ρ548 ao)), (2, .ref (ρ548 am)), (1, .ref (ρ548 ax)), (0, .ref b)]) [2, 3, 4, 5, 6] rfl ?_
    cases hf
    exact hK ρ548 (cells + 8) (slots + 48) hAG (by omega) (by omega)
  · skip
    refine u_aload_n hC dL_law_587 3 rfl rfl ?_
    refine u_iconst (v := (0 : Int32)) hC dL_law_588 (by decide) ?_
    refine u_al (X := (ρ548, q548.2.1, cells + 8, slots + 48)) (a := ao) hC hTo dL_law_589 hf (fun w589 hf => ?_)
    refine u_iload hC dL_law_590 0 rfl ?_
    refine u_i2l hC dL_law_592 ?_
    refine u_lcmp hC dL_law_593 ?_
    refine u_if_eq (tgt := 599) hC dL_law_594 (by decide) hf (fun h594 hf => ?_) (fun h594 hf => nomatch hf)
    refine u_goto (tgt := 2030) hC dL_law_599 (by decide) ?_
    refine u_sub (lv' := [(4, .int i), (3, .ref (ρ548 ao)), (2, .ref (ρ548 am)), (1, .ref (ρ548 ax)), (0, .ref b)]) [2, 3, 4, 5, 6] rfl ?_
    cases hf
    exact hK ρ548 (cells + 8) (slots + 48) hAG (by omega) (by omega)
def g7 (xs : Nat → Int32) (L : Nat) (n : Nat) (ax am ao : Nat) (i : Int32) (Y : XS) (S : PS) : Option (XS × PS) :=
  ksc xs L (i + (1 : Int32)) (fun y608 => ksc xs L (i + (2 : Int32)) (fun y614 => kc (fL_chosen Y n S ax y608 y614 ao) (fun q616 => ksc xs L (i + (1 : Int32)) (fun y627 => ksc xs L (i + (2 : Int32)) (fun y633 => kc (fX11_chosen q616.2.1 n q616.2.2 am y627 y633) (fun q634 => kc (fX11_thrown q616.2.1 n q634.2 am ) (fun q640 => (if q640 = q616.1 then (if q616.1 = 0 then kal q616.2.1 q634.2 ao (0 : Int32) (fun w657 => (if (lg_cmp w657 (Int32.toInt64 q634.1)) = 0 then some (q616.2.1, q634.2) else none)) else some (q616.2.1, q634.2)) else none))))))))
theorem wg7 {C : CT} {ρ : Nat → Nat} {Y : XS} {cells slots : Nat} (hC : CK C RL cL_law 7 ret 100) {b L : Nat} {xs : Nat → Int32} (hSC : SC C b L xs) (hNc : va_Nc eI eN C.2.2.2.2.1) (n : Nat) (S : PS) (i : Int32) (ax am ao : Nat) (hTx : Ty Y ax 10) (hTm : Ty Y am 11) (hTo : Ty Y ao 15) {o : XS × PS} (hf : g7 xs L n ax am ao i Y S = some o) (hB : XB C (ρ, Y, cells, slots) 8 508) (hK : ∀ ρ' c' z', AG ρ Y ρ' o.1 → c' ≤ cells + 8 → z' ≤ slots + 508 → UW C (ρ', o.1, c', z') o.2 2030 [(4, .int i), (3, .ref (ρ' ao)), (2, .ref (ρ' am)), (1, .ref (ρ' ax)), (0, .ref b)] []) : UW C (ρ, Y, cells, slots) S 602 [(4, .int i), (3, .ref (ρ ao)), (2, .ref (ρ am)), (1, .ref (ρ ax)), (0, .ref b)] [] := by
  unfold g7 at hf
  have hAG := AG.refl ρ Y
  refine u_aload_n hC dL_law_602 3 rfl rfl ?_
  refine u_aload_n hC dL_law_603 4 rfl rfl ?_
  refine u_iload hC dL_law_604 0 rfl ?_
  refine u_iconst (v := (1 : Int32)) hC dL_law_606 (by decide) ?_
  refine u_iadd hC dL_law_607 ?_
  refine u_scr hC hSC dL_law_608 hf (fun y608 hf => ?_)
  refine u_aload_n hC dL_law_609 4 rfl rfl ?_
  refine u_iload hC dL_law_610 0 rfl ?_
  refine u_iconst (v := (2 : Int32)) hC dL_law_612 (by decide) ?_
  refine u_iadd hC dL_law_613 ?_
  refine u_scr hC hSC dL_law_614 hf (fun y614 hf => ?_)
  refine u_aload_n hC dL_law_615 1 rfl rfl ?_
  obtain ⟨q616, hq616, hf⟩ := kc_some hf
  refine u_callW (X := (ρ, Y, cells, slots)) (rest := []) hC hNc (ctL_chosen (cL C) hC.tr (cG C) ρ Y n S ax y608 y614 ao hTx hTo hq616) (hB.more (by omega) (by omega)) lw_L_chosen (by decide) (by decide) rfl rfl (Nat.le_of_ble_eq_true rfl) dL_law_616 (fun ρ616 hag => ?_)
  replace hag : AG ρ Y ρ616 q616.2.1 := hag
  show UW C (ρ616, q616.2.1, cells + 8, slots + 48) q616.2.2 _ [(4, .int i), (3, .ref (ρ ao)), (2, .ref (ρ am)), (1, .ref (ρ ax)), (0, .ref b)] [.int q616.1]
  rw [← (hag ax _ hTx).1, ← (hag am _ hTm).1, ← (hag ao _ hTo).1]
  have hTx := (hag _ _ hTx).2
  have hTm := (hag _ _ hTm).2
  have hTo := (hag _ _ hTo).2
  have hAG := AG.trans hAG hag
  refine u_istore (lv' := [(5, .int q616.1), (4, .int i), (3, .ref (ρ616 ao)), (2, .ref (ρ616 am)), (1, .ref (ρ616 ax)), (0, .ref b)]) hC dL_law_619 (by decide) rfl ?_
  refine u_aload_n hC dL_law_621 3 rfl rfl ?_
  refine u_aload_n hC dL_law_622 5 rfl rfl ?_
  refine u_iload hC dL_law_623 1 rfl ?_
  refine u_iconst (v := (1 : Int32)) hC dL_law_625 (by decide) ?_
  refine u_iadd hC dL_law_626 ?_
  refine u_scr hC hSC dL_law_627 hf (fun y627 hf => ?_)
  refine u_aload_n hC dL_law_628 5 rfl rfl ?_
  refine u_iload hC dL_law_629 1 rfl ?_
  refine u_iconst (v := (2 : Int32)) hC dL_law_631 (by decide) ?_
  refine u_iadd hC dL_law_632 ?_
  refine u_scr hC hSC dL_law_633 hf (fun y633 hf => ?_)
  obtain ⟨q634, hq634, hf⟩ := kc_some hf
  refine u_callV (X := (ρ616, q616.2.1, cells + 8, slots + 48)) (a := am) (rest := []) hC (ctX11_chosen (cL C) hC.tr (cG C) ρ616 q616.2.1 n q616.2.2 am y627 y633 hTm hq634) lk_L_131 rfl hTm (by decide) rfl (by decide) (by decide) rfl rfl (Nat.le_of_ble_eq_true rfl) dL_law_634 ?_
  refine u_istore (lv' := [(6, .int q634.1), (5, .int q616.1), (4, .int i), (3, .ref (ρ616 ao)), (2, .ref (ρ616 am)), (1, .ref (ρ616 ax)), (0, .ref b)]) hC dL_law_637 (by decide) rfl ?_
  refine u_aload_n hC dL_law_639 4 rfl rfl ?_
  obtain ⟨q640, hq640, hf⟩ := kc_some hf
  refine u_callV (X := (ρ616, q616.2.1, cells + 8, slots + 48)) (a := am) (rest := []) hC (ctX11_thrown (cL C) hC.tr (cG C) ρ616 q616.2.1 n q634.2 am  hTm hq640) lk_L_107 rfl hTm (by decide) rfl (by decide) (by decide) rfl rfl (Nat.le_of_ble_eq_true rfl) dL_law_640 ?_
  refine u_iload hC dL_law_643 1 rfl ?_
  refine u_icmp_eq (tgt := 650) hC dL_law_645 (by decide) hf (fun h645 hf => ?_) (fun h645 hf => nomatch hf)
  refine u_iload hC dL_law_650 1 rfl ?_
  refine u_if_ne (tgt := 667) hC dL_law_652 (by decide) hf (fun h652 hf => ?_) (fun h652 hf => ?_)
  · skip
    refine u_goto (tgt := 2030) hC dL_law_667 (by decide) ?_
    refine u_sub (lv' := [(4, .int i), (3, .ref (ρ616 ao)), (2, .ref (ρ616 am)), (1, .ref (ρ616 ax)), (0, .ref b)]) [2, 3, 4, 5, 6] rfl ?_
    cases hf
    exact hK ρ616 (cells + 8) (slots + 48) hAG (by omega) (by omega)
  · skip
    refine u_aload_n hC dL_law_655 3 rfl rfl ?_
    refine u_iconst (v := (0 : Int32)) hC dL_law_656 (by decide) ?_
    refine u_al (X := (ρ616, q616.2.1, cells + 8, slots + 48)) (a := ao) hC hTo dL_law_657 hf (fun w657 hf => ?_)
    refine u_iload hC dL_law_658 0 rfl ?_
    refine u_i2l hC dL_law_660 ?_
    refine u_lcmp hC dL_law_661 ?_
    refine u_if_eq (tgt := 667) hC dL_law_662 (by decide) hf (fun h662 hf => ?_) (fun h662 hf => nomatch hf)
    refine u_goto (tgt := 2030) hC dL_law_667 (by decide) ?_
    refine u_sub (lv' := [(4, .int i), (3, .ref (ρ616 ao)), (2, .ref (ρ616 am)), (1, .ref (ρ616 ax)), (0, .ref b)]) [2, 3, 4, 5, 6] rfl ?_
    cases hf
    exact hK ρ616 (cells + 8) (slots + 48) hAG (by omega) (by omega)
def g8 (xs : Nat → Int32) (L : Nat) (n : Nat) (ax am ao : Nat) (i : Int32) (Y : XS) (S : PS) : Option (XS × PS) :=
  ksc xs L (i + (1 : Int32)) (fun y676 => ksc xs L (i + (2 : Int32)) (fun y682 => kc (fL_served Y n S ax y676 y682 ao) (fun q684 => ksc xs L (i + (1 : Int32)) (fun y695 => ksc xs L (i + (2 : Int32)) (fun y701 => kc (fX11_served q684.2.1 n q684.2.2 am y695 y701) (fun q702 => kc (fX11_thrown q684.2.1 n q702.2 am ) (fun q708 => (if q708 = q684.1 then (if q684.1 = 0 then kal q684.2.1 q702.2 ao (0 : Int32) (fun w725 => (if (lg_cmp w725 (Int32.toInt64 q702.1)) = 0 then some (q684.2.1, q702.2) else none)) else some (q684.2.1, q702.2)) else none))))))))
theorem wg8 {C : CT} {ρ : Nat → Nat} {Y : XS} {cells slots : Nat} (hC : CK C RL cL_law 7 ret 100) {b L : Nat} {xs : Nat → Int32} (hSC : SC C b L xs) (hNc : va_Nc eI eN C.2.2.2.2.1) (n : Nat) (S : PS) (i : Int32) (ax am ao : Nat) (hTx : Ty Y ax 10) (hTm : Ty Y am 11) (hTo : Ty Y ao 15) {o : XS × PS} (hf : g8 xs L n ax am ao i Y S = some o) (hB : XB C (ρ, Y, cells, slots) 8 508) (hK : ∀ ρ' c' z', AG ρ Y ρ' o.1 → c' ≤ cells + 8 → z' ≤ slots + 508 → UW C (ρ', o.1, c', z') o.2 2030 [(4, .int i), (3, .ref (ρ' ao)), (2, .ref (ρ' am)), (1, .ref (ρ' ax)), (0, .ref b)] []) : UW C (ρ, Y, cells, slots) S 670 [(4, .int i), (3, .ref (ρ ao)), (2, .ref (ρ am)), (1, .ref (ρ ax)), (0, .ref b)] [] := by
  unfold g8 at hf
  have hAG := AG.refl ρ Y
  refine u_aload_n hC dL_law_670 3 rfl rfl ?_
  refine u_aload_n hC dL_law_671 4 rfl rfl ?_
  refine u_iload hC dL_law_672 0 rfl ?_
  refine u_iconst (v := (1 : Int32)) hC dL_law_674 (by decide) ?_
  refine u_iadd hC dL_law_675 ?_
  refine u_scr hC hSC dL_law_676 hf (fun y676 hf => ?_)
  refine u_aload_n hC dL_law_677 4 rfl rfl ?_
  refine u_iload hC dL_law_678 0 rfl ?_
  refine u_iconst (v := (2 : Int32)) hC dL_law_680 (by decide) ?_
  refine u_iadd hC dL_law_681 ?_
  refine u_scr hC hSC dL_law_682 hf (fun y682 hf => ?_)
  refine u_aload_n hC dL_law_683 1 rfl rfl ?_
  obtain ⟨q684, hq684, hf⟩ := kc_some hf
  refine u_callW (X := (ρ, Y, cells, slots)) (rest := []) hC hNc (ctL_served (cL C) hC.tr (cG C) ρ Y n S ax y676 y682 ao hTx hTo hq684) (hB.more (by omega) (by omega)) lw_L_served (by decide) (by decide) rfl rfl (Nat.le_of_ble_eq_true rfl) dL_law_684 (fun ρ684 hag => ?_)
  replace hag : AG ρ Y ρ684 q684.2.1 := hag
  show UW C (ρ684, q684.2.1, cells + 8, slots + 48) q684.2.2 _ [(4, .int i), (3, .ref (ρ ao)), (2, .ref (ρ am)), (1, .ref (ρ ax)), (0, .ref b)] [.int q684.1]
  rw [← (hag ax _ hTx).1, ← (hag am _ hTm).1, ← (hag ao _ hTo).1]
  have hTx := (hag _ _ hTx).2
  have hTm := (hag _ _ hTm).2
  have hTo := (hag _ _ hTo).2
  have hAG := AG.trans hAG hag
  refine u_istore (lv' := [(5, .int q684.1), (4, .int i), (3, .ref (ρ684 ao)), (2, .ref (ρ684 am)), (1, .ref (ρ684 ax)), (0, .ref b)]) hC dL_law_687 (by decide) rfl ?_
  refine u_aload_n hC dL_law_689 3 rfl rfl ?_
  refine u_aload_n hC dL_law_690 5 rfl rfl ?_
  refine u_iload hC dL_law_691 1 rfl ?_
  refine u_iconst (v := (1 : Int32)) hC dL_law_693 (by decide) ?_
  refine u_iadd hC dL_law_694 ?_
  refine u_scr hC hSC dL_law_695 hf (fun y695 hf => ?_)
  refine u_aload_n hC dL_law_696 5 rfl rfl ?_
  refine u_iload hC dL_law_697 1 rfl ?_
  refine u_iconst (v := (2 : Int32)) hC dL_law_699 (by decide) ?_
  refine u_iadd hC dL_law_700 ?_
  refine u_scr hC hSC dL_law_701 hf (fun y701 hf => ?_)
  obtain ⟨q702, hq702, hf⟩ := kc_some hf
  refine u_callV (X := (ρ684, q684.2.1, cells + 8, slots + 48)) (a := am) (rest := []) hC (ctX11_served (cL C) hC.tr (cG C) ρ684 q684.2.1 n q684.2.2 am y695 y701 hTm hq702) lk_L_134 rfl hTm (by decide) rfl (by decide) (by decide) rfl rfl (Nat.le_of_ble_eq_true rfl) dL_law_702 ?_
  refine u_istore (lv' := [(6, .int q702.1), (5, .int q684.1), (4, .int i), (3, .ref (ρ684 ao)), (2, .ref (ρ684 am)), (1, .ref (ρ684 ax)), (0, .ref b)]) hC dL_law_705 (by decide) rfl ?_
  refine u_aload_n hC dL_law_707 4 rfl rfl ?_
  obtain ⟨q708, hq708, hf⟩ := kc_some hf
  refine u_callV (X := (ρ684, q684.2.1, cells + 8, slots + 48)) (a := am) (rest := []) hC (ctX11_thrown (cL C) hC.tr (cG C) ρ684 q684.2.1 n q702.2 am  hTm hq708) lk_L_107 rfl hTm (by decide) rfl (by decide) (by decide) rfl rfl (Nat.le_of_ble_eq_true rfl) dL_law_708 ?_
  refine u_iload hC dL_law_711 1 rfl ?_
  refine u_icmp_eq (tgt := 718) hC dL_law_713 (by decide) hf (fun h713 hf => ?_) (fun h713 hf => nomatch hf)
  refine u_iload hC dL_law_718 1 rfl ?_
  refine u_if_ne (tgt := 735) hC dL_law_720 (by decide) hf (fun h720 hf => ?_) (fun h720 hf => ?_)
  · skip
    refine u_goto (tgt := 2030) hC dL_law_735 (by decide) ?_
    refine u_sub (lv' := [(4, .int i), (3, .ref (ρ684 ao)), (2, .ref (ρ684 am)), (1, .ref (ρ684 ax)), (0, .ref b)]) [2, 3, 4, 5, 6] rfl ?_
    cases hf
    exact hK ρ684 (cells + 8) (slots + 48) hAG (by omega) (by omega)
  · skip
    refine u_aload_n hC dL_law_723 3 rfl rfl ?_
    refine u_iconst (v := (0 : Int32)) hC dL_law_724 (by decide) ?_
    refine u_al (X := (ρ684, q684.2.1, cells + 8, slots + 48)) (a := ao) hC hTo dL_law_725 hf (fun w725 hf => ?_)
    refine u_iload hC dL_law_726 0 rfl ?_
    refine u_i2l hC dL_law_728 ?_
    refine u_lcmp hC dL_law_729 ?_
    refine u_if_eq (tgt := 735) hC dL_law_730 (by decide) hf (fun h730 hf => ?_) (fun h730 hf => nomatch hf)
    refine u_goto (tgt := 2030) hC dL_law_735 (by decide) ?_
    refine u_sub (lv' := [(4, .int i), (3, .ref (ρ684 ao)), (2, .ref (ρ684 am)), (1, .ref (ρ684 ax)), (0, .ref b)]) [2, 3, 4, 5, 6] rfl ?_
    cases hf
    exact hK ρ684 (cells + 8) (slots + 48) hAG (by omega) (by omega)
def g9 (xs : Nat → Int32) (L : Nat) (n : Nat) (ax am ao : Nat) (i : Int32) (Y : XS) (S : PS) : Option (XS × PS) :=
  ksc xs L (i + (1 : Int32)) (fun y744 => ksc xs L (i + (2 : Int32)) (fun y750 => ksc xs L (i + (3 : Int32)) (fun y756 => kc (fL_paid Y n S ax y744 y750 y756 ao) (fun q758 => ksc xs L (i + (1 : Int32)) (fun y769 => ksc xs L (i + (2 : Int32)) (fun y775 => ksc xs L (i + (3 : Int32)) (fun y781 => kc (fX11_paid q758.2.1 n q758.2.2 am y769 y775 y781) (fun q782 => kc (fX11_thrown q758.2.1 n q782.2 am ) (fun q788 => (if q788 = q758.1 then (if q758.1 = 0 then kal q758.2.1 q782.2 ao (0 : Int32) (fun w805 => (if (lg_cmp w805 (Int32.toInt64 q782.1)) = 0 then some (q758.2.1, q782.2) else none)) else some (q758.2.1, q782.2)) else none))))))))))
theorem wg9 {C : CT} {ρ : Nat → Nat} {Y : XS} {cells slots : Nat} (hC : CK C RL cL_law 7 ret 100) {b L : Nat} {xs : Nat → Int32} (hSC : SC C b L xs) (hNc : va_Nc eI eN C.2.2.2.2.1) (n : Nat) (S : PS) (i : Int32) (ax am ao : Nat) (hTx : Ty Y ax 10) (hTm : Ty Y am 11) (hTo : Ty Y ao 15) {o : XS × PS} (hf : g9 xs L n ax am ao i Y S = some o) (hB : XB C (ρ, Y, cells, slots) 8 508) (hK : ∀ ρ' c' z', AG ρ Y ρ' o.1 → c' ≤ cells + 8 → z' ≤ slots + 508 → UW C (ρ', o.1, c', z') o.2 2030 [(4, .int i), (3, .ref (ρ' ao)), (2, .ref (ρ' am)), (1, .ref (ρ' ax)), (0, .ref b)] []) : UW C (ρ, Y, cells, slots) S 738 [(4, .int i), (3, .ref (ρ ao)), (2, .ref (ρ am)), (1, .ref (ρ ax)), (0, .ref b)] [] := by
  unfold g9 at hf
  have hAG := AG.refl ρ Y
  refine u_aload_n hC dL_law_738 3 rfl rfl ?_
  refine u_aload_n hC dL_law_739 4 rfl rfl ?_
  refine u_iload hC dL_law_740 0 rfl ?_
  refine u_iconst (v := (1 : Int32)) hC dL_law_742 (by decide) ?_
  refine u_iadd hC dL_law_743 ?_
  refine u_scr hC hSC dL_law_744 hf (fun y744 hf => ?_)
  refine u_aload_n hC dL_law_745 4 rfl rfl ?_
  refine u_iload hC dL_law_746 0 rfl ?_
  refine u_iconst (v := (2 : Int32)) hC dL_law_748 (by decide) ?_
  refine u_iadd hC dL_law_749 ?_
  refine u_scr hC hSC dL_law_750 hf (fun y750 hf => ?_)
  refine u_aload_n hC dL_law_751 4 rfl rfl ?_
  refine u_iload hC dL_law_752 0 rfl ?_
  refine u_iconst (v := (3 : Int32)) hC dL_law_754 (by decide) ?_
  refine u_iadd hC dL_law_755 ?_
  refine u_scr hC hSC dL_law_756 hf (fun y756 hf => ?_)
  refine u_aload_n hC dL_law_757 1 rfl rfl ?_
  obtain ⟨q758, hq758, hf⟩ := kc_some hf
  refine u_callW (X := (ρ, Y, cells, slots)) (rest := []) hC hNc (ctL_paid (cL C) hC.tr (cG C) ρ Y n S ax y744 y750 y756 ao hTx hTo hq758) (hB.more (by omega) (by omega)) lw_L_paid (by decide) (by decide) rfl rfl (Nat.le_of_ble_eq_true rfl) dL_law_758 (fun ρ758 hag => ?_)
  replace hag : AG ρ Y ρ758 q758.2.1 := hag
  show UW C (ρ758, q758.2.1, cells + 8, slots + 48) q758.2.2 _ [(4, .int i), (3, .ref (ρ ao)), (2, .ref (ρ am)), (1, .ref (ρ ax)), (0, .ref b)] [.int q758.1]
  rw [← (hag ax _ hTx).1, ← (hag am _ hTm).1, ← (hag ao _ hTo).1]
  have hTx := (hag _ _ hTx).2
  have hTm := (hag _ _ hTm).2
  have hTo := (hag _ _ hTo).2
  have hAG := AG.trans hAG hag
  refine u_istore (lv' := [(5, .int q758.1), (4, .int i), (3, .ref (ρ758 ao)), (2, .ref (ρ758 am)), (1, .ref (ρ758 ax)), (0, .ref b)]) hC dL_law_761 (by decide) rfl ?_
  refine u_aload_n hC dL_law_763 3 rfl rfl ?_
  refine u_aload_n hC dL_law_764 5 rfl rfl ?_
  refine u_iload hC dL_law_765 1 rfl ?_
  refine u_iconst (v := (1 : Int32)) hC dL_law_767 (by decide) ?_
  refine u_iadd hC dL_law_768 ?_
  refine u_scr hC hSC dL_law_769 hf (fun y769 hf => ?_)
  refine u_aload_n hC dL_law_770 5 rfl rfl ?_
  refine u_iload hC dL_law_771 1 rfl ?_
  refine u_iconst (v := (2 : Int32)) hC dL_law_773 (by decide) ?_
  refine u_iadd hC dL_law_774 ?_
  refine u_scr hC hSC dL_law_775 hf (fun y775 hf => ?_)
  refine u_aload_n hC dL_law_776 5 rfl rfl ?_
  refine u_iload hC dL_law_777 1 rfl ?_
  refine u_iconst (v := (3 : Int32)) hC dL_law_779 (by decide) ?_
  refine u_iadd hC dL_law_780 ?_
  refine u_scr hC hSC dL_law_781 hf (fun y781 hf => ?_)
  obtain ⟨q782, hq782, hf⟩ := kc_some hf
  refine u_callV (X := (ρ758, q758.2.1, cells + 8, slots + 48)) (a := am) (rest := []) hC (ctX11_paid (cL C) hC.tr (cG C) ρ758 q758.2.1 n q758.2.2 am y769 y775 y781 hTm hq782) lk_L_138 rfl hTm (by decide) rfl (by decide) (by decide) rfl rfl (Nat.le_of_ble_eq_true rfl) dL_law_782 ?_
  refine u_istore (lv' := [(6, .int q782.1), (5, .int q758.1), (4, .int i), (3, .ref (ρ758 ao)), (2, .ref (ρ758 am)), (1, .ref (ρ758 ax)), (0, .ref b)]) hC dL_law_785 (by decide) rfl ?_
  refine u_aload_n hC dL_law_787 4 rfl rfl ?_
  obtain ⟨q788, hq788, hf⟩ := kc_some hf
  refine u_callV (X := (ρ758, q758.2.1, cells + 8, slots + 48)) (a := am) (rest := []) hC (ctX11_thrown (cL C) hC.tr (cG C) ρ758 q758.2.1 n q782.2 am  hTm hq788) lk_L_107 rfl hTm (by decide) rfl (by decide) (by decide) rfl rfl (Nat.le_of_ble_eq_true rfl) dL_law_788 ?_
  refine u_iload hC dL_law_791 1 rfl ?_
  refine u_icmp_eq (tgt := 798) hC dL_law_793 (by decide) hf (fun h793 hf => ?_) (fun h793 hf => nomatch hf)
  refine u_iload hC dL_law_798 1 rfl ?_
  refine u_if_ne (tgt := 815) hC dL_law_800 (by decide) hf (fun h800 hf => ?_) (fun h800 hf => ?_)
  · skip
    refine u_goto (tgt := 2030) hC dL_law_815 (by decide) ?_
    refine u_sub (lv' := [(4, .int i), (3, .ref (ρ758 ao)), (2, .ref (ρ758 am)), (1, .ref (ρ758 ax)), (0, .ref b)]) [2, 3, 4, 5, 6] rfl ?_
    cases hf
    exact hK ρ758 (cells + 8) (slots + 48) hAG (by omega) (by omega)
  · skip
    refine u_aload_n hC dL_law_803 3 rfl rfl ?_
    refine u_iconst (v := (0 : Int32)) hC dL_law_804 (by decide) ?_
    refine u_al (X := (ρ758, q758.2.1, cells + 8, slots + 48)) (a := ao) hC hTo dL_law_805 hf (fun w805 hf => ?_)
    refine u_iload hC dL_law_806 0 rfl ?_
    refine u_i2l hC dL_law_808 ?_
    refine u_lcmp hC dL_law_809 ?_
    refine u_if_eq (tgt := 815) hC dL_law_810 (by decide) hf (fun h810 hf => ?_) (fun h810 hf => nomatch hf)
    refine u_goto (tgt := 2030) hC dL_law_815 (by decide) ?_
    refine u_sub (lv' := [(4, .int i), (3, .ref (ρ758 ao)), (2, .ref (ρ758 am)), (1, .ref (ρ758 ax)), (0, .ref b)]) [2, 3, 4, 5, 6] rfl ?_
    cases hf
    exact hK ρ758 (cells + 8) (slots + 48) hAG (by omega) (by omega)
def g10 (xs : Nat → Int32) (L : Nat) (n : Nat) (ax am ao : Nat) (i : Int32) (Y : XS) (S : PS) : Option (XS × PS) :=
  ksc xs L (i + (1 : Int32)) (fun y824 => ksc xs L (i + (2 : Int32)) (fun y830 => kc (fL_left Y n S ax y824 y830 ao) (fun q832 => ksc xs L (i + (1 : Int32)) (fun y843 => ksc xs L (i + (2 : Int32)) (fun y849 => kc (fX11_left q832.2.1 n q832.2.2 am y843 y849) (fun q850 => kc (fX11_thrown q832.2.1 n q850.2 am ) (fun q856 => (if q856 = q832.1 then (if q832.1 = 0 then kal q832.2.1 q850.2 ao (0 : Int32) (fun w873 => (if (lg_cmp w873 (Int32.toInt64 q850.1)) = 0 then some (q832.2.1, q850.2) else none)) else some (q832.2.1, q850.2)) else none))))))))
theorem wg10 {C : CT} {ρ : Nat → Nat} {Y : XS} {cells slots : Nat} (hC : CK C RL cL_law 7 ret 100) {b L : Nat} {xs : Nat → Int32} (hSC : SC C b L xs) (hNc : va_Nc eI eN C.2.2.2.2.1) (n : Nat) (S : PS) (i : Int32) (ax am ao : Nat) (hTx : Ty Y ax 10) (hTm : Ty Y am 11) (hTo : Ty Y ao 15) {o : XS × PS} (hf : g10 xs L n ax am ao i Y S = some o) (hB : XB C (ρ, Y, cells, slots) 8 508) (hK : ∀ ρ' c' z', AG ρ Y ρ' o.1 → c' ≤ cells + 8 → z' ≤ slots + 508 → UW C (ρ', o.1, c', z') o.2 2030 [(4, .int i), (3, .ref (ρ' ao)), (2, .ref (ρ' am)), (1, .ref (ρ' ax)), (0, .ref b)] []) : UW C (ρ, Y, cells, slots) S 818 [(4, .int i), (3, .ref (ρ ao)), (2, .ref (ρ am)), (1, .ref (ρ ax)), (0, .ref b)] [] := by
  unfold g10 at hf
  have hAG := AG.refl ρ Y
  refine u_aload_n hC dL_law_818 3 rfl rfl ?_
  refine u_aload_n hC dL_law_819 4 rfl rfl ?_
  refine u_iload hC dL_law_820 0 rfl ?_
  refine u_iconst (v := (1 : Int32)) hC dL_law_822 (by decide) ?_
  refine u_iadd hC dL_law_823 ?_
  refine u_scr hC hSC dL_law_824 hf (fun y824 hf => ?_)
  refine u_aload_n hC dL_law_825 4 rfl rfl ?_
  refine u_iload hC dL_law_826 0 rfl ?_
  refine u_iconst (v := (2 : Int32)) hC dL_law_828 (by decide) ?_
  refine u_iadd hC dL_law_829 ?_
  refine u_scr hC hSC dL_law_830 hf (fun y830 hf => ?_)
  refine u_aload_n hC dL_law_831 1 rfl rfl ?_
  obtain ⟨q832, hq832, hf⟩ := kc_some hf
  refine u_callW (X := (ρ, Y, cells, slots)) (rest := []) hC hNc (ctL_left (cL C) hC.tr (cG C) ρ Y n S ax y824 y830 ao hTx hTo hq832) (hB.more (by omega) (by omega)) lw_L_left (by decide) (by decide) rfl rfl (Nat.le_of_ble_eq_true rfl) dL_law_832 (fun ρ832 hag => ?_)
  replace hag : AG ρ Y ρ832 q832.2.1 := hag
  show UW C (ρ832, q832.2.1, cells + 8, slots + 48) q832.2.2 _ [(4, .int i), (3, .ref (ρ ao)), (2, .ref (ρ am)), (1, .ref (ρ ax)), (0, .ref b)] [.int q832.1]
  rw [← (hag ax _ hTx).1, ← (hag am _ hTm).1, ← (hag ao _ hTo).1]
  have hTx := (hag _ _ hTx).2
  have hTm := (hag _ _ hTm).2
  have hTo := (hag _ _ hTo).2
  have hAG := AG.trans hAG hag
  refine u_istore (lv' := [(5, .int q832.1), (4, .int i), (3, .ref (ρ832 ao)), (2, .ref (ρ832 am)), (1, .ref (ρ832 ax)), (0, .ref b)]) hC dL_law_835 (by decide) rfl ?_
  refine u_aload_n hC dL_law_837 3 rfl rfl ?_
  refine u_aload_n hC dL_law_838 5 rfl rfl ?_
  refine u_iload hC dL_law_839 1 rfl ?_
  refine u_iconst (v := (1 : Int32)) hC dL_law_841 (by decide) ?_
  refine u_iadd hC dL_law_842 ?_
  refine u_scr hC hSC dL_law_843 hf (fun y843 hf => ?_)
  refine u_aload_n hC dL_law_844 5 rfl rfl ?_
  refine u_iload hC dL_law_845 1 rfl ?_
  refine u_iconst (v := (2 : Int32)) hC dL_law_847 (by decide) ?_
  refine u_iadd hC dL_law_848 ?_
  refine u_scr hC hSC dL_law_849 hf (fun y849 hf => ?_)
  obtain ⟨q850, hq850, hf⟩ := kc_some hf
  refine u_callV (X := (ρ832, q832.2.1, cells + 8, slots + 48)) (a := am) (rest := []) hC (ctX11_left (cL C) hC.tr (cG C) ρ832 q832.2.1 n q832.2.2 am y843 y849 hTm hq850) lk_L_141 rfl hTm (by decide) rfl (by decide) (by decide) rfl rfl (Nat.le_of_ble_eq_true rfl) dL_law_850 ?_
  refine u_istore (lv' := [(6, .int q850.1), (5, .int q832.1), (4, .int i), (3, .ref (ρ832 ao)), (2, .ref (ρ832 am)), (1, .ref (ρ832 ax)), (0, .ref b)]) hC dL_law_853 (by decide) rfl ?_
  refine u_aload_n hC dL_law_855 4 rfl rfl ?_
  obtain ⟨q856, hq856, hf⟩ := kc_some hf
  refine u_callV (X := (ρ832, q832.2.1, cells + 8, slots + 48)) (a := am) (rest := []) hC (ctX11_thrown (cL C) hC.tr (cG C) ρ832 q832.2.1 n q850.2 am  hTm hq856) lk_L_107 rfl hTm (by decide) rfl (by decide) (by decide) rfl rfl (Nat.le_of_ble_eq_true rfl) dL_law_856 ?_
  refine u_iload hC dL_law_859 1 rfl ?_
  refine u_icmp_eq (tgt := 866) hC dL_law_861 (by decide) hf (fun h861 hf => ?_) (fun h861 hf => nomatch hf)
  refine u_iload hC dL_law_866 1 rfl ?_
  refine u_if_ne (tgt := 883) hC dL_law_868 (by decide) hf (fun h868 hf => ?_) (fun h868 hf => ?_)
  · skip
    refine u_goto (tgt := 2030) hC dL_law_883 (by decide) ?_
    refine u_sub (lv' := [(4, .int i), (3, .ref (ρ832 ao)), (2, .ref (ρ832 am)), (1, .ref (ρ832 ax)), (0, .ref b)]) [2, 3, 4, 5, 6] rfl ?_
    cases hf
    exact hK ρ832 (cells + 8) (slots + 48) hAG (by omega) (by omega)
  · skip
    refine u_aload_n hC dL_law_871 3 rfl rfl ?_
    refine u_iconst (v := (0 : Int32)) hC dL_law_872 (by decide) ?_
    refine u_al (X := (ρ832, q832.2.1, cells + 8, slots + 48)) (a := ao) hC hTo dL_law_873 hf (fun w873 hf => ?_)
    refine u_iload hC dL_law_874 0 rfl ?_
    refine u_i2l hC dL_law_876 ?_
    refine u_lcmp hC dL_law_877 ?_
    refine u_if_eq (tgt := 883) hC dL_law_878 (by decide) hf (fun h878 hf => ?_) (fun h878 hf => nomatch hf)
    refine u_goto (tgt := 2030) hC dL_law_883 (by decide) ?_
    refine u_sub (lv' := [(4, .int i), (3, .ref (ρ832 ao)), (2, .ref (ρ832 am)), (1, .ref (ρ832 ax)), (0, .ref b)]) [2, 3, 4, 5, 6] rfl ?_
    cases hf
    exact hK ρ832 (cells + 8) (slots + 48) hAG (by omega) (by omega)
def g11 (xs : Nat → Int32) (L : Nat) (n : Nat) (ax am ao : Nat) (i : Int32) (Y : XS) (S : PS) : Option (XS × PS) :=
  ksc xs L (i + (1 : Int32)) (fun y892 => ksc xs L (i + (2 : Int32)) (fun y898 => kc (fL_step Y n S ax y892 y898 ao) (fun q900 => ksc xs L (i + (1 : Int32)) (fun y911 => ksc xs L (i + (2 : Int32)) (fun y917 => kc (fX11_step q900.2.1 n q900.2.2 am y911 y917) (fun q918 => kc (fX11_thrown q900.2.1 n q918.2 am ) (fun q924 => (if q924 = q900.1 then (if q900.1 = 0 then kal q900.2.1 q918.2 ao (0 : Int32) (fun w941 => (if (lg_cmp w941 (Int32.toInt64 q918.1)) = 0 then some (q900.2.1, q918.2) else none)) else some (q900.2.1, q918.2)) else none))))))))
theorem wg11 {C : CT} {ρ : Nat → Nat} {Y : XS} {cells slots : Nat} (hC : CK C RL cL_law 7 ret 100) {b L : Nat} {xs : Nat → Int32} (hSC : SC C b L xs) (hNc : va_Nc eI eN C.2.2.2.2.1) (n : Nat) (S : PS) (i : Int32) (ax am ao : Nat) (hTx : Ty Y ax 10) (hTm : Ty Y am 11) (hTo : Ty Y ao 15) {o : XS × PS} (hf : g11 xs L n ax am ao i Y S = some o) (hB : XB C (ρ, Y, cells, slots) 8 508) (hK : ∀ ρ' c' z', AG ρ Y ρ' o.1 → c' ≤ cells + 8 → z' ≤ slots + 508 → UW C (ρ', o.1, c', z') o.2 2030 [(4, .int i), (3, .ref (ρ' ao)), (2, .ref (ρ' am)), (1, .ref (ρ' ax)), (0, .ref b)] []) : UW C (ρ, Y, cells, slots) S 886 [(4, .int i), (3, .ref (ρ ao)), (2, .ref (ρ am)), (1, .ref (ρ ax)), (0, .ref b)] [] := by
  unfold g11 at hf
  have hAG := AG.refl ρ Y
  refine u_aload_n hC dL_law_886 3 rfl rfl ?_
  refine u_aload_n hC dL_law_887 4 rfl rfl ?_
  refine u_iload hC dL_law_888 0 rfl ?_
  refine u_iconst (v := (1 : Int32)) hC dL_law_890 (by decide) ?_
  refine u_iadd hC dL_law_891 ?_
  refine u_scr hC hSC dL_law_892 hf (fun y892 hf => ?_)
  refine u_aload_n hC dL_law_893 4 rfl rfl ?_
  refine u_iload hC dL_law_894 0 rfl ?_
  refine u_iconst (v := (2 : Int32)) hC dL_law_896 (by decide) ?_
  refine u_iadd hC dL_law_897 ?_
  refine u_scr hC hSC dL_law_898 hf (fun y898 hf => ?_)
  refine u_aload_n hC dL_law_899 1 rfl rfl ?_
  obtain ⟨q900, hq900, hf⟩ := kc_some hf
  refine u_callW (X := (ρ, Y, cells, slots)) (rest := []) hC hNc (ctL_step (cL C) hC.tr (cG C) ρ Y n S ax y892 y898 ao hTx hTo hq900) (hB.more (by omega) (by omega)) lw_L_step (by decide) (by decide) rfl rfl (Nat.le_of_ble_eq_true rfl) dL_law_900 (fun ρ900 hag => ?_)
  replace hag : AG ρ Y ρ900 q900.2.1 := hag
  show UW C (ρ900, q900.2.1, cells + 8, slots + 48) q900.2.2 _ [(4, .int i), (3, .ref (ρ ao)), (2, .ref (ρ am)), (1, .ref (ρ ax)), (0, .ref b)] [.int q900.1]
  rw [← (hag ax _ hTx).1, ← (hag am _ hTm).1, ← (hag ao _ hTo).1]
  have hTx := (hag _ _ hTx).2
  have hTm := (hag _ _ hTm).2
  have hTo := (hag _ _ hTo).2
  have hAG := AG.trans hAG hag
  refine u_istore (lv' := [(5, .int q900.1), (4, .int i), (3, .ref (ρ900 ao)), (2, .ref (ρ900 am)), (1, .ref (ρ900 ax)), (0, .ref b)]) hC dL_law_903 (by decide) rfl ?_
  refine u_aload_n hC dL_law_905 3 rfl rfl ?_
  refine u_aload_n hC dL_law_906 5 rfl rfl ?_
  refine u_iload hC dL_law_907 1 rfl ?_
  refine u_iconst (v := (1 : Int32)) hC dL_law_909 (by decide) ?_
  refine u_iadd hC dL_law_910 ?_
  refine u_scr hC hSC dL_law_911 hf (fun y911 hf => ?_)
  refine u_aload_n hC dL_law_912 5 rfl rfl ?_
  refine u_iload hC dL_law_913 1 rfl ?_
  refine u_iconst (v := (2 : Int32)) hC dL_law_915 (by decide) ?_
  refine u_iadd hC dL_law_916 ?_
  refine u_scr hC hSC dL_law_917 hf (fun y917 hf => ?_)
  obtain ⟨q918, hq918, hf⟩ := kc_some hf
  refine u_callV (X := (ρ900, q900.2.1, cells + 8, slots + 48)) (a := am) (rest := []) hC (ctX11_step (cL C) hC.tr (cG C) ρ900 q900.2.1 n q900.2.2 am y911 y917 hTm hq918) lk_L_144 rfl hTm (by decide) rfl (by decide) (by decide) rfl rfl (Nat.le_of_ble_eq_true rfl) dL_law_918 ?_
  refine u_istore (lv' := [(6, .int q918.1), (5, .int q900.1), (4, .int i), (3, .ref (ρ900 ao)), (2, .ref (ρ900 am)), (1, .ref (ρ900 ax)), (0, .ref b)]) hC dL_law_921 (by decide) rfl ?_
  refine u_aload_n hC dL_law_923 4 rfl rfl ?_
  obtain ⟨q924, hq924, hf⟩ := kc_some hf
  refine u_callV (X := (ρ900, q900.2.1, cells + 8, slots + 48)) (a := am) (rest := []) hC (ctX11_thrown (cL C) hC.tr (cG C) ρ900 q900.2.1 n q918.2 am  hTm hq924) lk_L_107 rfl hTm (by decide) rfl (by decide) (by decide) rfl rfl (Nat.le_of_ble_eq_true rfl) dL_law_924 ?_
  refine u_iload hC dL_law_927 1 rfl ?_
  refine u_icmp_eq (tgt := 934) hC dL_law_929 (by decide) hf (fun h929 hf => ?_) (fun h929 hf => nomatch hf)
  refine u_iload hC dL_law_934 1 rfl ?_
  refine u_if_ne (tgt := 951) hC dL_law_936 (by decide) hf (fun h936 hf => ?_) (fun h936 hf => ?_)
  · skip
    refine u_goto (tgt := 2030) hC dL_law_951 (by decide) ?_
    refine u_sub (lv' := [(4, .int i), (3, .ref (ρ900 ao)), (2, .ref (ρ900 am)), (1, .ref (ρ900 ax)), (0, .ref b)]) [2, 3, 4, 5, 6] rfl ?_
    cases hf
    exact hK ρ900 (cells + 8) (slots + 48) hAG (by omega) (by omega)
  · skip
    refine u_aload_n hC dL_law_939 3 rfl rfl ?_
    refine u_iconst (v := (0 : Int32)) hC dL_law_940 (by decide) ?_
    refine u_al (X := (ρ900, q900.2.1, cells + 8, slots + 48)) (a := ao) hC hTo dL_law_941 hf (fun w941 hf => ?_)
    refine u_iload hC dL_law_942 0 rfl ?_
    refine u_i2l hC dL_law_944 ?_
    refine u_lcmp hC dL_law_945 ?_
    refine u_if_eq (tgt := 951) hC dL_law_946 (by decide) hf (fun h946 hf => ?_) (fun h946 hf => nomatch hf)
    refine u_goto (tgt := 2030) hC dL_law_951 (by decide) ?_
    refine u_sub (lv' := [(4, .int i), (3, .ref (ρ900 ao)), (2, .ref (ρ900 am)), (1, .ref (ρ900 ax)), (0, .ref b)]) [2, 3, 4, 5, 6] rfl ?_
    cases hf
    exact hK ρ900 (cells + 8) (slots + 48) hAG (by omega) (by omega)
def g12 (xs : Nat → Int32) (L : Nat) (n : Nat) (ax am ao : Nat) (i : Int32) (Y : XS) (S : PS) : Option (XS × PS) :=
  ksc xs L (i + (1 : Int32)) (fun y960 => ksc xs L (i + (2 : Int32)) (fun y966 => kc (fL_price Y n S ax y960 y966 ao) (fun q968 => ksc xs L (i + (1 : Int32)) (fun y979 => ksc xs L (i + (2 : Int32)) (fun y985 => kc (fX11_price q968.2.1 n q968.2.2 am y979 y985) (fun q986 => kc (fX11_thrown q968.2.1 n q986.2 am ) (fun q992 => (if q992 = q968.1 then (if q968.1 = 0 then kal q968.2.1 q986.2 ao (0 : Int32) (fun w1009 => (if (lg_cmp w1009 (Int32.toInt64 q986.1)) = 0 then some (q968.2.1, q986.2) else none)) else some (q968.2.1, q986.2)) else none))))))))
theorem wg12 {C : CT} {ρ : Nat → Nat} {Y : XS} {cells slots : Nat} (hC : CK C RL cL_law 7 ret 100) {b L : Nat} {xs : Nat → Int32} (hSC : SC C b L xs) (hNc : va_Nc eI eN C.2.2.2.2.1) (n : Nat) (S : PS) (i : Int32) (ax am ao : Nat) (hTx : Ty Y ax 10) (hTm : Ty Y am 11) (hTo : Ty Y ao 15) {o : XS × PS} (hf : g12 xs L n ax am ao i Y S = some o) (hB : XB C (ρ, Y, cells, slots) 8 508) (hK : ∀ ρ' c' z', AG ρ Y ρ' o.1 → c' ≤ cells + 8 → z' ≤ slots + 508 → UW C (ρ', o.1, c', z') o.2 2030 [(4, .int i), (3, .ref (ρ' ao)), (2, .ref (ρ' am)), (1, .ref (ρ' ax)), (0, .ref b)] []) : UW C (ρ, Y, cells, slots) S 954 [(4, .int i), (3, .ref (ρ ao)), (2, .ref (ρ am)), (1, .ref (ρ ax)), (0, .ref b)] [] := by
  unfold g12 at hf
  have hAG := AG.refl ρ Y
  refine u_aload_n hC dL_law_954 3 rfl rfl ?_
  refine u_aload_n hC dL_law_955 4 rfl rfl ?_
  refine u_iload hC dL_law_956 0 rfl ?_
  refine u_iconst (v := (1 : Int32)) hC dL_law_958 (by decide) ?_
  refine u_iadd hC dL_law_959 ?_
  refine u_scr hC hSC dL_law_960 hf (fun y960 hf => ?_)
  refine u_aload_n hC dL_law_961 4 rfl rfl ?_
  refine u_iload hC dL_law_962 0 rfl ?_
  refine u_iconst (v := (2 : Int32)) hC dL_law_964 (by decide) ?_
  refine u_iadd hC dL_law_965 ?_
  refine u_scr hC hSC dL_law_966 hf (fun y966 hf => ?_)
  refine u_aload_n hC dL_law_967 1 rfl rfl ?_
  obtain ⟨q968, hq968, hf⟩ := kc_some hf
  refine u_callW (X := (ρ, Y, cells, slots)) (rest := []) hC hNc (ctL_price (cL C) hC.tr (cG C) ρ Y n S ax y960 y966 ao hTx hTo hq968) (hB.more (by omega) (by omega)) lw_L_price (by decide) (by decide) rfl rfl (Nat.le_of_ble_eq_true rfl) dL_law_968 (fun ρ968 hag => ?_)
  replace hag : AG ρ Y ρ968 q968.2.1 := hag
  show UW C (ρ968, q968.2.1, cells + 8, slots + 48) q968.2.2 _ [(4, .int i), (3, .ref (ρ ao)), (2, .ref (ρ am)), (1, .ref (ρ ax)), (0, .ref b)] [.int q968.1]
  rw [← (hag ax _ hTx).1, ← (hag am _ hTm).1, ← (hag ao _ hTo).1]
  have hTx := (hag _ _ hTx).2
  have hTm := (hag _ _ hTm).2
  have hTo := (hag _ _ hTo).2
  have hAG := AG.trans hAG hag
  refine u_istore (lv' := [(5, .int q968.1), (4, .int i), (3, .ref (ρ968 ao)), (2, .ref (ρ968 am)), (1, .ref (ρ968 ax)), (0, .ref b)]) hC dL_law_971 (by decide) rfl ?_
  refine u_aload_n hC dL_law_973 3 rfl rfl ?_
  refine u_aload_n hC dL_law_974 5 rfl rfl ?_
  refine u_iload hC dL_law_975 1 rfl ?_
  refine u_iconst (v := (1 : Int32)) hC dL_law_977 (by decide) ?_
  refine u_iadd hC dL_law_978 ?_
  refine u_scr hC hSC dL_law_979 hf (fun y979 hf => ?_)
  refine u_aload_n hC dL_law_980 5 rfl rfl ?_
  refine u_iload hC dL_law_981 1 rfl ?_
  refine u_iconst (v := (2 : Int32)) hC dL_law_983 (by decide) ?_
  refine u_iadd hC dL_law_984 ?_
  refine u_scr hC hSC dL_law_985 hf (fun y985 hf => ?_)
  obtain ⟨q986, hq986, hf⟩ := kc_some hf
  refine u_callV (X := (ρ968, q968.2.1, cells + 8, slots + 48)) (a := am) (rest := []) hC (ctX11_price (cL C) hC.tr (cG C) ρ968 q968.2.1 n q968.2.2 am y979 y985 hTm hq986) lk_L_147 rfl hTm (by decide) rfl (by decide) (by decide) rfl rfl (Nat.le_of_ble_eq_true rfl) dL_law_986 ?_
  refine u_istore (lv' := [(6, .int q986.1), (5, .int q968.1), (4, .int i), (3, .ref (ρ968 ao)), (2, .ref (ρ968 am)), (1, .ref (ρ968 ax)), (0, .ref b)]) hC dL_law_989 (by decide) rfl ?_
  refine u_aload_n hC dL_law_991 4 rfl rfl ?_
  obtain ⟨q992, hq992, hf⟩ := kc_some hf
  refine u_callV (X := (ρ968, q968.2.1, cells + 8, slots + 48)) (a := am) (rest := []) hC (ctX11_thrown (cL C) hC.tr (cG C) ρ968 q968.2.1 n q986.2 am  hTm hq992) lk_L_107 rfl hTm (by decide) rfl (by decide) (by decide) rfl rfl (Nat.le_of_ble_eq_true rfl) dL_law_992 ?_
  refine u_iload hC dL_law_995 1 rfl ?_
  refine u_icmp_eq (tgt := 1002) hC dL_law_997 (by decide) hf (fun h997 hf => ?_) (fun h997 hf => nomatch hf)
  refine u_iload hC dL_law_1002 1 rfl ?_
  refine u_if_ne (tgt := 1019) hC dL_law_1004 (by decide) hf (fun h1004 hf => ?_) (fun h1004 hf => ?_)
  · skip
    refine u_goto (tgt := 2030) hC dL_law_1019 (by decide) ?_
    refine u_sub (lv' := [(4, .int i), (3, .ref (ρ968 ao)), (2, .ref (ρ968 am)), (1, .ref (ρ968 ax)), (0, .ref b)]) [2, 3, 4, 5, 6] rfl ?_
    cases hf
    exact hK ρ968 (cells + 8) (slots + 48) hAG (by omega) (by omega)
  · skip
    refine u_aload_n hC dL_law_1007 3 rfl rfl ?_
    refine u_iconst (v := (0 : Int32)) hC dL_law_1008 (by decide) ?_
    refine u_al (X := (ρ968, q968.2.1, cells + 8, slots + 48)) (a := ao) hC hTo dL_law_1009 hf (fun w1009 hf => ?_)
    refine u_iload hC dL_law_1010 0 rfl ?_
    refine u_i2l hC dL_law_1012 ?_
    refine u_lcmp hC dL_law_1013 ?_
    refine u_if_eq (tgt := 1019) hC dL_law_1014 (by decide) hf (fun h1014 hf => ?_) (fun h1014 hf => nomatch hf)
    refine u_goto (tgt := 2030) hC dL_law_1019 (by decide) ?_
    refine u_sub (lv' := [(4, .int i), (3, .ref (ρ968 ao)), (2, .ref (ρ968 am)), (1, .ref (ρ968 ax)), (0, .ref b)]) [2, 3, 4, 5, 6] rfl ?_
    cases hf
    exact hK ρ968 (cells + 8) (slots + 48) hAG (by omega) (by omega)
def g13 (xs : Nat → Int32) (L : Nat) (n : Nat) (ax am ao : Nat) (i : Int32) (Y : XS) (S : PS) : Option (XS × PS) :=
  ksc xs L (i + (1 : Int32)) (fun y1028 => ksc xs L (i + (2 : Int32)) (fun y1034 => kc (fL_group Y n S ax y1028 y1034 ao) (fun q1036 => ksc xs L (i + (1 : Int32)) (fun y1047 => ksc xs L (i + (2 : Int32)) (fun y1053 => kc (fX11_group q1036.2.1 n q1036.2.2 am y1047 y1053) (fun q1054 => kc (fX11_thrown q1036.2.1 n q1054.2 am ) (fun q1060 => (if q1060 = q1036.1 then (if q1036.1 = 0 then kal q1036.2.1 q1054.2 ao (0 : Int32) (fun w1077 => (if (lg_cmp w1077 (Int32.toInt64 q1054.1)) = 0 then some (q1036.2.1, q1054.2) else none)) else some (q1036.2.1, q1054.2)) else none))))))))
theorem wg13 {C : CT} {ρ : Nat → Nat} {Y : XS} {cells slots : Nat} (hC : CK C RL cL_law 7 ret 100) {b L : Nat} {xs : Nat → Int32} (hSC : SC C b L xs) (hNc : va_Nc eI eN C.2.2.2.2.1) (n : Nat) (S : PS) (i : Int32) (ax am ao : Nat) (hTx : Ty Y ax 10) (hTm : Ty Y am 11) (hTo : Ty Y ao 15) {o : XS × PS} (hf : g13 xs L n ax am ao i Y S = some o) (hB : XB C (ρ, Y, cells, slots) 8 508) (hK : ∀ ρ' c' z', AG ρ Y ρ' o.1 → c' ≤ cells + 8 → z' ≤ slots + 508 → UW C (ρ', o.1, c', z') o.2 2030 [(4, .int i), (3, .ref (ρ' ao)), (2, .ref (ρ' am)), (1, .ref (ρ' ax)), (0, .ref b)] []) : UW C (ρ, Y, cells, slots) S 1022 [(4, .int i), (3, .ref (ρ ao)), (2, .ref (ρ am)), (1, .ref (ρ ax)), (0, .ref b)] [] := by
  unfold g13 at hf
  have hAG := AG.refl ρ Y
  refine u_aload_n hC dL_law_1022 3 rfl rfl ?_
  refine u_aload_n hC dL_law_1023 4 rfl rfl ?_
  refine u_iload hC dL_law_1024 0 rfl ?_
  refine u_iconst (v := (1 : Int32)) hC dL_law_1026 (by decide) ?_
  refine u_iadd hC dL_law_1027 ?_
  refine u_scr hC hSC dL_law_1028 hf (fun y1028 hf => ?_)
  refine u_aload_n hC dL_law_1029 4 rfl rfl ?_
  refine u_iload hC dL_law_1030 0 rfl ?_
  refine u_iconst (v := (2 : Int32)) hC dL_law_1032 (by decide) ?_
  refine u_iadd hC dL_law_1033 ?_
  refine u_scr hC hSC dL_law_1034 hf (fun y1034 hf => ?_)
  refine u_aload_n hC dL_law_1035 1 rfl rfl ?_
  obtain ⟨q1036, hq1036, hf⟩ := kc_some hf
  refine u_callW (X := (ρ, Y, cells, slots)) (rest := []) hC hNc (ctL_group (cL C) hC.tr (cG C) ρ Y n S ax y1028 y1034 ao hTx hTo hq1036) (hB.more (by omega) (by omega)) lw_L_group (by decide) (by decide) rfl rfl (Nat.le_of_ble_eq_true rfl) dL_law_1036 (fun ρ1036 hag => ?_)
  replace hag : AG ρ Y ρ1036 q1036.2.1 := hag
  show UW C (ρ1036, q1036.2.1, cells + 8, slots + 48) q1036.2.2 _ [(4, .int i), (3, .ref (ρ ao)), (2, .ref (ρ am)), (1, .ref (ρ ax)), (0, .ref b)] [.int q1036.1]
  rw [← (hag ax _ hTx).1, ← (hag am _ hTm).1, ← (hag ao _ hTo).1]
  have hTx := (hag _ _ hTx).2
  have hTm := (hag _ _ hTm).2
  have hTo := (hag _ _ hTo).2
  have hAG := AG.trans hAG hag
  refine u_istore (lv' := [(5, .int q1036.1), (4, .int i), (3, .ref (ρ1036 ao)), (2, .ref (ρ1036 am)), (1, .ref (ρ1036 ax)), (0, .ref b)]) hC dL_law_1039 (by decide) rfl ?_
  refine u_aload_n hC dL_law_1041 3 rfl rfl ?_
  refine u_aload_n hC dL_law_1042 5 rfl rfl ?_
  refine u_iload hC dL_law_1043 1 rfl ?_
  refine u_iconst (v := (1 : Int32)) hC dL_law_1045 (by decide) ?_
  refine u_iadd hC dL_law_1046 ?_
  refine u_scr hC hSC dL_law_1047 hf (fun y1047 hf => ?_)
  refine u_aload_n hC dL_law_1048 5 rfl rfl ?_
  refine u_iload hC dL_law_1049 1 rfl ?_
  refine u_iconst (v := (2 : Int32)) hC dL_law_1051 (by decide) ?_
  refine u_iadd hC dL_law_1052 ?_
  refine u_scr hC hSC dL_law_1053 hf (fun y1053 hf => ?_)
  obtain ⟨q1054, hq1054, hf⟩ := kc_some hf
  refine u_callV (X := (ρ1036, q1036.2.1, cells + 8, slots + 48)) (a := am) (rest := []) hC (ctX11_group (cL C) hC.tr (cG C) ρ1036 q1036.2.1 n q1036.2.2 am y1047 y1053 hTm hq1054) lk_L_150 rfl hTm (by decide) rfl (by decide) (by decide) rfl rfl (Nat.le_of_ble_eq_true rfl) dL_law_1054 ?_
  refine u_istore (lv' := [(6, .int q1054.1), (5, .int q1036.1), (4, .int i), (3, .ref (ρ1036 ao)), (2, .ref (ρ1036 am)), (1, .ref (ρ1036 ax)), (0, .ref b)]) hC dL_law_1057 (by decide) rfl ?_
  refine u_aload_n hC dL_law_1059 4 rfl rfl ?_
  obtain ⟨q1060, hq1060, hf⟩ := kc_some hf
  refine u_callV (X := (ρ1036, q1036.2.1, cells + 8, slots + 48)) (a := am) (rest := []) hC (ctX11_thrown (cL C) hC.tr (cG C) ρ1036 q1036.2.1 n q1054.2 am  hTm hq1060) lk_L_107 rfl hTm (by decide) rfl (by decide) (by decide) rfl rfl (Nat.le_of_ble_eq_true rfl) dL_law_1060 ?_
  refine u_iload hC dL_law_1063 1 rfl ?_
  refine u_icmp_eq (tgt := 1070) hC dL_law_1065 (by decide) hf (fun h1065 hf => ?_) (fun h1065 hf => nomatch hf)
  refine u_iload hC dL_law_1070 1 rfl ?_
  refine u_if_ne (tgt := 1087) hC dL_law_1072 (by decide) hf (fun h1072 hf => ?_) (fun h1072 hf => ?_)
  · skip
    refine u_goto (tgt := 2030) hC dL_law_1087 (by decide) ?_
    refine u_sub (lv' := [(4, .int i), (3, .ref (ρ1036 ao)), (2, .ref (ρ1036 am)), (1, .ref (ρ1036 ax)), (0, .ref b)]) [2, 3, 4, 5, 6] rfl ?_
    cases hf
    exact hK ρ1036 (cells + 8) (slots + 48) hAG (by omega) (by omega)
  · skip
    refine u_aload_n hC dL_law_1075 3 rfl rfl ?_
    refine u_iconst (v := (0 : Int32)) hC dL_law_1076 (by decide) ?_
    refine u_al (X := (ρ1036, q1036.2.1, cells + 8, slots + 48)) (a := ao) hC hTo dL_law_1077 hf (fun w1077 hf => ?_)
    refine u_iload hC dL_law_1078 0 rfl ?_
    refine u_i2l hC dL_law_1080 ?_
    refine u_lcmp hC dL_law_1081 ?_
    refine u_if_eq (tgt := 1087) hC dL_law_1082 (by decide) hf (fun h1082 hf => ?_) (fun h1082 hf => nomatch hf)
    refine u_goto (tgt := 2030) hC dL_law_1087 (by decide) ?_
    refine u_sub (lv' := [(4, .int i), (3, .ref (ρ1036 ao)), (2, .ref (ρ1036 am)), (1, .ref (ρ1036 ax)), (0, .ref b)]) [2, 3, 4, 5, 6] rfl ?_
    cases hf
    exact hK ρ1036 (cells + 8) (slots + 48) hAG (by omega) (by omega)
def g14 (xs : Nat → Int32) (L : Nat) (n : Nat) (ax am ao : Nat) (i : Int32) (Y : XS) (S : PS) : Option (XS × PS) :=
  ksc xs L (i + (1 : Int32)) (fun y1096 => ksc xs L (i + (2 : Int32)) (fun y1102 => ksc xs L (i + (3 : Int32)) (fun y1108 => kc (fL_isServed Y n S ax y1096 y1102 (bz y1108) ao) (fun q1118 => ksc xs L (i + (1 : Int32)) (fun y1129 => ksc xs L (i + (2 : Int32)) (fun y1135 => ksc xs L (i + (3 : Int32)) (fun y1141 => kc (fX11_isServed q1118.2.1 n q1118.2.2 am y1129 y1135 (bz y1141)) (fun q1150 => kc (fX11_thrown q1118.2.1 n q1150.2 am ) (fun q1156 => (if q1156 = q1118.1 then (if q1118.1 = 0 then kal q1118.2.1 q1150.2 ao (0 : Int32) (fun w1173 => (if (lg_cmp w1173 (bzl q1150.1)) = 0 then some (q1118.2.1, q1150.2) else none)) else some (q1118.2.1, q1150.2)) else none))))))))))
theorem wg14 {C : CT} {ρ : Nat → Nat} {Y : XS} {cells slots : Nat} (hC : CK C RL cL_law 7 ret 100) {b L : Nat} {xs : Nat → Int32} (hSC : SC C b L xs) (hNc : va_Nc eI eN C.2.2.2.2.1) (n : Nat) (S : PS) (i : Int32) (ax am ao : Nat) (hTx : Ty Y ax 10) (hTm : Ty Y am 11) (hTo : Ty Y ao 15) {o : XS × PS} (hf : g14 xs L n ax am ao i Y S = some o) (hB : XB C (ρ, Y, cells, slots) 8 508) (hK : ∀ ρ' c' z', AG ρ Y ρ' o.1 → c' ≤ cells + 8 → z' ≤ slots + 508 → UW C (ρ', o.1, c', z') o.2 2030 [(4, .int i), (3, .ref (ρ' ao)), (2, .ref (ρ' am)), (1, .ref (ρ' ax)), (0, .ref b)] []) : UW C (ρ, Y, cells, slots) S 1090 [(4, .int i), (3, .ref (ρ ao)), (2, .ref (ρ am)), (1, .ref (ρ ax)), (0, .ref b)] [] := by
  unfold g14 at hf
  have hAG := AG.refl ρ Y
  refine u_aload_n hC dL_law_1090 3 rfl rfl ?_
  refine u_aload_n hC dL_law_1091 4 rfl rfl ?_
  refine u_iload hC dL_law_1092 0 rfl ?_
  refine u_iconst (v := (1 : Int32)) hC dL_law_1094 (by decide) ?_
  refine u_iadd hC dL_law_1095 ?_
  refine u_scr hC hSC dL_law_1096 hf (fun y1096 hf => ?_)
  refine u_aload_n hC dL_law_1097 4 rfl rfl ?_
  refine u_iload hC dL_law_1098 0 rfl ?_
  refine u_iconst (v := (2 : Int32)) hC dL_law_1100 (by decide) ?_
  refine u_iadd hC dL_law_1101 ?_
  refine u_scr hC hSC dL_law_1102 hf (fun y1102 hf => ?_)
  refine u_aload_n hC dL_law_1103 4 rfl rfl ?_
  refine u_iload hC dL_law_1104 0 rfl ?_
  refine u_iconst (v := (3 : Int32)) hC dL_law_1106 (by decide) ?_
  refine u_iadd hC dL_law_1107 ?_
  refine u_scr hC hSC dL_law_1108 hf (fun y1108 hf => ?_)
  refine u_bool (t1 := 1116) (t2 := 1117) hC dL_law_1109 (by decide) dL_law_1112 dL_law_1113 (by decide) dL_law_1116 rfl ?_
  refine u_aload_n hC dL_law_1117 1 rfl rfl ?_
  obtain ⟨q1118, hq1118, hf⟩ := kc_some hf
  refine u_callW (X := (ρ, Y, cells, slots)) (rest := []) hC hNc (ctL_isServed (cL C) hC.tr (cG C) ρ Y n S ax y1096 y1102 (bz y1108) ao hTx hTo hq1118) (hB.more (by omega) (by omega)) lw_L_isServed (by decide) (by decide) rfl rfl (Nat.le_of_ble_eq_true rfl) dL_law_1118 (fun ρ1118 hag => ?_)
  replace hag : AG ρ Y ρ1118 q1118.2.1 := hag
  show UW C (ρ1118, q1118.2.1, cells + 8, slots + 48) q1118.2.2 _ [(4, .int i), (3, .ref (ρ ao)), (2, .ref (ρ am)), (1, .ref (ρ ax)), (0, .ref b)] [.int q1118.1]
  rw [← (hag ax _ hTx).1, ← (hag am _ hTm).1, ← (hag ao _ hTo).1]
  have hTx := (hag _ _ hTx).2
  have hTm := (hag _ _ hTm).2
  have hTo := (hag _ _ hTo).2
  have hAG := AG.trans hAG hag
  refine u_istore (lv' := [(5, .int q1118.1), (4, .int i), (3, .ref (ρ1118 ao)), (2, .ref (ρ1118 am)), (1, .ref (ρ1118 ax)), (0, .ref b)]) hC dL_law_1121 (by decide) rfl ?_
  refine u_aload_n hC dL_law_1123 3 rfl rfl ?_
  refine u_aload_n hC dL_law_1124 5 rfl rfl ?_
  refine u_iload hC dL_law_1125 1 rfl ?_
  refine u_iconst (v := (1 : Int32)) hC dL_law_1127 (by decide) ?_
  refine u_iadd hC dL_law_1128 ?_
  refine u_scr hC hSC dL_law_1129 hf (fun y1129 hf => ?_)
  refine u_aload_n hC dL_law_1130 5 rfl rfl ?_
  refine u_iload hC dL_law_1131 1 rfl ?_
  refine u_iconst (v := (2 : Int32)) hC dL_law_1133 (by decide) ?_
  refine u_iadd hC dL_law_1134 ?_
  refine u_scr hC hSC dL_law_1135 hf (fun y1135 hf => ?_)
  refine u_aload_n hC dL_law_1136 5 rfl rfl ?_
  refine u_iload hC dL_law_1137 1 rfl ?_
  refine u_iconst (v := (3 : Int32)) hC dL_law_1139 (by decide) ?_
  refine u_iadd hC dL_law_1140 ?_
  refine u_scr hC hSC dL_law_1141 hf (fun y1141 hf => ?_)
  refine u_bool (t1 := 1149) (t2 := 1150) hC dL_law_1142 (by decide) dL_law_1145 dL_law_1146 (by decide) dL_law_1149 rfl ?_
  obtain ⟨q1150, hq1150, hf⟩ := kc_some hf
  refine u_callV (X := (ρ1118, q1118.2.1, cells + 8, slots + 48)) (a := am) (rest := []) hC (ctX11_isServed (cL C) hC.tr (cG C) ρ1118 q1118.2.1 n q1118.2.2 am y1129 y1135 (bz y1141) hTm hq1150) lk_L_153 rfl hTm (by decide) rfl (by decide) (by decide) rfl rfl (Nat.le_of_ble_eq_true rfl) dL_law_1150 ?_
  refine u_istore (lv' := [(6, .int q1150.1), (5, .int q1118.1), (4, .int i), (3, .ref (ρ1118 ao)), (2, .ref (ρ1118 am)), (1, .ref (ρ1118 ax)), (0, .ref b)]) hC dL_law_1153 (by decide) rfl ?_
  refine u_aload_n hC dL_law_1155 4 rfl rfl ?_
  obtain ⟨q1156, hq1156, hf⟩ := kc_some hf
  refine u_callV (X := (ρ1118, q1118.2.1, cells + 8, slots + 48)) (a := am) (rest := []) hC (ctX11_thrown (cL C) hC.tr (cG C) ρ1118 q1118.2.1 n q1150.2 am  hTm hq1156) lk_L_107 rfl hTm (by decide) rfl (by decide) (by decide) rfl rfl (Nat.le_of_ble_eq_true rfl) dL_law_1156 ?_
  refine u_iload hC dL_law_1159 1 rfl ?_
  refine u_icmp_eq (tgt := 1166) hC dL_law_1161 (by decide) hf (fun h1161 hf => ?_) (fun h1161 hf => nomatch hf)
  refine u_iload hC dL_law_1166 1 rfl ?_
  refine u_if_ne (tgt := 1190) hC dL_law_1168 (by decide) hf (fun h1168 hf => ?_) (fun h1168 hf => ?_)
  · skip
    refine u_goto (tgt := 2030) hC dL_law_1190 (by decide) ?_
    refine u_sub (lv' := [(4, .int i), (3, .ref (ρ1118 ao)), (2, .ref (ρ1118 am)), (1, .ref (ρ1118 ax)), (0, .ref b)]) [2, 3, 4, 5, 6] rfl ?_
    cases hf
    exact hK ρ1118 (cells + 8) (slots + 48) hAG (by omega) (by omega)
  · skip
    refine u_aload_n hC dL_law_1171 3 rfl rfl ?_
    refine u_iconst (v := (0 : Int32)) hC dL_law_1172 (by decide) ?_
    refine u_al (X := (ρ1118, q1118.2.1, cells + 8, slots + 48)) (a := ao) hC hTo dL_law_1173 hf (fun w1173 hf => ?_)
    refine u_iload hC dL_law_1174 0 rfl ?_
    refine u_boolL (t1 := 1183) (t2 := 1184) hC dL_law_1176 (by decide) dL_law_1179 dL_law_1180 (by decide) dL_law_1183 rfl ?_
    refine u_lcmp hC dL_law_1184 ?_
    refine u_if_eq (tgt := 1190) hC dL_law_1185 (by decide) hf (fun h1185 hf => ?_) (fun h1185 hf => nomatch hf)
    refine u_goto (tgt := 2030) hC dL_law_1190 (by decide) ?_
    refine u_sub (lv' := [(4, .int i), (3, .ref (ρ1118 ao)), (2, .ref (ρ1118 am)), (1, .ref (ρ1118 ax)), (0, .ref b)]) [2, 3, 4, 5, 6] rfl ?_
    cases hf
    exact hK ρ1118 (cells + 8) (slots + 48) hAG (by omega) (by omega)
def g15 (xs : Nat → Int32) (L : Nat) (n : Nat) (ax am ao : Nat) (i : Int32) (Y : XS) (S : PS) : Option (XS × PS) :=
  ksc xs L (i + (1 : Int32)) (fun y1199 => ksc xs L (i + (2 : Int32)) (fun y1205 => kc (fL_groups Y n S ax y1199 y1205 ao) (fun q1207 => ksc xs L (i + (1 : Int32)) (fun y1218 => ksc xs L (i + (2 : Int32)) (fun y1224 => kc (fX11_groups q1207.2.1 n q1207.2.2 am y1218 y1224) (fun q1225 => kc (fX11_thrown q1207.2.1 n q1225.2 am ) (fun q1231 => (if q1231 = q1207.1 then (if q1207.1 = 0 then kal q1207.2.1 q1225.2 ao (0 : Int32) (fun w1248 => (if (lg_cmp w1248 (Int32.toInt64 q1225.1)) = 0 then some (q1207.2.1, q1225.2) else none)) else some (q1207.2.1, q1225.2)) else none))))))))
theorem wg15 {C : CT} {ρ : Nat → Nat} {Y : XS} {cells slots : Nat} (hC : CK C RL cL_law 7 ret 100) {b L : Nat} {xs : Nat → Int32} (hSC : SC C b L xs) (hNc : va_Nc eI eN C.2.2.2.2.1) (n : Nat) (S : PS) (i : Int32) (ax am ao : Nat) (hTx : Ty Y ax 10) (hTm : Ty Y am 11) (hTo : Ty Y ao 15) {o : XS × PS} (hf : g15 xs L n ax am ao i Y S = some o) (hB : XB C (ρ, Y, cells, slots) 8 508) (hK : ∀ ρ' c' z', AG ρ Y ρ' o.1 → c' ≤ cells + 8 → z' ≤ slots + 508 → UW C (ρ', o.1, c', z') o.2 2030 [(4, .int i), (3, .ref (ρ' ao)), (2, .ref (ρ' am)), (1, .ref (ρ' ax)), (0, .ref b)] []) : UW C (ρ, Y, cells, slots) S 1193 [(4, .int i), (3, .ref (ρ ao)), (2, .ref (ρ am)), (1, .ref (ρ ax)), (0, .ref b)] [] := by
  unfold g15 at hf
  have hAG := AG.refl ρ Y
  refine u_aload_n hC dL_law_1193 3 rfl rfl ?_
  refine u_aload_n hC dL_law_1194 4 rfl rfl ?_
  refine u_iload hC dL_law_1195 0 rfl ?_
  refine u_iconst (v := (1 : Int32)) hC dL_law_1197 (by decide) ?_
  refine u_iadd hC dL_law_1198 ?_
  refine u_scr hC hSC dL_law_1199 hf (fun y1199 hf => ?_)
  refine u_aload_n hC dL_law_1200 4 rfl rfl ?_
  refine u_iload hC dL_law_1201 0 rfl ?_
  refine u_iconst (v := (2 : Int32)) hC dL_law_1203 (by decide) ?_
  refine u_iadd hC dL_law_1204 ?_
  refine u_scr hC hSC dL_law_1205 hf (fun y1205 hf => ?_)
  refine u_aload_n hC dL_law_1206 1 rfl rfl ?_
  obtain ⟨q1207, hq1207, hf⟩ := kc_some hf
  refine u_callW (X := (ρ, Y, cells, slots)) (rest := []) hC hNc (ctL_groups (cL C) hC.tr (cG C) ρ Y n S ax y1199 y1205 ao hTx hTo hq1207) (hB.more (by omega) (by omega)) lw_L_groups (by decide) (by decide) rfl rfl (Nat.le_of_ble_eq_true rfl) dL_law_1207 (fun ρ1207 hag => ?_)
  replace hag : AG ρ Y ρ1207 q1207.2.1 := hag
  show UW C (ρ1207, q1207.2.1, cells + 8, slots + 48) q1207.2.2 _ [(4, .int i), (3, .ref (ρ ao)), (2, .ref (ρ am)), (1, .ref (ρ ax)), (0, .ref b)] [.int q1207.1]
  rw [← (hag ax _ hTx).1, ← (hag am _ hTm).1, ← (hag ao _ hTo).1]
  have hTx := (hag _ _ hTx).2
  have hTm := (hag _ _ hTm).2
  have hTo := (hag _ _ hTo).2
  have hAG := AG.trans hAG hag
  refine u_istore (lv' := [(5, .int q1207.1), (4, .int i), (3, .ref (ρ1207 ao)), (2, .ref (ρ1207 am)), (1, .ref (ρ1207 ax)), (0, .ref b)]) hC dL_law_1210 (by decide) rfl ?_
  refine u_aload_n hC dL_law_1212 3 rfl rfl ?_
  refine u_aload_n hC dL_law_1213 5 rfl rfl ?_
  refine u_iload hC dL_law_1214 1 rfl ?_
  refine u_iconst (v := (1 : Int32)) hC dL_law_1216 (by decide) ?_
  refine u_iadd hC dL_law_1217 ?_
  refine u_scr hC hSC dL_law_1218 hf (fun y1218 hf => ?_)
  refine u_aload_n hC dL_law_1219 5 rfl rfl ?_
  refine u_iload hC dL_law_1220 1 rfl ?_
  refine u_iconst (v := (2 : Int32)) hC dL_law_1222 (by decide) ?_
  refine u_iadd hC dL_law_1223 ?_
  refine u_scr hC hSC dL_law_1224 hf (fun y1224 hf => ?_)
  obtain ⟨q1225, hq1225, hf⟩ := kc_some hf
  refine u_callV (X := (ρ1207, q1207.2.1, cells + 8, slots + 48)) (a := am) (rest := []) hC (ctX11_groups (cL C) hC.tr (cG C) ρ1207 q1207.2.1 n q1207.2.2 am y1218 y1224 hTm hq1225) lk_L_156 rfl hTm (by decide) rfl (by decide) (by decide) rfl rfl (Nat.le_of_ble_eq_true rfl) dL_law_1225 ?_
  refine u_istore (lv' := [(6, .int q1225.1), (5, .int q1207.1), (4, .int i), (3, .ref (ρ1207 ao)), (2, .ref (ρ1207 am)), (1, .ref (ρ1207 ax)), (0, .ref b)]) hC dL_law_1228 (by decide) rfl ?_
  refine u_aload_n hC dL_law_1230 4 rfl rfl ?_
  obtain ⟨q1231, hq1231, hf⟩ := kc_some hf
  refine u_callV (X := (ρ1207, q1207.2.1, cells + 8, slots + 48)) (a := am) (rest := []) hC (ctX11_thrown (cL C) hC.tr (cG C) ρ1207 q1207.2.1 n q1225.2 am  hTm hq1231) lk_L_107 rfl hTm (by decide) rfl (by decide) (by decide) rfl rfl (Nat.le_of_ble_eq_true rfl) dL_law_1231 ?_
  refine u_iload hC dL_law_1234 1 rfl ?_
  refine u_icmp_eq (tgt := 1241) hC dL_law_1236 (by decide) hf (fun h1236 hf => ?_) (fun h1236 hf => nomatch hf)
  refine u_iload hC dL_law_1241 1 rfl ?_
  refine u_if_ne (tgt := 1258) hC dL_law_1243 (by decide) hf (fun h1243 hf => ?_) (fun h1243 hf => ?_)
  · skip
    refine u_goto (tgt := 2030) hC dL_law_1258 (by decide) ?_
    refine u_sub (lv' := [(4, .int i), (3, .ref (ρ1207 ao)), (2, .ref (ρ1207 am)), (1, .ref (ρ1207 ax)), (0, .ref b)]) [2, 3, 4, 5, 6] rfl ?_
    cases hf
    exact hK ρ1207 (cells + 8) (slots + 48) hAG (by omega) (by omega)
  · skip
    refine u_aload_n hC dL_law_1246 3 rfl rfl ?_
    refine u_iconst (v := (0 : Int32)) hC dL_law_1247 (by decide) ?_
    refine u_al (X := (ρ1207, q1207.2.1, cells + 8, slots + 48)) (a := ao) hC hTo dL_law_1248 hf (fun w1248 hf => ?_)
    refine u_iload hC dL_law_1249 0 rfl ?_
    refine u_i2l hC dL_law_1251 ?_
    refine u_lcmp hC dL_law_1252 ?_
    refine u_if_eq (tgt := 1258) hC dL_law_1253 (by decide) hf (fun h1253 hf => ?_) (fun h1253 hf => nomatch hf)
    refine u_goto (tgt := 2030) hC dL_law_1258 (by decide) ?_
    refine u_sub (lv' := [(4, .int i), (3, .ref (ρ1207 ao)), (2, .ref (ρ1207 am)), (1, .ref (ρ1207 ax)), (0, .ref b)]) [2, 3, 4, 5, 6] rfl ?_
    cases hf
    exact hK ρ1207 (cells + 8) (slots + 48) hAG (by omega) (by omega)
def g16 (xs : Nat → Int32) (L : Nat) (n : Nat) (ax am ao : Nat) (i : Int32) (Y : XS) (S : PS) : Option (XS × PS) :=
  ksc xs L (i + (1 : Int32)) (fun y1267 => ksc xs L (i + (2 : Int32)) (fun y1273 => kc (fL_away Y n S ax y1267 y1273 ao) (fun q1275 => ksc xs L (i + (1 : Int32)) (fun y1286 => ksc xs L (i + (2 : Int32)) (fun y1292 => kc (fX11_away q1275.2.1 n q1275.2.2 am y1286 y1292) (fun q1293 => kc (fX11_thrown q1275.2.1 n q1293.2 am ) (fun q1299 => (if q1299 = q1275.1 then (if q1275.1 = 0 then kal q1275.2.1 q1293.2 ao (0 : Int32) (fun w1316 => (if (lg_cmp w1316 (Int32.toInt64 q1293.1)) = 0 then some (q1275.2.1, q1293.2) else none)) else some (q1275.2.1, q1293.2)) else none))))))))
theorem wg16 {C : CT} {ρ : Nat → Nat} {Y : XS} {cells slots : Nat} (hC : CK C RL cL_law 7 ret 100) {b L : Nat} {xs : Nat → Int32} (hSC : SC C b L xs) (hNc : va_Nc eI eN C.2.2.2.2.1) (n : Nat) (S : PS) (i : Int32) (ax am ao : Nat) (hTx : Ty Y ax 10) (hTm : Ty Y am 11) (hTo : Ty Y ao 15) {o : XS × PS} (hf : g16 xs L n ax am ao i Y S = some o) (hB : XB C (ρ, Y, cells, slots) 8 508) (hK : ∀ ρ' c' z', AG ρ Y ρ' o.1 → c' ≤ cells + 8 → z' ≤ slots + 508 → UW C (ρ', o.1, c', z') o.2 2030 [(4, .int i), (3, .ref (ρ' ao)), (2, .ref (ρ' am)), (1, .ref (ρ' ax)), (0, .ref b)] []) : UW C (ρ, Y, cells, slots) S 1261 [(4, .int i), (3, .ref (ρ ao)), (2, .ref (ρ am)), (1, .ref (ρ ax)), (0, .ref b)] [] := by
  unfold g16 at hf
  have hAG := AG.refl ρ Y
  refine u_aload_n hC dL_law_1261 3 rfl rfl ?_
  refine u_aload_n hC dL_law_1262 4 rfl rfl ?_
  refine u_iload hC dL_law_1263 0 rfl ?_
  refine u_iconst (v := (1 : Int32)) hC dL_law_1265 (by decide) ?_
  refine u_iadd hC dL_law_1266 ?_
  refine u_scr hC hSC dL_law_1267 hf (fun y1267 hf => ?_)
  refine u_aload_n hC dL_law_1268 4 rfl rfl ?_
  refine u_iload hC dL_law_1269 0 rfl ?_
  refine u_iconst (v := (2 : Int32)) hC dL_law_1271 (by decide) ?_
  refine u_iadd hC dL_law_1272 ?_
  refine u_scr hC hSC dL_law_1273 hf (fun y1273 hf => ?_)
  refine u_aload_n hC dL_law_1274 1 rfl rfl ?_
  obtain ⟨q1275, hq1275, hf⟩ := kc_some hf
  refine u_callW (X := (ρ, Y, cells, slots)) (rest := []) hC hNc (ctL_away (cL C) hC.tr (cG C) ρ Y n S ax y1267 y1273 ao hTx hTo hq1275) (hB.more (by omega) (by omega)) lw_L_away (by decide) (by decide) rfl rfl (Nat.le_of_ble_eq_true rfl) dL_law_1275 (fun ρ1275 hag => ?_)
  replace hag : AG ρ Y ρ1275 q1275.2.1 := hag
  show UW C (ρ1275, q1275.2.1, cells + 8, slots + 48) q1275.2.2 _ [(4, .int i), (3, .ref (ρ ao)), (2, .ref (ρ am)), (1, .ref (ρ ax)), (0, .ref b)] [.int q1275.1]
  rw [← (hag ax _ hTx).1, ← (hag am _ hTm).1, ← (hag ao _ hTo).1]
  have hTx := (hag _ _ hTx).2
  have hTm := (hag _ _ hTm).2
  have hTo := (hag _ _ hTo).2
  have hAG := AG.trans hAG hag
  refine u_istore (lv' := [(5, .int q1275.1), (4, .int i), (3, .ref (ρ1275 ao)), (2, .ref (ρ1275 am)), (1, .ref (ρ1275 ax)), (0, .ref b)]) hC dL_law_1278 (by decide) rfl ?_
  refine u_aload_n hC dL_law_1280 3 rfl rfl ?_
  refine u_aload_n hC dL_law_1281 5 rfl rfl ?_
  refine u_iload hC dL_law_1282 1 rfl ?_
  refine u_iconst (v := (1 : Int32)) hC dL_law_1284 (by decide) ?_
  refine u_iadd hC dL_law_1285 ?_
  refine u_scr hC hSC dL_law_1286 hf (fun y1286 hf => ?_)
  refine u_aload_n hC dL_law_1287 5 rfl rfl ?_
  refine u_iload hC dL_law_1288 1 rfl ?_
  refine u_iconst (v := (2 : Int32)) hC dL_law_1290 (by decide) ?_
  refine u_iadd hC dL_law_1291 ?_
  refine u_scr hC hSC dL_law_1292 hf (fun y1292 hf => ?_)
  obtain ⟨q1293, hq1293, hf⟩ := kc_some hf
  refine u_callV (X := (ρ1275, q1275.2.1, cells + 8, slots + 48)) (a := am) (rest := []) hC (ctX11_away (cL C) hC.tr (cG C) ρ1275 q1275.2.1 n q1275.2.2 am y1286 y1292 hTm hq1293) lk_L_159 rfl hTm (by decide) rfl (by decide) (by decide) rfl rfl (Nat.le_of_ble_eq_true rfl) dL_law_1293 ?_
  refine u_istore (lv' := [(6, .int q1293.1), (5, .int q1275.1), (4, .int i), (3, .ref (ρ1275 ao)), (2, .ref (ρ1275 am)), (1, .ref (ρ1275 ax)), (0, .ref b)]) hC dL_law_1296 (by decide) rfl ?_
  refine u_aload_n hC dL_law_1298 4 rfl rfl ?_
  obtain ⟨q1299, hq1299, hf⟩ := kc_some hf
  refine u_callV (X := (ρ1275, q1275.2.1, cells + 8, slots + 48)) (a := am) (rest := []) hC (ctX11_thrown (cL C) hC.tr (cG C) ρ1275 q1275.2.1 n q1293.2 am  hTm hq1299) lk_L_107 rfl hTm (by decide) rfl (by decide) (by decide) rfl rfl (Nat.le_of_ble_eq_true rfl) dL_law_1299 ?_
  refine u_iload hC dL_law_1302 1 rfl ?_
  refine u_icmp_eq (tgt := 1309) hC dL_law_1304 (by decide) hf (fun h1304 hf => ?_) (fun h1304 hf => nomatch hf)
  refine u_iload hC dL_law_1309 1 rfl ?_
  refine u_if_ne (tgt := 1326) hC dL_law_1311 (by decide) hf (fun h1311 hf => ?_) (fun h1311 hf => ?_)
  · skip
    refine u_goto (tgt := 2030) hC dL_law_1326 (by decide) ?_
    refine u_sub (lv' := [(4, .int i), (3, .ref (ρ1275 ao)), (2, .ref (ρ1275 am)), (1, .ref (ρ1275 ax)), (0, .ref b)]) [2, 3, 4, 5, 6] rfl ?_
    cases hf
    exact hK ρ1275 (cells + 8) (slots + 48) hAG (by omega) (by omega)
  · skip
    refine u_aload_n hC dL_law_1314 3 rfl rfl ?_
    refine u_iconst (v := (0 : Int32)) hC dL_law_1315 (by decide) ?_
    refine u_al (X := (ρ1275, q1275.2.1, cells + 8, slots + 48)) (a := ao) hC hTo dL_law_1316 hf (fun w1316 hf => ?_)
    refine u_iload hC dL_law_1317 0 rfl ?_
    refine u_i2l hC dL_law_1319 ?_
    refine u_lcmp hC dL_law_1320 ?_
    refine u_if_eq (tgt := 1326) hC dL_law_1321 (by decide) hf (fun h1321 hf => ?_) (fun h1321 hf => nomatch hf)
    refine u_goto (tgt := 2030) hC dL_law_1326 (by decide) ?_
    refine u_sub (lv' := [(4, .int i), (3, .ref (ρ1275 ao)), (2, .ref (ρ1275 am)), (1, .ref (ρ1275 ax)), (0, .ref b)]) [2, 3, 4, 5, 6] rfl ?_
    cases hf
    exact hK ρ1275 (cells + 8) (slots + 48) hAG (by omega) (by omega)
def g17 (xs : Nat → Int32) (L : Nat) (n : Nat) (ax am ao : Nat) (i : Int32) (Y : XS) (S : PS) : Option (XS × PS) :=
  ksc xs L (i + (1 : Int32)) (fun y1335 => ksc xs L (i + (2 : Int32)) (fun y1341 => kc (fL_with Y n S ax y1335 y1341 ao) (fun q1343 => ksc xs L (i + (1 : Int32)) (fun y1354 => ksc xs L (i + (2 : Int32)) (fun y1360 => kc (fX11_with q1343.2.1 n q1343.2.2 am y1354 y1360) (fun q1361 => kc (fX11_thrown q1343.2.1 n q1361.2 am ) (fun q1367 => (if q1367 = q1343.1 then (if q1343.1 = 0 then kal q1343.2.1 q1361.2 ao (0 : Int32) (fun w1384 => (if (lg_cmp w1384 (Int32.toInt64 q1361.1)) = 0 then some (q1343.2.1, q1361.2) else none)) else some (q1343.2.1, q1361.2)) else none))))))))
theorem wg17 {C : CT} {ρ : Nat → Nat} {Y : XS} {cells slots : Nat} (hC : CK C RL cL_law 7 ret 100) {b L : Nat} {xs : Nat → Int32} (hSC : SC C b L xs) (hNc : va_Nc eI eN C.2.2.2.2.1) (n : Nat) (S : PS) (i : Int32) (ax am ao : Nat) (hTx : Ty Y ax 10) (hTm : Ty Y am 11) (hTo : Ty Y ao 15) {o : XS × PS} (hf : g17 xs L n ax am ao i Y S = some o) (hB : XB C (ρ, Y, cells, slots) 8 508) (hK : ∀ ρ' c' z', AG ρ Y ρ' o.1 → c' ≤ cells + 8 → z' ≤ slots + 508 → UW C (ρ', o.1, c', z') o.2 2030 [(4, .int i), (3, .ref (ρ' ao)), (2, .ref (ρ' am)), (1, .ref (ρ' ax)), (0, .ref b)] []) : UW C (ρ, Y, cells, slots) S 1329 [(4, .int i), (3, .ref (ρ ao)), (2, .ref (ρ am)), (1, .ref (ρ ax)), (0, .ref b)] [] := by
  unfold g17 at hf
  have hAG := AG.refl ρ Y
  refine u_aload_n hC dL_law_1329 3 rfl rfl ?_
  refine u_aload_n hC dL_law_1330 4 rfl rfl ?_
  refine u_iload hC dL_law_1331 0 rfl ?_
  refine u_iconst (v := (1 : Int32)) hC dL_law_1333 (by decide) ?_
  refine u_iadd hC dL_law_1334 ?_
  refine u_scr hC hSC dL_law_1335 hf (fun y1335 hf => ?_)
  refine u_aload_n hC dL_law_1336 4 rfl rfl ?_
  refine u_iload hC dL_law_1337 0 rfl ?_
  refine u_iconst (v := (2 : Int32)) hC dL_law_1339 (by decide) ?_
  refine u_iadd hC dL_law_1340 ?_
  refine u_scr hC hSC dL_law_1341 hf (fun y1341 hf => ?_)
  refine u_aload_n hC dL_law_1342 1 rfl rfl ?_
  obtain ⟨q1343, hq1343, hf⟩ := kc_some hf
  refine u_callW (X := (ρ, Y, cells, slots)) (rest := []) hC hNc (ctL_with (cL C) hC.tr (cG C) ρ Y n S ax y1335 y1341 ao hTx hTo hq1343) (hB.more (by omega) (by omega)) lw_L_with (by decide) (by decide) rfl rfl (Nat.le_of_ble_eq_true rfl) dL_law_1343 (fun ρ1343 hag => ?_)
  replace hag : AG ρ Y ρ1343 q1343.2.1 := hag
  show UW C (ρ1343, q1343.2.1, cells + 8, slots + 48) q1343.2.2 _ [(4, .int i), (3, .ref (ρ ao)), (2, .ref (ρ am)), (1, .ref (ρ ax)), (0, .ref b)] [.int q1343.1]
  rw [← (hag ax _ hTx).1, ← (hag am _ hTm).1, ← (hag ao _ hTo).1]
  have hTx := (hag _ _ hTx).2
  have hTm := (hag _ _ hTm).2
  have hTo := (hag _ _ hTo).2
  have hAG := AG.trans hAG hag
  refine u_istore (lv' := [(5, .int q1343.1), (4, .int i), (3, .ref (ρ1343 ao)), (2, .ref (ρ1343 am)), (1, .ref (ρ1343 ax)), (0, .ref b)]) hC dL_law_1346 (by decide) rfl ?_
  refine u_aload_n hC dL_law_1348 3 rfl rfl ?_
  refine u_aload_n hC dL_law_1349 5 rfl rfl ?_
  refine u_iload hC dL_law_1350 1 rfl ?_
  refine u_iconst (v := (1 : Int32)) hC dL_law_1352 (by decide) ?_
  refine u_iadd hC dL_law_1353 ?_
  refine u_scr hC hSC dL_law_1354 hf (fun y1354 hf => ?_)
  refine u_aload_n hC dL_law_1355 5 rfl rfl ?_
  refine u_iload hC dL_law_1356 1 rfl ?_
  refine u_iconst (v := (2 : Int32)) hC dL_law_1358 (by decide) ?_
  refine u_iadd hC dL_law_1359 ?_
  refine u_scr hC hSC dL_law_1360 hf (fun y1360 hf => ?_)
  obtain ⟨q1361, hq1361, hf⟩ := kc_some hf
  refine u_callV (X := (ρ1343, q1343.2.1, cells + 8, slots + 48)) (a := am) (rest := []) hC (ctX11_with (cL C) hC.tr (cG C) ρ1343 q1343.2.1 n q1343.2.2 am y1354 y1360 hTm hq1361) lk_L_162 rfl hTm (by decide) rfl (by decide) (by decide) rfl rfl (Nat.le_of_ble_eq_true rfl) dL_law_1361 ?_
  refine u_istore (lv' := [(6, .int q1361.1), (5, .int q1343.1), (4, .int i), (3, .ref (ρ1343 ao)), (2, .ref (ρ1343 am)), (1, .ref (ρ1343 ax)), (0, .ref b)]) hC dL_law_1364 (by decide) rfl ?_
  refine u_aload_n hC dL_law_1366 4 rfl rfl ?_
  obtain ⟨q1367, hq1367, hf⟩ := kc_some hf
  refine u_callV (X := (ρ1343, q1343.2.1, cells + 8, slots + 48)) (a := am) (rest := []) hC (ctX11_thrown (cL C) hC.tr (cG C) ρ1343 q1343.2.1 n q1361.2 am  hTm hq1367) lk_L_107 rfl hTm (by decide) rfl (by decide) (by decide) rfl rfl (Nat.le_of_ble_eq_true rfl) dL_law_1367 ?_
  refine u_iload hC dL_law_1370 1 rfl ?_
  refine u_icmp_eq (tgt := 1377) hC dL_law_1372 (by decide) hf (fun h1372 hf => ?_) (fun h1372 hf => nomatch hf)
  refine u_iload hC dL_law_1377 1 rfl ?_
  refine u_if_ne (tgt := 1394) hC dL_law_1379 (by decide) hf (fun h1379 hf => ?_) (fun h1379 hf => ?_)
  · skip
    refine u_goto (tgt := 2030) hC dL_law_1394 (by decide) ?_
    refine u_sub (lv' := [(4, .int i), (3, .ref (ρ1343 ao)), (2, .ref (ρ1343 am)), (1, .ref (ρ1343 ax)), (0, .ref b)]) [2, 3, 4, 5, 6] rfl ?_
    cases hf
    exact hK ρ1343 (cells + 8) (slots + 48) hAG (by omega) (by omega)
  · skip
    refine u_aload_n hC dL_law_1382 3 rfl rfl ?_
    refine u_iconst (v := (0 : Int32)) hC dL_law_1383 (by decide) ?_
    refine u_al (X := (ρ1343, q1343.2.1, cells + 8, slots + 48)) (a := ao) hC hTo dL_law_1384 hf (fun w1384 hf => ?_)
    refine u_iload hC dL_law_1385 0 rfl ?_
    refine u_i2l hC dL_law_1387 ?_
    refine u_lcmp hC dL_law_1388 ?_
    refine u_if_eq (tgt := 1394) hC dL_law_1389 (by decide) hf (fun h1389 hf => ?_) (fun h1389 hf => nomatch hf)
    refine u_goto (tgt := 2030) hC dL_law_1394 (by decide) ?_
    refine u_sub (lv' := [(4, .int i), (3, .ref (ρ1343 ao)), (2, .ref (ρ1343 am)), (1, .ref (ρ1343 ax)), (0, .ref b)]) [2, 3, 4, 5, 6] rfl ?_
    cases hf
    exact hK ρ1343 (cells + 8) (slots + 48) hAG (by omega) (by omega)
def g18 (xs : Nat → Int32) (L : Nat) (n : Nat) (ax am ao : Nat) (i : Int32) (Y : XS) (S : PS) : Option (XS × PS) :=
  ksc xs L (i + (1 : Int32)) (fun y1403 => ksc xs L (i + (2 : Int32)) (fun y1409 => ksc xs L (i + (3 : Int32)) (fun y1415 => ksc xs L (i + (4 : Int32)) (fun y1421 => kc (fL_voting Y n S ax y1403 y1409 y1415 y1421 ao) (fun q1423 => ksc xs L (i + (1 : Int32)) (fun y1434 => ksc xs L (i + (2 : Int32)) (fun y1440 => ksc xs L (i + (3 : Int32)) (fun y1446 => ksc xs L (i + (4 : Int32)) (fun y1452 => kc (fX11_voting q1423.2.1 n q1423.2.2 am y1434 y1440 y1446 y1452) (fun q1453 => kc (fX11_thrown q1423.2.1 n q1453.2 am ) (fun q1459 => (if q1459 = q1423.1 then (if q1423.1 = 0 then kal q1423.2.1 q1453.2 ao (0 : Int32) (fun w1476 => (if (lg_cmp w1476 (Int32.toInt64 q1453.1)) = 0 then some (q1423.2.1, q1453.2) else none)) else some (q1423.2.1, q1453.2)) else none))))))))))))
theorem wg18 {C : CT} {ρ : Nat → Nat} {Y : XS} {cells slots : Nat} (hC : CK C RL cL_law 7 ret 100) {b L : Nat} {xs : Nat → Int32} (hSC : SC C b L xs) (hNc : va_Nc eI eN C.2.2.2.2.1) (n : Nat) (S : PS) (i : Int32) (ax am ao : Nat) (hTx : Ty Y ax 10) (hTm : Ty Y am 11) (hTo : Ty Y ao 15) {o : XS × PS} (hf : g18 xs L n ax am ao i Y S = some o) (hB : XB C (ρ, Y, cells, slots) 8 508) (hK : ∀ ρ' c' z', AG ρ Y ρ' o.1 → c' ≤ cells + 8 → z' ≤ slots + 508 → UW C (ρ', o.1, c', z') o.2 2030 [(4, .int i), (3, .ref (ρ' ao)), (2, .ref (ρ' am)), (1, .ref (ρ' ax)), (0, .ref b)] []) : UW C (ρ, Y, cells, slots) S 1397 [(4, .int i), (3, .ref (ρ ao)), (2, .ref (ρ am)), (1, .ref (ρ ax)), (0, .ref b)] [] := by
  unfold g18 at hf
  have hAG := AG.refl ρ Y
  refine u_aload_n hC dL_law_1397 3 rfl rfl ?_
  refine u_aload_n hC dL_law_1398 4 rfl rfl ?_
  refine u_iload hC dL_law_1399 0 rfl ?_
  refine u_iconst (v := (1 : Int32)) hC dL_law_1401 (by decide) ?_
  refine u_iadd hC dL_law_1402 ?_
  refine u_scr hC hSC dL_law_1403 hf (fun y1403 hf => ?_)
  refine u_aload_n hC dL_law_1404 4 rfl rfl ?_
  refine u_iload hC dL_law_1405 0 rfl ?_
  refine u_iconst (v := (2 : Int32)) hC dL_law_1407 (by decide) ?_
  refine u_iadd hC dL_law_1408 ?_
  refine u_scr hC hSC dL_law_1409 hf (fun y1409 hf => ?_)
  refine u_aload_n hC dL_law_1410 4 rfl rfl ?_
  refine u_iload hC dL_law_1411 0 rfl ?_
  refine u_iconst (v := (3 : Int32)) hC dL_law_1413 (by decide) ?_
  refine u_iadd hC dL_law_1414 ?_
  refine u_scr hC hSC dL_law_1415 hf (fun y1415 hf => ?_)
  refine u_aload_n hC dL_law_1416 4 rfl rfl ?_
  refine u_iload hC dL_law_1417 0 rfl ?_
  refine u_iconst (v := (4 : Int32)) hC dL_law_1419 (by decide) ?_
  refine u_iadd hC dL_law_1420 ?_
  refine u_scr hC hSC dL_law_1421 hf (fun y1421 hf => ?_)
  refine u_aload_n hC dL_law_1422 1 rfl rfl ?_
  obtain ⟨q1423, hq1423, hf⟩ := kc_some hf
  refine u_callW (X := (ρ, Y, cells, slots)) (rest := []) hC hNc (ctL_voting (cL C) hC.tr (cG C) ρ Y n S ax y1403 y1409 y1415 y1421 ao hTx hTo hq1423) (hB.more (by omega) (by omega)) lw_L_voting (by decide) (by decide) rfl rfl (Nat.le_of_ble_eq_true rfl) dL_law_1423 (fun ρ1423 hag => ?_)
  replace hag : AG ρ Y ρ1423 q1423.2.1 := hag
  show UW C (ρ1423, q1423.2.1, cells + 8, slots + 48) q1423.2.2 _ [(4, .int i), (3, .ref (ρ ao)), (2, .ref (ρ am)), (1, .ref (ρ ax)), (0, .ref b)] [.int q1423.1]
  rw [← (hag ax _ hTx).1, ← (hag am _ hTm).1, ← (hag ao _ hTo).1]
  have hTx := (hag _ _ hTx).2
  have hTm := (hag _ _ hTm).2
  have hTo := (hag _ _ hTo).2
  have hAG := AG.trans hAG hag
  refine u_istore (lv' := [(5, .int q1423.1), (4, .int i), (3, .ref (ρ1423 ao)), (2, .ref (ρ1423 am)), (1, .ref (ρ1423 ax)), (0, .ref b)]) hC dL_law_1426 (by decide) rfl ?_
  refine u_aload_n hC dL_law_1428 3 rfl rfl ?_
  refine u_aload_n hC dL_law_1429 5 rfl rfl ?_
  refine u_iload hC dL_law_1430 1 rfl ?_
  refine u_iconst (v := (1 : Int32)) hC dL_law_1432 (by decide) ?_
  refine u_iadd hC dL_law_1433 ?_
  refine u_scr hC hSC dL_law_1434 hf (fun y1434 hf => ?_)
  refine u_aload_n hC dL_law_1435 5 rfl rfl ?_
  refine u_iload hC dL_law_1436 1 rfl ?_
  refine u_iconst (v := (2 : Int32)) hC dL_law_1438 (by decide) ?_
  refine u_iadd hC dL_law_1439 ?_
  refine u_scr hC hSC dL_law_1440 hf (fun y1440 hf => ?_)
  refine u_aload_n hC dL_law_1441 5 rfl rfl ?_
  refine u_iload hC dL_law_1442 1 rfl ?_
  refine u_iconst (v := (3 : Int32)) hC dL_law_1444 (by decide) ?_
  refine u_iadd hC dL_law_1445 ?_
  refine u_scr hC hSC dL_law_1446 hf (fun y1446 hf => ?_)
  refine u_aload_n hC dL_law_1447 5 rfl rfl ?_
  refine u_iload hC dL_law_1448 1 rfl ?_
  refine u_iconst (v := (4 : Int32)) hC dL_law_1450 (by decide) ?_
  refine u_iadd hC dL_law_1451 ?_
  refine u_scr hC hSC dL_law_1452 hf (fun y1452 hf => ?_)
  obtain ⟨q1453, hq1453, hf⟩ := kc_some hf
  refine u_callV (X := (ρ1423, q1423.2.1, cells + 8, slots + 48)) (a := am) (rest := []) hC (ctX11_voting (cL C) hC.tr (cG C) ρ1423 q1423.2.1 n q1423.2.2 am y1434 y1440 y1446 y1452 hTm hq1453) lk_L_166 rfl hTm (by decide) rfl (by decide) (by decide) rfl rfl (Nat.le_of_ble_eq_true rfl) dL_law_1453 ?_
  refine u_istore (lv' := [(6, .int q1453.1), (5, .int q1423.1), (4, .int i), (3, .ref (ρ1423 ao)), (2, .ref (ρ1423 am)), (1, .ref (ρ1423 ax)), (0, .ref b)]) hC dL_law_1456 (by decide) rfl ?_
  refine u_aload_n hC dL_law_1458 4 rfl rfl ?_
  obtain ⟨q1459, hq1459, hf⟩ := kc_some hf
  refine u_callV (X := (ρ1423, q1423.2.1, cells + 8, slots + 48)) (a := am) (rest := []) hC (ctX11_thrown (cL C) hC.tr (cG C) ρ1423 q1423.2.1 n q1453.2 am  hTm hq1459) lk_L_107 rfl hTm (by decide) rfl (by decide) (by decide) rfl rfl (Nat.le_of_ble_eq_true rfl) dL_law_1459 ?_
  refine u_iload hC dL_law_1462 1 rfl ?_
  refine u_icmp_eq (tgt := 1469) hC dL_law_1464 (by decide) hf (fun h1464 hf => ?_) (fun h1464 hf => nomatch hf)
  refine u_iload hC dL_law_1469 1 rfl ?_
  refine u_if_ne (tgt := 1486) hC dL_law_1471 (by decide) hf (fun h1471 hf => ?_) (fun h1471 hf => ?_)
  · skip
    refine u_goto (tgt := 2030) hC dL_law_1486 (by decide) ?_
    refine u_sub (lv' := [(4, .int i), (3, .ref (ρ1423 ao)), (2, .ref (ρ1423 am)), (1, .ref (ρ1423 ax)), (0, .ref b)]) [2, 3, 4, 5, 6] rfl ?_
    cases hf
    exact hK ρ1423 (cells + 8) (slots + 48) hAG (by omega) (by omega)
  · skip
    refine u_aload_n hC dL_law_1474 3 rfl rfl ?_
    refine u_iconst (v := (0 : Int32)) hC dL_law_1475 (by decide) ?_
    refine u_al (X := (ρ1423, q1423.2.1, cells + 8, slots + 48)) (a := ao) hC hTo dL_law_1476 hf (fun w1476 hf => ?_)
    refine u_iload hC dL_law_1477 0 rfl ?_
    refine u_i2l hC dL_law_1479 ?_
    refine u_lcmp hC dL_law_1480 ?_
    refine u_if_eq (tgt := 1486) hC dL_law_1481 (by decide) hf (fun h1481 hf => ?_) (fun h1481 hf => nomatch hf)
    refine u_goto (tgt := 2030) hC dL_law_1486 (by decide) ?_
    refine u_sub (lv' := [(4, .int i), (3, .ref (ρ1423 ao)), (2, .ref (ρ1423 am)), (1, .ref (ρ1423 ax)), (0, .ref b)]) [2, 3, 4, 5, 6] rfl ?_
    cases hf
    exact hK ρ1423 (cells + 8) (slots + 48) hAG (by omega) (by omega)
def g19 (xs : Nat → Int32) (L : Nat) (n : Nat) (ax am ao : Nat) (i : Int32) (Y : XS) (S : PS) : Option (XS × PS) :=
  ksc xs L (i + (1 : Int32)) (fun y1495 => ksc xs L (i + (2 : Int32)) (fun y1501 => ksc xs L (i + (3 : Int32)) (fun y1507 => kc (fL_ride Y n S ax y1495 y1501 y1507 ao) (fun q1509 => ksc xs L (i + (1 : Int32)) (fun y1520 => ksc xs L (i + (2 : Int32)) (fun y1526 => ksc xs L (i + (3 : Int32)) (fun y1532 => kc (fX11_ride q1509.2.1 n q1509.2.2 am y1520 y1526 y1532) (fun q1533 => kc (fX11_thrown q1509.2.1 n q1533.2 am ) (fun q1539 => (if q1539 = q1509.1 then (if q1509.1 = 0 then kal q1509.2.1 q1533.2 ao (0 : Int32) (fun w1556 => (if (lg_cmp w1556 (Int32.toInt64 q1533.1)) = 0 then some (q1509.2.1, q1533.2) else none)) else some (q1509.2.1, q1533.2)) else none))))))))))
theorem wg19 {C : CT} {ρ : Nat → Nat} {Y : XS} {cells slots : Nat} (hC : CK C RL cL_law 7 ret 100) {b L : Nat} {xs : Nat → Int32} (hSC : SC C b L xs) (hNc : va_Nc eI eN C.2.2.2.2.1) (n : Nat) (S : PS) (i : Int32) (ax am ao : Nat) (hTx : Ty Y ax 10) (hTm : Ty Y am 11) (hTo : Ty Y ao 15) {o : XS × PS} (hf : g19 xs L n ax am ao i Y S = some o) (hB : XB C (ρ, Y, cells, slots) 8 508) (hK : ∀ ρ' c' z', AG ρ Y ρ' o.1 → c' ≤ cells + 8 → z' ≤ slots + 508 → UW C (ρ', o.1, c', z') o.2 2030 [(4, .int i), (3, .ref (ρ' ao)), (2, .ref (ρ' am)), (1, .ref (ρ' ax)), (0, .ref b)] []) : UW C (ρ, Y, cells, slots) S 1489 [(4, .int i), (3, .ref (ρ ao)), (2, .ref (ρ am)), (1, .ref (ρ ax)), (0, .ref b)] [] := by
  unfold g19 at hf
  have hAG := AG.refl ρ Y
  refine u_aload_n hC dL_law_1489 3 rfl rfl ?_
  refine u_aload_n hC dL_law_1490 4 rfl rfl ?_
  refine u_iload hC dL_law_1491 0 rfl ?_
  refine u_iconst (v := (1 : Int32)) hC dL_law_1493 (by decide) ?_
  refine u_iadd hC dL_law_1494 ?_
  refine u_scr hC hSC dL_law_1495 hf (fun y1495 hf => ?_)
  refine u_aload_n hC dL_law_1496 4 rfl rfl ?_
  refine u_iload hC dL_law_1497 0 rfl ?_
  refine u_iconst (v := (2 : Int32)) hC dL_law_1499 (by decide) ?_
  refine u_iadd hC dL_law_1500 ?_
  refine u_scr hC hSC dL_law_1501 hf (fun y1501 hf => ?_)
  refine u_aload_n hC dL_law_1502 4 rfl rfl ?_
  refine u_iload hC dL_law_1503 0 rfl ?_
  refine u_iconst (v := (3 : Int32)) hC dL_law_1505 (by decide) ?_
  refine u_iadd hC dL_law_1506 ?_
  refine u_scr hC hSC dL_law_1507 hf (fun y1507 hf => ?_)
  refine u_aload_n hC dL_law_1508 1 rfl rfl ?_
  obtain ⟨q1509, hq1509, hf⟩ := kc_some hf
  refine u_callW (X := (ρ, Y, cells, slots)) (rest := []) hC hNc (ctL_ride (cL C) hC.tr (cG C) ρ Y n S ax y1495 y1501 y1507 ao hTx hTo hq1509) (hB.more (by omega) (by omega)) lw_L_ride (by decide) (by decide) rfl rfl (Nat.le_of_ble_eq_true rfl) dL_law_1509 (fun ρ1509 hag => ?_)
  replace hag : AG ρ Y ρ1509 q1509.2.1 := hag
  show UW C (ρ1509, q1509.2.1, cells + 8, slots + 48) q1509.2.2 _ [(4, .int i), (3, .ref (ρ ao)), (2, .ref (ρ am)), (1, .ref (ρ ax)), (0, .ref b)] [.int q1509.1]
  rw [← (hag ax _ hTx).1, ← (hag am _ hTm).1, ← (hag ao _ hTo).1]
  have hTx := (hag _ _ hTx).2
  have hTm := (hag _ _ hTm).2
  have hTo := (hag _ _ hTo).2
  have hAG := AG.trans hAG hag
  refine u_istore (lv' := [(5, .int q1509.1), (4, .int i), (3, .ref (ρ1509 ao)), (2, .ref (ρ1509 am)), (1, .ref (ρ1509 ax)), (0, .ref b)]) hC dL_law_1512 (by decide) rfl ?_
  refine u_aload_n hC dL_law_1514 3 rfl rfl ?_
  refine u_aload_n hC dL_law_1515 5 rfl rfl ?_
  refine u_iload hC dL_law_1516 1 rfl ?_
  refine u_iconst (v := (1 : Int32)) hC dL_law_1518 (by decide) ?_
  refine u_iadd hC dL_law_1519 ?_
  refine u_scr hC hSC dL_law_1520 hf (fun y1520 hf => ?_)
  refine u_aload_n hC dL_law_1521 5 rfl rfl ?_
  refine u_iload hC dL_law_1522 1 rfl ?_
  refine u_iconst (v := (2 : Int32)) hC dL_law_1524 (by decide) ?_
  refine u_iadd hC dL_law_1525 ?_
  refine u_scr hC hSC dL_law_1526 hf (fun y1526 hf => ?_)
  refine u_aload_n hC dL_law_1527 5 rfl rfl ?_
  refine u_iload hC dL_law_1528 1 rfl ?_
  refine u_iconst (v := (3 : Int32)) hC dL_law_1530 (by decide) ?_
  refine u_iadd hC dL_law_1531 ?_
  refine u_scr hC hSC dL_law_1532 hf (fun y1532 hf => ?_)
  obtain ⟨q1533, hq1533, hf⟩ := kc_some hf
  refine u_callV (X := (ρ1509, q1509.2.1, cells + 8, slots + 48)) (a := am) (rest := []) hC (ctX11_ride (cL C) hC.tr (cG C) ρ1509 q1509.2.1 n q1509.2.2 am y1520 y1526 y1532 hTm hq1533) lk_L_169 rfl hTm (by decide) rfl (by decide) (by decide) rfl rfl (Nat.le_of_ble_eq_true rfl) dL_law_1533 ?_
  refine u_istore (lv' := [(6, .int q1533.1), (5, .int q1509.1), (4, .int i), (3, .ref (ρ1509 ao)), (2, .ref (ρ1509 am)), (1, .ref (ρ1509 ax)), (0, .ref b)]) hC dL_law_1536 (by decide) rfl ?_
  refine u_aload_n hC dL_law_1538 4 rfl rfl ?_
  obtain ⟨q1539, hq1539, hf⟩ := kc_some hf
  refine u_callV (X := (ρ1509, q1509.2.1, cells + 8, slots + 48)) (a := am) (rest := []) hC (ctX11_thrown (cL C) hC.tr (cG C) ρ1509 q1509.2.1 n q1533.2 am  hTm hq1539) lk_L_107 rfl hTm (by decide) rfl (by decide) (by decide) rfl rfl (Nat.le_of_ble_eq_true rfl) dL_law_1539 ?_
  refine u_iload hC dL_law_1542 1 rfl ?_
  refine u_icmp_eq (tgt := 1549) hC dL_law_1544 (by decide) hf (fun h1544 hf => ?_) (fun h1544 hf => nomatch hf)
  refine u_iload hC dL_law_1549 1 rfl ?_
  refine u_if_ne (tgt := 1566) hC dL_law_1551 (by decide) hf (fun h1551 hf => ?_) (fun h1551 hf => ?_)
  · skip
    refine u_goto (tgt := 2030) hC dL_law_1566 (by decide) ?_
    refine u_sub (lv' := [(4, .int i), (3, .ref (ρ1509 ao)), (2, .ref (ρ1509 am)), (1, .ref (ρ1509 ax)), (0, .ref b)]) [2, 3, 4, 5, 6] rfl ?_
    cases hf
    exact hK ρ1509 (cells + 8) (slots + 48) hAG (by omega) (by omega)
  · skip
    refine u_aload_n hC dL_law_1554 3 rfl rfl ?_
    refine u_iconst (v := (0 : Int32)) hC dL_law_1555 (by decide) ?_
    refine u_al (X := (ρ1509, q1509.2.1, cells + 8, slots + 48)) (a := ao) hC hTo dL_law_1556 hf (fun w1556 hf => ?_)
    refine u_iload hC dL_law_1557 0 rfl ?_
    refine u_i2l hC dL_law_1559 ?_
    refine u_lcmp hC dL_law_1560 ?_
    refine u_if_eq (tgt := 1566) hC dL_law_1561 (by decide) hf (fun h1561 hf => ?_) (fun h1561 hf => nomatch hf)
    refine u_goto (tgt := 2030) hC dL_law_1566 (by decide) ?_
    refine u_sub (lv' := [(4, .int i), (3, .ref (ρ1509 ao)), (2, .ref (ρ1509 am)), (1, .ref (ρ1509 ax)), (0, .ref b)]) [2, 3, 4, 5, 6] rfl ?_
    cases hf
    exact hK ρ1509 (cells + 8) (slots + 48) hAG (by omega) (by omega)
def g20 (xs : Nat → Int32) (L : Nat) (n : Nat) (ax am ao : Nat) (i : Int32) (Y : XS) (S : PS) : Option (XS × PS) :=
  ksc xs L (i + (1 : Int32)) (fun y1575 => ksc xs L (i + (2 : Int32)) (fun y1581 => kc (fL_push Y n S ax y1575 y1581 ao) (fun q1583 => ksc xs L (i + (1 : Int32)) (fun y1594 => ksc xs L (i + (2 : Int32)) (fun y1600 => kc (fX11_push q1583.2.1 n q1583.2.2 am y1594 y1600) (fun q1601 => kc (fX11_thrown q1583.2.1 n q1601.2 am ) (fun q1607 => (if q1607 = q1583.1 then (if q1583.1 = 0 then kal q1583.2.1 q1601.2 ao (0 : Int32) (fun w1624 => (if (lg_cmp w1624 (Int32.toInt64 q1601.1)) = 0 then some (q1583.2.1, q1601.2) else none)) else some (q1583.2.1, q1601.2)) else none))))))))
theorem wg20 {C : CT} {ρ : Nat → Nat} {Y : XS} {cells slots : Nat} (hC : CK C RL cL_law 7 ret 100) {b L : Nat} {xs : Nat → Int32} (hSC : SC C b L xs) (hNc : va_Nc eI eN C.2.2.2.2.1) (n : Nat) (S : PS) (i : Int32) (ax am ao : Nat) (hTx : Ty Y ax 10) (hTm : Ty Y am 11) (hTo : Ty Y ao 15) {o : XS × PS} (hf : g20 xs L n ax am ao i Y S = some o) (hB : XB C (ρ, Y, cells, slots) 8 508) (hK : ∀ ρ' c' z', AG ρ Y ρ' o.1 → c' ≤ cells + 8 → z' ≤ slots + 508 → UW C (ρ', o.1, c', z') o.2 2030 [(4, .int i), (3, .ref (ρ' ao)), (2, .ref (ρ' am)), (1, .ref (ρ' ax)), (0, .ref b)] []) : UW C (ρ, Y, cells, slots) S 1569 [(4, .int i), (3, .ref (ρ ao)), (2, .ref (ρ am)), (1, .ref (ρ ax)), (0, .ref b)] [] := by
  unfold g20 at hf
  have hAG := AG.refl ρ Y
  refine u_aload_n hC dL_law_1569 3 rfl rfl ?_
  refine u_aload_n hC dL_law_1570 4 rfl rfl ?_
  refine u_iload hC dL_law_1571 0 rfl ?_
  refine u_iconst (v := (1 : Int32)) hC dL_law_1573 (by decide) ?_
  refine u_iadd hC dL_law_1574 ?_
  refine u_scr hC hSC dL_law_1575 hf (fun y1575 hf => ?_)
  refine u_aload_n hC dL_law_1576 4 rfl rfl ?_
  refine u_iload hC dL_law_1577 0 rfl ?_
  refine u_iconst (v := (2 : Int32)) hC dL_law_1579 (by decide) ?_
  refine u_iadd hC dL_law_1580 ?_
  refine u_scr hC hSC dL_law_1581 hf (fun y1581 hf => ?_)
  refine u_aload_n hC dL_law_1582 1 rfl rfl ?_
  obtain ⟨q1583, hq1583, hf⟩ := kc_some hf
  refine u_callW (X := (ρ, Y, cells, slots)) (rest := []) hC hNc (ctL_push (cL C) hC.tr (cG C) ρ Y n S ax y1575 y1581 ao hTx hTo hq1583) (hB.more (by omega) (by omega)) lw_L_push (by decide) (by decide) rfl rfl (Nat.le_of_ble_eq_true rfl) dL_law_1583 (fun ρ1583 hag => ?_)
  replace hag : AG ρ Y ρ1583 q1583.2.1 := hag
  show UW C (ρ1583, q1583.2.1, cells + 8, slots + 48) q1583.2.2 _ [(4, .int i), (3, .ref (ρ ao)), (2, .ref (ρ am)), (1, .ref (ρ ax)), (0, .ref b)] [.int q1583.1]
  rw [← (hag ax _ hTx).1, ← (hag am _ hTm).1, ← (hag ao _ hTo).1]
  have hTx := (hag _ _ hTx).2
  have hTm := (hag _ _ hTm).2
  have hTo := (hag _ _ hTo).2
  have hAG := AG.trans hAG hag
  refine u_istore (lv' := [(5, .int q1583.1), (4, .int i), (3, .ref (ρ1583 ao)), (2, .ref (ρ1583 am)), (1, .ref (ρ1583 ax)), (0, .ref b)]) hC dL_law_1586 (by decide) rfl ?_
  refine u_aload_n hC dL_law_1588 3 rfl rfl ?_
  refine u_aload_n hC dL_law_1589 5 rfl rfl ?_
  refine u_iload hC dL_law_1590 1 rfl ?_
  refine u_iconst (v := (1 : Int32)) hC dL_law_1592 (by decide) ?_
  refine u_iadd hC dL_law_1593 ?_
  refine u_scr hC hSC dL_law_1594 hf (fun y1594 hf => ?_)
  refine u_aload_n hC dL_law_1595 5 rfl rfl ?_
  refine u_iload hC dL_law_1596 1 rfl ?_
  refine u_iconst (v := (2 : Int32)) hC dL_law_1598 (by decide) ?_
  refine u_iadd hC dL_law_1599 ?_
  refine u_scr hC hSC dL_law_1600 hf (fun y1600 hf => ?_)
  obtain ⟨q1601, hq1601, hf⟩ := kc_some hf
  refine u_callV (X := (ρ1583, q1583.2.1, cells + 8, slots + 48)) (a := am) (rest := []) hC (ctX11_push (cL C) hC.tr (cG C) ρ1583 q1583.2.1 n q1583.2.2 am y1594 y1600 hTm hq1601) lk_L_172 rfl hTm (by decide) rfl (by decide) (by decide) rfl rfl (Nat.le_of_ble_eq_true rfl) dL_law_1601 ?_
  refine u_istore (lv' := [(6, .int q1601.1), (5, .int q1583.1), (4, .int i), (3, .ref (ρ1583 ao)), (2, .ref (ρ1583 am)), (1, .ref (ρ1583 ax)), (0, .ref b)]) hC dL_law_1604 (by decide) rfl ?_
  refine u_aload_n hC dL_law_1606 4 rfl rfl ?_
  obtain ⟨q1607, hq1607, hf⟩ := kc_some hf
  refine u_callV (X := (ρ1583, q1583.2.1, cells + 8, slots + 48)) (a := am) (rest := []) hC (ctX11_thrown (cL C) hC.tr (cG C) ρ1583 q1583.2.1 n q1601.2 am  hTm hq1607) lk_L_107 rfl hTm (by decide) rfl (by decide) (by decide) rfl rfl (Nat.le_of_ble_eq_true rfl) dL_law_1607 ?_
  refine u_iload hC dL_law_1610 1 rfl ?_
  refine u_icmp_eq (tgt := 1617) hC dL_law_1612 (by decide) hf (fun h1612 hf => ?_) (fun h1612 hf => nomatch hf)
  refine u_iload hC dL_law_1617 1 rfl ?_
  refine u_if_ne (tgt := 1634) hC dL_law_1619 (by decide) hf (fun h1619 hf => ?_) (fun h1619 hf => ?_)
  · skip
    refine u_goto (tgt := 2030) hC dL_law_1634 (by decide) ?_
    refine u_sub (lv' := [(4, .int i), (3, .ref (ρ1583 ao)), (2, .ref (ρ1583 am)), (1, .ref (ρ1583 ax)), (0, .ref b)]) [2, 3, 4, 5, 6] rfl ?_
    cases hf
    exact hK ρ1583 (cells + 8) (slots + 48) hAG (by omega) (by omega)
  · skip
    refine u_aload_n hC dL_law_1622 3 rfl rfl ?_
    refine u_iconst (v := (0 : Int32)) hC dL_law_1623 (by decide) ?_
    refine u_al (X := (ρ1583, q1583.2.1, cells + 8, slots + 48)) (a := ao) hC hTo dL_law_1624 hf (fun w1624 hf => ?_)
    refine u_iload hC dL_law_1625 0 rfl ?_
    refine u_i2l hC dL_law_1627 ?_
    refine u_lcmp hC dL_law_1628 ?_
    refine u_if_eq (tgt := 1634) hC dL_law_1629 (by decide) hf (fun h1629 hf => ?_) (fun h1629 hf => nomatch hf)
    refine u_goto (tgt := 2030) hC dL_law_1634 (by decide) ?_
    refine u_sub (lv' := [(4, .int i), (3, .ref (ρ1583 ao)), (2, .ref (ρ1583 am)), (1, .ref (ρ1583 ax)), (0, .ref b)]) [2, 3, 4, 5, 6] rfl ?_
    cases hf
    exact hK ρ1583 (cells + 8) (slots + 48) hAG (by omega) (by omega)
def g21 (xs : Nat → Int32) (L : Nat) (n : Nat) (ax am ao : Nat) (i : Int32) (Y : XS) (S : PS) : Option (XS × PS) :=
  ksc xs L (i + (1 : Int32)) (fun y1643 => ksc xs L (i + (2 : Int32)) (fun y1649 => kc (fL_discount Y n S ax y1643 y1649 ao) (fun q1651 => ksc xs L (i + (1 : Int32)) (fun y1662 => ksc xs L (i + (2 : Int32)) (fun y1668 => kc (fX11_discount q1651.2.1 n q1651.2.2 am y1662 y1668) (fun q1669 => kc (fX11_thrown q1651.2.1 n q1669.2 am ) (fun q1675 => (if q1675 = q1651.1 then (if q1651.1 = 0 then kal q1651.2.1 q1669.2 ao (0 : Int32) (fun w1692 => (if (lg_cmp w1692 (Int32.toInt64 q1669.1)) = 0 then some (q1651.2.1, q1669.2) else none)) else some (q1651.2.1, q1669.2)) else none))))))))
theorem wg21 {C : CT} {ρ : Nat → Nat} {Y : XS} {cells slots : Nat} (hC : CK C RL cL_law 7 ret 100) {b L : Nat} {xs : Nat → Int32} (hSC : SC C b L xs) (hNc : va_Nc eI eN C.2.2.2.2.1) (n : Nat) (S : PS) (i : Int32) (ax am ao : Nat) (hTx : Ty Y ax 10) (hTm : Ty Y am 11) (hTo : Ty Y ao 15) {o : XS × PS} (hf : g21 xs L n ax am ao i Y S = some o) (hB : XB C (ρ, Y, cells, slots) 8 508) (hK : ∀ ρ' c' z', AG ρ Y ρ' o.1 → c' ≤ cells + 8 → z' ≤ slots + 508 → UW C (ρ', o.1, c', z') o.2 2030 [(4, .int i), (3, .ref (ρ' ao)), (2, .ref (ρ' am)), (1, .ref (ρ' ax)), (0, .ref b)] []) : UW C (ρ, Y, cells, slots) S 1637 [(4, .int i), (3, .ref (ρ ao)), (2, .ref (ρ am)), (1, .ref (ρ ax)), (0, .ref b)] [] := by
  unfold g21 at hf
  have hAG := AG.refl ρ Y
  refine u_aload_n hC dL_law_1637 3 rfl rfl ?_
  refine u_aload_n hC dL_law_1638 4 rfl rfl ?_
  refine u_iload hC dL_law_1639 0 rfl ?_
  refine u_iconst (v := (1 : Int32)) hC dL_law_1641 (by decide) ?_
  refine u_iadd hC dL_law_1642 ?_
  refine u_scr hC hSC dL_law_1643 hf (fun y1643 hf => ?_)
  refine u_aload_n hC dL_law_1644 4 rfl rfl ?_
  refine u_iload hC dL_law_1645 0 rfl ?_
  refine u_iconst (v := (2 : Int32)) hC dL_law_1647 (by decide) ?_
  refine u_iadd hC dL_law_1648 ?_
  refine u_scr hC hSC dL_law_1649 hf (fun y1649 hf => ?_)
  refine u_aload_n hC dL_law_1650 1 rfl rfl ?_
  obtain ⟨q1651, hq1651, hf⟩ := kc_some hf
  refine u_callW (X := (ρ, Y, cells, slots)) (rest := []) hC hNc (ctL_discount (cL C) hC.tr (cG C) ρ Y n S ax y1643 y1649 ao hTx hTo hq1651) (hB.more (by omega) (by omega)) lw_L_discount (by decide) (by decide) rfl rfl (Nat.le_of_ble_eq_true rfl) dL_law_1651 (fun ρ1651 hag => ?_)
  replace hag : AG ρ Y ρ1651 q1651.2.1 := hag
  show UW C (ρ1651, q1651.2.1, cells + 8, slots + 48) q1651.2.2 _ [(4, .int i), (3, .ref (ρ ao)), (2, .ref (ρ am)), (1, .ref (ρ ax)), (0, .ref b)] [.int q1651.1]
  rw [← (hag ax _ hTx).1, ← (hag am _ hTm).1, ← (hag ao _ hTo).1]
  have hTx := (hag _ _ hTx).2
  have hTm := (hag _ _ hTm).2
  have hTo := (hag _ _ hTo).2
  have hAG := AG.trans hAG hag
  refine u_istore (lv' := [(5, .int q1651.1), (4, .int i), (3, .ref (ρ1651 ao)), (2, .ref (ρ1651 am)), (1, .ref (ρ1651 ax)), (0, .ref b)]) hC dL_law_1654 (by decide) rfl ?_
  refine u_aload_n hC dL_law_1656 3 rfl rfl ?_
  refine u_aload_n hC dL_law_1657 5 rfl rfl ?_
  refine u_iload hC dL_law_1658 1 rfl ?_
  refine u_iconst (v := (1 : Int32)) hC dL_law_1660 (by decide) ?_
  refine u_iadd hC dL_law_1661 ?_
  refine u_scr hC hSC dL_law_1662 hf (fun y1662 hf => ?_)
  refine u_aload_n hC dL_law_1663 5 rfl rfl ?_
  refine u_iload hC dL_law_1664 1 rfl ?_
  refine u_iconst (v := (2 : Int32)) hC dL_law_1666 (by decide) ?_
  refine u_iadd hC dL_law_1667 ?_
  refine u_scr hC hSC dL_law_1668 hf (fun y1668 hf => ?_)
  obtain ⟨q1669, hq1669, hf⟩ := kc_some hf
  refine u_callV (X := (ρ1651, q1651.2.1, cells + 8, slots + 48)) (a := am) (rest := []) hC (ctX11_discount (cL C) hC.tr (cG C) ρ1651 q1651.2.1 n q1651.2.2 am y1662 y1668 hTm hq1669) lk_L_175 rfl hTm (by decide) rfl (by decide) (by decide) rfl rfl (Nat.le_of_ble_eq_true rfl) dL_law_1669 ?_
  refine u_istore (lv' := [(6, .int q1669.1), (5, .int q1651.1), (4, .int i), (3, .ref (ρ1651 ao)), (2, .ref (ρ1651 am)), (1, .ref (ρ1651 ax)), (0, .ref b)]) hC dL_law_1672 (by decide) rfl ?_
  refine u_aload_n hC dL_law_1674 4 rfl rfl ?_
  obtain ⟨q1675, hq1675, hf⟩ := kc_some hf
  refine u_callV (X := (ρ1651, q1651.2.1, cells + 8, slots + 48)) (a := am) (rest := []) hC (ctX11_thrown (cL C) hC.tr (cG C) ρ1651 q1651.2.1 n q1669.2 am  hTm hq1675) lk_L_107 rfl hTm (by decide) rfl (by decide) (by decide) rfl rfl (Nat.le_of_ble_eq_true rfl) dL_law_1675 ?_
  refine u_iload hC dL_law_1678 1 rfl ?_
  refine u_icmp_eq (tgt := 1685) hC dL_law_1680 (by decide) hf (fun h1680 hf => ?_) (fun h1680 hf => nomatch hf)
  refine u_iload hC dL_law_1685 1 rfl ?_
  refine u_if_ne (tgt := 1702) hC dL_law_1687 (by decide) hf (fun h1687 hf => ?_) (fun h1687 hf => ?_)
  · skip
    refine u_goto (tgt := 2030) hC dL_law_1702 (by decide) ?_
    refine u_sub (lv' := [(4, .int i), (3, .ref (ρ1651 ao)), (2, .ref (ρ1651 am)), (1, .ref (ρ1651 ax)), (0, .ref b)]) [2, 3, 4, 5, 6] rfl ?_
    cases hf
    exact hK ρ1651 (cells + 8) (slots + 48) hAG (by omega) (by omega)
  · skip
    refine u_aload_n hC dL_law_1690 3 rfl rfl ?_
    refine u_iconst (v := (0 : Int32)) hC dL_law_1691 (by decide) ?_
    refine u_al (X := (ρ1651, q1651.2.1, cells + 8, slots + 48)) (a := ao) hC hTo dL_law_1692 hf (fun w1692 hf => ?_)
    refine u_iload hC dL_law_1693 0 rfl ?_
    refine u_i2l hC dL_law_1695 ?_
    refine u_lcmp hC dL_law_1696 ?_
    refine u_if_eq (tgt := 1702) hC dL_law_1697 (by decide) hf (fun h1697 hf => ?_) (fun h1697 hf => nomatch hf)
    refine u_goto (tgt := 2030) hC dL_law_1702 (by decide) ?_
    refine u_sub (lv' := [(4, .int i), (3, .ref (ρ1651 ao)), (2, .ref (ρ1651 am)), (1, .ref (ρ1651 ax)), (0, .ref b)]) [2, 3, 4, 5, 6] rfl ?_
    cases hf
    exact hK ρ1651 (cells + 8) (slots + 48) hAG (by omega) (by omega)
def g22 (xs : Nat → Int32) (L : Nat) (n : Nat) (ax am ao : Nat) (i : Int32) (Y : XS) (S : PS) : Option (XS × PS) :=
  ksc xs L (i + (1 : Int32)) (fun y1711 => kc (fL_budget Y n S ax y1711 ao) (fun q1713 => ksc xs L (i + (1 : Int32)) (fun y1724 => kc (fX11_budget q1713.2.1 n q1713.2.2 am y1724) (fun q1725 => kc (fX11_thrown q1713.2.1 n q1725.2 am ) (fun q1731 => (if q1731 = q1713.1 then (if q1713.1 = 0 then kal q1713.2.1 q1725.2 ao (0 : Int32) (fun w1748 => (if (lg_cmp w1748 (Int32.toInt64 q1725.1)) = 0 then some (q1713.2.1, q1725.2) else none)) else some (q1713.2.1, q1725.2)) else none))))))
theorem wg22 {C : CT} {ρ : Nat → Nat} {Y : XS} {cells slots : Nat} (hC : CK C RL cL_law 7 ret 100) {b L : Nat} {xs : Nat → Int32} (hSC : SC C b L xs) (hNc : va_Nc eI eN C.2.2.2.2.1) (n : Nat) (S : PS) (i : Int32) (ax am ao : Nat) (hTx : Ty Y ax 10) (hTm : Ty Y am 11) (hTo : Ty Y ao 15) {o : XS × PS} (hf : g22 xs L n ax am ao i Y S = some o) (hB : XB C (ρ, Y, cells, slots) 8 508) (hK : ∀ ρ' c' z', AG ρ Y ρ' o.1 → c' ≤ cells + 8 → z' ≤ slots + 508 → UW C (ρ', o.1, c', z') o.2 2030 [(4, .int i), (3, .ref (ρ' ao)), (2, .ref (ρ' am)), (1, .ref (ρ' ax)), (0, .ref b)] []) : UW C (ρ, Y, cells, slots) S 1705 [(4, .int i), (3, .ref (ρ ao)), (2, .ref (ρ am)), (1, .ref (ρ ax)), (0, .ref b)] [] := by
  unfold g22 at hf
  have hAG := AG.refl ρ Y
  refine u_aload_n hC dL_law_1705 3 rfl rfl ?_
  refine u_aload_n hC dL_law_1706 4 rfl rfl ?_
  refine u_iload hC dL_law_1707 0 rfl ?_
  refine u_iconst (v := (1 : Int32)) hC dL_law_1709 (by decide) ?_
  refine u_iadd hC dL_law_1710 ?_
  refine u_scr hC hSC dL_law_1711 hf (fun y1711 hf => ?_)
  refine u_aload_n hC dL_law_1712 1 rfl rfl ?_
  obtain ⟨q1713, hq1713, hf⟩ := kc_some hf
  refine u_callW (X := (ρ, Y, cells, slots)) (rest := []) hC hNc (ctL_budget (cL C) hC.tr (cG C) ρ Y n S ax y1711 ao hTx hTo hq1713) (hB.more (by omega) (by omega)) lw_L_budget (by decide) (by decide) rfl rfl (Nat.le_of_ble_eq_true rfl) dL_law_1713 (fun ρ1713 hag => ?_)
  replace hag : AG ρ Y ρ1713 q1713.2.1 := hag
  show UW C (ρ1713, q1713.2.1, cells + 8, slots + 48) q1713.2.2 _ [(4, .int i), (3, .ref (ρ ao)), (2, .ref (ρ am)), (1, .ref (ρ ax)), (0, .ref b)] [.int q1713.1]
  rw [← (hag ax _ hTx).1, ← (hag am _ hTm).1, ← (hag ao _ hTo).1]
  have hTx := (hag _ _ hTx).2
  have hTm := (hag _ _ hTm).2
  have hTo := (hag _ _ hTo).2
  have hAG := AG.trans hAG hag
  refine u_istore (lv' := [(5, .int q1713.1), (4, .int i), (3, .ref (ρ1713 ao)), (2, .ref (ρ1713 am)), (1, .ref (ρ1713 ax)), (0, .ref b)]) hC dL_law_1716 (by decide) rfl ?_
  refine u_aload_n hC dL_law_1718 3 rfl rfl ?_
  refine u_aload_n hC dL_law_1719 5 rfl rfl ?_
  refine u_iload hC dL_law_1720 1 rfl ?_
  refine u_iconst (v := (1 : Int32)) hC dL_law_1722 (by decide) ?_
  refine u_iadd hC dL_law_1723 ?_
  refine u_scr hC hSC dL_law_1724 hf (fun y1724 hf => ?_)
  obtain ⟨q1725, hq1725, hf⟩ := kc_some hf
  refine u_callV (X := (ρ1713, q1713.2.1, cells + 8, slots + 48)) (a := am) (rest := []) hC (ctX11_budget (cL C) hC.tr (cG C) ρ1713 q1713.2.1 n q1713.2.2 am y1724 hTm hq1725) lk_L_178 rfl hTm (by decide) rfl (by decide) (by decide) rfl rfl (Nat.le_of_ble_eq_true rfl) dL_law_1725 ?_
  refine u_istore (lv' := [(6, .int q1725.1), (5, .int q1713.1), (4, .int i), (3, .ref (ρ1713 ao)), (2, .ref (ρ1713 am)), (1, .ref (ρ1713 ax)), (0, .ref b)]) hC dL_law_1728 (by decide) rfl ?_
  refine u_aload_n hC dL_law_1730 4 rfl rfl ?_
  obtain ⟨q1731, hq1731, hf⟩ := kc_some hf
  refine u_callV (X := (ρ1713, q1713.2.1, cells + 8, slots + 48)) (a := am) (rest := []) hC (ctX11_thrown (cL C) hC.tr (cG C) ρ1713 q1713.2.1 n q1725.2 am  hTm hq1731) lk_L_107 rfl hTm (by decide) rfl (by decide) (by decide) rfl rfl (Nat.le_of_ble_eq_true rfl) dL_law_1731 ?_
  refine u_iload hC dL_law_1734 1 rfl ?_
  refine u_icmp_eq (tgt := 1741) hC dL_law_1736 (by decide) hf (fun h1736 hf => ?_) (fun h1736 hf => nomatch hf)
  refine u_iload hC dL_law_1741 1 rfl ?_
  refine u_if_ne (tgt := 1758) hC dL_law_1743 (by decide) hf (fun h1743 hf => ?_) (fun h1743 hf => ?_)
  · skip
    refine u_goto (tgt := 2030) hC dL_law_1758 (by decide) ?_
    refine u_sub (lv' := [(4, .int i), (3, .ref (ρ1713 ao)), (2, .ref (ρ1713 am)), (1, .ref (ρ1713 ax)), (0, .ref b)]) [2, 3, 4, 5, 6] rfl ?_
    cases hf
    exact hK ρ1713 (cells + 8) (slots + 48) hAG (by omega) (by omega)
  · skip
    refine u_aload_n hC dL_law_1746 3 rfl rfl ?_
    refine u_iconst (v := (0 : Int32)) hC dL_law_1747 (by decide) ?_
    refine u_al (X := (ρ1713, q1713.2.1, cells + 8, slots + 48)) (a := ao) hC hTo dL_law_1748 hf (fun w1748 hf => ?_)
    refine u_iload hC dL_law_1749 0 rfl ?_
    refine u_i2l hC dL_law_1751 ?_
    refine u_lcmp hC dL_law_1752 ?_
    refine u_if_eq (tgt := 1758) hC dL_law_1753 (by decide) hf (fun h1753 hf => ?_) (fun h1753 hf => nomatch hf)
    refine u_goto (tgt := 2030) hC dL_law_1758 (by decide) ?_
    refine u_sub (lv' := [(4, .int i), (3, .ref (ρ1713 ao)), (2, .ref (ρ1713 am)), (1, .ref (ρ1713 ax)), (0, .ref b)]) [2, 3, 4, 5, 6] rfl ?_
    cases hf
    exact hK ρ1713 (cells + 8) (slots + 48) hAG (by omega) (by omega)
def g23 (xs : Nat → Int32) (L : Nat) (n : Nat) (ax am ao : Nat) (i : Int32) (Y : XS) (S : PS) : Option (XS × PS) :=
  ksc xs L (i + (1 : Int32)) (fun y1767 => ksc xs L (i + (2 : Int32)) (fun y1773 => kc (fL_cost Y n S ax y1767 y1773 ao) (fun q1775 => ksc xs L (i + (1 : Int32)) (fun y1786 => ksc xs L (i + (2 : Int32)) (fun y1792 => kc (fX11_cost q1775.2.1 n q1775.2.2 am y1786 y1792) (fun q1793 => kc (fX11_thrown q1775.2.1 n q1793.2 am ) (fun q1799 => (if q1799 = q1775.1 then (if q1775.1 = 0 then kal q1775.2.1 q1793.2 ao (0 : Int32) (fun w1816 => (if (lg_cmp w1816 (Int32.toInt64 q1793.1)) = 0 then some (q1775.2.1, q1793.2) else none)) else some (q1775.2.1, q1793.2)) else none))))))))
theorem wg23 {C : CT} {ρ : Nat → Nat} {Y : XS} {cells slots : Nat} (hC : CK C RL cL_law 7 ret 100) {b L : Nat} {xs : Nat → Int32} (hSC : SC C b L xs) (hNc : va_Nc eI eN C.2.2.2.2.1) (n : Nat) (S : PS) (i : Int32) (ax am ao : Nat) (hTx : Ty Y ax 10) (hTm : Ty Y am 11) (hTo : Ty Y ao 15) {o : XS × PS} (hf : g23 xs L n ax am ao i Y S = some o) (hB : XB C (ρ, Y, cells, slots) 8 508) (hK : ∀ ρ' c' z', AG ρ Y ρ' o.1 → c' ≤ cells + 8 → z' ≤ slots + 508 → UW C (ρ', o.1, c', z') o.2 2030 [(4, .int i), (3, .ref (ρ' ao)), (2, .ref (ρ' am)), (1, .ref (ρ' ax)), (0, .ref b)] []) : UW C (ρ, Y, cells, slots) S 1761 [(4, .int i), (3, .ref (ρ ao)), (2, .ref (ρ am)), (1, .ref (ρ ax)), (0, .ref b)] [] := by
  unfold g23 at hf
  have hAG := AG.refl ρ Y
  refine u_aload_n hC dL_law_1761 3 rfl rfl ?_
  refine u_aload_n hC dL_law_1762 4 rfl rfl ?_
  refine u_iload hC dL_law_1763 0 rfl ?_
  refine u_iconst (v := (1 : Int32)) hC dL_law_1765 (by decide) ?_
  refine u_iadd hC dL_law_1766 ?_
  refine u_scr hC hSC dL_law_1767 hf (fun y1767 hf => ?_)
  refine u_aload_n hC dL_law_1768 4 rfl rfl ?_
  refine u_iload hC dL_law_1769 0 rfl ?_
  refine u_iconst (v := (2 : Int32)) hC dL_law_1771 (by decide) ?_
  refine u_iadd hC dL_law_1772 ?_
  refine u_scr hC hSC dL_law_1773 hf (fun y1773 hf => ?_)
  refine u_aload_n hC dL_law_1774 1 rfl rfl ?_
  obtain ⟨q1775, hq1775, hf⟩ := kc_some hf
  refine u_callW (X := (ρ, Y, cells, slots)) (rest := []) hC hNc (ctL_cost (cL C) hC.tr (cG C) ρ Y n S ax y1767 y1773 ao hTx hTo hq1775) (hB.more (by omega) (by omega)) lw_L_cost (by decide) (by decide) rfl rfl (Nat.le_of_ble_eq_true rfl) dL_law_1775 (fun ρ1775 hag => ?_)
  replace hag : AG ρ Y ρ1775 q1775.2.1 := hag
  show UW C (ρ1775, q1775.2.1, cells + 8, slots + 48) q1775.2.2 _ [(4, .int i), (3, .ref (ρ ao)), (2, .ref (ρ am)), (1, .ref (ρ ax)), (0, .ref b)] [.int q1775.1]
  rw [← (hag ax _ hTx).1, ← (hag am _ hTm).1, ← (hag ao _ hTo).1]
  have hTx := (hag _ _ hTx).2
  have hTm := (hag _ _ hTm).2
  have hTo := (hag _ _ hTo).2
  have hAG := AG.trans hAG hag
  refine u_istore (lv' := [(5, .int q1775.1), (4, .int i), (3, .ref (ρ1775 ao)), (2, .ref (ρ1775 am)), (1, .ref (ρ1775 ax)), (0, .ref b)]) hC dL_law_1778 (by decide) rfl ?_
  refine u_aload_n hC dL_law_1780 3 rfl rfl ?_
  refine u_aload_n hC dL_law_1781 5 rfl rfl ?_
  refine u_iload hC dL_law_1782 1 rfl ?_
  refine u_iconst (v := (1 : Int32)) hC dL_law_1784 (by decide) ?_
  refine u_iadd hC dL_law_1785 ?_
  refine u_scr hC hSC dL_law_1786 hf (fun y1786 hf => ?_)
  refine u_aload_n hC dL_law_1787 5 rfl rfl ?_
  refine u_iload hC dL_law_1788 1 rfl ?_
  refine u_iconst (v := (2 : Int32)) hC dL_law_1790 (by decide) ?_
  refine u_iadd hC dL_law_1791 ?_
  refine u_scr hC hSC dL_law_1792 hf (fun y1792 hf => ?_)
  obtain ⟨q1793, hq1793, hf⟩ := kc_some hf
  refine u_callV (X := (ρ1775, q1775.2.1, cells + 8, slots + 48)) (a := am) (rest := []) hC (ctX11_cost (cL C) hC.tr (cG C) ρ1775 q1775.2.1 n q1775.2.2 am y1786 y1792 hTm hq1793) lk_L_181 rfl hTm (by decide) rfl (by decide) (by decide) rfl rfl (Nat.le_of_ble_eq_true rfl) dL_law_1793 ?_
  refine u_istore (lv' := [(6, .int q1793.1), (5, .int q1775.1), (4, .int i), (3, .ref (ρ1775 ao)), (2, .ref (ρ1775 am)), (1, .ref (ρ1775 ax)), (0, .ref b)]) hC dL_law_1796 (by decide) rfl ?_
  refine u_aload_n hC dL_law_1798 4 rfl rfl ?_
  obtain ⟨q1799, hq1799, hf⟩ := kc_some hf
  refine u_callV (X := (ρ1775, q1775.2.1, cells + 8, slots + 48)) (a := am) (rest := []) hC (ctX11_thrown (cL C) hC.tr (cG C) ρ1775 q1775.2.1 n q1793.2 am  hTm hq1799) lk_L_107 rfl hTm (by decide) rfl (by decide) (by decide) rfl rfl (Nat.le_of_ble_eq_true rfl) dL_law_1799 ?_
  refine u_iload hC dL_law_1802 1 rfl ?_
  refine u_icmp_eq (tgt := 1809) hC dL_law_1804 (by decide) hf (fun h1804 hf => ?_) (fun h1804 hf => nomatch hf)
  refine u_iload hC dL_law_1809 1 rfl ?_
  refine u_if_ne (tgt := 1826) hC dL_law_1811 (by decide) hf (fun h1811 hf => ?_) (fun h1811 hf => ?_)
  · skip
    refine u_goto (tgt := 2030) hC dL_law_1826 (by decide) ?_
    refine u_sub (lv' := [(4, .int i), (3, .ref (ρ1775 ao)), (2, .ref (ρ1775 am)), (1, .ref (ρ1775 ax)), (0, .ref b)]) [2, 3, 4, 5, 6] rfl ?_
    cases hf
    exact hK ρ1775 (cells + 8) (slots + 48) hAG (by omega) (by omega)
  · skip
    refine u_aload_n hC dL_law_1814 3 rfl rfl ?_
    refine u_iconst (v := (0 : Int32)) hC dL_law_1815 (by decide) ?_
    refine u_al (X := (ρ1775, q1775.2.1, cells + 8, slots + 48)) (a := ao) hC hTo dL_law_1816 hf (fun w1816 hf => ?_)
    refine u_iload hC dL_law_1817 0 rfl ?_
    refine u_i2l hC dL_law_1819 ?_
    refine u_lcmp hC dL_law_1820 ?_
    refine u_if_eq (tgt := 1826) hC dL_law_1821 (by decide) hf (fun h1821 hf => ?_) (fun h1821 hf => nomatch hf)
    refine u_goto (tgt := 2030) hC dL_law_1826 (by decide) ?_
    refine u_sub (lv' := [(4, .int i), (3, .ref (ρ1775 ao)), (2, .ref (ρ1775 am)), (1, .ref (ρ1775 ax)), (0, .ref b)]) [2, 3, 4, 5, 6] rfl ?_
    cases hf
    exact hK ρ1775 (cells + 8) (slots + 48) hAG (by omega) (by omega)
def g24 (xs : Nat → Int32) (L : Nat) (n : Nat) (ax am ao : Nat) (i : Int32) (Y : XS) (S : PS) : Option (XS × PS) :=
  ksc xs L (i + (1 : Int32)) (fun y1835 => ksc xs L (i + (2 : Int32)) (fun y1841 => ksc xs L (i + (3 : Int32)) (fun y1847 => kc (fL_score Y n S ax y1835 y1841 y1847 ao) (fun q1849 => ksc xs L (i + (1 : Int32)) (fun y1860 => ksc xs L (i + (2 : Int32)) (fun y1866 => ksc xs L (i + (3 : Int32)) (fun y1872 => kc (fX11_score q1849.2.1 n q1849.2.2 am y1860 y1866 y1872) (fun q1873 => kc (fX11_thrown q1849.2.1 n q1873.2 am ) (fun q1879 => (if q1879 = q1849.1 then (if q1849.1 = 0 then kal q1849.2.1 q1873.2 ao (0 : Int32) (fun w1896 => (if (lg_cmp w1896 (Int32.toInt64 q1873.1)) = 0 then some (q1849.2.1, q1873.2) else none)) else some (q1849.2.1, q1873.2)) else none))))))))))
theorem wg24 {C : CT} {ρ : Nat → Nat} {Y : XS} {cells slots : Nat} (hC : CK C RL cL_law 7 ret 100) {b L : Nat} {xs : Nat → Int32} (hSC : SC C b L xs) (hNc : va_Nc eI eN C.2.2.2.2.1) (n : Nat) (S : PS) (i : Int32) (ax am ao : Nat) (hTx : Ty Y ax 10) (hTm : Ty Y am 11) (hTo : Ty Y ao 15) {o : XS × PS} (hf : g24 xs L n ax am ao i Y S = some o) (hB : XB C (ρ, Y, cells, slots) 8 508) (hK : ∀ ρ' c' z', AG ρ Y ρ' o.1 → c' ≤ cells + 8 → z' ≤ slots + 508 → UW C (ρ', o.1, c', z') o.2 2030 [(4, .int i), (3, .ref (ρ' ao)), (2, .ref (ρ' am)), (1, .ref (ρ' ax)), (0, .ref b)] []) : UW C (ρ, Y, cells, slots) S 1829 [(4, .int i), (3, .ref (ρ ao)), (2, .ref (ρ am)), (1, .ref (ρ ax)), (0, .ref b)] [] := by
  unfold g24 at hf
  have hAG := AG.refl ρ Y
  refine u_aload_n hC dL_law_1829 3 rfl rfl ?_
  refine u_aload_n hC dL_law_1830 4 rfl rfl ?_
  refine u_iload hC dL_law_1831 0 rfl ?_
  refine u_iconst (v := (1 : Int32)) hC dL_law_1833 (by decide) ?_
  refine u_iadd hC dL_law_1834 ?_
  refine u_scr hC hSC dL_law_1835 hf (fun y1835 hf => ?_)
  refine u_aload_n hC dL_law_1836 4 rfl rfl ?_
  refine u_iload hC dL_law_1837 0 rfl ?_
  refine u_iconst (v := (2 : Int32)) hC dL_law_1839 (by decide) ?_
  refine u_iadd hC dL_law_1840 ?_
  refine u_scr hC hSC dL_law_1841 hf (fun y1841 hf => ?_)
  refine u_aload_n hC dL_law_1842 4 rfl rfl ?_
  refine u_iload hC dL_law_1843 0 rfl ?_
  refine u_iconst (v := (3 : Int32)) hC dL_law_1845 (by decide) ?_
  refine u_iadd hC dL_law_1846 ?_
  refine u_scr hC hSC dL_law_1847 hf (fun y1847 hf => ?_)
  refine u_aload_n hC dL_law_1848 1 rfl rfl ?_
  obtain ⟨q1849, hq1849, hf⟩ := kc_some hf
  refine u_callW (X := (ρ, Y, cells, slots)) (rest := []) hC hNc (ctL_score (cL C) hC.tr (cG C) ρ Y n S ax y1835 y1841 y1847 ao hTx hTo hq1849) (hB.more (by omega) (by omega)) lw_L_score (by decide) (by decide) rfl rfl (Nat.le_of_ble_eq_true rfl) dL_law_1849 (fun ρ1849 hag => ?_)
  replace hag : AG ρ Y ρ1849 q1849.2.1 := hag
  show UW C (ρ1849, q1849.2.1, cells + 8, slots + 48) q1849.2.2 _ [(4, .int i), (3, .ref (ρ ao)), (2, .ref (ρ am)), (1, .ref (ρ ax)), (0, .ref b)] [.int q1849.1]
  rw [← (hag ax _ hTx).1, ← (hag am _ hTm).1, ← (hag ao _ hTo).1]
  have hTx := (hag _ _ hTx).2
  have hTm := (hag _ _ hTm).2
  have hTo := (hag _ _ hTo).2
  have hAG := AG.trans hAG hag
  refine u_istore (lv' := [(5, .int q1849.1), (4, .int i), (3, .ref (ρ1849 ao)), (2, .ref (ρ1849 am)), (1, .ref (ρ1849 ax)), (0, .ref b)]) hC dL_law_1852 (by decide) rfl ?_
  refine u_aload_n hC dL_law_1854 3 rfl rfl ?_
  refine u_aload_n hC dL_law_1855 5 rfl rfl ?_
  refine u_iload hC dL_law_1856 1 rfl ?_
  refine u_iconst (v := (1 : Int32)) hC dL_law_1858 (by decide) ?_
  refine u_iadd hC dL_law_1859 ?_
  refine u_scr hC hSC dL_law_1860 hf (fun y1860 hf => ?_)
  refine u_aload_n hC dL_law_1861 5 rfl rfl ?_
  refine u_iload hC dL_law_1862 1 rfl ?_
  refine u_iconst (v := (2 : Int32)) hC dL_law_1864 (by decide) ?_
  refine u_iadd hC dL_law_1865 ?_
  refine u_scr hC hSC dL_law_1866 hf (fun y1866 hf => ?_)
  refine u_aload_n hC dL_law_1867 5 rfl rfl ?_
  refine u_iload hC dL_law_1868 1 rfl ?_
  refine u_iconst (v := (3 : Int32)) hC dL_law_1870 (by decide) ?_
  refine u_iadd hC dL_law_1871 ?_
  refine u_scr hC hSC dL_law_1872 hf (fun y1872 hf => ?_)
  obtain ⟨q1873, hq1873, hf⟩ := kc_some hf
  refine u_callV (X := (ρ1849, q1849.2.1, cells + 8, slots + 48)) (a := am) (rest := []) hC (ctX11_score (cL C) hC.tr (cG C) ρ1849 q1849.2.1 n q1849.2.2 am y1860 y1866 y1872 hTm hq1873) lk_L_184 rfl hTm (by decide) rfl (by decide) (by decide) rfl rfl (Nat.le_of_ble_eq_true rfl) dL_law_1873 ?_
  refine u_istore (lv' := [(6, .int q1873.1), (5, .int q1849.1), (4, .int i), (3, .ref (ρ1849 ao)), (2, .ref (ρ1849 am)), (1, .ref (ρ1849 ax)), (0, .ref b)]) hC dL_law_1876 (by decide) rfl ?_
  refine u_aload_n hC dL_law_1878 4 rfl rfl ?_
  obtain ⟨q1879, hq1879, hf⟩ := kc_some hf
  refine u_callV (X := (ρ1849, q1849.2.1, cells + 8, slots + 48)) (a := am) (rest := []) hC (ctX11_thrown (cL C) hC.tr (cG C) ρ1849 q1849.2.1 n q1873.2 am  hTm hq1879) lk_L_107 rfl hTm (by decide) rfl (by decide) (by decide) rfl rfl (Nat.le_of_ble_eq_true rfl) dL_law_1879 ?_
  refine u_iload hC dL_law_1882 1 rfl ?_
  refine u_icmp_eq (tgt := 1889) hC dL_law_1884 (by decide) hf (fun h1884 hf => ?_) (fun h1884 hf => nomatch hf)
  refine u_iload hC dL_law_1889 1 rfl ?_
  refine u_if_ne (tgt := 1906) hC dL_law_1891 (by decide) hf (fun h1891 hf => ?_) (fun h1891 hf => ?_)
  · skip
    refine u_goto (tgt := 2030) hC dL_law_1906 (by decide) ?_
    refine u_sub (lv' := [(4, .int i), (3, .ref (ρ1849 ao)), (2, .ref (ρ1849 am)), (1, .ref (ρ1849 ax)), (0, .ref b)]) [2, 3, 4, 5, 6] rfl ?_
    cases hf
    exact hK ρ1849 (cells + 8) (slots + 48) hAG (by omega) (by omega)
  · skip
    refine u_aload_n hC dL_law_1894 3 rfl rfl ?_
    refine u_iconst (v := (0 : Int32)) hC dL_law_1895 (by decide) ?_
    refine u_al (X := (ρ1849, q1849.2.1, cells + 8, slots + 48)) (a := ao) hC hTo dL_law_1896 hf (fun w1896 hf => ?_)
    refine u_iload hC dL_law_1897 0 rfl ?_
    refine u_i2l hC dL_law_1899 ?_
    refine u_lcmp hC dL_law_1900 ?_
    refine u_if_eq (tgt := 1906) hC dL_law_1901 (by decide) hf (fun h1901 hf => ?_) (fun h1901 hf => nomatch hf)
    refine u_goto (tgt := 2030) hC dL_law_1906 (by decide) ?_
    refine u_sub (lv' := [(4, .int i), (3, .ref (ρ1849 ao)), (2, .ref (ρ1849 am)), (1, .ref (ρ1849 ax)), (0, .ref b)]) [2, 3, 4, 5, 6] rfl ?_
    cases hf
    exact hK ρ1849 (cells + 8) (slots + 48) hAG (by omega) (by omega)
def g25 (xs : Nat → Int32) (L : Nat) (n : Nat) (ax am ao : Nat) (i : Int32) (Y : XS) (S : PS) : Option (XS × PS) :=
  ksc xs L (i + (1 : Int32)) (fun y1915 => ksc xs L (i + (2 : Int32)) (fun y1929 => kc (fL_go Y n S ax (bz y1915) y1929 ao) (fun q1931 => ksc xs L (i + (1 : Int32)) (fun y1942 => ksc xs L (i + (2 : Int32)) (fun y1956 => kc (fX11_go q1931.2.1 n q1931.2.2 am (bz y1942) y1956) (fun q1957 => kc (fX11_thrown q1931.2.1 n q1957.2 am ) (fun q1963 => (if q1963 = q1931.1 then (if q1931.1 = 0 then kal q1931.2.1 q1957.2 ao (0 : Int32) (fun w1980 => (if (lg_cmp w1980 (Int32.toInt64 q1957.1)) = 0 then some (q1931.2.1, q1957.2) else none)) else some (q1931.2.1, q1957.2)) else none))))))))
theorem wg25 {C : CT} {ρ : Nat → Nat} {Y : XS} {cells slots : Nat} (hC : CK C RL cL_law 7 ret 100) {b L : Nat} {xs : Nat → Int32} (hSC : SC C b L xs) (hNc : va_Nc eI eN C.2.2.2.2.1) (n : Nat) (S : PS) (i : Int32) (ax am ao : Nat) (hTx : Ty Y ax 10) (hTm : Ty Y am 11) (hTo : Ty Y ao 15) {o : XS × PS} (hf : g25 xs L n ax am ao i Y S = some o) (hB : XB C (ρ, Y, cells, slots) 8 508) (hK : ∀ ρ' c' z', AG ρ Y ρ' o.1 → c' ≤ cells + 8 → z' ≤ slots + 508 → UW C (ρ', o.1, c', z') o.2 2030 [(4, .int i), (3, .ref (ρ' ao)), (2, .ref (ρ' am)), (1, .ref (ρ' ax)), (0, .ref b)] []) : UW C (ρ, Y, cells, slots) S 1909 [(4, .int i), (3, .ref (ρ ao)), (2, .ref (ρ am)), (1, .ref (ρ ax)), (0, .ref b)] [] := by
  unfold g25 at hf
  have hAG := AG.refl ρ Y
  refine u_aload_n hC dL_law_1909 3 rfl rfl ?_
  refine u_aload_n hC dL_law_1910 4 rfl rfl ?_
  refine u_iload hC dL_law_1911 0 rfl ?_
  refine u_iconst (v := (1 : Int32)) hC dL_law_1913 (by decide) ?_
  refine u_iadd hC dL_law_1914 ?_
  refine u_scr hC hSC dL_law_1915 hf (fun y1915 hf => ?_)
  refine u_bool (t1 := 1923) (t2 := 1924) hC dL_law_1916 (by decide) dL_law_1919 dL_law_1920 (by decide) dL_law_1923 rfl ?_
  refine u_aload_n hC dL_law_1924 4 rfl rfl ?_
  refine u_iload hC dL_law_1925 0 rfl ?_
  refine u_iconst (v := (2 : Int32)) hC dL_law_1927 (by decide) ?_
  refine u_iadd hC dL_law_1928 ?_
  refine u_scr hC hSC dL_law_1929 hf (fun y1929 hf => ?_)
  refine u_aload_n hC dL_law_1930 1 rfl rfl ?_
  obtain ⟨q1931, hq1931, hf⟩ := kc_some hf
  refine u_callW (X := (ρ, Y, cells, slots)) (rest := []) hC hNc (ctL_go (cL C) hC.tr (cG C) ρ Y n S ax (bz y1915) y1929 ao hTx hTo hq1931) (hB.more (by omega) (by omega)) lw_L_go (by decide) (by decide) rfl rfl (Nat.le_of_ble_eq_true rfl) dL_law_1931 (fun ρ1931 hag => ?_)
  replace hag : AG ρ Y ρ1931 q1931.2.1 := hag
  show UW C (ρ1931, q1931.2.1, cells + 8, slots + 48) q1931.2.2 _ [(4, .int i), (3, .ref (ρ ao)), (2, .ref (ρ am)), (1, .ref (ρ ax)), (0, .ref b)] [.int q1931.1]
  rw [← (hag ax _ hTx).1, ← (hag am _ hTm).1, ← (hag ao _ hTo).1]
  have hTx := (hag _ _ hTx).2
  have hTm := (hag _ _ hTm).2
  have hTo := (hag _ _ hTo).2
  have hAG := AG.trans hAG hag
  refine u_istore (lv' := [(5, .int q1931.1), (4, .int i), (3, .ref (ρ1931 ao)), (2, .ref (ρ1931 am)), (1, .ref (ρ1931 ax)), (0, .ref b)]) hC dL_law_1934 (by decide) rfl ?_
  refine u_aload_n hC dL_law_1936 3 rfl rfl ?_
  refine u_aload_n hC dL_law_1937 5 rfl rfl ?_
  refine u_iload hC dL_law_1938 1 rfl ?_
  refine u_iconst (v := (1 : Int32)) hC dL_law_1940 (by decide) ?_
  refine u_iadd hC dL_law_1941 ?_
  refine u_scr hC hSC dL_law_1942 hf (fun y1942 hf => ?_)
  refine u_bool (t1 := 1950) (t2 := 1951) hC dL_law_1943 (by decide) dL_law_1946 dL_law_1947 (by decide) dL_law_1950 rfl ?_
  refine u_aload_n hC dL_law_1951 5 rfl rfl ?_
  refine u_iload hC dL_law_1952 1 rfl ?_
  refine u_iconst (v := (2 : Int32)) hC dL_law_1954 (by decide) ?_
  refine u_iadd hC dL_law_1955 ?_
  refine u_scr hC hSC dL_law_1956 hf (fun y1956 hf => ?_)
  obtain ⟨q1957, hq1957, hf⟩ := kc_some hf
  refine u_callV (X := (ρ1931, q1931.2.1, cells + 8, slots + 48)) (a := am) (rest := []) hC (ctX11_go (cL C) hC.tr (cG C) ρ1931 q1931.2.1 n q1931.2.2 am (bz y1942) y1956 hTm hq1957) lk_L_188 rfl hTm (by decide) rfl (by decide) (by decide) rfl rfl (Nat.le_of_ble_eq_true rfl) dL_law_1957 ?_
  refine u_istore (lv' := [(6, .int q1957.1), (5, .int q1931.1), (4, .int i), (3, .ref (ρ1931 ao)), (2, .ref (ρ1931 am)), (1, .ref (ρ1931 ax)), (0, .ref b)]) hC dL_law_1960 (by decide) rfl ?_
  refine u_aload_n hC dL_law_1962 4 rfl rfl ?_
  obtain ⟨q1963, hq1963, hf⟩ := kc_some hf
  refine u_callV (X := (ρ1931, q1931.2.1, cells + 8, slots + 48)) (a := am) (rest := []) hC (ctX11_thrown (cL C) hC.tr (cG C) ρ1931 q1931.2.1 n q1957.2 am  hTm hq1963) lk_L_107 rfl hTm (by decide) rfl (by decide) (by decide) rfl rfl (Nat.le_of_ble_eq_true rfl) dL_law_1963 ?_
  refine u_iload hC dL_law_1966 1 rfl ?_
  refine u_icmp_eq (tgt := 1973) hC dL_law_1968 (by decide) hf (fun h1968 hf => ?_) (fun h1968 hf => nomatch hf)
  refine u_iload hC dL_law_1973 1 rfl ?_
  refine u_if_ne (tgt := 1990) hC dL_law_1975 (by decide) hf (fun h1975 hf => ?_) (fun h1975 hf => ?_)
  · skip
    refine u_goto (tgt := 2030) hC dL_law_1990 (by decide) ?_
    refine u_sub (lv' := [(4, .int i), (3, .ref (ρ1931 ao)), (2, .ref (ρ1931 am)), (1, .ref (ρ1931 ax)), (0, .ref b)]) [2, 3, 4, 5, 6] rfl ?_
    cases hf
    exact hK ρ1931 (cells + 8) (slots + 48) hAG (by omega) (by omega)
  · skip
    refine u_aload_n hC dL_law_1978 3 rfl rfl ?_
    refine u_iconst (v := (0 : Int32)) hC dL_law_1979 (by decide) ?_
    refine u_al (X := (ρ1931, q1931.2.1, cells + 8, slots + 48)) (a := ao) hC hTo dL_law_1980 hf (fun w1980 hf => ?_)
    refine u_iload hC dL_law_1981 0 rfl ?_
    refine u_i2l hC dL_law_1983 ?_
    refine u_lcmp hC dL_law_1984 ?_
    refine u_if_eq (tgt := 1990) hC dL_law_1985 (by decide) hf (fun h1985 hf => ?_) (fun h1985 hf => nomatch hf)
    refine u_goto (tgt := 2030) hC dL_law_1990 (by decide) ?_
    refine u_sub (lv' := [(4, .int i), (3, .ref (ρ1931 ao)), (2, .ref (ρ1931 am)), (1, .ref (ρ1931 ax)), (0, .ref b)]) [2, 3, 4, 5, 6] rfl ?_
    cases hf
    exact hK ρ1931 (cells + 8) (slots + 48) hAG (by omega) (by omega)
def g26 (xs : Nat → Int32) (L : Nat) (n : Nat) (ax am ao : Nat) (i : Int32) (Y : XS) (S : PS) : Option (XS × PS) :=
  kc (fX10_undo Y n S ax ) (fun q1994 => kc (fX11_undo Y n q1994.2 am ) (fun q1998 => (if q1994.1 = q1998.1 then some (Y, q1998.2) else none)))
theorem wg26 {C : CT} {ρ : Nat → Nat} {Y : XS} {cells slots : Nat} (hC : CK C RL cL_law 7 ret 100) {b L : Nat} {xs : Nat → Int32} (hSC : SC C b L xs) (hNc : va_Nc eI eN C.2.2.2.2.1) (n : Nat) (S : PS) (i : Int32) (ax am ao : Nat) (hTx : Ty Y ax 10) (hTm : Ty Y am 11) (hTo : Ty Y ao 15) {o : XS × PS} (hf : g26 xs L n ax am ao i Y S = some o) (hB : XB C (ρ, Y, cells, slots) 8 508) (hK : ∀ ρ' c' z', AG ρ Y ρ' o.1 → c' ≤ cells + 8 → z' ≤ slots + 508 → UW C (ρ', o.1, c', z') o.2 2030 [(4, .int i), (3, .ref (ρ' ao)), (2, .ref (ρ' am)), (1, .ref (ρ' ax)), (0, .ref b)] []) : UW C (ρ, Y, cells, slots) S 1993 [(4, .int i), (3, .ref (ρ ao)), (2, .ref (ρ am)), (1, .ref (ρ ax)), (0, .ref b)] [] := by
  unfold g26 at hf
  have hAG := AG.refl ρ Y
  refine u_aload_n hC dL_law_1993 3 rfl rfl ?_
  obtain ⟨q1994, hq1994, hf⟩ := kc_some hf
  refine u_callV (X := (ρ, Y, cells, slots)) (a := ax) (rest := []) hC (ctX10_undo (cL C) hC.tr (cG C) ρ Y n S ax  hTx hq1994) lk_L_189 rfl hTx (by decide) rfl (by decide) (by decide) rfl rfl (Nat.le_of_ble_eq_true rfl) dL_law_1994 ?_
  refine u_aload_n hC dL_law_1997 2 rfl rfl ?_
  obtain ⟨q1998, hq1998, hf⟩ := kc_some hf
  refine u_callV (X := (ρ, Y, cells, slots)) (a := am) (rest := [.int q1994.1]) hC (ctX11_undo (cL C) hC.tr (cG C) ρ Y n q1994.2 am  hTm hq1998) lk_L_192 rfl hTm (by decide) rfl (by decide) (by decide) rfl rfl (Nat.le_of_ble_eq_true rfl) dL_law_1998 ?_
  refine u_icmp_eq (tgt := 2030) hC dL_law_2001 (by decide) hf (fun h2001 hf => ?_) (fun h2001 hf => nomatch hf)
  cases hf
  exact hK ρ cells slots hAG (by omega) (by omega)
def g27 (xs : Nat → Int32) (L : Nat) (n : Nat) (ax am ao : Nat) (i : Int32) (Y : XS) (S : PS) : Option (XS × PS) :=
  kc (fX10_image Y n S ax ) (fun q2007 => kc (fX11_image Y n q2007 am ) (fun q2011 => some (Y, q2011)))
theorem wg27 {C : CT} {ρ : Nat → Nat} {Y : XS} {cells slots : Nat} (hC : CK C RL cL_law 7 ret 100) {b L : Nat} {xs : Nat → Int32} (hSC : SC C b L xs) (hNc : va_Nc eI eN C.2.2.2.2.1) (n : Nat) (S : PS) (i : Int32) (ax am ao : Nat) (hTx : Ty Y ax 10) (hTm : Ty Y am 11) (hTo : Ty Y ao 15) {o : XS × PS} (hf : g27 xs L n ax am ao i Y S = some o) (hB : XB C (ρ, Y, cells, slots) 8 508) (hK : ∀ ρ' c' z', AG ρ Y ρ' o.1 → c' ≤ cells + 8 → z' ≤ slots + 508 → UW C (ρ', o.1, c', z') o.2 2030 [(4, .int i), (3, .ref (ρ' ao)), (2, .ref (ρ' am)), (1, .ref (ρ' ax)), (0, .ref b)] []) : UW C (ρ, Y, cells, slots) S 2006 [(4, .int i), (3, .ref (ρ ao)), (2, .ref (ρ am)), (1, .ref (ρ ax)), (0, .ref b)] [] := by
  unfold g27 at hf
  have hAG := AG.refl ρ Y
  refine u_aload_n hC dL_law_2006 3 rfl rfl ?_
  obtain ⟨q2007, hq2007, hf⟩ := kc_some hf
  refine u_callV (X := (ρ, Y, cells, slots)) (a := ax) (rest := []) hC (ctX10_image (cL C) hC.tr (cG C) ρ Y n S ax  hTx hq2007) lk_L_193 rfl hTx (by decide) rfl (by decide) (by decide) rfl rfl (Nat.le_of_ble_eq_true rfl) dL_law_2007 ?_
  refine u_aload_n hC dL_law_2010 2 rfl rfl ?_
  obtain ⟨q2011, hq2011, hf⟩ := kc_some hf
  refine u_callV (X := (ρ, Y, cells, slots)) (a := am) (rest := []) hC (ctX11_image (cL C) hC.tr (cG C) ρ Y n q2007 am  hTm hq2011) lk_L_196 rfl hTm (by decide) rfl (by decide) (by decide) rfl rfl (Nat.le_of_ble_eq_true rfl) dL_law_2011 ?_
  refine u_goto (tgt := 2030) hC dL_law_2014 (by decide) ?_
  cases hf
  exact hK ρ cells slots hAG (by omega) (by omega)
def g28 (xs : Nat → Int32) (L : Nat) (n : Nat) (ax am ao : Nat) (i : Int32) (Y : XS) (S : PS) : Option (XS × PS) :=
  kc (fX10_back Y n S ax ) (fun q2018 => kc (fX11_back Y n q2018.2 am ) (fun q2022 => (if q2018.1 = q2022.1 then some (Y, q2022.2) else none)))
theorem wg28 {C : CT} {ρ : Nat → Nat} {Y : XS} {cells slots : Nat} (hC : CK C RL cL_law 7 ret 100) {b L : Nat} {xs : Nat → Int32} (hSC : SC C b L xs) (hNc : va_Nc eI eN C.2.2.2.2.1) (n : Nat) (S : PS) (i : Int32) (ax am ao : Nat) (hTx : Ty Y ax 10) (hTm : Ty Y am 11) (hTo : Ty Y ao 15) {o : XS × PS} (hf : g28 xs L n ax am ao i Y S = some o) (hB : XB C (ρ, Y, cells, slots) 8 508) (hK : ∀ ρ' c' z', AG ρ Y ρ' o.1 → c' ≤ cells + 8 → z' ≤ slots + 508 → UW C (ρ', o.1, c', z') o.2 2030 [(4, .int i), (3, .ref (ρ' ao)), (2, .ref (ρ' am)), (1, .ref (ρ' ax)), (0, .ref b)] []) : UW C (ρ, Y, cells, slots) S 2017 [(4, .int i), (3, .ref (ρ ao)), (2, .ref (ρ am)), (1, .ref (ρ ax)), (0, .ref b)] [] := by
  unfold g28 at hf
  have hAG := AG.refl ρ Y
  refine u_aload_n hC dL_law_2017 3 rfl rfl ?_
  obtain ⟨q2018, hq2018, hf⟩ := kc_some hf
  refine u_callV (X := (ρ, Y, cells, slots)) (a := ax) (rest := []) hC (ctX10_back (cL C) hC.tr (cG C) ρ Y n S ax  hTx hq2018) lk_L_197 rfl hTx (by decide) rfl (by decide) (by decide) rfl rfl (Nat.le_of_ble_eq_true rfl) dL_law_2018 ?_
  refine u_aload_n hC dL_law_2021 2 rfl rfl ?_
  obtain ⟨q2022, hq2022, hf⟩ := kc_some hf
  refine u_callV (X := (ρ, Y, cells, slots)) (a := am) (rest := [.int q2018.1]) hC (ctX11_back (cL C) hC.tr (cG C) ρ Y n q2018.2 am  hTm hq2022) lk_L_201 rfl hTm (by decide) rfl (by decide) (by decide) rfl rfl (Nat.le_of_ble_eq_true rfl) dL_law_2022 ?_
  refine u_icmp_eq (tgt := 2030) hC dL_law_2025 (by decide) hf (fun h2025 hf => ?_) (fun h2025 hf => nomatch hf)
  cases hf
  exact hK ρ cells slots hAG (by omega) (by omega)
