/-! the law's wrappers: calls whose exceptions are caught -/
abbrev eI : String := "java/lang/IllegalArgumentException"
abbrev eN : String := "java/util/NoSuchElementException"
def ThrAt (C : CT) (X : XT) (S : PS) (k pc : Nat) : Prop := match C, X with
  | (p, l, e, R, s, m, args, below, meth, c, Q, G, A), (ρ, Y, cells, slots) => ∀ (H : Heap) (locs : List Loc) (ls : Array Slot) (rest : List Value) (q : Addr) (ce : Cell), XO (p, l, e, R, s, m, args, below, meth, c, Q, G, A) (ρ, Y, cells, slots) → Wc G ρ Y S H → va_S A s.heap H locs → WT Y S → H[q]? = some ce → ce.vm = .none → s.vm.findClass (exN k) = some ce.cls → lv_has ls c.maxLocals [] → vx_W p l e R s m args below meth c H locs cells slots Q (F0 m pc ls rest) q
/-- the frame's handlers -/
def HT (C : CT) (hh : List (Nat × Nat × Nat × Nat)) : Prop := C.2.2.2.2.2.2.2.2.2.1.exceptionTable.toList = tableOf hh ∧ va_Nc eI eN C.2.2.2.2.1
section UY
variable {C : CT} {X : XT} {S : PS} {own : String} {cc : ByteArray} {nL d : Nat} {ret : Option FieldType} {pc : Nat} {lv : List (Nat × Value)} {rest : List Value}
variable {y : MethodName} {cc' : ByteArray} {maxL' d' np idx mc ms : Nat} {ret' : Option FieldType} {As : List Value} {r : MR} {Y' : XS}
theorem u_catch (hC : CK C own cc nL ret d) {hh : List (Nat × Nat × Nat × Nat)} (hH : HT C hh) {k : Nat} (pre : List (Nat × Nat × Nat × Nat)) (x : Nat × Nat × Nat × Nat) (suf : List (Nat × Nat × Nat × Nat)) (hs : hh = pre ++ x :: suf) (hpass : ∀ z ∈ pre, z.2.2.2 ≠ 0 ∧ exN k = eI ∧ Cond.classLink own z.2.2.2 eN ∈ Tb) (hx : covers ⟨x.1, x.2.1, x.2.2.1, x.2.2.2⟩ pc = true) (h0 : x.2.2.2 ≠ 0) (hL : Cond.classLink own x.2.2.2 (exN k) ∈ Tb) (hc : Cond.castable (exN k) (exN k) ∈ nestT) (kk : ∀ q, UW C X S x.2.2.1 [] [.ref q]) : ThrAt C X S k pc := by
  obtain ⟨p, l, e, R, s, m, args, below, meth, c, Q, G, A⟩ := C
  obtain ⟨ρ, Y, cells, slots⟩ := X
  intro H locs ls rest q ce hX hP hS hT hce hcv hcl hls
  have hts : ∀ w ∈ Tb, w.before args s = true := hC.2.2.2.2.1
  have hnest : ∀ w ∈ nestT, va_Nw w s := by
    obtain ⟨dC, dI, cy, B0, sK, sV⟩ := G
    exact hC.2.2.2.2.2.1.2.1
  refine vx_catch (own := own) (name := exN k) hC.2.2.2.1 (tableOf pre) ⟨x.1, x.2.1, x.2.2.1, x.2.2.2⟩ (tableOf suf) ?_ ?_ hx h0 (hts _ hL) (be_of hts hnest (Or.inr hc)) hce hcv hcl ?_
  · rw [hH.1, hs]
    simp [tableOf]
  · intro z hz
    obtain ⟨w, hw, rfl⟩ := List.mem_map.mp hz
    obtain ⟨h1, h2, h3⟩ := hpass w hw
    exact Or.inr ⟨h1, eN, hts _ h3, by rw [h2]; exact hH.2⟩
  · exact kk q H locs ls hX hP hS hls hT
theorem u_afterY (hC : CK C own cc nL ret d) {H : Heap} {locs : List Loc} {ls : Array Slot} {st : List Value} (hX : XO C X) (hB : XB C X mc ms) (hS : va_S C.2.2.2.2.2.2.2.2.2.2.2.2 C.2.2.2.2.1.heap H locs) (hl : lv_has ls C.2.2.2.2.2.2.2.2.2.1.maxLocals lv)
    (hr : vx_Run C.1 C.2.1 C.2.2.1 C.2.2.2.1 C.2.2.2.2.1 C.2.2.2.2.2.1 C.2.2.2.2.2.2.1 C.2.2.2.2.2.2.2.1 C.2.2.2.2.2.2.2.2.1 C.2.2.2.2.2.2.2.2.2.1 H locs X.2.2.1 X.2.2.2 mc ms (F0 C.2.2.2.2.2.1 pc ls st) rest (fun st0 oc t => ∃ ρ' v S', AG X.1 X.2.1 ρ' Y' ∧ (∀ a, a < nX Y' → ¬ a < nX X.2.1 → H.size ≤ ρ' a) ∧ r = .inl (v, S') ∧ oc = .returned v ∧ Wd (cG C) ρ' Y' S' t ∧ va_F (aA X.1 (nX X.2.1) H.size) st0 t) (fun E st t => ∃ c S', r = .inr (c, S') ∧ E = exN c ∧ (Wc (cG C) X.1 X.2.1 S' t.heap ∧ WT X.2.1 S') ∧ va_F (aA X.1 (nX X.2.1) H.size) st t) (aA X.1 (nX X.2.1) H.size))
    (kr : ∀ ρ' v S', AG X.1 X.2.1 ρ' Y' → r = .inl (v, S') → UW C (ρ', Y', X.2.2.1 + mc, X.2.2.2 + ms) S' (pc + 3) lv (v.toList ++ rest))
    (kt : ∀ k S', r = .inr (k, S') → ThrAt C (X.1, X.2.1, X.2.2.1 + mc, X.2.2.2 + ms) S' k pc) : W C.1 C.2.1 C.2.2.1 C.2.2.2.1 C.2.2.2.2.1 C.2.2.2.2.2.1 C.2.2.2.2.2.2.1 C.2.2.2.2.2.2.2.1 C.2.2.2.2.2.2.2.2.1 C.2.2.2.2.2.2.2.2.2.1 H locs X.2.2.1 X.2.2.2 C.2.2.2.2.2.2.2.2.2.2.1 (F0 C.2.2.2.2.2.1 pc ls st) := by
  obtain ⟨p, l, e, R, s, m, args, below, meth, c, Q, G, A⟩ := C
  obtain ⟨ρ, Y, cells, slots⟩ := X
  have hA1 : ∀ q, s.heap.size ≤ q → A q := hC.2.2.2.2.2.2.1
  have hX' : XO (p, l, e, R, s, m, args, below, meth, c, Q, G, A) (ρ, Y, cells + mc, slots + ms) := ⟨hX.1, hX.2.1, hX.2.2.1, hB.1, hB.2⟩
  have hAA : ∀ q, aA ρ (nX Y) H.size q → A q := by
    rintro q (⟨a, ha, rfl⟩ | hq)
    · exact hX.2.1 a ha
    · exact hA1 q (Nat.le_trans hS.1 hq)
  intro T hT0 X0
  rcases hr T hT0 X0 with ⟨v', st₀, t, T', L, h0, Xs, hL, e1, e2, ⟨ρ', v, S', hag, hnew, hr', hv, hWd, hF⟩, st⟩ | ⟨q, st₀, t, T', L, E, ce, h0, Xs, hL, e1, e2, ⟨k, S', hr', rfl, hWd, hF⟩, hce, hcv, hcl, st⟩
  · cases hv
    obtain ⟨k1, k2, k3⟩ := vx_keep h0 e1 hS (fun q _ h => hAA q h) hAA hL hF
    have hX2 : XO (p, l, e, R, s, m, args, below, meth, c, Q, G, A) (ρ', Y', cells + mc, slots + ms) := by
      refine ⟨hWd.2.2.2.1, fun a ha => ?_, hWd.2.2.2.2.1, hB.1, hB.2⟩
      by_cases h : a < nX Y
      · rw [(hag a (kd Y a) ⟨h, rfl⟩).1]; exact hX.2.1 a h
      · exact hA1 _ (Nat.le_trans hS.1 (hnew a ha h))
    obtain ⟨t2, a1, b1⟩ := kr ρ' _ _ hag hr' T'.heap (locs ++ L) ls hX2 (by rw [e1]; exact hWd.1) k3 hl hWd.2.2.1 T' rfl Xs
    exact ⟨t2, st t2 a1, b1⟩
  · obtain ⟨k1, k2, k3⟩ := vx_keep h0 e1 hS (fun q _ h => hAA q h) hAA hL hF
    obtain ⟨t2, a1, b1⟩ := kt _ _ hr' T'.heap (locs ++ L) ls rest q ce hX' (by rw [e1]; exact hWd.1) k3 hWd.2 (by rw [e1]; exact hce) hcv hcl ⟨hl.1, hl.2.1, fun _ h => nomatch h⟩ T' rfl Xs
    exact ⟨t2, st.trans a1, b1⟩
theorem u_callVY (hC : CK C own cc nL ret d) (hM : My (cL C) (cG C) y cc' maxL' ret' d' mc ms X.1 X.2.1 As S r Y') (hB : XB C X mc ms) (hL : Lv own idx y cc' maxL' ret' np) {a ci : Nat} {Bs : List Value} (hAs : As = .ref (X.1 a) :: Bs) (hTa : Ty X.2.1 a ci) (hci : ci < 12) (hcl : y.cls = cN ci) (hd' : d' + 1 ≤ d) (hm : 19 + maxL' ≤ 128) (hn : Bs.length = np) {st : List Value} (hst : st = Bs.reverse ++ .ref (X.1 a) :: rest) (hW : (rest.map fun v => v.category).sum ≤ 8) (hdg : decode cc pc = .ok (.invokevirtual idx, 3))
    (kr : ∀ ρ' v S', AG X.1 X.2.1 ρ' Y' → r = .inl (v, S') → UW C (ρ', Y', X.2.2.1 + mc, X.2.2.2 + ms) S' (pc + 3) lv (v.toList ++ rest)) (kt : ∀ k S', r = .inr (k, S') → ThrAt C (X.1, X.2.1, X.2.2.1 + mc, X.2.2.2 + ms) S' k pc) : UW C X S pc lv st := by
  obtain ⟨p, l, e, R, s, m, args, below, meth, c, Q, G, A⟩ := C
  obtain ⟨ρ, Y, cells, slots⟩ := X
  intro H locs ls hX hP hS hl hT
  subst hAs
  obtain ⟨⟨h1, h2, h3, h4⟩, h5, h6⟩ := hL
  have hts : ∀ w ∈ Tb, w.before args s = true := hC.2.2.2.2.1
  have hR1 : d ≤ R.frames := hC.2.2.2.2.2.2.2.2.2.2.1
  have hR2 : 128 * d ≤ R.locals := hC.2.2.2.2.2.2.2.2.2.2.2.1
  have hrecv : ∃ cell : Cell, H[ρ a]? = some cell ∧ cell.vm.isStatics = false ∧ s.vm.findClass y.cls = some cell.cls := by
    obtain ⟨dC, dI, cy, B0, sK, sV⟩ := G
    rw [hcl]
    exact va_recv (q := (cN ci, cT ci, nf ci)) hC.2.2.2.2.2.1.1 hP (cls_at ci hci) (q0 := a) (fs := ov ρ S ci a) (by rw [wl_at hTa.1, cf_obj hTa.2 hci])
  refine u_afterY (X := (ρ, Y, cells, slots)) (r := r) (Y' := Y') (rest := rest) hC hX hB hS hl ?_ kr kt
  exact vx_runV (As := Bs) (rest := rest) (C := y.cls) (b := ρ a) ⟨hC.1, hC.2.1, hC.2.2.1, hC.2.2.2.1, hts⟩ (hM H.size) ⟨callB_of np hts (Tb_goodC h3) rfl rfl rfl (hts _ h2) (hts _ h1) h4 ⟨by show d' + 1 ≤ R.frames; omega, by show 8 + (maxL' + 11) + 128 * d' ≤ R.locals; omega⟩, hts _ h5, hts _ h6⟩ ⟨fb_Wd, hrecv, fun U hU hW' => ⟨rfl, by rw [hU], Wd_at (X := (ρ, Y, cells, slots)) hC hX hP hS hT U hU hW'⟩⟩ rfl hn (hl.1.trans hC.2.2.1) hst (lv_room hW) hdg ⟨hB.1, hB.2⟩
end UY
/-- a wrapper's contract -/
def Mw (l : Launch) (G : GT) (y : MethodName) (cc : ByteArray) (maxL : Nat) (hh : List (Nat × Nat × Nat × Nat)) (d mc ms : Nat) (ρ : Nat → Nat) (Y : XS) (As : List Value) (S : PS) (k : Int32) (S' : PS) (Y' : XS) : Prop :=
  ∀ sz : Nat, vx_Met l y (.codeWith y cc maxL (some .int) hh :: Tb) (rmd d mc ms) (va_Pc As (fun U => (U.heap.size = sz ∧ Wd G ρ Y S U) ∧ va_Nc eI eN U)) (fun _ st oc t => ∃ ρ', AG ρ Y ρ' Y' ∧ (∀ a, a < nX Y' → ¬ a < nX Y → sz ≤ ρ' a) ∧ oc = .returned (some (.int k)) ∧ Wd G ρ' Y' S' t ∧ va_F (aA ρ (nX Y) sz) st t) (fun _ _ _ => False) mc ms (aA ρ (nX Y) sz)
theorem Mw_of {l : Launch} {G : GT} {y : MethodName} {cc : ByteArray} {maxL : Nat} {hh : List (Nat × Nat × Nat × Nat)} {d mc ms : Nat} {ρ : Nat → Nat} {Y : XS} {As : List Value} {S : PS} {kk : Int32} {S' : PS} {Y' : XS} (hl0 : l.stackTraces = false) (hy : plainName y.cls = true) (hlen : (lg_sl As).length ≤ maxL)
    (body : ∀ (C : CT), cL C = l → cG C = G → CK C y.cls cc maxL (some .int) d → HT C hh → XB C (ρ, Y, 0, 0) mc ms → RtA C ρ Y cc (some .int) mc ms (fun _ => some (.int kk)) S' Y' → UW C (ρ, Y, 0, 0) S 0 (lv_args 0 As) []) : Mw l G y cc maxL hh d mc ms ρ Y As S kk S' Y' := by
  intro sz
  refine vx_ofWH (cc := cc) (maxL := maxL) (ret := some .int) (hh := hh) hy rfl ?_
  intro p e s m args below meth c s₁ B hml hv
  obtain ⟨rfl, ⟨hsz, hW⟩, hNc⟩ := hv
  have hx := B.exec
  have hb := B.bytes
  have hr := B.returns
  have hts := atoms_spec (ws := .codeWith y cc maxL (some .int) hh :: Tb) B.pre
  have hown : s.vm.findClass y.cls = some m.cls := findClass_of_methodNamed B.named
  have hlocks := B.notSynchronized
  have htab := vx_table (x := y) B (hts _ List.mem_cons_self)
  subst hsz
  have hl := lv_entry As (n := maxL) hlen
  rw [lg_entry_eq]
  generalize (lg_sl As ++ List.replicate (maxL - (lg_sl As).length) Slot.unset).toArray = ls at hl ⊢
  generalize hQc : (fun (_ : Array Value) (st : State) (oc : Outcome) (t : State) => ∃ ρ', AG ρ Y ρ' Y' ∧ (∀ a, a < nX Y' → ¬ a < nX Y → s.heap.size ≤ ρ' a) ∧ oc = .returned (some (.int kk)) ∧ Wd G ρ' Y' S' t ∧ va_F (aA ρ (nX Y) s.heap.size) st t) = Qc
  generalize hXC : (fun (_ : String) (_ _ : State) => False) = XC
  have hC : CK (p, l, e, rmd d mc ms, s, m, As.toArray, below, meth, c, vx_MQ below Qc XC As.toArray s mc ms (aA ρ (nX Y) s.heap.size), G, aA ρ (nX Y) s.heap.size) y.cls cc maxL (some .int) d := by
    refine ⟨hx, hb, hml, hown, fun w h => hts w (List.mem_cons_of_mem _ h), hW.2.1, fun q h => Or.inr h, ?_, hlocks, hr, Nat.le_refl _, Nat.le_refl _, hl0⟩
    rintro q (⟨a, ha, rfl⟩ | h)
    · exact hW.2.2.2.2.1 a ha
    · exact Nat.le_trans hW.2.2.2.2.2 h
  have hX : XO (p, l, e, rmd d mc ms, s, m, As.toArray, below, meth, c, vx_MQ below Qc XC As.toArray s mc ms (aA ρ (nX Y) s.heap.size), G, aA ρ (nX Y) s.heap.size) (ρ, Y, 0, 0) := ⟨hW.2.2.2.1, fun a ha => Or.inl ⟨a, ha, rfl⟩, hW.2.2.2.2.1, Nat.zero_le _, Nat.zero_le _⟩
  refine body _ rfl rfl hC ⟨htab, hNc⟩ ⟨by show 0 + mc ≤ mc; omega, by show 0 + ms ≤ ms; omega⟩ ?_ s.heap [] ls hX hW.1 va_S.rf (by rw [hml]; exact hl) hW.2.2.1
  intro ρ' hag k z hk hz pc lv hdec hok H locs ls hX hP hS hl hT
  refine W.widen hk hz ?_
  refine vx_ret ?_
  have hq : ∀ t : State, t.heap = H → s.WarmedH t.vm → Qc As.toArray s (.returned (some (.int kk))) t := fun t ht hWt => by
    rw [← hQc]
    refine ⟨ρ', hag, fun a ha hna => ?_, rfl, Wd_at (X := (ρ', Y', k, z)) hC hX hP hS hT t ht hWt, hS.F ht⟩
    rcases hX.2.1 a ha with ⟨b, hb2, e1⟩ | h
    · have hb3 := hag b (kd Y b) ⟨hb2, rfl⟩
      have : a = b := hX.1 a b ha hb3.2.1 (by rw [e1, hb3.1])
      omega
    · exact h
  exact W.iret hx hb hr hq hS.2.2 hdec

-- L_election
theorem dL_election_0 : decode cL_election 0 = .ok (.aload_n 2, 1) := by decide +kernel
theorem dL_election_1 : decode cL_election 1 = .ok (.iconst 0, 1) := by decide +kernel
theorem dL_election_2 : decode cL_election 2 = .ok (.aload_n 0, 1) := by decide +kernel
theorem dL_election_3 : decode cL_election 3 = .ok (.iload_n 1, 1) := by decide +kernel
theorem dL_election_4 : decode cL_election 4 = .ok (.invokevirtual 7, 3) := by decide +kernel
theorem dL_election_7 : decode cL_election 7 = .ok (.i2l, 1) := by decide +kernel
theorem dL_election_8 : decode cL_election 8 = .ok (.lastore, 1) := by decide +kernel
theorem dL_election_9 : decode cL_election 9 = .ok (.goto 6, 3) := by decide +kernel
theorem dL_election_12 : decode cL_election 12 = .ok (.astore_n 3, 1) := by decide +kernel
theorem dL_election_13 : decode cL_election 13 = .ok (.iconst 1, 1) := by decide +kernel
theorem dL_election_14 : decode cL_election 14 = .ok (.ireturn, 1) := by decide +kernel
theorem dL_election_15 : decode cL_election 15 = .ok (.iconst 0, 1) := by decide +kernel
theorem dL_election_16 : decode cL_election 16 = .ok (.ireturn, 1) := by decide +kernel
def hL_election : List (Nat × Nat × Nat × Nat) := [(0, 9, 12, 13)]
def fL_election (Y : XS) (n : Nat) (S : PS) (a0 : Nat) (x1 : Int32) (a2 : Nat) : Option (Int32 × XS × PS) := kc (fX10_election Y n S a0 x1) (fun r => ks r (fun q => kwl q.2.1 q.2.2 a2 0 (Int32.toInt64 q.1) (fun S2 => some ((0 : Int32), q.2.1, S2))) (fun e => if e.1 = 2 then some ((1 : Int32), Y, e.2) else none))
theorem wL_election {C : CT} {ρ : Nat → Nat} {Y : XS} (hC : CK C RL cL_election 4 (some .int) 12) (hH : HT C hL_election) (n : Nat) (S : PS) (a0 : Nat) (x1 : Int32) (a2 : Nat) (hTa0 : Ty Y a0 10) (hTa2 : Ty Y a2 15) {o : Int32 × XS × PS} (hf : fL_election Y n S a0 x1 a2 = some o) (hB : XB C (ρ, Y, 0, 0) 3 508) (hR : RtA C ρ Y cL_election (some .int) 3 508 (fun _ => some (.int o.1)) o.2.2 o.2.1) : UW C (ρ, Y, 0, 0) S 0 [(0, .ref (ρ a0)), (1, .int x1), (2, .ref (ρ a2))] [] := by
  unfold fL_election at hf
  refine u_aload_n hC dL_election_0 2 rfl rfl ?_
  refine u_iconst (v := (0 : Int32)) hC dL_election_1 (by decide) ?_
  refine u_aload_n hC dL_election_2 0 rfl rfl ?_
  refine u_iload_n hC dL_election_3 1 rfl rfl ?_
  obtain ⟨r, hr, hf⟩ := kc_some hf
  refine u_callVY (X := (ρ, Y, 0, 0)) (a := a0) (rest := [.int 0, .ref (ρ a2)]) hC (ctX10_election (cL C) hC.tr (cG C) ρ Y n S a0 x1 hTa0 hr) hB lk_L_7 rfl hTa0 (by decide) rfl (by decide) (by decide) rfl rfl (Nat.le_of_ble_eq_true rfl) dL_election_4 (fun ρ1 v' S' hAG he => ?_) (fun k' S' he => ?_)
  · rcases r with q | e
    · have he : (Sum.inl (some (.int q.1), q.2.2) : MR) = .inl (v', S') := he
      obtain ⟨hv9, hS9⟩ : some (Value.int q.1) = v' ∧ q.2.2 = S' := by cases he; exact ⟨rfl, rfl⟩
      subst hv9
      subst hS9
      have hf := ks_l hf
      replace hAG : AG ρ Y ρ1 q.2.1 := hAG
      have hTo := (hAG a2 _ hTa2).2
      show UW C (ρ1, q.2.1, 0 + 3, 0 + 508) q.2.2 _ _ [.int q.1, .int 0, .ref (ρ a2)]
      rw [← (hAG a2 _ hTa2).1]
      refine u_sub (lv' := []) [] rfl ?_
      refine u_i2l hC dL_election_7 ?_
      refine u_wl (X := (ρ1, q.2.1, 0 + 3, 0 + 508)) (a := a2) hC hTo dL_election_8 hf (fun S2 hf => ?_)
      refine u_goto (tgt := 15) hC dL_election_9 (by decide) ?_
      refine u_iconst (v := (0 : Int32)) hC dL_election_15 (by decide) ?_
      cases hf
      exact hR _ hAG _ _ (Nat.le_of_ble_eq_true rfl) (Nat.le_of_ble_eq_true rfl) _ _ dL_election_16 trivial
    · have he : (Sum.inr e : MR) = .inl (v', S') := he
      cases he
  · rcases r with q | e
    · have he : (Sum.inl (some (.int q.1), q.2.2) : MR) = .inr (k', S') := he
      cases he
    · have he : (Sum.inr e : MR) = .inr (k', S') := he
      have hf := ks_r hf
      cases he
      by_cases hk0 : k' = 2
      · subst hk0
        rw [if_pos rfl] at hf
        cases hf
        refine u_catch (own := RL) (hh := hL_election) hC hH [] (0, 9, 12, 13) [] rfl (fun z h => nomatch h) (by decide) (by decide) (tb_3 17 rfl rfl) (nt_3 24 rfl rfl) (fun q => ?_)
        show UW C (ρ, Y, 0 + 3, 0 + 508) _ _ _ _
        refine u_astore_n (lv' := [(3, .ref q)]) hC dL_election_12 rfl (by decide) rfl ?_
        refine u_iconst (v := (1 : Int32)) hC dL_election_13 (by decide) ?_
        exact hR _ (AG.refl ρ Y) _ _ (Nat.le_of_ble_eq_true rfl) (Nat.le_of_ble_eq_true rfl) _ _ dL_election_14 trivial
      rw [if_neg hk0] at hf
      cases hf
theorem ctL_election (l : Launch) (hl : l.stackTraces = false) (G : GT) (ρ : Nat → Nat) (Y : XS) (n : Nat) (S : PS) (a0 : Nat) (x1 : Int32) (a2 : Nat) (hTa0 : Ty Y a0 10) (hTa2 : Ty Y a2 15) {o : Int32 × XS × PS} (hf : fL_election Y n S a0 x1 a2 = some o) : Mw l G yL_election cL_election 4 hL_election 12 3 508 ρ Y [.ref (ρ a0), .int x1, .ref (ρ a2)] S o.1 o.2.2 o.2.1 :=
  Mw_of hl (by decide) (Nat.le_of_ble_eq_true rfl) (fun C _ _ hC hH hB hR => wL_election hC hH n S a0 x1 a2 hTa0 hTa2 hf hB hR)
-- L_count
theorem dL_count_0 : decode cL_count 0 = .ok (.aload_n 2, 1) := by decide +kernel
theorem dL_count_1 : decode cL_count 1 = .ok (.iconst 0, 1) := by decide +kernel
theorem dL_count_2 : decode cL_count 2 = .ok (.aload_n 0, 1) := by decide +kernel
theorem dL_count_3 : decode cL_count 3 = .ok (.iload_n 1, 1) := by decide +kernel
theorem dL_count_4 : decode cL_count 4 = .ok (.invokevirtual 15, 3) := by decide +kernel
theorem dL_count_7 : decode cL_count 7 = .ok (.i2l, 1) := by decide +kernel
theorem dL_count_8 : decode cL_count 8 = .ok (.lastore, 1) := by decide +kernel
theorem dL_count_9 : decode cL_count 9 = .ok (.goto 6, 3) := by decide +kernel
theorem dL_count_12 : decode cL_count 12 = .ok (.astore_n 3, 1) := by decide +kernel
theorem dL_count_13 : decode cL_count 13 = .ok (.iconst 1, 1) := by decide +kernel
theorem dL_count_14 : decode cL_count 14 = .ok (.ireturn, 1) := by decide +kernel
theorem dL_count_15 : decode cL_count 15 = .ok (.iconst 0, 1) := by decide +kernel
theorem dL_count_16 : decode cL_count 16 = .ok (.ireturn, 1) := by decide +kernel
def hL_count : List (Nat × Nat × Nat × Nat) := [(0, 9, 12, 18)]
def fL_count (Y : XS) (n : Nat) (S : PS) (a0 : Nat) (x1 : Int32) (a2 : Nat) : Option (Int32 × XS × PS) := kc (fX10_count Y n S a0 x1) (fun r => ks r (fun q => kwl Y q.2 a2 0 (Int32.toInt64 q.1) (fun S2 => some ((0 : Int32), Y, S2))) (fun e => if e.1 = 1 then some ((1 : Int32), Y, e.2) else none))
theorem wL_count {C : CT} {ρ : Nat → Nat} {Y : XS} (hC : CK C RL cL_count 4 (some .int) 8) (hH : HT C hL_count) (n : Nat) (S : PS) (a0 : Nat) (x1 : Int32) (a2 : Nat) (hTa0 : Ty Y a0 10) (hTa2 : Ty Y a2 15) {o : Int32 × XS × PS} (hf : fL_count Y n S a0 x1 a2 = some o) (hB : XB C (ρ, Y, 0, 0) 8 48) (hR : RtA C ρ Y cL_count (some .int) 8 48 (fun _ => some (.int o.1)) o.2.2 o.2.1) : UW C (ρ, Y, 0, 0) S 0 [(0, .ref (ρ a0)), (1, .int x1), (2, .ref (ρ a2))] [] := by
  unfold fL_count at hf
  refine u_aload_n hC dL_count_0 2 rfl rfl ?_
  refine u_iconst (v := (0 : Int32)) hC dL_count_1 (by decide) ?_
  refine u_aload_n hC dL_count_2 0 rfl rfl ?_
  refine u_iload_n hC dL_count_3 1 rfl rfl ?_
  obtain ⟨r, hr, hf⟩ := kc_some hf
  refine u_callVY (X := (ρ, Y, 0, 0)) (a := a0) (rest := [.int 0, .ref (ρ a2)]) hC (ctX10_count (cL C) hC.tr (cG C) ρ Y n S a0 x1 hTa0 hr).toMy hB lk_L_15 rfl hTa0 (by decide) rfl (by decide) (by decide) rfl rfl (Nat.le_of_ble_eq_true rfl) dL_count_4 (fun ρ1 v' S' hAG he => ?_) (fun k' S' he => ?_)
  · rcases r with q | e
    · have he : (Sum.inl (some (.int q.1), q.2) : MR) = .inl (v', S') := he
      obtain ⟨hv9, hS9⟩ : some (Value.int q.1) = v' ∧ q.2 = S' := by cases he; exact ⟨rfl, rfl⟩
      subst hv9
      subst hS9
      have hf := ks_l hf
      replace hAG : AG ρ Y ρ1 Y := hAG
      have hTo := (hAG a2 _ hTa2).2
      show UW C (ρ1, Y, 0 + 8, 0 + 48) q.2 _ _ [.int q.1, .int 0, .ref (ρ a2)]
      rw [← (hAG a2 _ hTa2).1]
      refine u_sub (lv' := []) [] rfl ?_
      refine u_i2l hC dL_count_7 ?_
      refine u_wl (X := (ρ1, Y, 0 + 8, 0 + 48)) (a := a2) hC hTo dL_count_8 hf (fun S2 hf => ?_)
      refine u_goto (tgt := 15) hC dL_count_9 (by decide) ?_
      refine u_iconst (v := (0 : Int32)) hC dL_count_15 (by decide) ?_
      cases hf
      exact hR _ hAG _ _ (Nat.le_of_ble_eq_true rfl) (Nat.le_of_ble_eq_true rfl) _ _ dL_count_16 trivial
    · have he : (Sum.inr e : MR) = .inl (v', S') := he
      cases he
  · rcases r with q | e
    · have he : (Sum.inl (some (.int q.1), q.2) : MR) = .inr (k', S') := he
      cases he
    · have he : (Sum.inr e : MR) = .inr (k', S') := he
      have hf := ks_r hf
      cases he
      by_cases hk0 : k' = 1
      · subst hk0
        rw [if_pos rfl] at hf
        cases hf
        refine u_catch (own := RL) (hh := hL_count) hC hH [] (0, 9, 12, 18) [] rfl (fun z h => nomatch h) (by decide) (by decide) (tb_4 53 rfl rfl) (nt_4 63 rfl rfl) (fun q => ?_)
        show UW C (ρ, Y, 0 + 8, 0 + 48) _ _ _ _
        refine u_astore_n (lv' := [(3, .ref q)]) hC dL_count_12 rfl (by decide) rfl ?_
        refine u_iconst (v := (1 : Int32)) hC dL_count_13 (by decide) ?_
        exact hR _ (AG.refl ρ Y) _ _ (Nat.le_of_ble_eq_true rfl) (Nat.le_of_ble_eq_true rfl) _ _ dL_count_14 trivial
      rw [if_neg hk0] at hf
      cases hf
theorem ctL_count (l : Launch) (hl : l.stackTraces = false) (G : GT) (ρ : Nat → Nat) (Y : XS) (n : Nat) (S : PS) (a0 : Nat) (x1 : Int32) (a2 : Nat) (hTa0 : Ty Y a0 10) (hTa2 : Ty Y a2 15) {o : Int32 × XS × PS} (hf : fL_count Y n S a0 x1 a2 = some o) : Mw l G yL_count cL_count 4 hL_count 8 8 48 ρ Y [.ref (ρ a0), .int x1, .ref (ρ a2)] S o.1 o.2.2 o.2.1 :=
  Mw_of hl (by decide) (Nat.le_of_ble_eq_true rfl) (fun C _ _ hC hH hB hR => wL_count hC hH n S a0 x1 a2 hTa0 hTa2 hf hB hR)
-- L_project
theorem dL_project_0 : decode cL_project 0 = .ok (.aload_n 3, 1) := by decide +kernel
theorem dL_project_1 : decode cL_project 1 = .ok (.iconst 0, 1) := by decide +kernel
theorem dL_project_2 : decode cL_project 2 = .ok (.aload_n 0, 1) := by decide +kernel
theorem dL_project_3 : decode cL_project 3 = .ok (.iload_n 1, 1) := by decide +kernel
theorem dL_project_4 : decode cL_project 4 = .ok (.iload_n 2, 1) := by decide +kernel
theorem dL_project_5 : decode cL_project 5 = .ok (.invokevirtual 20, 3) := by decide +kernel
theorem dL_project_8 : decode cL_project 8 = .ok (.i2l, 1) := by decide +kernel
theorem dL_project_9 : decode cL_project 9 = .ok (.lastore, 1) := by decide +kernel
theorem dL_project_10 : decode cL_project 10 = .ok (.goto 7, 3) := by decide +kernel
theorem dL_project_13 : decode cL_project 13 = .ok (.astore 4, 2) := by decide +kernel
theorem dL_project_15 : decode cL_project 15 = .ok (.iconst 1, 1) := by decide +kernel
theorem dL_project_16 : decode cL_project 16 = .ok (.ireturn, 1) := by decide +kernel
theorem dL_project_17 : decode cL_project 17 = .ok (.iconst 0, 1) := by decide +kernel
theorem dL_project_18 : decode cL_project 18 = .ok (.ireturn, 1) := by decide +kernel
def hL_project : List (Nat × Nat × Nat × Nat) := [(0, 10, 13, 18)]
def fL_project (Y : XS) (n : Nat) (S : PS) (a0 : Nat) (x1 : Int32) (x2 : Int32) (a3 : Nat) : Option (Int32 × XS × PS) := kc (fX10_project Y n S a0 x1 x2) (fun r => ks r (fun q => kwl Y q.2 a3 0 (Int32.toInt64 q.1) (fun S2 => some ((0 : Int32), Y, S2))) (fun e => if e.1 = 1 then some ((1 : Int32), Y, e.2) else none))
theorem wL_project {C : CT} {ρ : Nat → Nat} {Y : XS} (hC : CK C RL cL_project 5 (some .int) 8) (hH : HT C hL_project) (n : Nat) (S : PS) (a0 : Nat) (x1 : Int32) (x2 : Int32) (a3 : Nat) (hTa0 : Ty Y a0 10) (hTa3 : Ty Y a3 15) {o : Int32 × XS × PS} (hf : fL_project Y n S a0 x1 x2 a3 = some o) (hB : XB C (ρ, Y, 0, 0) 8 48) (hR : RtA C ρ Y cL_project (some .int) 8 48 (fun _ => some (.int o.1)) o.2.2 o.2.1) : UW C (ρ, Y, 0, 0) S 0 [(0, .ref (ρ a0)), (1, .int x1), (2, .int x2), (3, .ref (ρ a3))] [] := by
  unfold fL_project at hf
  refine u_aload_n hC dL_project_0 3 rfl rfl ?_
  refine u_iconst (v := (0 : Int32)) hC dL_project_1 (by decide) ?_
  refine u_aload_n hC dL_project_2 0 rfl rfl ?_
  refine u_iload_n hC dL_project_3 1 rfl rfl ?_
  refine u_iload_n hC dL_project_4 2 rfl rfl ?_
  obtain ⟨r, hr, hf⟩ := kc_some hf
  refine u_callVY (X := (ρ, Y, 0, 0)) (a := a0) (rest := [.int 0, .ref (ρ a3)]) hC (ctX10_project (cL C) hC.tr (cG C) ρ Y n S a0 x1 x2 hTa0 hr).toMy hB lk_L_20 rfl hTa0 (by decide) rfl (by decide) (by decide) rfl rfl (Nat.le_of_ble_eq_true rfl) dL_project_5 (fun ρ1 v' S' hAG he => ?_) (fun k' S' he => ?_)
  · rcases r with q | e
    · have he : (Sum.inl (some (.int q.1), q.2) : MR) = .inl (v', S') := he
      obtain ⟨hv9, hS9⟩ : some (Value.int q.1) = v' ∧ q.2 = S' := by cases he; exact ⟨rfl, rfl⟩
      subst hv9
      subst hS9
      have hf := ks_l hf
      replace hAG : AG ρ Y ρ1 Y := hAG
      have hTo := (hAG a3 _ hTa3).2
      show UW C (ρ1, Y, 0 + 8, 0 + 48) q.2 _ _ [.int q.1, .int 0, .ref (ρ a3)]
      rw [← (hAG a3 _ hTa3).1]
      refine u_sub (lv' := []) [] rfl ?_
      refine u_i2l hC dL_project_8 ?_
      refine u_wl (X := (ρ1, Y, 0 + 8, 0 + 48)) (a := a3) hC hTo dL_project_9 hf (fun S2 hf => ?_)
      refine u_goto (tgt := 17) hC dL_project_10 (by decide) ?_
      refine u_iconst (v := (0 : Int32)) hC dL_project_17 (by decide) ?_
      cases hf
      exact hR _ hAG _ _ (Nat.le_of_ble_eq_true rfl) (Nat.le_of_ble_eq_true rfl) _ _ dL_project_18 trivial
    · have he : (Sum.inr e : MR) = .inl (v', S') := he
      cases he
  · rcases r with q | e
    · have he : (Sum.inl (some (.int q.1), q.2) : MR) = .inr (k', S') := he
      cases he
    · have he : (Sum.inr e : MR) = .inr (k', S') := he
      have hf := ks_r hf
      cases he
      by_cases hk0 : k' = 1
      · subst hk0
        rw [if_pos rfl] at hf
        cases hf
        refine u_catch (own := RL) (hh := hL_project) hC hH [] (0, 10, 13, 18) [] rfl (fun z h => nomatch h) (by decide) (by decide) (tb_4 53 rfl rfl) (nt_4 63 rfl rfl) (fun q => ?_)
        show UW C (ρ, Y, 0 + 8, 0 + 48) _ _ _ _
        refine u_astore (lv' := [(4, .ref q)]) hC dL_project_13 (by decide) rfl ?_
        refine u_iconst (v := (1 : Int32)) hC dL_project_15 (by decide) ?_
        exact hR _ (AG.refl ρ Y) _ _ (Nat.le_of_ble_eq_true rfl) (Nat.le_of_ble_eq_true rfl) _ _ dL_project_16 trivial
      rw [if_neg hk0] at hf
      cases hf
theorem ctL_project (l : Launch) (hl : l.stackTraces = false) (G : GT) (ρ : Nat → Nat) (Y : XS) (n : Nat) (S : PS) (a0 : Nat) (x1 : Int32) (x2 : Int32) (a3 : Nat) (hTa0 : Ty Y a0 10) (hTa3 : Ty Y a3 15) {o : Int32 × XS × PS} (hf : fL_project Y n S a0 x1 x2 a3 = some o) : Mw l G yL_project cL_project 5 hL_project 8 8 48 ρ Y [.ref (ρ a0), .int x1, .int x2, .ref (ρ a3)] S o.1 o.2.2 o.2.1 :=
  Mw_of hl (by decide) (Nat.le_of_ble_eq_true rfl) (fun C _ _ hC hH hB hR => wL_project hC hH n S a0 x1 x2 a3 hTa0 hTa3 hf hB hR)
-- L_vote
theorem dL_vote_0 : decode cL_vote 0 = .ok (.aload 4, 2) := by decide +kernel
theorem dL_vote_2 : decode cL_vote 2 = .ok (.iconst 0, 1) := by decide +kernel
theorem dL_vote_3 : decode cL_vote 3 = .ok (.aload_n 0, 1) := by decide +kernel
theorem dL_vote_4 : decode cL_vote 4 = .ok (.iload_n 1, 1) := by decide +kernel
theorem dL_vote_5 : decode cL_vote 5 = .ok (.iload_n 2, 1) := by decide +kernel
theorem dL_vote_6 : decode cL_vote 6 = .ok (.iload_n 3, 1) := by decide +kernel
theorem dL_vote_7 : decode cL_vote 7 = .ok (.invokevirtual 24, 3) := by decide +kernel
theorem dL_vote_10 : decode cL_vote 10 = .ok (.i2l, 1) := by decide +kernel
theorem dL_vote_11 : decode cL_vote 11 = .ok (.lastore, 1) := by decide +kernel
theorem dL_vote_12 : decode cL_vote 12 = .ok (.goto 7, 3) := by decide +kernel
theorem dL_vote_15 : decode cL_vote 15 = .ok (.astore 5, 2) := by decide +kernel
theorem dL_vote_17 : decode cL_vote 17 = .ok (.iconst 1, 1) := by decide +kernel
theorem dL_vote_18 : decode cL_vote 18 = .ok (.ireturn, 1) := by decide +kernel
theorem dL_vote_19 : decode cL_vote 19 = .ok (.iconst 0, 1) := by decide +kernel
theorem dL_vote_20 : decode cL_vote 20 = .ok (.ireturn, 1) := by decide +kernel
def hL_vote : List (Nat × Nat × Nat × Nat) := [(0, 12, 15, 18)]
def fL_vote (Y : XS) (n : Nat) (S : PS) (a0 : Nat) (x1 : Int32) (x2 : Int32) (x3 : Int32) (a4 : Nat) : Option (Int32 × XS × PS) := kc (fX10_vote Y n S a0 x1 x2 x3) (fun r => ks r (fun q => kwl Y q.2 a4 0 (Int32.toInt64 q.1) (fun S2 => some ((0 : Int32), Y, S2))) (fun e => if e.1 = 1 then some ((1 : Int32), Y, e.2) else none))
theorem wL_vote {C : CT} {ρ : Nat → Nat} {Y : XS} (hC : CK C RL cL_vote 6 (some .int) 8) (hH : HT C hL_vote) (n : Nat) (S : PS) (a0 : Nat) (x1 : Int32) (x2 : Int32) (x3 : Int32) (a4 : Nat) (hTa0 : Ty Y a0 10) (hTa4 : Ty Y a4 15) {o : Int32 × XS × PS} (hf : fL_vote Y n S a0 x1 x2 x3 a4 = some o) (hB : XB C (ρ, Y, 0, 0) 8 48) (hR : RtA C ρ Y cL_vote (some .int) 8 48 (fun _ => some (.int o.1)) o.2.2 o.2.1) : UW C (ρ, Y, 0, 0) S 0 [(0, .ref (ρ a0)), (1, .int x1), (2, .int x2), (3, .int x3), (4, .ref (ρ a4))] [] := by
  unfold fL_vote at hf
  refine u_aload hC dL_vote_0 4 rfl ?_
  refine u_iconst (v := (0 : Int32)) hC dL_vote_2 (by decide) ?_
  refine u_aload_n hC dL_vote_3 0 rfl rfl ?_
  refine u_iload_n hC dL_vote_4 1 rfl rfl ?_
  refine u_iload_n hC dL_vote_5 2 rfl rfl ?_
  refine u_iload_n hC dL_vote_6 3 rfl rfl ?_
  obtain ⟨r, hr, hf⟩ := kc_some hf
  refine u_callVY (X := (ρ, Y, 0, 0)) (a := a0) (rest := [.int 0, .ref (ρ a4)]) hC (ctX10_vote (cL C) hC.tr (cG C) ρ Y n S a0 x1 x2 x3 hTa0 hr).toMy hB lk_L_24 rfl hTa0 (by decide) rfl (by decide) (by decide) rfl rfl (Nat.le_of_ble_eq_true rfl) dL_vote_7 (fun ρ1 v' S' hAG he => ?_) (fun k' S' he => ?_)
  · rcases r with q | e
    · have he : (Sum.inl (some (.int q.1), q.2) : MR) = .inl (v', S') := he
      obtain ⟨hv9, hS9⟩ : some (Value.int q.1) = v' ∧ q.2 = S' := by cases he; exact ⟨rfl, rfl⟩
      subst hv9
      subst hS9
      have hf := ks_l hf
      replace hAG : AG ρ Y ρ1 Y := hAG
      have hTo := (hAG a4 _ hTa4).2
      show UW C (ρ1, Y, 0 + 8, 0 + 48) q.2 _ _ [.int q.1, .int 0, .ref (ρ a4)]
      rw [← (hAG a4 _ hTa4).1]
      refine u_sub (lv' := []) [] rfl ?_
      refine u_i2l hC dL_vote_10 ?_
      refine u_wl (X := (ρ1, Y, 0 + 8, 0 + 48)) (a := a4) hC hTo dL_vote_11 hf (fun S2 hf => ?_)
      refine u_goto (tgt := 19) hC dL_vote_12 (by decide) ?_
      refine u_iconst (v := (0 : Int32)) hC dL_vote_19 (by decide) ?_
      cases hf
      exact hR _ hAG _ _ (Nat.le_of_ble_eq_true rfl) (Nat.le_of_ble_eq_true rfl) _ _ dL_vote_20 trivial
    · have he : (Sum.inr e : MR) = .inl (v', S') := he
      cases he
  · rcases r with q | e
    · have he : (Sum.inl (some (.int q.1), q.2) : MR) = .inr (k', S') := he
      cases he
    · have he : (Sum.inr e : MR) = .inr (k', S') := he
      have hf := ks_r hf
      cases he
      by_cases hk0 : k' = 1
      · subst hk0
        rw [if_pos rfl] at hf
        cases hf
        refine u_catch (own := RL) (hh := hL_vote) hC hH [] (0, 12, 15, 18) [] rfl (fun z h => nomatch h) (by decide) (by decide) (tb_4 53 rfl rfl) (nt_4 63 rfl rfl) (fun q => ?_)
        show UW C (ρ, Y, 0 + 8, 0 + 48) _ _ _ _
        refine u_astore (lv' := [(5, .ref q)]) hC dL_vote_15 (by decide) rfl ?_
        refine u_iconst (v := (1 : Int32)) hC dL_vote_17 (by decide) ?_
        exact hR _ (AG.refl ρ Y) _ _ (Nat.le_of_ble_eq_true rfl) (Nat.le_of_ble_eq_true rfl) _ _ dL_vote_18 trivial
      rw [if_neg hk0] at hf
      cases hf
theorem ctL_vote (l : Launch) (hl : l.stackTraces = false) (G : GT) (ρ : Nat → Nat) (Y : XS) (n : Nat) (S : PS) (a0 : Nat) (x1 : Int32) (x2 : Int32) (x3 : Int32) (a4 : Nat) (hTa0 : Ty Y a0 10) (hTa4 : Ty Y a4 15) {o : Int32 × XS × PS} (hf : fL_vote Y n S a0 x1 x2 x3 a4 = some o) : Mw l G yL_vote cL_vote 6 hL_vote 8 8 48 ρ Y [.ref (ρ a0), .int x1, .int x2, .int x3, .ref (ρ a4)] S o.1 o.2.2 o.2.1 :=
  Mw_of hl (by decide) (Nat.le_of_ble_eq_true rfl) (fun C _ _ hC hH hB hR => wL_vote hC hH n S a0 x1 x2 x3 a4 hTa0 hTa4 hf hB hR)
-- L_outcome
theorem dL_outcome_0 : decode cL_outcome 0 = .ok (.aload_n 3, 1) := by decide +kernel
theorem dL_outcome_1 : decode cL_outcome 1 = .ok (.iconst 0, 1) := by decide +kernel
theorem dL_outcome_2 : decode cL_outcome 2 = .ok (.aload_n 0, 1) := by decide +kernel
theorem dL_outcome_3 : decode cL_outcome 3 = .ok (.iload_n 1, 1) := by decide +kernel
theorem dL_outcome_4 : decode cL_outcome 4 = .ok (.iload_n 2, 1) := by decide +kernel
theorem dL_outcome_5 : decode cL_outcome 5 = .ok (.invokevirtual 28, 3) := by decide +kernel
theorem dL_outcome_8 : decode cL_outcome 8 = .ok (.i2l, 1) := by decide +kernel
theorem dL_outcome_9 : decode cL_outcome 9 = .ok (.lastore, 1) := by decide +kernel
theorem dL_outcome_10 : decode cL_outcome 10 = .ok (.goto 7, 3) := by decide +kernel
theorem dL_outcome_13 : decode cL_outcome 13 = .ok (.astore 4, 2) := by decide +kernel
theorem dL_outcome_15 : decode cL_outcome 15 = .ok (.iconst 1, 1) := by decide +kernel
theorem dL_outcome_16 : decode cL_outcome 16 = .ok (.ireturn, 1) := by decide +kernel
theorem dL_outcome_17 : decode cL_outcome 17 = .ok (.iconst 0, 1) := by decide +kernel
theorem dL_outcome_18 : decode cL_outcome 18 = .ok (.ireturn, 1) := by decide +kernel
def hL_outcome : List (Nat × Nat × Nat × Nat) := [(0, 10, 13, 18)]
def fL_outcome (Y : XS) (n : Nat) (S : PS) (a0 : Nat) (x1 : Int32) (x2 : Int32) (a3 : Nat) : Option (Int32 × XS × PS) := kc (fX10_outcome Y n S a0 x1 x2) (fun r => ks r (fun q => kwl Y q.2 a3 0 (Int32.toInt64 q.1) (fun S2 => some ((0 : Int32), Y, S2))) (fun e => if e.1 = 1 then some ((1 : Int32), Y, e.2) else none))
theorem wL_outcome {C : CT} {ρ : Nat → Nat} {Y : XS} (hC : CK C RL cL_outcome 5 (some .int) 8) (hH : HT C hL_outcome) (n : Nat) (S : PS) (a0 : Nat) (x1 : Int32) (x2 : Int32) (a3 : Nat) (hTa0 : Ty Y a0 10) (hTa3 : Ty Y a3 15) {o : Int32 × XS × PS} (hf : fL_outcome Y n S a0 x1 x2 a3 = some o) (hB : XB C (ρ, Y, 0, 0) 8 48) (hR : RtA C ρ Y cL_outcome (some .int) 8 48 (fun _ => some (.int o.1)) o.2.2 o.2.1) : UW C (ρ, Y, 0, 0) S 0 [(0, .ref (ρ a0)), (1, .int x1), (2, .int x2), (3, .ref (ρ a3))] [] := by
  unfold fL_outcome at hf
  refine u_aload_n hC dL_outcome_0 3 rfl rfl ?_
  refine u_iconst (v := (0 : Int32)) hC dL_outcome_1 (by decide) ?_
  refine u_aload_n hC dL_outcome_2 0 rfl rfl ?_
  refine u_iload_n hC dL_outcome_3 1 rfl rfl ?_
  refine u_iload_n hC dL_outcome_4 2 rfl rfl ?_
  obtain ⟨r, hr, hf⟩ := kc_some hf
  refine u_callVY (X := (ρ, Y, 0, 0)) (a := a0) (rest := [.int 0, .ref (ρ a3)]) hC (ctX10_outcome (cL C) hC.tr (cG C) ρ Y n S a0 x1 x2 hTa0 hr).toMy hB lk_L_28 rfl hTa0 (by decide) rfl (by decide) (by decide) rfl rfl (Nat.le_of_ble_eq_true rfl) dL_outcome_5 (fun ρ1 v' S' hAG he => ?_) (fun k' S' he => ?_)
  · rcases r with q | e
    · have he : (Sum.inl (some (.int q.1), q.2) : MR) = .inl (v', S') := he
      obtain ⟨hv9, hS9⟩ : some (Value.int q.1) = v' ∧ q.2 = S' := by cases he; exact ⟨rfl, rfl⟩
      subst hv9
      subst hS9
      have hf := ks_l hf
      replace hAG : AG ρ Y ρ1 Y := hAG
      have hTo := (hAG a3 _ hTa3).2
      show UW C (ρ1, Y, 0 + 8, 0 + 48) q.2 _ _ [.int q.1, .int 0, .ref (ρ a3)]
      rw [← (hAG a3 _ hTa3).1]
      refine u_sub (lv' := []) [] rfl ?_
      refine u_i2l hC dL_outcome_8 ?_
      refine u_wl (X := (ρ1, Y, 0 + 8, 0 + 48)) (a := a3) hC hTo dL_outcome_9 hf (fun S2 hf => ?_)
      refine u_goto (tgt := 17) hC dL_outcome_10 (by decide) ?_
      refine u_iconst (v := (0 : Int32)) hC dL_outcome_17 (by decide) ?_
      cases hf
      exact hR _ hAG _ _ (Nat.le_of_ble_eq_true rfl) (Nat.le_of_ble_eq_true rfl) _ _ dL_outcome_18 trivial
    · have he : (Sum.inr e : MR) = .inl (v', S') := he
      cases he
  · rcases r with q | e
    · have he : (Sum.inl (some (.int q.1), q.2) : MR) = .inr (k', S') := he
      cases he
    · have he : (Sum.inr e : MR) = .inr (k', S') := he
      have hf := ks_r hf
      cases he
      by_cases hk0 : k' = 1
      · subst hk0
        rw [if_pos rfl] at hf
        cases hf
        refine u_catch (own := RL) (hh := hL_outcome) hC hH [] (0, 10, 13, 18) [] rfl (fun z h => nomatch h) (by decide) (by decide) (tb_4 53 rfl rfl) (nt_4 63 rfl rfl) (fun q => ?_)
        show UW C (ρ, Y, 0 + 8, 0 + 48) _ _ _ _
        refine u_astore (lv' := [(4, .ref q)]) hC dL_outcome_13 (by decide) rfl ?_
        refine u_iconst (v := (1 : Int32)) hC dL_outcome_15 (by decide) ?_
        exact hR _ (AG.refl ρ Y) _ _ (Nat.le_of_ble_eq_true rfl) (Nat.le_of_ble_eq_true rfl) _ _ dL_outcome_16 trivial
      rw [if_neg hk0] at hf
      cases hf
theorem ctL_outcome (l : Launch) (hl : l.stackTraces = false) (G : GT) (ρ : Nat → Nat) (Y : XS) (n : Nat) (S : PS) (a0 : Nat) (x1 : Int32) (x2 : Int32) (a3 : Nat) (hTa0 : Ty Y a0 10) (hTa3 : Ty Y a3 15) {o : Int32 × XS × PS} (hf : fL_outcome Y n S a0 x1 x2 a3 = some o) : Mw l G yL_outcome cL_outcome 5 hL_outcome 8 8 48 ρ Y [.ref (ρ a0), .int x1, .int x2, .ref (ρ a3)] S o.1 o.2.2 o.2.1 :=
  Mw_of hl (by decide) (Nat.le_of_ble_eq_true rfl) (fun C _ _ hC hH hB hR => wL_outcome hC hH n S a0 x1 x2 a3 hTa0 hTa3 hf hB hR)
-- L_chosen
theorem dL_chosen_0 : decode cL_chosen 0 = .ok (.aload_n 3, 1) := by decide +kernel
theorem dL_chosen_1 : decode cL_chosen 1 = .ok (.iconst 0, 1) := by decide +kernel
theorem dL_chosen_2 : decode cL_chosen 2 = .ok (.aload_n 0, 1) := by decide +kernel
theorem dL_chosen_3 : decode cL_chosen 3 = .ok (.iload_n 1, 1) := by decide +kernel
theorem dL_chosen_4 : decode cL_chosen 4 = .ok (.iload_n 2, 1) := by decide +kernel
theorem dL_chosen_5 : decode cL_chosen 5 = .ok (.invokevirtual 31, 3) := by decide +kernel
theorem dL_chosen_8 : decode cL_chosen 8 = .ok (.i2l, 1) := by decide +kernel
theorem dL_chosen_9 : decode cL_chosen 9 = .ok (.lastore, 1) := by decide +kernel
theorem dL_chosen_10 : decode cL_chosen 10 = .ok (.goto 7, 3) := by decide +kernel
theorem dL_chosen_13 : decode cL_chosen 13 = .ok (.astore 4, 2) := by decide +kernel
theorem dL_chosen_15 : decode cL_chosen 15 = .ok (.iconst 1, 1) := by decide +kernel
theorem dL_chosen_16 : decode cL_chosen 16 = .ok (.ireturn, 1) := by decide +kernel
theorem dL_chosen_17 : decode cL_chosen 17 = .ok (.iconst 0, 1) := by decide +kernel
theorem dL_chosen_18 : decode cL_chosen 18 = .ok (.ireturn, 1) := by decide +kernel
def hL_chosen : List (Nat × Nat × Nat × Nat) := [(0, 10, 13, 18)]
def fL_chosen (Y : XS) (n : Nat) (S : PS) (a0 : Nat) (x1 : Int32) (x2 : Int32) (a3 : Nat) : Option (Int32 × XS × PS) := kc (fX10_chosen Y n S a0 x1 x2) (fun r => ks r (fun q => kwl Y q.2 a3 0 (Int32.toInt64 q.1) (fun S2 => some ((0 : Int32), Y, S2))) (fun e => if e.1 = 1 then some ((1 : Int32), Y, e.2) else none))
theorem wL_chosen {C : CT} {ρ : Nat → Nat} {Y : XS} (hC : CK C RL cL_chosen 5 (some .int) 8) (hH : HT C hL_chosen) (n : Nat) (S : PS) (a0 : Nat) (x1 : Int32) (x2 : Int32) (a3 : Nat) (hTa0 : Ty Y a0 10) (hTa3 : Ty Y a3 15) {o : Int32 × XS × PS} (hf : fL_chosen Y n S a0 x1 x2 a3 = some o) (hB : XB C (ρ, Y, 0, 0) 8 48) (hR : RtA C ρ Y cL_chosen (some .int) 8 48 (fun _ => some (.int o.1)) o.2.2 o.2.1) : UW C (ρ, Y, 0, 0) S 0 [(0, .ref (ρ a0)), (1, .int x1), (2, .int x2), (3, .ref (ρ a3))] [] := by
  unfold fL_chosen at hf
  refine u_aload_n hC dL_chosen_0 3 rfl rfl ?_
  refine u_iconst (v := (0 : Int32)) hC dL_chosen_1 (by decide) ?_
  refine u_aload_n hC dL_chosen_2 0 rfl rfl ?_
  refine u_iload_n hC dL_chosen_3 1 rfl rfl ?_
  refine u_iload_n hC dL_chosen_4 2 rfl rfl ?_
  obtain ⟨r, hr, hf⟩ := kc_some hf
  refine u_callVY (X := (ρ, Y, 0, 0)) (a := a0) (rest := [.int 0, .ref (ρ a3)]) hC (ctX10_chosen (cL C) hC.tr (cG C) ρ Y n S a0 x1 x2 hTa0 hr).toMy hB lk_L_31 rfl hTa0 (by decide) rfl (by decide) (by decide) rfl rfl (Nat.le_of_ble_eq_true rfl) dL_chosen_5 (fun ρ1 v' S' hAG he => ?_) (fun k' S' he => ?_)
  · rcases r with q | e
    · have he : (Sum.inl (some (.int q.1), q.2) : MR) = .inl (v', S') := he
      obtain ⟨hv9, hS9⟩ : some (Value.int q.1) = v' ∧ q.2 = S' := by cases he; exact ⟨rfl, rfl⟩
      subst hv9
      subst hS9
      have hf := ks_l hf
      replace hAG : AG ρ Y ρ1 Y := hAG
      have hTo := (hAG a3 _ hTa3).2
      show UW C (ρ1, Y, 0 + 8, 0 + 48) q.2 _ _ [.int q.1, .int 0, .ref (ρ a3)]
      rw [← (hAG a3 _ hTa3).1]
      refine u_sub (lv' := []) [] rfl ?_
      refine u_i2l hC dL_chosen_8 ?_
      refine u_wl (X := (ρ1, Y, 0 + 8, 0 + 48)) (a := a3) hC hTo dL_chosen_9 hf (fun S2 hf => ?_)
      refine u_goto (tgt := 17) hC dL_chosen_10 (by decide) ?_
      refine u_iconst (v := (0 : Int32)) hC dL_chosen_17 (by decide) ?_
      cases hf
      exact hR _ hAG _ _ (Nat.le_of_ble_eq_true rfl) (Nat.le_of_ble_eq_true rfl) _ _ dL_chosen_18 trivial
    · have he : (Sum.inr e : MR) = .inl (v', S') := he
      cases he
  · rcases r with q | e
    · have he : (Sum.inl (some (.int q.1), q.2) : MR) = .inr (k', S') := he
      cases he
    · have he : (Sum.inr e : MR) = .inr (k', S') := he
      have hf := ks_r hf
      cases he
      by_cases hk0 : k' = 1
      · subst hk0
        rw [if_pos rfl] at hf
        cases hf
        refine u_catch (own := RL) (hh := hL_chosen) hC hH [] (0, 10, 13, 18) [] rfl (fun z h => nomatch h) (by decide) (by decide) (tb_4 53 rfl rfl) (nt_4 63 rfl rfl) (fun q => ?_)
        show UW C (ρ, Y, 0 + 8, 0 + 48) _ _ _ _
        refine u_astore (lv' := [(4, .ref q)]) hC dL_chosen_13 (by decide) rfl ?_
        refine u_iconst (v := (1 : Int32)) hC dL_chosen_15 (by decide) ?_
        exact hR _ (AG.refl ρ Y) _ _ (Nat.le_of_ble_eq_true rfl) (Nat.le_of_ble_eq_true rfl) _ _ dL_chosen_16 trivial
      rw [if_neg hk0] at hf
      cases hf
theorem ctL_chosen (l : Launch) (hl : l.stackTraces = false) (G : GT) (ρ : Nat → Nat) (Y : XS) (n : Nat) (S : PS) (a0 : Nat) (x1 : Int32) (x2 : Int32) (a3 : Nat) (hTa0 : Ty Y a0 10) (hTa3 : Ty Y a3 15) {o : Int32 × XS × PS} (hf : fL_chosen Y n S a0 x1 x2 a3 = some o) : Mw l G yL_chosen cL_chosen 5 hL_chosen 8 8 48 ρ Y [.ref (ρ a0), .int x1, .int x2, .ref (ρ a3)] S o.1 o.2.2 o.2.1 :=
  Mw_of hl (by decide) (Nat.le_of_ble_eq_true rfl) (fun C _ _ hC hH hB hR => wL_chosen hC hH n S a0 x1 x2 a3 hTa0 hTa3 hf hB hR)
-- L_served
theorem dL_served_0 : decode cL_served 0 = .ok (.aload_n 3, 1) := by decide +kernel
theorem dL_served_1 : decode cL_served 1 = .ok (.iconst 0, 1) := by decide +kernel
theorem dL_served_2 : decode cL_served 2 = .ok (.aload_n 0, 1) := by decide +kernel
theorem dL_served_3 : decode cL_served 3 = .ok (.iload_n 1, 1) := by decide +kernel
theorem dL_served_4 : decode cL_served 4 = .ok (.iload_n 2, 1) := by decide +kernel
theorem dL_served_5 : decode cL_served 5 = .ok (.invokevirtual 34, 3) := by decide +kernel
theorem dL_served_8 : decode cL_served 8 = .ok (.i2l, 1) := by decide +kernel
theorem dL_served_9 : decode cL_served 9 = .ok (.lastore, 1) := by decide +kernel
theorem dL_served_10 : decode cL_served 10 = .ok (.goto 7, 3) := by decide +kernel
theorem dL_served_13 : decode cL_served 13 = .ok (.astore 4, 2) := by decide +kernel
theorem dL_served_15 : decode cL_served 15 = .ok (.iconst 1, 1) := by decide +kernel
theorem dL_served_16 : decode cL_served 16 = .ok (.ireturn, 1) := by decide +kernel
theorem dL_served_17 : decode cL_served 17 = .ok (.iconst 0, 1) := by decide +kernel
theorem dL_served_18 : decode cL_served 18 = .ok (.ireturn, 1) := by decide +kernel
def hL_served : List (Nat × Nat × Nat × Nat) := [(0, 10, 13, 18)]
def fL_served (Y : XS) (n : Nat) (S : PS) (a0 : Nat) (x1 : Int32) (x2 : Int32) (a3 : Nat) : Option (Int32 × XS × PS) := kc (fX10_served Y n S a0 x1 x2) (fun r => ks r (fun q => kwl Y q.2 a3 0 (Int32.toInt64 q.1) (fun S2 => some ((0 : Int32), Y, S2))) (fun e => if e.1 = 1 then some ((1 : Int32), Y, e.2) else none))
theorem wL_served {C : CT} {ρ : Nat → Nat} {Y : XS} (hC : CK C RL cL_served 5 (some .int) 8) (hH : HT C hL_served) (n : Nat) (S : PS) (a0 : Nat) (x1 : Int32) (x2 : Int32) (a3 : Nat) (hTa0 : Ty Y a0 10) (hTa3 : Ty Y a3 15) {o : Int32 × XS × PS} (hf : fL_served Y n S a0 x1 x2 a3 = some o) (hB : XB C (ρ, Y, 0, 0) 8 48) (hR : RtA C ρ Y cL_served (some .int) 8 48 (fun _ => some (.int o.1)) o.2.2 o.2.1) : UW C (ρ, Y, 0, 0) S 0 [(0, .ref (ρ a0)), (1, .int x1), (2, .int x2), (3, .ref (ρ a3))] [] := by
  unfold fL_served at hf
  refine u_aload_n hC dL_served_0 3 rfl rfl ?_
  refine u_iconst (v := (0 : Int32)) hC dL_served_1 (by decide) ?_
  refine u_aload_n hC dL_served_2 0 rfl rfl ?_
  refine u_iload_n hC dL_served_3 1 rfl rfl ?_
  refine u_iload_n hC dL_served_4 2 rfl rfl ?_
  obtain ⟨r, hr, hf⟩ := kc_some hf
  refine u_callVY (X := (ρ, Y, 0, 0)) (a := a0) (rest := [.int 0, .ref (ρ a3)]) hC (ctX10_served (cL C) hC.tr (cG C) ρ Y n S a0 x1 x2 hTa0 hr).toMy hB lk_L_34 rfl hTa0 (by decide) rfl (by decide) (by decide) rfl rfl (Nat.le_of_ble_eq_true rfl) dL_served_5 (fun ρ1 v' S' hAG he => ?_) (fun k' S' he => ?_)
  · rcases r with q | e
    · have he : (Sum.inl (some (.int q.1), q.2) : MR) = .inl (v', S') := he
      obtain ⟨hv9, hS9⟩ : some (Value.int q.1) = v' ∧ q.2 = S' := by cases he; exact ⟨rfl, rfl⟩
      subst hv9
      subst hS9
      have hf := ks_l hf
      replace hAG : AG ρ Y ρ1 Y := hAG
      have hTo := (hAG a3 _ hTa3).2
      show UW C (ρ1, Y, 0 + 8, 0 + 48) q.2 _ _ [.int q.1, .int 0, .ref (ρ a3)]
      rw [← (hAG a3 _ hTa3).1]
      refine u_sub (lv' := []) [] rfl ?_
      refine u_i2l hC dL_served_8 ?_
      refine u_wl (X := (ρ1, Y, 0 + 8, 0 + 48)) (a := a3) hC hTo dL_served_9 hf (fun S2 hf => ?_)
      refine u_goto (tgt := 17) hC dL_served_10 (by decide) ?_
      refine u_iconst (v := (0 : Int32)) hC dL_served_17 (by decide) ?_
      cases hf
      exact hR _ hAG _ _ (Nat.le_of_ble_eq_true rfl) (Nat.le_of_ble_eq_true rfl) _ _ dL_served_18 trivial
    · have he : (Sum.inr e : MR) = .inl (v', S') := he
      cases he
  · rcases r with q | e
    · have he : (Sum.inl (some (.int q.1), q.2) : MR) = .inr (k', S') := he
      cases he
    · have he : (Sum.inr e : MR) = .inr (k', S') := he
      have hf := ks_r hf
      cases he
      by_cases hk0 : k' = 1
      · subst hk0
        rw [if_pos rfl] at hf
        cases hf
        refine u_catch (own := RL) (hh := hL_served) hC hH [] (0, 10, 13, 18) [] rfl (fun z h => nomatch h) (by decide) (by decide) (tb_4 53 rfl rfl) (nt_4 63 rfl rfl) (fun q => ?_)
        show UW C (ρ, Y, 0 + 8, 0 + 48) _ _ _ _
        refine u_astore (lv' := [(4, .ref q)]) hC dL_served_13 (by decide) rfl ?_
        refine u_iconst (v := (1 : Int32)) hC dL_served_15 (by decide) ?_
        exact hR _ (AG.refl ρ Y) _ _ (Nat.le_of_ble_eq_true rfl) (Nat.le_of_ble_eq_true rfl) _ _ dL_served_16 trivial
      rw [if_neg hk0] at hf
      cases hf
theorem ctL_served (l : Launch) (hl : l.stackTraces = false) (G : GT) (ρ : Nat → Nat) (Y : XS) (n : Nat) (S : PS) (a0 : Nat) (x1 : Int32) (x2 : Int32) (a3 : Nat) (hTa0 : Ty Y a0 10) (hTa3 : Ty Y a3 15) {o : Int32 × XS × PS} (hf : fL_served Y n S a0 x1 x2 a3 = some o) : Mw l G yL_served cL_served 5 hL_served 8 8 48 ρ Y [.ref (ρ a0), .int x1, .int x2, .ref (ρ a3)] S o.1 o.2.2 o.2.1 :=
  Mw_of hl (by decide) (Nat.le_of_ble_eq_true rfl) (fun C _ _ hC hH hB hR => wL_served hC hH n S a0 x1 x2 a3 hTa0 hTa3 hf hB hR)
-- L_paid
theorem dL_paid_0 : decode cL_paid 0 = .ok (.aload 4, 2) := by decide +kernel
theorem dL_paid_2 : decode cL_paid 2 = .ok (.iconst 0, 1) := by decide +kernel
theorem dL_paid_3 : decode cL_paid 3 = .ok (.aload_n 0, 1) := by decide +kernel
theorem dL_paid_4 : decode cL_paid 4 = .ok (.iload_n 1, 1) := by decide +kernel
theorem dL_paid_5 : decode cL_paid 5 = .ok (.iload_n 2, 1) := by decide +kernel
theorem dL_paid_6 : decode cL_paid 6 = .ok (.iload_n 3, 1) := by decide +kernel
theorem dL_paid_7 : decode cL_paid 7 = .ok (.invokevirtual 37, 3) := by decide +kernel
theorem dL_paid_10 : decode cL_paid 10 = .ok (.i2l, 1) := by decide +kernel
theorem dL_paid_11 : decode cL_paid 11 = .ok (.lastore, 1) := by decide +kernel
theorem dL_paid_12 : decode cL_paid 12 = .ok (.goto 7, 3) := by decide +kernel
theorem dL_paid_15 : decode cL_paid 15 = .ok (.astore 5, 2) := by decide +kernel
theorem dL_paid_17 : decode cL_paid 17 = .ok (.iconst 1, 1) := by decide +kernel
theorem dL_paid_18 : decode cL_paid 18 = .ok (.ireturn, 1) := by decide +kernel
theorem dL_paid_19 : decode cL_paid 19 = .ok (.iconst 0, 1) := by decide +kernel
theorem dL_paid_20 : decode cL_paid 20 = .ok (.ireturn, 1) := by decide +kernel
def hL_paid : List (Nat × Nat × Nat × Nat) := [(0, 12, 15, 18)]
def fL_paid (Y : XS) (n : Nat) (S : PS) (a0 : Nat) (x1 : Int32) (x2 : Int32) (x3 : Int32) (a4 : Nat) : Option (Int32 × XS × PS) := kc (fX10_paid Y n S a0 x1 x2 x3) (fun r => ks r (fun q => kwl Y q.2 a4 0 (Int32.toInt64 q.1) (fun S2 => some ((0 : Int32), Y, S2))) (fun e => if e.1 = 1 then some ((1 : Int32), Y, e.2) else none))
theorem wL_paid {C : CT} {ρ : Nat → Nat} {Y : XS} (hC : CK C RL cL_paid 6 (some .int) 8) (hH : HT C hL_paid) (n : Nat) (S : PS) (a0 : Nat) (x1 : Int32) (x2 : Int32) (x3 : Int32) (a4 : Nat) (hTa0 : Ty Y a0 10) (hTa4 : Ty Y a4 15) {o : Int32 × XS × PS} (hf : fL_paid Y n S a0 x1 x2 x3 a4 = some o) (hB : XB C (ρ, Y, 0, 0) 8 48) (hR : RtA C ρ Y cL_paid (some .int) 8 48 (fun _ => some (.int o.1)) o.2.2 o.2.1) : UW C (ρ, Y, 0, 0) S 0 [(0, .ref (ρ a0)), (1, .int x1), (2, .int x2), (3, .int x3), (4, .ref (ρ a4))] [] := by
  unfold fL_paid at hf
  refine u_aload hC dL_paid_0 4 rfl ?_
  refine u_iconst (v := (0 : Int32)) hC dL_paid_2 (by decide) ?_
  refine u_aload_n hC dL_paid_3 0 rfl rfl ?_
  refine u_iload_n hC dL_paid_4 1 rfl rfl ?_
  refine u_iload_n hC dL_paid_5 2 rfl rfl ?_
  refine u_iload_n hC dL_paid_6 3 rfl rfl ?_
  obtain ⟨r, hr, hf⟩ := kc_some hf
  refine u_callVY (X := (ρ, Y, 0, 0)) (a := a0) (rest := [.int 0, .ref (ρ a4)]) hC (ctX10_paid (cL C) hC.tr (cG C) ρ Y n S a0 x1 x2 x3 hTa0 hr).toMy hB lk_L_37 rfl hTa0 (by decide) rfl (by decide) (by decide) rfl rfl (Nat.le_of_ble_eq_true rfl) dL_paid_7 (fun ρ1 v' S' hAG he => ?_) (fun k' S' he => ?_)
  · rcases r with q | e
    · have he : (Sum.inl (some (.int q.1), q.2) : MR) = .inl (v', S') := he
      obtain ⟨hv9, hS9⟩ : some (Value.int q.1) = v' ∧ q.2 = S' := by cases he; exact ⟨rfl, rfl⟩
      subst hv9
      subst hS9
      have hf := ks_l hf
      replace hAG : AG ρ Y ρ1 Y := hAG
      have hTo := (hAG a4 _ hTa4).2
      show UW C (ρ1, Y, 0 + 8, 0 + 48) q.2 _ _ [.int q.1, .int 0, .ref (ρ a4)]
      rw [← (hAG a4 _ hTa4).1]
      refine u_sub (lv' := []) [] rfl ?_
      refine u_i2l hC dL_paid_10 ?_
      refine u_wl (X := (ρ1, Y, 0 + 8, 0 + 48)) (a := a4) hC hTo dL_paid_11 hf (fun S2 hf => ?_)
      refine u_goto (tgt := 19) hC dL_paid_12 (by decide) ?_
      refine u_iconst (v := (0 : Int32)) hC dL_paid_19 (by decide) ?_
      cases hf
      exact hR _ hAG _ _ (Nat.le_of_ble_eq_true rfl) (Nat.le_of_ble_eq_true rfl) _ _ dL_paid_20 trivial
    · have he : (Sum.inr e : MR) = .inl (v', S') := he
      cases he
  · rcases r with q | e
    · have he : (Sum.inl (some (.int q.1), q.2) : MR) = .inr (k', S') := he
      cases he
    · have he : (Sum.inr e : MR) = .inr (k', S') := he
      have hf := ks_r hf
      cases he
      by_cases hk0 : k' = 1
      · subst hk0
        rw [if_pos rfl] at hf
        cases hf
        refine u_catch (own := RL) (hh := hL_paid) hC hH [] (0, 12, 15, 18) [] rfl (fun z h => nomatch h) (by decide) (by decide) (tb_4 53 rfl rfl) (nt_4 63 rfl rfl) (fun q => ?_)
        show UW C (ρ, Y, 0 + 8, 0 + 48) _ _ _ _
        refine u_astore (lv' := [(5, .ref q)]) hC dL_paid_15 (by decide) rfl ?_
        refine u_iconst (v := (1 : Int32)) hC dL_paid_17 (by decide) ?_
        exact hR _ (AG.refl ρ Y) _ _ (Nat.le_of_ble_eq_true rfl) (Nat.le_of_ble_eq_true rfl) _ _ dL_paid_18 trivial
      rw [if_neg hk0] at hf
      cases hf
theorem ctL_paid (l : Launch) (hl : l.stackTraces = false) (G : GT) (ρ : Nat → Nat) (Y : XS) (n : Nat) (S : PS) (a0 : Nat) (x1 : Int32) (x2 : Int32) (x3 : Int32) (a4 : Nat) (hTa0 : Ty Y a0 10) (hTa4 : Ty Y a4 15) {o : Int32 × XS × PS} (hf : fL_paid Y n S a0 x1 x2 x3 a4 = some o) : Mw l G yL_paid cL_paid 6 hL_paid 8 8 48 ρ Y [.ref (ρ a0), .int x1, .int x2, .int x3, .ref (ρ a4)] S o.1 o.2.2 o.2.1 :=
  Mw_of hl (by decide) (Nat.le_of_ble_eq_true rfl) (fun C _ _ hC hH hB hR => wL_paid hC hH n S a0 x1 x2 x3 a4 hTa0 hTa4 hf hB hR)
-- L_left
theorem dL_left_0 : decode cL_left 0 = .ok (.aload_n 3, 1) := by decide +kernel
theorem dL_left_1 : decode cL_left 1 = .ok (.iconst 0, 1) := by decide +kernel
theorem dL_left_2 : decode cL_left 2 = .ok (.aload_n 0, 1) := by decide +kernel
theorem dL_left_3 : decode cL_left 3 = .ok (.iload_n 1, 1) := by decide +kernel
theorem dL_left_4 : decode cL_left 4 = .ok (.iload_n 2, 1) := by decide +kernel
theorem dL_left_5 : decode cL_left 5 = .ok (.invokevirtual 41, 3) := by decide +kernel
theorem dL_left_8 : decode cL_left 8 = .ok (.i2l, 1) := by decide +kernel
theorem dL_left_9 : decode cL_left 9 = .ok (.lastore, 1) := by decide +kernel
theorem dL_left_10 : decode cL_left 10 = .ok (.goto 7, 3) := by decide +kernel
theorem dL_left_13 : decode cL_left 13 = .ok (.astore 4, 2) := by decide +kernel
theorem dL_left_15 : decode cL_left 15 = .ok (.iconst 1, 1) := by decide +kernel
theorem dL_left_16 : decode cL_left 16 = .ok (.ireturn, 1) := by decide +kernel
theorem dL_left_17 : decode cL_left 17 = .ok (.iconst 0, 1) := by decide +kernel
theorem dL_left_18 : decode cL_left 18 = .ok (.ireturn, 1) := by decide +kernel
def hL_left : List (Nat × Nat × Nat × Nat) := [(0, 10, 13, 18)]
def fL_left (Y : XS) (n : Nat) (S : PS) (a0 : Nat) (x1 : Int32) (x2 : Int32) (a3 : Nat) : Option (Int32 × XS × PS) := kc (fX10_left Y n S a0 x1 x2) (fun r => ks r (fun q => kwl Y q.2 a3 0 (Int32.toInt64 q.1) (fun S2 => some ((0 : Int32), Y, S2))) (fun e => if e.1 = 1 then some ((1 : Int32), Y, e.2) else none))
theorem wL_left {C : CT} {ρ : Nat → Nat} {Y : XS} (hC : CK C RL cL_left 5 (some .int) 8) (hH : HT C hL_left) (n : Nat) (S : PS) (a0 : Nat) (x1 : Int32) (x2 : Int32) (a3 : Nat) (hTa0 : Ty Y a0 10) (hTa3 : Ty Y a3 15) {o : Int32 × XS × PS} (hf : fL_left Y n S a0 x1 x2 a3 = some o) (hB : XB C (ρ, Y, 0, 0) 8 48) (hR : RtA C ρ Y cL_left (some .int) 8 48 (fun _ => some (.int o.1)) o.2.2 o.2.1) : UW C (ρ, Y, 0, 0) S 0 [(0, .ref (ρ a0)), (1, .int x1), (2, .int x2), (3, .ref (ρ a3))] [] := by
  unfold fL_left at hf
  refine u_aload_n hC dL_left_0 3 rfl rfl ?_
  refine u_iconst (v := (0 : Int32)) hC dL_left_1 (by decide) ?_
  refine u_aload_n hC dL_left_2 0 rfl rfl ?_
  refine u_iload_n hC dL_left_3 1 rfl rfl ?_
  refine u_iload_n hC dL_left_4 2 rfl rfl ?_
  obtain ⟨r, hr, hf⟩ := kc_some hf
  refine u_callVY (X := (ρ, Y, 0, 0)) (a := a0) (rest := [.int 0, .ref (ρ a3)]) hC (ctX10_left (cL C) hC.tr (cG C) ρ Y n S a0 x1 x2 hTa0 hr).toMy hB lk_L_41 rfl hTa0 (by decide) rfl (by decide) (by decide) rfl rfl (Nat.le_of_ble_eq_true rfl) dL_left_5 (fun ρ1 v' S' hAG he => ?_) (fun k' S' he => ?_)
  · rcases r with q | e
    · have he : (Sum.inl (some (.int q.1), q.2) : MR) = .inl (v', S') := he
      obtain ⟨hv9, hS9⟩ : some (Value.int q.1) = v' ∧ q.2 = S' := by cases he; exact ⟨rfl, rfl⟩
      subst hv9
      subst hS9
      have hf := ks_l hf
      replace hAG : AG ρ Y ρ1 Y := hAG
      have hTo := (hAG a3 _ hTa3).2
      show UW C (ρ1, Y, 0 + 8, 0 + 48) q.2 _ _ [.int q.1, .int 0, .ref (ρ a3)]
      rw [← (hAG a3 _ hTa3).1]
      refine u_sub (lv' := []) [] rfl ?_
      refine u_i2l hC dL_left_8 ?_
      refine u_wl (X := (ρ1, Y, 0 + 8, 0 + 48)) (a := a3) hC hTo dL_left_9 hf (fun S2 hf => ?_)
      refine u_goto (tgt := 17) hC dL_left_10 (by decide) ?_
      refine u_iconst (v := (0 : Int32)) hC dL_left_17 (by decide) ?_
      cases hf
      exact hR _ hAG _ _ (Nat.le_of_ble_eq_true rfl) (Nat.le_of_ble_eq_true rfl) _ _ dL_left_18 trivial
    · have he : (Sum.inr e : MR) = .inl (v', S') := he
      cases he
  · rcases r with q | e
    · have he : (Sum.inl (some (.int q.1), q.2) : MR) = .inr (k', S') := he
      cases he
    · have he : (Sum.inr e : MR) = .inr (k', S') := he
      have hf := ks_r hf
      cases he
      by_cases hk0 : k' = 1
      · subst hk0
        rw [if_pos rfl] at hf
        cases hf
        refine u_catch (own := RL) (hh := hL_left) hC hH [] (0, 10, 13, 18) [] rfl (fun z h => nomatch h) (by decide) (by decide) (tb_4 53 rfl rfl) (nt_4 63 rfl rfl) (fun q => ?_)
        show UW C (ρ, Y, 0 + 8, 0 + 48) _ _ _ _
        refine u_astore (lv' := [(4, .ref q)]) hC dL_left_13 (by decide) rfl ?_
        refine u_iconst (v := (1 : Int32)) hC dL_left_15 (by decide) ?_
        exact hR _ (AG.refl ρ Y) _ _ (Nat.le_of_ble_eq_true rfl) (Nat.le_of_ble_eq_true rfl) _ _ dL_left_16 trivial
      rw [if_neg hk0] at hf
      cases hf
theorem ctL_left (l : Launch) (hl : l.stackTraces = false) (G : GT) (ρ : Nat → Nat) (Y : XS) (n : Nat) (S : PS) (a0 : Nat) (x1 : Int32) (x2 : Int32) (a3 : Nat) (hTa0 : Ty Y a0 10) (hTa3 : Ty Y a3 15) {o : Int32 × XS × PS} (hf : fL_left Y n S a0 x1 x2 a3 = some o) : Mw l G yL_left cL_left 5 hL_left 8 8 48 ρ Y [.ref (ρ a0), .int x1, .int x2, .ref (ρ a3)] S o.1 o.2.2 o.2.1 :=
  Mw_of hl (by decide) (Nat.le_of_ble_eq_true rfl) (fun C _ _ hC hH hB hR => wL_left hC hH n S a0 x1 x2 a3 hTa0 hTa3 hf hB hR)
-- L_step
theorem dL_step_0 : decode cL_step 0 = .ok (.aload_n 3, 1) := by decide +kernel
theorem dL_step_1 : decode cL_step 1 = .ok (.iconst 0, 1) := by decide +kernel
theorem dL_step_2 : decode cL_step 2 = .ok (.aload_n 0, 1) := by decide +kernel
theorem dL_step_3 : decode cL_step 3 = .ok (.iload_n 1, 1) := by decide +kernel
theorem dL_step_4 : decode cL_step 4 = .ok (.iload_n 2, 1) := by decide +kernel
theorem dL_step_5 : decode cL_step 5 = .ok (.invokevirtual 44, 3) := by decide +kernel
theorem dL_step_8 : decode cL_step 8 = .ok (.i2l, 1) := by decide +kernel
theorem dL_step_9 : decode cL_step 9 = .ok (.lastore, 1) := by decide +kernel
theorem dL_step_10 : decode cL_step 10 = .ok (.goto 7, 3) := by decide +kernel
theorem dL_step_13 : decode cL_step 13 = .ok (.astore 4, 2) := by decide +kernel
theorem dL_step_15 : decode cL_step 15 = .ok (.iconst 1, 1) := by decide +kernel
theorem dL_step_16 : decode cL_step 16 = .ok (.ireturn, 1) := by decide +kernel
theorem dL_step_17 : decode cL_step 17 = .ok (.iconst 0, 1) := by decide +kernel
theorem dL_step_18 : decode cL_step 18 = .ok (.ireturn, 1) := by decide +kernel
def hL_step : List (Nat × Nat × Nat × Nat) := [(0, 10, 13, 18)]
def fL_step (Y : XS) (n : Nat) (S : PS) (a0 : Nat) (x1 : Int32) (x2 : Int32) (a3 : Nat) : Option (Int32 × XS × PS) := kc (fX10_step Y n S a0 x1 x2) (fun r => ks r (fun q => kwl Y q.2 a3 0 (Int32.toInt64 q.1) (fun S2 => some ((0 : Int32), Y, S2))) (fun e => if e.1 = 1 then some ((1 : Int32), Y, e.2) else none))
theorem wL_step {C : CT} {ρ : Nat → Nat} {Y : XS} (hC : CK C RL cL_step 5 (some .int) 8) (hH : HT C hL_step) (n : Nat) (S : PS) (a0 : Nat) (x1 : Int32) (x2 : Int32) (a3 : Nat) (hTa0 : Ty Y a0 10) (hTa3 : Ty Y a3 15) {o : Int32 × XS × PS} (hf : fL_step Y n S a0 x1 x2 a3 = some o) (hB : XB C (ρ, Y, 0, 0) 8 48) (hR : RtA C ρ Y cL_step (some .int) 8 48 (fun _ => some (.int o.1)) o.2.2 o.2.1) : UW C (ρ, Y, 0, 0) S 0 [(0, .ref (ρ a0)), (1, .int x1), (2, .int x2), (3, .ref (ρ a3))] [] := by
  unfold fL_step at hf
  refine u_aload_n hC dL_step_0 3 rfl rfl ?_
  refine u_iconst (v := (0 : Int32)) hC dL_step_1 (by decide) ?_
  refine u_aload_n hC dL_step_2 0 rfl rfl ?_
  refine u_iload_n hC dL_step_3 1 rfl rfl ?_
  refine u_iload_n hC dL_step_4 2 rfl rfl ?_
  obtain ⟨r, hr, hf⟩ := kc_some hf
  refine u_callVY (X := (ρ, Y, 0, 0)) (a := a0) (rest := [.int 0, .ref (ρ a3)]) hC (ctX10_step (cL C) hC.tr (cG C) ρ Y n S a0 x1 x2 hTa0 hr).toMy hB lk_L_44 rfl hTa0 (by decide) rfl (by decide) (by decide) rfl rfl (Nat.le_of_ble_eq_true rfl) dL_step_5 (fun ρ1 v' S' hAG he => ?_) (fun k' S' he => ?_)
  · rcases r with q | e
    · have he : (Sum.inl (some (.int q.1), q.2) : MR) = .inl (v', S') := he
      obtain ⟨hv9, hS9⟩ : some (Value.int q.1) = v' ∧ q.2 = S' := by cases he; exact ⟨rfl, rfl⟩
      subst hv9
      subst hS9
      have hf := ks_l hf
      replace hAG : AG ρ Y ρ1 Y := hAG
      have hTo := (hAG a3 _ hTa3).2
      show UW C (ρ1, Y, 0 + 8, 0 + 48) q.2 _ _ [.int q.1, .int 0, .ref (ρ a3)]
      rw [← (hAG a3 _ hTa3).1]
      refine u_sub (lv' := []) [] rfl ?_
      refine u_i2l hC dL_step_8 ?_
      refine u_wl (X := (ρ1, Y, 0 + 8, 0 + 48)) (a := a3) hC hTo dL_step_9 hf (fun S2 hf => ?_)
      refine u_goto (tgt := 17) hC dL_step_10 (by decide) ?_
      refine u_iconst (v := (0 : Int32)) hC dL_step_17 (by decide) ?_
      cases hf
      exact hR _ hAG _ _ (Nat.le_of_ble_eq_true rfl) (Nat.le_of_ble_eq_true rfl) _ _ dL_step_18 trivial
    · have he : (Sum.inr e : MR) = .inl (v', S') := he
      cases he
  · rcases r with q | e
    · have he : (Sum.inl (some (.int q.1), q.2) : MR) = .inr (k', S') := he
      cases he
    · have he : (Sum.inr e : MR) = .inr (k', S') := he
      have hf := ks_r hf
      cases he
      by_cases hk0 : k' = 1
      · subst hk0
        rw [if_pos rfl] at hf
        cases hf
        refine u_catch (own := RL) (hh := hL_step) hC hH [] (0, 10, 13, 18) [] rfl (fun z h => nomatch h) (by decide) (by decide) (tb_4 53 rfl rfl) (nt_4 63 rfl rfl) (fun q => ?_)
        show UW C (ρ, Y, 0 + 8, 0 + 48) _ _ _ _
        refine u_astore (lv' := [(4, .ref q)]) hC dL_step_13 (by decide) rfl ?_
        refine u_iconst (v := (1 : Int32)) hC dL_step_15 (by decide) ?_
        exact hR _ (AG.refl ρ Y) _ _ (Nat.le_of_ble_eq_true rfl) (Nat.le_of_ble_eq_true rfl) _ _ dL_step_16 trivial
      rw [if_neg hk0] at hf
      cases hf
theorem ctL_step (l : Launch) (hl : l.stackTraces = false) (G : GT) (ρ : Nat → Nat) (Y : XS) (n : Nat) (S : PS) (a0 : Nat) (x1 : Int32) (x2 : Int32) (a3 : Nat) (hTa0 : Ty Y a0 10) (hTa3 : Ty Y a3 15) {o : Int32 × XS × PS} (hf : fL_step Y n S a0 x1 x2 a3 = some o) : Mw l G yL_step cL_step 5 hL_step 8 8 48 ρ Y [.ref (ρ a0), .int x1, .int x2, .ref (ρ a3)] S o.1 o.2.2 o.2.1 :=
  Mw_of hl (by decide) (Nat.le_of_ble_eq_true rfl) (fun C _ _ hC hH hB hR => wL_step hC hH n S a0 x1 x2 a3 hTa0 hTa3 hf hB hR)
-- L_price
theorem dL_price_0 : decode cL_price 0 = .ok (.aload_n 3, 1) := by decide +kernel
theorem dL_price_1 : decode cL_price 1 = .ok (.iconst 0, 1) := by decide +kernel
theorem dL_price_2 : decode cL_price 2 = .ok (.aload_n 0, 1) := by decide +kernel
theorem dL_price_3 : decode cL_price 3 = .ok (.iload_n 1, 1) := by decide +kernel
theorem dL_price_4 : decode cL_price 4 = .ok (.iload_n 2, 1) := by decide +kernel
theorem dL_price_5 : decode cL_price 5 = .ok (.invokevirtual 47, 3) := by decide +kernel
theorem dL_price_8 : decode cL_price 8 = .ok (.i2l, 1) := by decide +kernel
theorem dL_price_9 : decode cL_price 9 = .ok (.lastore, 1) := by decide +kernel
theorem dL_price_10 : decode cL_price 10 = .ok (.goto 7, 3) := by decide +kernel
theorem dL_price_13 : decode cL_price 13 = .ok (.astore 4, 2) := by decide +kernel
theorem dL_price_15 : decode cL_price 15 = .ok (.iconst 1, 1) := by decide +kernel
theorem dL_price_16 : decode cL_price 16 = .ok (.ireturn, 1) := by decide +kernel
theorem dL_price_17 : decode cL_price 17 = .ok (.iconst 0, 1) := by decide +kernel
theorem dL_price_18 : decode cL_price 18 = .ok (.ireturn, 1) := by decide +kernel
def hL_price : List (Nat × Nat × Nat × Nat) := [(0, 10, 13, 18)]
def fL_price (Y : XS) (n : Nat) (S : PS) (a0 : Nat) (x1 : Int32) (x2 : Int32) (a3 : Nat) : Option (Int32 × XS × PS) := kc (fX10_price Y n S a0 x1 x2) (fun r => ks r (fun q => kwl Y q.2 a3 0 (Int32.toInt64 q.1) (fun S2 => some ((0 : Int32), Y, S2))) (fun e => if e.1 = 1 then some ((1 : Int32), Y, e.2) else none))
theorem wL_price {C : CT} {ρ : Nat → Nat} {Y : XS} (hC : CK C RL cL_price 5 (some .int) 8) (hH : HT C hL_price) (n : Nat) (S : PS) (a0 : Nat) (x1 : Int32) (x2 : Int32) (a3 : Nat) (hTa0 : Ty Y a0 10) (hTa3 : Ty Y a3 15) {o : Int32 × XS × PS} (hf : fL_price Y n S a0 x1 x2 a3 = some o) (hB : XB C (ρ, Y, 0, 0) 8 48) (hR : RtA C ρ Y cL_price (some .int) 8 48 (fun _ => some (.int o.1)) o.2.2 o.2.1) : UW C (ρ, Y, 0, 0) S 0 [(0, .ref (ρ a0)), (1, .int x1), (2, .int x2), (3, .ref (ρ a3))] [] := by
  unfold fL_price at hf
  refine u_aload_n hC dL_price_0 3 rfl rfl ?_
  refine u_iconst (v := (0 : Int32)) hC dL_price_1 (by decide) ?_
  refine u_aload_n hC dL_price_2 0 rfl rfl ?_
  refine u_iload_n hC dL_price_3 1 rfl rfl ?_
  refine u_iload_n hC dL_price_4 2 rfl rfl ?_
  obtain ⟨r, hr, hf⟩ := kc_some hf
  refine u_callVY (X := (ρ, Y, 0, 0)) (a := a0) (rest := [.int 0, .ref (ρ a3)]) hC (ctX10_price (cL C) hC.tr (cG C) ρ Y n S a0 x1 x2 hTa0 hr).toMy hB lk_L_47 rfl hTa0 (by decide) rfl (by decide) (by decide) rfl rfl (Nat.le_of_ble_eq_true rfl) dL_price_5 (fun ρ1 v' S' hAG he => ?_) (fun k' S' he => ?_)
  · rcases r with q | e
    · have he : (Sum.inl (some (.int q.1), q.2) : MR) = .inl (v', S') := he
      obtain ⟨hv9, hS9⟩ : some (Value.int q.1) = v' ∧ q.2 = S' := by cases he; exact ⟨rfl, rfl⟩
      subst hv9
      subst hS9
      have hf := ks_l hf
      replace hAG : AG ρ Y ρ1 Y := hAG
      have hTo := (hAG a3 _ hTa3).2
      show UW C (ρ1, Y, 0 + 8, 0 + 48) q.2 _ _ [.int q.1, .int 0, .ref (ρ a3)]
      rw [← (hAG a3 _ hTa3).1]
      refine u_sub (lv' := []) [] rfl ?_
      refine u_i2l hC dL_price_8 ?_
      refine u_wl (X := (ρ1, Y, 0 + 8, 0 + 48)) (a := a3) hC hTo dL_price_9 hf (fun S2 hf => ?_)
      refine u_goto (tgt := 17) hC dL_price_10 (by decide) ?_
      refine u_iconst (v := (0 : Int32)) hC dL_price_17 (by decide) ?_
      cases hf
      exact hR _ hAG _ _ (Nat.le_of_ble_eq_true rfl) (Nat.le_of_ble_eq_true rfl) _ _ dL_price_18 trivial
    · have he : (Sum.inr e : MR) = .inl (v', S') := he
      cases he
  · rcases r with q | e
    · have he : (Sum.inl (some (.int q.1), q.2) : MR) = .inr (k', S') := he
      cases he
    · have he : (Sum.inr e : MR) = .inr (k', S') := he
      have hf := ks_r hf
      cases he
      by_cases hk0 : k' = 1
      · subst hk0
        rw [if_pos rfl] at hf
        cases hf
        refine u_catch (own := RL) (hh := hL_price) hC hH [] (0, 10, 13, 18) [] rfl (fun z h => nomatch h) (by decide) (by decide) (tb_4 53 rfl rfl) (nt_4 63 rfl rfl) (fun q => ?_)
        show UW C (ρ, Y, 0 + 8, 0 + 48) _ _ _ _
        refine u_astore (lv' := [(4, .ref q)]) hC dL_price_13 (by decide) rfl ?_
        refine u_iconst (v := (1 : Int32)) hC dL_price_15 (by decide) ?_
        exact hR _ (AG.refl ρ Y) _ _ (Nat.le_of_ble_eq_true rfl) (Nat.le_of_ble_eq_true rfl) _ _ dL_price_16 trivial
      rw [if_neg hk0] at hf
      cases hf
theorem ctL_price (l : Launch) (hl : l.stackTraces = false) (G : GT) (ρ : Nat → Nat) (Y : XS) (n : Nat) (S : PS) (a0 : Nat) (x1 : Int32) (x2 : Int32) (a3 : Nat) (hTa0 : Ty Y a0 10) (hTa3 : Ty Y a3 15) {o : Int32 × XS × PS} (hf : fL_price Y n S a0 x1 x2 a3 = some o) : Mw l G yL_price cL_price 5 hL_price 8 8 48 ρ Y [.ref (ρ a0), .int x1, .int x2, .ref (ρ a3)] S o.1 o.2.2 o.2.1 :=
  Mw_of hl (by decide) (Nat.le_of_ble_eq_true rfl) (fun C _ _ hC hH hB hR => wL_price hC hH n S a0 x1 x2 a3 hTa0 hTa3 hf hB hR)
-- L_group
theorem dL_group_0 : decode cL_group 0 = .ok (.aload_n 3, 1) := by decide +kernel
theorem dL_group_1 : decode cL_group 1 = .ok (.iconst 0, 1) := by decide +kernel
theorem dL_group_2 : decode cL_group 2 = .ok (.aload_n 0, 1) := by decide +kernel
theorem dL_group_3 : decode cL_group 3 = .ok (.iload_n 1, 1) := by decide +kernel
theorem dL_group_4 : decode cL_group 4 = .ok (.iload_n 2, 1) := by decide +kernel
theorem dL_group_5 : decode cL_group 5 = .ok (.invokevirtual 50, 3) := by decide +kernel
theorem dL_group_8 : decode cL_group 8 = .ok (.i2l, 1) := by decide +kernel
theorem dL_group_9 : decode cL_group 9 = .ok (.lastore, 1) := by decide +kernel
theorem dL_group_10 : decode cL_group 10 = .ok (.goto 7, 3) := by decide +kernel
theorem dL_group_13 : decode cL_group 13 = .ok (.astore 4, 2) := by decide +kernel
theorem dL_group_15 : decode cL_group 15 = .ok (.iconst 1, 1) := by decide +kernel
theorem dL_group_16 : decode cL_group 16 = .ok (.ireturn, 1) := by decide +kernel
theorem dL_group_17 : decode cL_group 17 = .ok (.iconst 0, 1) := by decide +kernel
theorem dL_group_18 : decode cL_group 18 = .ok (.ireturn, 1) := by decide +kernel
def hL_group : List (Nat × Nat × Nat × Nat) := [(0, 10, 13, 18)]
def fL_group (Y : XS) (n : Nat) (S : PS) (a0 : Nat) (x1 : Int32) (x2 : Int32) (a3 : Nat) : Option (Int32 × XS × PS) := kc (fX10_group Y n S a0 x1 x2) (fun r => ks r (fun q => kwl Y q.2 a3 0 (Int32.toInt64 q.1) (fun S2 => some ((0 : Int32), Y, S2))) (fun e => if e.1 = 1 then some ((1 : Int32), Y, e.2) else none))
theorem wL_group {C : CT} {ρ : Nat → Nat} {Y : XS} (hC : CK C RL cL_group 5 (some .int) 8) (hH : HT C hL_group) (n : Nat) (S : PS) (a0 : Nat) (x1 : Int32) (x2 : Int32) (a3 : Nat) (hTa0 : Ty Y a0 10) (hTa3 : Ty Y a3 15) {o : Int32 × XS × PS} (hf : fL_group Y n S a0 x1 x2 a3 = some o) (hB : XB C (ρ, Y, 0, 0) 8 48) (hR : RtA C ρ Y cL_group (some .int) 8 48 (fun _ => some (.int o.1)) o.2.2 o.2.1) : UW C (ρ, Y, 0, 0) S 0 [(0, .ref (ρ a0)), (1, .int x1), (2, .int x2), (3, .ref (ρ a3))] [] := by
  unfold fL_group at hf
  refine u_aload_n hC dL_group_0 3 rfl rfl ?_
  refine u_iconst (v := (0 : Int32)) hC dL_group_1 (by decide) ?_
  refine u_aload_n hC dL_group_2 0 rfl rfl ?_
  refine u_iload_n hC dL_group_3 1 rfl rfl ?_
  refine u_iload_n hC dL_group_4 2 rfl rfl ?_
  obtain ⟨r, hr, hf⟩ := kc_some hf
  refine u_callVY (X := (ρ, Y, 0, 0)) (a := a0) (rest := [.int 0, .ref (ρ a3)]) hC (ctX10_group (cL C) hC.tr (cG C) ρ Y n S a0 x1 x2 hTa0 hr).toMy hB lk_L_50 rfl hTa0 (by decide) rfl (by decide) (by decide) rfl rfl (Nat.le_of_ble_eq_true rfl) dL_group_5 (fun ρ1 v' S' hAG he => ?_) (fun k' S' he => ?_)
  · rcases r with q | e
    · have he : (Sum.inl (some (.int q.1), q.2) : MR) = .inl (v', S') := he
      obtain ⟨hv9, hS9⟩ : some (Value.int q.1) = v' ∧ q.2 = S' := by cases he; exact ⟨rfl, rfl⟩
      subst hv9
      subst hS9
      have hf := ks_l hf
      replace hAG : AG ρ Y ρ1 Y := hAG
      have hTo := (hAG a3 _ hTa3).2
      show UW C (ρ1, Y, 0 + 8, 0 + 48) q.2 _ _ [.int q.1, .int 0, .ref (ρ a3)]
      rw [← (hAG a3 _ hTa3).1]
      refine u_sub (lv' := []) [] rfl ?_
      refine u_i2l hC dL_group_8 ?_
      refine u_wl (X := (ρ1, Y, 0 + 8, 0 + 48)) (a := a3) hC hTo dL_group_9 hf (fun S2 hf => ?_)
      refine u_goto (tgt := 17) hC dL_group_10 (by decide) ?_
      refine u_iconst (v := (0 : Int32)) hC dL_group_17 (by decide) ?_
      cases hf
      exact hR _ hAG _ _ (Nat.le_of_ble_eq_true rfl) (Nat.le_of_ble_eq_true rfl) _ _ dL_group_18 trivial
    · have he : (Sum.inr e : MR) = .inl (v', S') := he
      cases he
  · rcases r with q | e
    · have he : (Sum.inl (some (.int q.1), q.2) : MR) = .inr (k', S') := he
      cases he
    · have he : (Sum.inr e : MR) = .inr (k', S') := he
      have hf := ks_r hf
      cases he
      by_cases hk0 : k' = 1
      · subst hk0
        rw [if_pos rfl] at hf
        cases hf
        refine u_catch (own := RL) (hh := hL_group) hC hH [] (0, 10, 13, 18) [] rfl (fun z h => nomatch h) (by decide) (by decide) (tb_4 53 rfl rfl) (nt_4 63 rfl rfl) (fun q => ?_)
        show UW C (ρ, Y, 0 + 8, 0 + 48) _ _ _ _
        refine u_astore (lv' := [(4, .ref q)]) hC dL_group_13 (by decide) rfl ?_
        refine u_iconst (v := (1 : Int32)) hC dL_group_15 (by decide) ?_
        exact hR _ (AG.refl ρ Y) _ _ (Nat.le_of_ble_eq_true rfl) (Nat.le_of_ble_eq_true rfl) _ _ dL_group_16 trivial
      rw [if_neg hk0] at hf
      cases hf
theorem ctL_group (l : Launch) (hl : l.stackTraces = false) (G : GT) (ρ : Nat → Nat) (Y : XS) (n : Nat) (S : PS) (a0 : Nat) (x1 : Int32) (x2 : Int32) (a3 : Nat) (hTa0 : Ty Y a0 10) (hTa3 : Ty Y a3 15) {o : Int32 × XS × PS} (hf : fL_group Y n S a0 x1 x2 a3 = some o) : Mw l G yL_group cL_group 5 hL_group 8 8 48 ρ Y [.ref (ρ a0), .int x1, .int x2, .ref (ρ a3)] S o.1 o.2.2 o.2.1 :=
  Mw_of hl (by decide) (Nat.le_of_ble_eq_true rfl) (fun C _ _ hC hH hB hR => wL_group hC hH n S a0 x1 x2 a3 hTa0 hTa3 hf hB hR)
-- L_isServed
theorem dL_isServed_0 : decode cL_isServed 0 = .ok (.aload 4, 2) := by decide +kernel
theorem dL_isServed_2 : decode cL_isServed 2 = .ok (.iconst 0, 1) := by decide +kernel
theorem dL_isServed_3 : decode cL_isServed 3 = .ok (.aload_n 0, 1) := by decide +kernel
theorem dL_isServed_4 : decode cL_isServed 4 = .ok (.iload_n 1, 1) := by decide +kernel
theorem dL_isServed_5 : decode cL_isServed 5 = .ok (.iload_n 2, 1) := by decide +kernel
theorem dL_isServed_6 : decode cL_isServed 6 = .ok (.iload_n 3, 1) := by decide +kernel
theorem dL_isServed_7 : decode cL_isServed 7 = .ok (.invokevirtual 53, 3) := by decide +kernel
theorem dL_isServed_10 : decode cL_isServed 10 = .ok (.ifCond .eq 7, 3) := by decide +kernel
theorem dL_isServed_13 : decode cL_isServed 13 = .ok (.lconst 1, 1) := by decide +kernel
theorem dL_isServed_14 : decode cL_isServed 14 = .ok (.goto 4, 3) := by decide +kernel
theorem dL_isServed_17 : decode cL_isServed 17 = .ok (.lconst 0, 1) := by decide +kernel
theorem dL_isServed_18 : decode cL_isServed 18 = .ok (.lastore, 1) := by decide +kernel
theorem dL_isServed_19 : decode cL_isServed 19 = .ok (.goto 7, 3) := by decide +kernel
theorem dL_isServed_22 : decode cL_isServed 22 = .ok (.astore 5, 2) := by decide +kernel
theorem dL_isServed_24 : decode cL_isServed 24 = .ok (.iconst 1, 1) := by decide +kernel
theorem dL_isServed_25 : decode cL_isServed 25 = .ok (.ireturn, 1) := by decide +kernel
theorem dL_isServed_26 : decode cL_isServed 26 = .ok (.iconst 0, 1) := by decide +kernel
theorem dL_isServed_27 : decode cL_isServed 27 = .ok (.ireturn, 1) := by decide +kernel
def hL_isServed : List (Nat × Nat × Nat × Nat) := [(0, 19, 22, 18)]
def fL_isServed (Y : XS) (n : Nat) (S : PS) (a0 : Nat) (x1 : Int32) (x2 : Int32) (x3 : Int32) (a4 : Nat) : Option (Int32 × XS × PS) := kc (fX10_isServed Y n S a0 x1 x2 x3) (fun r => ks r (fun q => kwl Y q.2 a4 0 (if q.1 = 0 then (0 : Int64) else 1) (fun S2 => some ((0 : Int32), Y, S2))) (fun e => if e.1 = 1 then some ((1 : Int32), Y, e.2) else none))
theorem wL_isServed {C : CT} {ρ : Nat → Nat} {Y : XS} (hC : CK C RL cL_isServed 6 (some .int) 8) (hH : HT C hL_isServed) (n : Nat) (S : PS) (a0 : Nat) (x1 : Int32) (x2 : Int32) (x3 : Int32) (a4 : Nat) (hTa0 : Ty Y a0 10) (hTa4 : Ty Y a4 15) {o : Int32 × XS × PS} (hf : fL_isServed Y n S a0 x1 x2 x3 a4 = some o) (hB : XB C (ρ, Y, 0, 0) 8 48) (hR : RtA C ρ Y cL_isServed (some .int) 8 48 (fun _ => some (.int o.1)) o.2.2 o.2.1) : UW C (ρ, Y, 0, 0) S 0 [(0, .ref (ρ a0)), (1, .int x1), (2, .int x2), (3, .int x3), (4, .ref (ρ a4))] [] := by
  unfold fL_isServed at hf
  refine u_aload hC dL_isServed_0 4 rfl ?_
  refine u_iconst (v := (0 : Int32)) hC dL_isServed_2 (by decide) ?_
  refine u_aload_n hC dL_isServed_3 0 rfl rfl ?_
  refine u_iload_n hC dL_isServed_4 1 rfl rfl ?_
  refine u_iload_n hC dL_isServed_5 2 rfl rfl ?_
  refine u_iload_n hC dL_isServed_6 3 rfl rfl ?_
  obtain ⟨r, hr, hf⟩ := kc_some hf
  refine u_callVY (X := (ρ, Y, 0, 0)) (a := a0) (rest := [.int 0, .ref (ρ a4)]) hC (ctX10_isServed (cL C) hC.tr (cG C) ρ Y n S a0 x1 x2 x3 hTa0 hr).toMy hB lk_L_53 rfl hTa0 (by decide) rfl (by decide) (by decide) rfl rfl (Nat.le_of_ble_eq_true rfl) dL_isServed_7 (fun ρ1 v' S' hAG he => ?_) (fun k' S' he => ?_)
  · rcases r with q | e
    · have he : (Sum.inl (some (.int q.1), q.2) : MR) = .inl (v', S') := he
      obtain ⟨hv9, hS9⟩ : some (Value.int q.1) = v' ∧ q.2 = S' := by cases he; exact ⟨rfl, rfl⟩
      subst hv9
      subst hS9
      have hf := ks_l hf
      replace hAG : AG ρ Y ρ1 Y := hAG
      have hTo := (hAG a4 _ hTa4).2
      show UW C (ρ1, Y, 0 + 8, 0 + 48) q.2 _ _ [.int q.1, .int 0, .ref (ρ a4)]
      rw [← (hAG a4 _ hTa4).1]
      refine u_sub (lv' := []) [] rfl ?_
      by_cases hq : q.1 = 0
      · rw [if_pos hq] at hf
        refine u_if_eq (tgt := 17) (α := Unit) (a := some ()) (b := none) (o := ()) hC dL_isServed_10 (by decide) (if_pos hq) (fun _ _ => ?_) (fun _ hx => nomatch hx)
        refine u_lconst (v := (0 : Int64)) hC dL_isServed_17 (by decide) ?_
        refine u_wl (X := (ρ1, Y, 0 + 8, 0 + 48)) (a := a4) hC hTo dL_isServed_18 hf (fun S2 hf => ?_)
        refine u_goto (tgt := 26) hC dL_isServed_19 (by decide) ?_
        refine u_iconst (v := (0 : Int32)) hC dL_isServed_26 (by decide) ?_
        cases hf
        exact hR _ hAG _ _ (Nat.le_of_ble_eq_true rfl) (Nat.le_of_ble_eq_true rfl) _ _ dL_isServed_27 trivial
      · rw [if_neg hq] at hf
        refine u_if_eq (tgt := 17) (α := Unit) (a := none) (b := some ()) (o := ()) hC dL_isServed_10 (by decide) (if_neg hq) (fun _ hx => nomatch hx) (fun _ _ => ?_)
        refine u_lconst (v := (1 : Int64)) hC dL_isServed_13 (by decide) ?_
        refine u_goto (tgt := 18) hC dL_isServed_14 (by decide) ?_
        refine u_wl (X := (ρ1, Y, 0 + 8, 0 + 48)) (a := a4) hC hTo dL_isServed_18 hf (fun S2 hf => ?_)
        refine u_goto (tgt := 26) hC dL_isServed_19 (by decide) ?_
        refine u_iconst (v := (0 : Int32)) hC dL_isServed_26 (by decide) ?_
        cases hf
        exact hR _ hAG _ _ (Nat.le_of_ble_eq_true rfl) (Nat.le_of_ble_eq_true rfl) _ _ dL_isServed_27 trivial
    · have he : (Sum.inr e : MR) = .inl (v', S') := he
      cases he
  · rcases r with q | e
    · have he : (Sum.inl (some (.int q.1), q.2) : MR) = .inr (k', S') := he
      cases he
    · have he : (Sum.inr e : MR) = .inr (k', S') := he
      have hf := ks_r hf
      cases he
      by_cases hk0 : k' = 1
      · subst hk0
        rw [if_pos rfl] at hf
        cases hf
        refine u_catch (own := RL) (hh := hL_isServed) hC hH [] (0, 19, 22, 18) [] rfl (fun z h => nomatch h) (by decide) (by decide) (tb_4 53 rfl rfl) (nt_4 63 rfl rfl) (fun q => ?_)
        show UW C (ρ, Y, 0 + 8, 0 + 48) _ _ _ _
        refine u_astore (lv' := [(5, .ref q)]) hC dL_isServed_22 (by decide) rfl ?_
        refine u_iconst (v := (1 : Int32)) hC dL_isServed_24 (by decide) ?_
        exact hR _ (AG.refl ρ Y) _ _ (Nat.le_of_ble_eq_true rfl) (Nat.le_of_ble_eq_true rfl) _ _ dL_isServed_25 trivial
      rw [if_neg hk0] at hf
      cases hf
theorem ctL_isServed (l : Launch) (hl : l.stackTraces = false) (G : GT) (ρ : Nat → Nat) (Y : XS) (n : Nat) (S : PS) (a0 : Nat) (x1 : Int32) (x2 : Int32) (x3 : Int32) (a4 : Nat) (hTa0 : Ty Y a0 10) (hTa4 : Ty Y a4 15) {o : Int32 × XS × PS} (hf : fL_isServed Y n S a0 x1 x2 x3 a4 = some o) : Mw l G yL_isServed cL_isServed 6 hL_isServed 8 8 48 ρ Y [.ref (ρ a0), .int x1, .int x2, .int x3, .ref (ρ a4)] S o.1 o.2.2 o.2.1 :=
  Mw_of hl (by decide) (Nat.le_of_ble_eq_true rfl) (fun C _ _ hC hH hB hR => wL_isServed hC hH n S a0 x1 x2 x3 a4 hTa0 hTa4 hf hB hR)
-- L_groups
theorem dL_groups_0 : decode cL_groups 0 = .ok (.aload_n 3, 1) := by decide +kernel
theorem dL_groups_1 : decode cL_groups 1 = .ok (.iconst 0, 1) := by decide +kernel
theorem dL_groups_2 : decode cL_groups 2 = .ok (.aload_n 0, 1) := by decide +kernel
theorem dL_groups_3 : decode cL_groups 3 = .ok (.iload_n 1, 1) := by decide +kernel
theorem dL_groups_4 : decode cL_groups 4 = .ok (.iload_n 2, 1) := by decide +kernel
theorem dL_groups_5 : decode cL_groups 5 = .ok (.invokevirtual 57, 3) := by decide +kernel
theorem dL_groups_8 : decode cL_groups 8 = .ok (.i2l, 1) := by decide +kernel
theorem dL_groups_9 : decode cL_groups 9 = .ok (.lastore, 1) := by decide +kernel
theorem dL_groups_10 : decode cL_groups 10 = .ok (.goto 7, 3) := by decide +kernel
theorem dL_groups_13 : decode cL_groups 13 = .ok (.astore 4, 2) := by decide +kernel
theorem dL_groups_15 : decode cL_groups 15 = .ok (.iconst 1, 1) := by decide +kernel
theorem dL_groups_16 : decode cL_groups 16 = .ok (.ireturn, 1) := by decide +kernel
theorem dL_groups_17 : decode cL_groups 17 = .ok (.iconst 0, 1) := by decide +kernel
theorem dL_groups_18 : decode cL_groups 18 = .ok (.ireturn, 1) := by decide +kernel
def hL_groups : List (Nat × Nat × Nat × Nat) := [(0, 10, 13, 18)]
def fL_groups (Y : XS) (n : Nat) (S : PS) (a0 : Nat) (x1 : Int32) (x2 : Int32) (a3 : Nat) : Option (Int32 × XS × PS) := kc (fX10_groups Y n S a0 x1 x2) (fun r => ks r (fun q => kwl Y q.2 a3 0 (Int32.toInt64 q.1) (fun S2 => some ((0 : Int32), Y, S2))) (fun e => if e.1 = 1 then some ((1 : Int32), Y, e.2) else none))
theorem wL_groups {C : CT} {ρ : Nat → Nat} {Y : XS} (hC : CK C RL cL_groups 5 (some .int) 8) (hH : HT C hL_groups) (n : Nat) (S : PS) (a0 : Nat) (x1 : Int32) (x2 : Int32) (a3 : Nat) (hTa0 : Ty Y a0 10) (hTa3 : Ty Y a3 15) {o : Int32 × XS × PS} (hf : fL_groups Y n S a0 x1 x2 a3 = some o) (hB : XB C (ρ, Y, 0, 0) 8 48) (hR : RtA C ρ Y cL_groups (some .int) 8 48 (fun _ => some (.int o.1)) o.2.2 o.2.1) : UW C (ρ, Y, 0, 0) S 0 [(0, .ref (ρ a0)), (1, .int x1), (2, .int x2), (3, .ref (ρ a3))] [] := by
  unfold fL_groups at hf
  refine u_aload_n hC dL_groups_0 3 rfl rfl ?_
  refine u_iconst (v := (0 : Int32)) hC dL_groups_1 (by decide) ?_
  refine u_aload_n hC dL_groups_2 0 rfl rfl ?_
  refine u_iload_n hC dL_groups_3 1 rfl rfl ?_
  refine u_iload_n hC dL_groups_4 2 rfl rfl ?_
  obtain ⟨r, hr, hf⟩ := kc_some hf
  refine u_callVY (X := (ρ, Y, 0, 0)) (a := a0) (rest := [.int 0, .ref (ρ a3)]) hC (ctX10_groups (cL C) hC.tr (cG C) ρ Y n S a0 x1 x2 hTa0 hr).toMy hB lk_L_57 rfl hTa0 (by decide) rfl (by decide) (by decide) rfl rfl (Nat.le_of_ble_eq_true rfl) dL_groups_5 (fun ρ1 v' S' hAG he => ?_) (fun k' S' he => ?_)
  · rcases r with q | e
    · have he : (Sum.inl (some (.int q.1), q.2) : MR) = .inl (v', S') := he
      obtain ⟨hv9, hS9⟩ : some (Value.int q.1) = v' ∧ q.2 = S' := by cases he; exact ⟨rfl, rfl⟩
      subst hv9
      subst hS9
      have hf := ks_l hf
      replace hAG : AG ρ Y ρ1 Y := hAG
      have hTo := (hAG a3 _ hTa3).2
      show UW C (ρ1, Y, 0 + 8, 0 + 48) q.2 _ _ [.int q.1, .int 0, .ref (ρ a3)]
      rw [← (hAG a3 _ hTa3).1]
      refine u_sub (lv' := []) [] rfl ?_
      refine u_i2l hC dL_groups_8 ?_
      refine u_wl (X := (ρ1, Y, 0 + 8, 0 + 48)) (a := a3) hC hTo dL_groups_9 hf (fun S2 hf => ?_)
      refine u_goto (tgt := 17) hC dL_groups_10 (by decide) ?_
      refine u_iconst (v := (0 : Int32)) hC dL_groups_17 (by decide) ?_
      cases hf
      exact hR _ hAG _ _ (Nat.le_of_ble_eq_true rfl) (Nat.le_of_ble_eq_true rfl) _ _ dL_groups_18 trivial
    · have he : (Sum.inr e : MR) = .inl (v', S') := he
      cases he
  · rcases r with q | e
    · have he : (Sum.inl (some (.int q.1), q.2) : MR) = .inr (k', S') := he
      cases he
    · have he : (Sum.inr e : MR) = .inr (k', S') := he
      have hf := ks_r hf
      cases he
      by_cases hk0 : k' = 1
      · subst hk0
        rw [if_pos rfl] at hf
        cases hf
        refine u_catch (own := RL) (hh := hL_groups) hC hH [] (0, 10, 13, 18) [] rfl (fun z h => nomatch h) (by decide) (by decide) (tb_4 53 rfl rfl) (nt_4 63 rfl rfl) (fun q => ?_)
        show UW C (ρ, Y, 0 + 8, 0 + 48) _ _ _ _
        refine u_astore (lv' := [(4, .ref q)]) hC dL_groups_13 (by decide) rfl ?_
        refine u_iconst (v := (1 : Int32)) hC dL_groups_15 (by decide) ?_
        exact hR _ (AG.refl ρ Y) _ _ (Nat.le_of_ble_eq_true rfl) (Nat.le_of_ble_eq_true rfl) _ _ dL_groups_16 trivial
      rw [if_neg hk0] at hf
      cases hf
theorem ctL_groups (l : Launch) (hl : l.stackTraces = false) (G : GT) (ρ : Nat → Nat) (Y : XS) (n : Nat) (S : PS) (a0 : Nat) (x1 : Int32) (x2 : Int32) (a3 : Nat) (hTa0 : Ty Y a0 10) (hTa3 : Ty Y a3 15) {o : Int32 × XS × PS} (hf : fL_groups Y n S a0 x1 x2 a3 = some o) : Mw l G yL_groups cL_groups 5 hL_groups 8 8 48 ρ Y [.ref (ρ a0), .int x1, .int x2, .ref (ρ a3)] S o.1 o.2.2 o.2.1 :=
  Mw_of hl (by decide) (Nat.le_of_ble_eq_true rfl) (fun C _ _ hC hH hB hR => wL_groups hC hH n S a0 x1 x2 a3 hTa0 hTa3 hf hB hR)
-- L_away
theorem dL_away_0 : decode cL_away 0 = .ok (.aload_n 3, 1) := by decide +kernel
theorem dL_away_1 : decode cL_away 1 = .ok (.iconst 0, 1) := by decide +kernel
theorem dL_away_2 : decode cL_away 2 = .ok (.aload_n 0, 1) := by decide +kernel
theorem dL_away_3 : decode cL_away 3 = .ok (.iload_n 1, 1) := by decide +kernel
theorem dL_away_4 : decode cL_away 4 = .ok (.iload_n 2, 1) := by decide +kernel
theorem dL_away_5 : decode cL_away 5 = .ok (.invokevirtual 60, 3) := by decide +kernel
theorem dL_away_8 : decode cL_away 8 = .ok (.i2l, 1) := by decide +kernel
theorem dL_away_9 : decode cL_away 9 = .ok (.lastore, 1) := by decide +kernel
theorem dL_away_10 : decode cL_away 10 = .ok (.goto 7, 3) := by decide +kernel
theorem dL_away_13 : decode cL_away 13 = .ok (.astore 4, 2) := by decide +kernel
theorem dL_away_15 : decode cL_away 15 = .ok (.iconst 1, 1) := by decide +kernel
theorem dL_away_16 : decode cL_away 16 = .ok (.ireturn, 1) := by decide +kernel
theorem dL_away_17 : decode cL_away 17 = .ok (.iconst 0, 1) := by decide +kernel
theorem dL_away_18 : decode cL_away 18 = .ok (.ireturn, 1) := by decide +kernel
def hL_away : List (Nat × Nat × Nat × Nat) := [(0, 10, 13, 18)]
def fL_away (Y : XS) (n : Nat) (S : PS) (a0 : Nat) (x1 : Int32) (x2 : Int32) (a3 : Nat) : Option (Int32 × XS × PS) := kc (fX10_away Y n S a0 x1 x2) (fun r => ks r (fun q => kwl Y q.2 a3 0 (Int32.toInt64 q.1) (fun S2 => some ((0 : Int32), Y, S2))) (fun e => if e.1 = 1 then some ((1 : Int32), Y, e.2) else none))
theorem wL_away {C : CT} {ρ : Nat → Nat} {Y : XS} (hC : CK C RL cL_away 5 (some .int) 8) (hH : HT C hL_away) (n : Nat) (S : PS) (a0 : Nat) (x1 : Int32) (x2 : Int32) (a3 : Nat) (hTa0 : Ty Y a0 10) (hTa3 : Ty Y a3 15) {o : Int32 × XS × PS} (hf : fL_away Y n S a0 x1 x2 a3 = some o) (hB : XB C (ρ, Y, 0, 0) 8 48) (hR : RtA C ρ Y cL_away (some .int) 8 48 (fun _ => some (.int o.1)) o.2.2 o.2.1) : UW C (ρ, Y, 0, 0) S 0 [(0, .ref (ρ a0)), (1, .int x1), (2, .int x2), (3, .ref (ρ a3))] [] := by
  unfold fL_away at hf
  refine u_aload_n hC dL_away_0 3 rfl rfl ?_
  refine u_iconst (v := (0 : Int32)) hC dL_away_1 (by decide) ?_
  refine u_aload_n hC dL_away_2 0 rfl rfl ?_
  refine u_iload_n hC dL_away_3 1 rfl rfl ?_
  refine u_iload_n hC dL_away_4 2 rfl rfl ?_
  obtain ⟨r, hr, hf⟩ := kc_some hf
  refine u_callVY (X := (ρ, Y, 0, 0)) (a := a0) (rest := [.int 0, .ref (ρ a3)]) hC (ctX10_away (cL C) hC.tr (cG C) ρ Y n S a0 x1 x2 hTa0 hr).toMy hB lk_L_60 rfl hTa0 (by decide) rfl (by decide) (by decide) rfl rfl (Nat.le_of_ble_eq_true rfl) dL_away_5 (fun ρ1 v' S' hAG he => ?_) (fun k' S' he => ?_)
  · rcases r with q | e
    · have he : (Sum.inl (some (.int q.1), q.2) : MR) = .inl (v', S') := he
      obtain ⟨hv9, hS9⟩ : some (Value.int q.1) = v' ∧ q.2 = S' := by cases he; exact ⟨rfl, rfl⟩
      subst hv9
      subst hS9
      have hf := ks_l hf
      replace hAG : AG ρ Y ρ1 Y := hAG
      have hTo := (hAG a3 _ hTa3).2
      show UW C (ρ1, Y, 0 + 8, 0 + 48) q.2 _ _ [.int q.1, .int 0, .ref (ρ a3)]
      rw [← (hAG a3 _ hTa3).1]
      refine u_sub (lv' := []) [] rfl ?_
      refine u_i2l hC dL_away_8 ?_
      refine u_wl (X := (ρ1, Y, 0 + 8, 0 + 48)) (a := a3) hC hTo dL_away_9 hf (fun S2 hf => ?_)
      refine u_goto (tgt := 17) hC dL_away_10 (by decide) ?_
      refine u_iconst (v := (0 : Int32)) hC dL_away_17 (by decide) ?_
      cases hf
      exact hR _ hAG _ _ (Nat.le_of_ble_eq_true rfl) (Nat.le_of_ble_eq_true rfl) _ _ dL_away_18 trivial
    · have he : (Sum.inr e : MR) = .inl (v', S') := he
      cases he
  · rcases r with q | e
    · have he : (Sum.inl (some (.int q.1), q.2) : MR) = .inr (k', S') := he
      cases he
    · have he : (Sum.inr e : MR) = .inr (k', S') := he
      have hf := ks_r hf
      cases he
      by_cases hk0 : k' = 1
      · subst hk0
        rw [if_pos rfl] at hf
        cases hf
        refine u_catch (own := RL) (hh := hL_away) hC hH [] (0, 10, 13, 18) [] rfl (fun z h => nomatch h) (by decide) (by decide) (tb_4 53 rfl rfl) (nt_4 63 rfl rfl) (fun q => ?_)
        show UW C (ρ, Y, 0 + 8, 0 + 48) _ _ _ _
        refine u_astore (lv' := [(4, .ref q)]) hC dL_away_13 (by decide) rfl ?_
        refine u_iconst (v := (1 : Int32)) hC dL_away_15 (by decide) ?_
        exact hR _ (AG.refl ρ Y) _ _ (Nat.le_of_ble_eq_true rfl) (Nat.le_of_ble_eq_true rfl) _ _ dL_away_16 trivial
      rw [if_neg hk0] at hf
      cases hf
theorem ctL_away (l : Launch) (hl : l.stackTraces = false) (G : GT) (ρ : Nat → Nat) (Y : XS) (n : Nat) (S : PS) (a0 : Nat) (x1 : Int32) (x2 : Int32) (a3 : Nat) (hTa0 : Ty Y a0 10) (hTa3 : Ty Y a3 15) {o : Int32 × XS × PS} (hf : fL_away Y n S a0 x1 x2 a3 = some o) : Mw l G yL_away cL_away 5 hL_away 8 8 48 ρ Y [.ref (ρ a0), .int x1, .int x2, .ref (ρ a3)] S o.1 o.2.2 o.2.1 :=
  Mw_of hl (by decide) (Nat.le_of_ble_eq_true rfl) (fun C _ _ hC hH hB hR => wL_away hC hH n S a0 x1 x2 a3 hTa0 hTa3 hf hB hR)
-- L_with
theorem dL_with_0 : decode cL_with 0 = .ok (.aload_n 3, 1) := by decide +kernel
theorem dL_with_1 : decode cL_with 1 = .ok (.iconst 0, 1) := by decide +kernel
theorem dL_with_2 : decode cL_with 2 = .ok (.aload_n 0, 1) := by decide +kernel
theorem dL_with_3 : decode cL_with 3 = .ok (.iload_n 1, 1) := by decide +kernel
theorem dL_with_4 : decode cL_with 4 = .ok (.iload_n 2, 1) := by decide +kernel
theorem dL_with_5 : decode cL_with 5 = .ok (.invokevirtual 63, 3) := by decide +kernel
theorem dL_with_8 : decode cL_with 8 = .ok (.i2l, 1) := by decide +kernel
theorem dL_with_9 : decode cL_with 9 = .ok (.lastore, 1) := by decide +kernel
theorem dL_with_10 : decode cL_with 10 = .ok (.goto 11, 3) := by decide +kernel
theorem dL_with_13 : decode cL_with 13 = .ok (.astore 4, 2) := by decide +kernel
theorem dL_with_15 : decode cL_with 15 = .ok (.iconst 1, 1) := by decide +kernel
theorem dL_with_16 : decode cL_with 16 = .ok (.ireturn, 1) := by decide +kernel
theorem dL_with_17 : decode cL_with 17 = .ok (.astore 4, 2) := by decide +kernel
theorem dL_with_19 : decode cL_with 19 = .ok (.iconst 2, 1) := by decide +kernel
theorem dL_with_20 : decode cL_with 20 = .ok (.ireturn, 1) := by decide +kernel
theorem dL_with_21 : decode cL_with 21 = .ok (.iconst 0, 1) := by decide +kernel
theorem dL_with_22 : decode cL_with 22 = .ok (.ireturn, 1) := by decide +kernel
def hL_with : List (Nat × Nat × Nat × Nat) := [(0, 10, 13, 18), (0, 10, 17, 13)]
def fL_with (Y : XS) (n : Nat) (S : PS) (a0 : Nat) (x1 : Int32) (x2 : Int32) (a3 : Nat) : Option (Int32 × XS × PS) := kc (fX10_with Y n S a0 x1 x2) (fun r => ks r (fun q => kwl Y q.2 a3 0 (Int32.toInt64 q.1) (fun S2 => some ((0 : Int32), Y, S2))) (fun e => if e.1 = 1 then some ((1 : Int32), Y, e.2) else if e.1 = 2 then some ((2 : Int32), Y, e.2) else none))
theorem wL_with {C : CT} {ρ : Nat → Nat} {Y : XS} (hC : CK C RL cL_with 5 (some .int) 8) (hH : HT C hL_with) (n : Nat) (S : PS) (a0 : Nat) (x1 : Int32) (x2 : Int32) (a3 : Nat) (hTa0 : Ty Y a0 10) (hTa3 : Ty Y a3 15) {o : Int32 × XS × PS} (hf : fL_with Y n S a0 x1 x2 a3 = some o) (hB : XB C (ρ, Y, 0, 0) 8 48) (hR : RtA C ρ Y cL_with (some .int) 8 48 (fun _ => some (.int o.1)) o.2.2 o.2.1) : UW C (ρ, Y, 0, 0) S 0 [(0, .ref (ρ a0)), (1, .int x1), (2, .int x2), (3, .ref (ρ a3))] [] := by
  unfold fL_with at hf
  refine u_aload_n hC dL_with_0 3 rfl rfl ?_
  refine u_iconst (v := (0 : Int32)) hC dL_with_1 (by decide) ?_
  refine u_aload_n hC dL_with_2 0 rfl rfl ?_
  refine u_iload_n hC dL_with_3 1 rfl rfl ?_
  refine u_iload_n hC dL_with_4 2 rfl rfl ?_
  obtain ⟨r, hr, hf⟩ := kc_some hf
  refine u_callVY (X := (ρ, Y, 0, 0)) (a := a0) (rest := [.int 0, .ref (ρ a3)]) hC (ctX10_with (cL C) hC.tr (cG C) ρ Y n S a0 x1 x2 hTa0 hr).toMy hB lk_L_63 rfl hTa0 (by decide) rfl (by decide) (by decide) rfl rfl (Nat.le_of_ble_eq_true rfl) dL_with_5 (fun ρ1 v' S' hAG he => ?_) (fun k' S' he => ?_)
  · rcases r with q | e
    · have he : (Sum.inl (some (.int q.1), q.2) : MR) = .inl (v', S') := he
      obtain ⟨hv9, hS9⟩ : some (Value.int q.1) = v' ∧ q.2 = S' := by cases he; exact ⟨rfl, rfl⟩
      subst hv9
      subst hS9
      have hf := ks_l hf
      replace hAG : AG ρ Y ρ1 Y := hAG
      have hTo := (hAG a3 _ hTa3).2
      show UW C (ρ1, Y, 0 + 8, 0 + 48) q.2 _ _ [.int q.1, .int 0, .ref (ρ a3)]
      rw [← (hAG a3 _ hTa3).1]
      refine u_sub (lv' := []) [] rfl ?_
      refine u_i2l hC dL_with_8 ?_
      refine u_wl (X := (ρ1, Y, 0 + 8, 0 + 48)) (a := a3) hC hTo dL_with_9 hf (fun S2 hf => ?_)
      refine u_goto (tgt := 21) hC dL_with_10 (by decide) ?_
      refine u_iconst (v := (0 : Int32)) hC dL_with_21 (by decide) ?_
      cases hf
      exact hR _ hAG _ _ (Nat.le_of_ble_eq_true rfl) (Nat.le_of_ble_eq_true rfl) _ _ dL_with_22 trivial
    · have he : (Sum.inr e : MR) = .inl (v', S') := he
      cases he
  · rcases r with q | e
    · have he : (Sum.inl (some (.int q.1), q.2) : MR) = .inr (k', S') := he
      cases he
    · have he : (Sum.inr e : MR) = .inr (k', S') := he
      have hf := ks_r hf
      cases he
      by_cases hk0 : k' = 1
      · subst hk0
        rw [if_pos rfl] at hf
        cases hf
        refine u_catch (own := RL) (hh := hL_with) hC hH [] (0, 10, 13, 18) [(0, 10, 17, 13)] rfl (fun z h => nomatch h) (by decide) (by decide) (tb_4 53 rfl rfl) (nt_4 63 rfl rfl) (fun q => ?_)
        show UW C (ρ, Y, 0 + 8, 0 + 48) _ _ _ _
        refine u_astore (lv' := [(4, .ref q)]) hC dL_with_13 (by decide) rfl ?_
        refine u_iconst (v := (1 : Int32)) hC dL_with_15 (by decide) ?_
        exact hR _ (AG.refl ρ Y) _ _ (Nat.le_of_ble_eq_true rfl) (Nat.le_of_ble_eq_true rfl) _ _ dL_with_16 trivial
      by_cases hk1 : k' = 2
      · subst hk1
        rw [if_neg (show ¬ (2 : Nat) = 1 by decide), if_pos rfl] at hf
        cases hf
        refine u_catch (own := RL) (hh := hL_with) hC hH [(0, 10, 13, 18)] (0, 10, 17, 13) [] rfl (fun z h => by cases List.mem_singleton.mp h; exact ⟨by decide, rfl, (tb_4 53 rfl rfl)⟩) (by decide) (by decide) (tb_3 17 rfl rfl) (nt_3 24 rfl rfl) (fun q => ?_)
        show UW C (ρ, Y, 0 + 8, 0 + 48) _ _ _ _
        refine u_astore (lv' := [(4, .ref q)]) hC dL_with_17 (by decide) rfl ?_
        refine u_iconst (v := (2 : Int32)) hC dL_with_19 (by decide) ?_
        exact hR _ (AG.refl ρ Y) _ _ (Nat.le_of_ble_eq_true rfl) (Nat.le_of_ble_eq_true rfl) _ _ dL_with_20 trivial
      rw [if_neg hk0, if_neg hk1] at hf
      cases hf
theorem ctL_with (l : Launch) (hl : l.stackTraces = false) (G : GT) (ρ : Nat → Nat) (Y : XS) (n : Nat) (S : PS) (a0 : Nat) (x1 : Int32) (x2 : Int32) (a3 : Nat) (hTa0 : Ty Y a0 10) (hTa3 : Ty Y a3 15) {o : Int32 × XS × PS} (hf : fL_with Y n S a0 x1 x2 a3 = some o) : Mw l G yL_with cL_with 5 hL_with 8 8 48 ρ Y [.ref (ρ a0), .int x1, .int x2, .ref (ρ a3)] S o.1 o.2.2 o.2.1 :=
  Mw_of hl (by decide) (Nat.le_of_ble_eq_true rfl) (fun C _ _ hC hH hB hR => wL_with hC hH n S a0 x1 x2 a3 hTa0 hTa3 hf hB hR)
-- L_voting
theorem dL_voting_0 : decode cL_voting 0 = .ok (.aload 5, 2) := by decide +kernel
theorem dL_voting_2 : decode cL_voting 2 = .ok (.iconst 0, 1) := by decide +kernel
theorem dL_voting_3 : decode cL_voting 3 = .ok (.aload_n 0, 1) := by decide +kernel
theorem dL_voting_4 : decode cL_voting 4 = .ok (.iload_n 1, 1) := by decide +kernel
theorem dL_voting_5 : decode cL_voting 5 = .ok (.iload_n 2, 1) := by decide +kernel
theorem dL_voting_6 : decode cL_voting 6 = .ok (.iload_n 3, 1) := by decide +kernel
theorem dL_voting_7 : decode cL_voting 7 = .ok (.iload 4, 2) := by decide +kernel
theorem dL_voting_9 : decode cL_voting 9 = .ok (.invokevirtual 66, 3) := by decide +kernel
theorem dL_voting_12 : decode cL_voting 12 = .ok (.i2l, 1) := by decide +kernel
theorem dL_voting_13 : decode cL_voting 13 = .ok (.lastore, 1) := by decide +kernel
theorem dL_voting_14 : decode cL_voting 14 = .ok (.goto 11, 3) := by decide +kernel
theorem dL_voting_17 : decode cL_voting 17 = .ok (.astore 6, 2) := by decide +kernel
theorem dL_voting_19 : decode cL_voting 19 = .ok (.iconst 1, 1) := by decide +kernel
theorem dL_voting_20 : decode cL_voting 20 = .ok (.ireturn, 1) := by decide +kernel
theorem dL_voting_21 : decode cL_voting 21 = .ok (.astore 6, 2) := by decide +kernel
theorem dL_voting_23 : decode cL_voting 23 = .ok (.iconst 2, 1) := by decide +kernel
theorem dL_voting_24 : decode cL_voting 24 = .ok (.ireturn, 1) := by decide +kernel
theorem dL_voting_25 : decode cL_voting 25 = .ok (.iconst 0, 1) := by decide +kernel
theorem dL_voting_26 : decode cL_voting 26 = .ok (.ireturn, 1) := by decide +kernel
def hL_voting : List (Nat × Nat × Nat × Nat) := [(0, 14, 17, 18), (0, 14, 21, 13)]
def fL_voting (Y : XS) (n : Nat) (S : PS) (a0 : Nat) (x1 : Int32) (x2 : Int32) (x3 : Int32) (x4 : Int32) (a5 : Nat) : Option (Int32 × XS × PS) := kc (fX10_voting Y n S a0 x1 x2 x3 x4) (fun r => ks r (fun q => kwl Y q.2 a5 0 (Int32.toInt64 q.1) (fun S2 => some ((0 : Int32), Y, S2))) (fun e => if e.1 = 1 then some ((1 : Int32), Y, e.2) else if e.1 = 2 then some ((2 : Int32), Y, e.2) else none))
theorem wL_voting {C : CT} {ρ : Nat → Nat} {Y : XS} (hC : CK C RL cL_voting 7 (some .int) 8) (hH : HT C hL_voting) (n : Nat) (S : PS) (a0 : Nat) (x1 : Int32) (x2 : Int32) (x3 : Int32) (x4 : Int32) (a5 : Nat) (hTa0 : Ty Y a0 10) (hTa5 : Ty Y a5 15) {o : Int32 × XS × PS} (hf : fL_voting Y n S a0 x1 x2 x3 x4 a5 = some o) (hB : XB C (ρ, Y, 0, 0) 8 48) (hR : RtA C ρ Y cL_voting (some .int) 8 48 (fun _ => some (.int o.1)) o.2.2 o.2.1) : UW C (ρ, Y, 0, 0) S 0 [(0, .ref (ρ a0)), (1, .int x1), (2, .int x2), (3, .int x3), (4, .int x4), (5, .ref (ρ a5))] [] := by
  unfold fL_voting at hf
  refine u_aload hC dL_voting_0 5 rfl ?_
  refine u_iconst (v := (0 : Int32)) hC dL_voting_2 (by decide) ?_
  refine u_aload_n hC dL_voting_3 0 rfl rfl ?_
  refine u_iload_n hC dL_voting_4 1 rfl rfl ?_
  refine u_iload_n hC dL_voting_5 2 rfl rfl ?_
  refine u_iload_n hC dL_voting_6 3 rfl rfl ?_
  refine u_iload hC dL_voting_7 4 rfl ?_
  obtain ⟨r, hr, hf⟩ := kc_some hf
  refine u_callVY (X := (ρ, Y, 0, 0)) (a := a0) (rest := [.int 0, .ref (ρ a5)]) hC (ctX10_voting (cL C) hC.tr (cG C) ρ Y n S a0 x1 x2 x3 x4 hTa0 hr).toMy hB lk_L_66 rfl hTa0 (by decide) rfl (by decide) (by decide) rfl rfl (Nat.le_of_ble_eq_true rfl) dL_voting_9 (fun ρ1 v' S' hAG he => ?_) (fun k' S' he => ?_)
  · rcases r with q | e
    · have he : (Sum.inl (some (.int q.1), q.2) : MR) = .inl (v', S') := he
      obtain ⟨hv9, hS9⟩ : some (Value.int q.1) = v' ∧ q.2 = S' := by cases he; exact ⟨rfl, rfl⟩
      subst hv9
      subst hS9
      have hf := ks_l hf
      replace hAG : AG ρ Y ρ1 Y := hAG
      have hTo := (hAG a5 _ hTa5).2
      show UW C (ρ1, Y, 0 + 8, 0 + 48) q.2 _ _ [.int q.1, .int 0, .ref (ρ a5)]
      rw [← (hAG a5 _ hTa5).1]
      refine u_sub (lv' := []) [] rfl ?_
      refine u_i2l hC dL_voting_12 ?_
      refine u_wl (X := (ρ1, Y, 0 + 8, 0 + 48)) (a := a5) hC hTo dL_voting_13 hf (fun S2 hf => ?_)
      refine u_goto (tgt := 25) hC dL_voting_14 (by decide) ?_
      refine u_iconst (v := (0 : Int32)) hC dL_voting_25 (by decide) ?_
      cases hf
      exact hR _ hAG _ _ (Nat.le_of_ble_eq_true rfl) (Nat.le_of_ble_eq_true rfl) _ _ dL_voting_26 trivial
    · have he : (Sum.inr e : MR) = .inl (v', S') := he
      cases he
  · rcases r with q | e
    · have he : (Sum.inl (some (.int q.1), q.2) : MR) = .inr (k', S') := he
      cases he
    · have he : (Sum.inr e : MR) = .inr (k', S') := he
      have hf := ks_r hf
      cases he
      by_cases hk0 : k' = 1
      · subst hk0
        rw [if_pos rfl] at hf
        cases hf
        refine u_catch (own := RL) (hh := hL_voting) hC hH [] (0, 14, 17, 18) [(0, 14, 21, 13)] rfl (fun z h => nomatch h) (by decide) (by decide) (tb_4 53 rfl rfl) (nt_4 63 rfl rfl) (fun q => ?_)
        show UW C (ρ, Y, 0 + 8, 0 + 48) _ _ _ _
        refine u_astore (lv' := [(6, .ref q)]) hC dL_voting_17 (by decide) rfl ?_
        refine u_iconst (v := (1 : Int32)) hC dL_voting_19 (by decide) ?_
        exact hR _ (AG.refl ρ Y) _ _ (Nat.le_of_ble_eq_true rfl) (Nat.le_of_ble_eq_true rfl) _ _ dL_voting_20 trivial
      by_cases hk1 : k' = 2
      · subst hk1
        rw [if_neg (show ¬ (2 : Nat) = 1 by decide), if_pos rfl] at hf
        cases hf
        refine u_catch (own := RL) (hh := hL_voting) hC hH [(0, 14, 17, 18)] (0, 14, 21, 13) [] rfl (fun z h => by cases List.mem_singleton.mp h; exact ⟨by decide, rfl, (tb_4 53 rfl rfl)⟩) (by decide) (by decide) (tb_3 17 rfl rfl) (nt_3 24 rfl rfl) (fun q => ?_)
        show UW C (ρ, Y, 0 + 8, 0 + 48) _ _ _ _
        refine u_astore (lv' := [(6, .ref q)]) hC dL_voting_21 (by decide) rfl ?_
        refine u_iconst (v := (2 : Int32)) hC dL_voting_23 (by decide) ?_
        exact hR _ (AG.refl ρ Y) _ _ (Nat.le_of_ble_eq_true rfl) (Nat.le_of_ble_eq_true rfl) _ _ dL_voting_24 trivial
      rw [if_neg hk0, if_neg hk1] at hf
      cases hf
theorem ctL_voting (l : Launch) (hl : l.stackTraces = false) (G : GT) (ρ : Nat → Nat) (Y : XS) (n : Nat) (S : PS) (a0 : Nat) (x1 : Int32) (x2 : Int32) (x3 : Int32) (x4 : Int32) (a5 : Nat) (hTa0 : Ty Y a0 10) (hTa5 : Ty Y a5 15) {o : Int32 × XS × PS} (hf : fL_voting Y n S a0 x1 x2 x3 x4 a5 = some o) : Mw l G yL_voting cL_voting 7 hL_voting 8 8 48 ρ Y [.ref (ρ a0), .int x1, .int x2, .int x3, .int x4, .ref (ρ a5)] S o.1 o.2.2 o.2.1 :=
  Mw_of hl (by decide) (Nat.le_of_ble_eq_true rfl) (fun C _ _ hC hH hB hR => wL_voting hC hH n S a0 x1 x2 x3 x4 a5 hTa0 hTa5 hf hB hR)
-- L_ride
theorem dL_ride_0 : decode cL_ride 0 = .ok (.aload 4, 2) := by decide +kernel
theorem dL_ride_2 : decode cL_ride 2 = .ok (.iconst 0, 1) := by decide +kernel
theorem dL_ride_3 : decode cL_ride 3 = .ok (.aload_n 0, 1) := by decide +kernel
theorem dL_ride_4 : decode cL_ride 4 = .ok (.iload_n 1, 1) := by decide +kernel
theorem dL_ride_5 : decode cL_ride 5 = .ok (.iload_n 2, 1) := by decide +kernel
theorem dL_ride_6 : decode cL_ride 6 = .ok (.iload_n 3, 1) := by decide +kernel
theorem dL_ride_7 : decode cL_ride 7 = .ok (.invokevirtual 70, 3) := by decide +kernel
theorem dL_ride_10 : decode cL_ride 10 = .ok (.i2l, 1) := by decide +kernel
theorem dL_ride_11 : decode cL_ride 11 = .ok (.lastore, 1) := by decide +kernel
theorem dL_ride_12 : decode cL_ride 12 = .ok (.goto 7, 3) := by decide +kernel
theorem dL_ride_15 : decode cL_ride 15 = .ok (.astore 5, 2) := by decide +kernel
theorem dL_ride_17 : decode cL_ride 17 = .ok (.iconst 1, 1) := by decide +kernel
theorem dL_ride_18 : decode cL_ride 18 = .ok (.ireturn, 1) := by decide +kernel
theorem dL_ride_19 : decode cL_ride 19 = .ok (.iconst 0, 1) := by decide +kernel
theorem dL_ride_20 : decode cL_ride 20 = .ok (.ireturn, 1) := by decide +kernel
def hL_ride : List (Nat × Nat × Nat × Nat) := [(0, 12, 15, 18)]
def fL_ride (Y : XS) (n : Nat) (S : PS) (a0 : Nat) (x1 : Int32) (x2 : Int32) (x3 : Int32) (a4 : Nat) : Option (Int32 × XS × PS) := kc (fX10_ride Y n S a0 x1 x2 x3) (fun r => ks r (fun q => kwl Y q.2 a4 0 (Int32.toInt64 q.1) (fun S2 => some ((0 : Int32), Y, S2))) (fun e => if e.1 = 1 then some ((1 : Int32), Y, e.2) else none))
theorem wL_ride {C : CT} {ρ : Nat → Nat} {Y : XS} (hC : CK C RL cL_ride 6 (some .int) 8) (hH : HT C hL_ride) (n : Nat) (S : PS) (a0 : Nat) (x1 : Int32) (x2 : Int32) (x3 : Int32) (a4 : Nat) (hTa0 : Ty Y a0 10) (hTa4 : Ty Y a4 15) {o : Int32 × XS × PS} (hf : fL_ride Y n S a0 x1 x2 x3 a4 = some o) (hB : XB C (ρ, Y, 0, 0) 8 48) (hR : RtA C ρ Y cL_ride (some .int) 8 48 (fun _ => some (.int o.1)) o.2.2 o.2.1) : UW C (ρ, Y, 0, 0) S 0 [(0, .ref (ρ a0)), (1, .int x1), (2, .int x2), (3, .int x3), (4, .ref (ρ a4))] [] := by
  unfold fL_ride at hf
  refine u_aload hC dL_ride_0 4 rfl ?_
  refine u_iconst (v := (0 : Int32)) hC dL_ride_2 (by decide) ?_
  refine u_aload_n hC dL_ride_3 0 rfl rfl ?_
  refine u_iload_n hC dL_ride_4 1 rfl rfl ?_
  refine u_iload_n hC dL_ride_5 2 rfl rfl ?_
  refine u_iload_n hC dL_ride_6 3 rfl rfl ?_
  obtain ⟨r, hr, hf⟩ := kc_some hf
  refine u_callVY (X := (ρ, Y, 0, 0)) (a := a0) (rest := [.int 0, .ref (ρ a4)]) hC (ctX10_ride (cL C) hC.tr (cG C) ρ Y n S a0 x1 x2 x3 hTa0 hr).toMy hB lk_L_70 rfl hTa0 (by decide) rfl (by decide) (by decide) rfl rfl (Nat.le_of_ble_eq_true rfl) dL_ride_7 (fun ρ1 v' S' hAG he => ?_) (fun k' S' he => ?_)
  · rcases r with q | e
    · have he : (Sum.inl (some (.int q.1), q.2) : MR) = .inl (v', S') := he
      obtain ⟨hv9, hS9⟩ : some (Value.int q.1) = v' ∧ q.2 = S' := by cases he; exact ⟨rfl, rfl⟩
      subst hv9
      subst hS9
      have hf := ks_l hf
      replace hAG : AG ρ Y ρ1 Y := hAG
      have hTo := (hAG a4 _ hTa4).2
      show UW C (ρ1, Y, 0 + 8, 0 + 48) q.2 _ _ [.int q.1, .int 0, .ref (ρ a4)]
      rw [← (hAG a4 _ hTa4).1]
      refine u_sub (lv' := []) [] rfl ?_
      refine u_i2l hC dL_ride_10 ?_
      refine u_wl (X := (ρ1, Y, 0 + 8, 0 + 48)) (a := a4) hC hTo dL_ride_11 hf (fun S2 hf => ?_)
      refine u_goto (tgt := 19) hC dL_ride_12 (by decide) ?_
      refine u_iconst (v := (0 : Int32)) hC dL_ride_19 (by decide) ?_
      cases hf
      exact hR _ hAG _ _ (Nat.le_of_ble_eq_true rfl) (Nat.le_of_ble_eq_true rfl) _ _ dL_ride_20 trivial
    · have he : (Sum.inr e : MR) = .inl (v', S') := he
      cases he
  · rcases r with q | e
    · have he : (Sum.inl (some (.int q.1), q.2) : MR) = .inr (k', S') := he
      cases he
    · have he : (Sum.inr e : MR) = .inr (k', S') := he
      have hf := ks_r hf
      cases he
      by_cases hk0 : k' = 1
      · subst hk0
        rw [if_pos rfl] at hf
        cases hf
        refine u_catch (own := RL) (hh := hL_ride) hC hH [] (0, 12, 15, 18) [] rfl (fun z h => nomatch h) (by decide) (by decide) (tb_4 53 rfl rfl) (nt_4 63 rfl rfl) (fun q => ?_)
        show UW C (ρ, Y, 0 + 8, 0 + 48) _ _ _ _
        refine u_astore (lv' := [(5, .ref q)]) hC dL_ride_15 (by decide) rfl ?_
        refine u_iconst (v := (1 : Int32)) hC dL_ride_17 (by decide) ?_
        exact hR _ (AG.refl ρ Y) _ _ (Nat.le_of_ble_eq_true rfl) (Nat.le_of_ble_eq_true rfl) _ _ dL_ride_18 trivial
      rw [if_neg hk0] at hf
      cases hf
theorem ctL_ride (l : Launch) (hl : l.stackTraces = false) (G : GT) (ρ : Nat → Nat) (Y : XS) (n : Nat) (S : PS) (a0 : Nat) (x1 : Int32) (x2 : Int32) (x3 : Int32) (a4 : Nat) (hTa0 : Ty Y a0 10) (hTa4 : Ty Y a4 15) {o : Int32 × XS × PS} (hf : fL_ride Y n S a0 x1 x2 x3 a4 = some o) : Mw l G yL_ride cL_ride 6 hL_ride 8 8 48 ρ Y [.ref (ρ a0), .int x1, .int x2, .int x3, .ref (ρ a4)] S o.1 o.2.2 o.2.1 :=
  Mw_of hl (by decide) (Nat.le_of_ble_eq_true rfl) (fun C _ _ hC hH hB hR => wL_ride hC hH n S a0 x1 x2 x3 a4 hTa0 hTa4 hf hB hR)
-- L_push
theorem dL_push_0 : decode cL_push 0 = .ok (.aload_n 3, 1) := by decide +kernel
theorem dL_push_1 : decode cL_push 1 = .ok (.iconst 0, 1) := by decide +kernel
theorem dL_push_2 : decode cL_push 2 = .ok (.aload_n 0, 1) := by decide +kernel
theorem dL_push_3 : decode cL_push 3 = .ok (.iload_n 1, 1) := by decide +kernel
theorem dL_push_4 : decode cL_push 4 = .ok (.iload_n 2, 1) := by decide +kernel
theorem dL_push_5 : decode cL_push 5 = .ok (.invokevirtual 73, 3) := by decide +kernel
theorem dL_push_8 : decode cL_push 8 = .ok (.i2l, 1) := by decide +kernel
theorem dL_push_9 : decode cL_push 9 = .ok (.lastore, 1) := by decide +kernel
theorem dL_push_10 : decode cL_push 10 = .ok (.goto 7, 3) := by decide +kernel
theorem dL_push_13 : decode cL_push 13 = .ok (.astore 4, 2) := by decide +kernel
theorem dL_push_15 : decode cL_push 15 = .ok (.iconst 1, 1) := by decide +kernel
theorem dL_push_16 : decode cL_push 16 = .ok (.ireturn, 1) := by decide +kernel
theorem dL_push_17 : decode cL_push 17 = .ok (.iconst 0, 1) := by decide +kernel
theorem dL_push_18 : decode cL_push 18 = .ok (.ireturn, 1) := by decide +kernel
def hL_push : List (Nat × Nat × Nat × Nat) := [(0, 10, 13, 18)]
def fL_push (Y : XS) (n : Nat) (S : PS) (a0 : Nat) (x1 : Int32) (x2 : Int32) (a3 : Nat) : Option (Int32 × XS × PS) := kc (fX10_push Y n S a0 x1 x2) (fun r => ks r (fun q => kwl Y q.2 a3 0 (Int32.toInt64 q.1) (fun S2 => some ((0 : Int32), Y, S2))) (fun e => if e.1 = 1 then some ((1 : Int32), Y, e.2) else none))
theorem wL_push {C : CT} {ρ : Nat → Nat} {Y : XS} (hC : CK C RL cL_push 5 (some .int) 8) (hH : HT C hL_push) (n : Nat) (S : PS) (a0 : Nat) (x1 : Int32) (x2 : Int32) (a3 : Nat) (hTa0 : Ty Y a0 10) (hTa3 : Ty Y a3 15) {o : Int32 × XS × PS} (hf : fL_push Y n S a0 x1 x2 a3 = some o) (hB : XB C (ρ, Y, 0, 0) 8 48) (hR : RtA C ρ Y cL_push (some .int) 8 48 (fun _ => some (.int o.1)) o.2.2 o.2.1) : UW C (ρ, Y, 0, 0) S 0 [(0, .ref (ρ a0)), (1, .int x1), (2, .int x2), (3, .ref (ρ a3))] [] := by
  unfold fL_push at hf
  refine u_aload_n hC dL_push_0 3 rfl rfl ?_
  refine u_iconst (v := (0 : Int32)) hC dL_push_1 (by decide) ?_
  refine u_aload_n hC dL_push_2 0 rfl rfl ?_
  refine u_iload_n hC dL_push_3 1 rfl rfl ?_
  refine u_iload_n hC dL_push_4 2 rfl rfl ?_
  obtain ⟨r, hr, hf⟩ := kc_some hf
  refine u_callVY (X := (ρ, Y, 0, 0)) (a := a0) (rest := [.int 0, .ref (ρ a3)]) hC (ctX10_push (cL C) hC.tr (cG C) ρ Y n S a0 x1 x2 hTa0 hr).toMy hB lk_L_73 rfl hTa0 (by decide) rfl (by decide) (by decide) rfl rfl (Nat.le_of_ble_eq_true rfl) dL_push_5 (fun ρ1 v' S' hAG he => ?_) (fun k' S' he => ?_)
  · rcases r with q | e
    · have he : (Sum.inl (some (.int q.1), q.2) : MR) = .inl (v', S') := he
      obtain ⟨hv9, hS9⟩ : some (Value.int q.1) = v' ∧ q.2 = S' := by cases he; exact ⟨rfl, rfl⟩
      subst hv9
      subst hS9
      have hf := ks_l hf
      replace hAG : AG ρ Y ρ1 Y := hAG
      have hTo := (hAG a3 _ hTa3).2
      show UW C (ρ1, Y, 0 + 8, 0 + 48) q.2 _ _ [.int q.1, .int 0, .ref (ρ a3)]
      rw [← (hAG a3 _ hTa3).1]
      refine u_sub (lv' := []) [] rfl ?_
      refine u_i2l hC dL_push_8 ?_
      refine u_wl (X := (ρ1, Y, 0 + 8, 0 + 48)) (a := a3) hC hTo dL_push_9 hf (fun S2 hf => ?_)
      refine u_goto (tgt := 17) hC dL_push_10 (by decide) ?_
      refine u_iconst (v := (0 : Int32)) hC dL_push_17 (by decide) ?_
      cases hf
      exact hR _ hAG _ _ (Nat.le_of_ble_eq_true rfl) (Nat.le_of_ble_eq_true rfl) _ _ dL_push_18 trivial
    · have he : (Sum.inr e : MR) = .inl (v', S') := he
      cases he
  · rcases r with q | e
    · have he : (Sum.inl (some (.int q.1), q.2) : MR) = .inr (k', S') := he
      cases he
    · have he : (Sum.inr e : MR) = .inr (k', S') := he
      have hf := ks_r hf
      cases he
      by_cases hk0 : k' = 1
      · subst hk0
        rw [if_pos rfl] at hf
        cases hf
        refine u_catch (own := RL) (hh := hL_push) hC hH [] (0, 10, 13, 18) [] rfl (fun z h => nomatch h) (by decide) (by decide) (tb_4 53 rfl rfl) (nt_4 63 rfl rfl) (fun q => ?_)
        show UW C (ρ, Y, 0 + 8, 0 + 48) _ _ _ _
        refine u_astore (lv' := [(4, .ref q)]) hC dL_push_13 (by decide) rfl ?_
        refine u_iconst (v := (1 : Int32)) hC dL_push_15 (by decide) ?_
        exact hR _ (AG.refl ρ Y) _ _ (Nat.le_of_ble_eq_true rfl) (Nat.le_of_ble_eq_true rfl) _ _ dL_push_16 trivial
      rw [if_neg hk0] at hf
      cases hf
theorem ctL_push (l : Launch) (hl : l.stackTraces = false) (G : GT) (ρ : Nat → Nat) (Y : XS) (n : Nat) (S : PS) (a0 : Nat) (x1 : Int32) (x2 : Int32) (a3 : Nat) (hTa0 : Ty Y a0 10) (hTa3 : Ty Y a3 15) {o : Int32 × XS × PS} (hf : fL_push Y n S a0 x1 x2 a3 = some o) : Mw l G yL_push cL_push 5 hL_push 8 8 48 ρ Y [.ref (ρ a0), .int x1, .int x2, .ref (ρ a3)] S o.1 o.2.2 o.2.1 :=
  Mw_of hl (by decide) (Nat.le_of_ble_eq_true rfl) (fun C _ _ hC hH hB hR => wL_push hC hH n S a0 x1 x2 a3 hTa0 hTa3 hf hB hR)
-- L_discount
theorem dL_discount_0 : decode cL_discount 0 = .ok (.aload_n 3, 1) := by decide +kernel
theorem dL_discount_1 : decode cL_discount 1 = .ok (.iconst 0, 1) := by decide +kernel
theorem dL_discount_2 : decode cL_discount 2 = .ok (.aload_n 0, 1) := by decide +kernel
theorem dL_discount_3 : decode cL_discount 3 = .ok (.iload_n 1, 1) := by decide +kernel
theorem dL_discount_4 : decode cL_discount 4 = .ok (.iload_n 2, 1) := by decide +kernel
theorem dL_discount_5 : decode cL_discount 5 = .ok (.invokevirtual 76, 3) := by decide +kernel
theorem dL_discount_8 : decode cL_discount 8 = .ok (.i2l, 1) := by decide +kernel
theorem dL_discount_9 : decode cL_discount 9 = .ok (.lastore, 1) := by decide +kernel
theorem dL_discount_10 : decode cL_discount 10 = .ok (.goto 7, 3) := by decide +kernel
theorem dL_discount_13 : decode cL_discount 13 = .ok (.astore 4, 2) := by decide +kernel
theorem dL_discount_15 : decode cL_discount 15 = .ok (.iconst 1, 1) := by decide +kernel
theorem dL_discount_16 : decode cL_discount 16 = .ok (.ireturn, 1) := by decide +kernel
theorem dL_discount_17 : decode cL_discount 17 = .ok (.iconst 0, 1) := by decide +kernel
theorem dL_discount_18 : decode cL_discount 18 = .ok (.ireturn, 1) := by decide +kernel
def hL_discount : List (Nat × Nat × Nat × Nat) := [(0, 10, 13, 18)]
def fL_discount (Y : XS) (n : Nat) (S : PS) (a0 : Nat) (x1 : Int32) (x2 : Int32) (a3 : Nat) : Option (Int32 × XS × PS) := kc (fX10_discount Y n S a0 x1 x2) (fun r => ks r (fun q => kwl Y q.2 a3 0 (Int32.toInt64 q.1) (fun S2 => some ((0 : Int32), Y, S2))) (fun e => if e.1 = 1 then some ((1 : Int32), Y, e.2) else none))
theorem wL_discount {C : CT} {ρ : Nat → Nat} {Y : XS} (hC : CK C RL cL_discount 5 (some .int) 8) (hH : HT C hL_discount) (n : Nat) (S : PS) (a0 : Nat) (x1 : Int32) (x2 : Int32) (a3 : Nat) (hTa0 : Ty Y a0 10) (hTa3 : Ty Y a3 15) {o : Int32 × XS × PS} (hf : fL_discount Y n S a0 x1 x2 a3 = some o) (hB : XB C (ρ, Y, 0, 0) 8 48) (hR : RtA C ρ Y cL_discount (some .int) 8 48 (fun _ => some (.int o.1)) o.2.2 o.2.1) : UW C (ρ, Y, 0, 0) S 0 [(0, .ref (ρ a0)), (1, .int x1), (2, .int x2), (3, .ref (ρ a3))] [] := by
  unfold fL_discount at hf
  refine u_aload_n hC dL_discount_0 3 rfl rfl ?_
  refine u_iconst (v := (0 : Int32)) hC dL_discount_1 (by decide) ?_
  refine u_aload_n hC dL_discount_2 0 rfl rfl ?_
  refine u_iload_n hC dL_discount_3 1 rfl rfl ?_
  refine u_iload_n hC dL_discount_4 2 rfl rfl ?_
  obtain ⟨r, hr, hf⟩ := kc_some hf
  refine u_callVY (X := (ρ, Y, 0, 0)) (a := a0) (rest := [.int 0, .ref (ρ a3)]) hC (ctX10_discount (cL C) hC.tr (cG C) ρ Y n S a0 x1 x2 hTa0 hr).toMy hB lk_L_76 rfl hTa0 (by decide) rfl (by decide) (by decide) rfl rfl (Nat.le_of_ble_eq_true rfl) dL_discount_5 (fun ρ1 v' S' hAG he => ?_) (fun k' S' he => ?_)
  · rcases r with q | e
    · have he : (Sum.inl (some (.int q.1), q.2) : MR) = .inl (v', S') := he
      obtain ⟨hv9, hS9⟩ : some (Value.int q.1) = v' ∧ q.2 = S' := by cases he; exact ⟨rfl, rfl⟩
      subst hv9
      subst hS9
      have hf := ks_l hf
      replace hAG : AG ρ Y ρ1 Y := hAG
      have hTo := (hAG a3 _ hTa3).2
      show UW C (ρ1, Y, 0 + 8, 0 + 48) q.2 _ _ [.int q.1, .int 0, .ref (ρ a3)]
      rw [← (hAG a3 _ hTa3).1]
      refine u_sub (lv' := []) [] rfl ?_
      refine u_i2l hC dL_discount_8 ?_
      refine u_wl (X := (ρ1, Y, 0 + 8, 0 + 48)) (a := a3) hC hTo dL_discount_9 hf (fun S2 hf => ?_)
      refine u_goto (tgt := 17) hC dL_discount_10 (by decide) ?_
      refine u_iconst (v := (0 : Int32)) hC dL_discount_17 (by decide) ?_
      cases hf
      exact hR _ hAG _ _ (Nat.le_of_ble_eq_true rfl) (Nat.le_of_ble_eq_true rfl) _ _ dL_discount_18 trivial
    · have he : (Sum.inr e : MR) = .inl (v', S') := he
      cases he
  · rcases r with q | e
    · have he : (Sum.inl (some (.int q.1), q.2) : MR) = .inr (k', S') := he
      cases he
    · have he : (Sum.inr e : MR) = .inr (k', S') := he
      have hf := ks_r hf
      cases he
      by_cases hk0 : k' = 1
      · subst hk0
        rw [if_pos rfl] at hf
        cases hf
        refine u_catch (own := RL) (hh := hL_discount) hC hH [] (0, 10, 13, 18) [] rfl (fun z h => nomatch h) (by decide) (by decide) (tb_4 53 rfl rfl) (nt_4 63 rfl rfl) (fun q => ?_)
        show UW C (ρ, Y, 0 + 8, 0 + 48) _ _ _ _
        refine u_astore (lv' := [(4, .ref q)]) hC dL_discount_13 (by decide) rfl ?_
        refine u_iconst (v := (1 : Int32)) hC dL_discount_15 (by decide) ?_
        exact hR _ (AG.refl ρ Y) _ _ (Nat.le_of_ble_eq_true rfl) (Nat.le_of_ble_eq_true rfl) _ _ dL_discount_16 trivial
      rw [if_neg hk0] at hf
      cases hf
theorem ctL_discount (l : Launch) (hl : l.stackTraces = false) (G : GT) (ρ : Nat → Nat) (Y : XS) (n : Nat) (S : PS) (a0 : Nat) (x1 : Int32) (x2 : Int32) (a3 : Nat) (hTa0 : Ty Y a0 10) (hTa3 : Ty Y a3 15) {o : Int32 × XS × PS} (hf : fL_discount Y n S a0 x1 x2 a3 = some o) : Mw l G yL_discount cL_discount 5 hL_discount 8 8 48 ρ Y [.ref (ρ a0), .int x1, .int x2, .ref (ρ a3)] S o.1 o.2.2 o.2.1 :=
  Mw_of hl (by decide) (Nat.le_of_ble_eq_true rfl) (fun C _ _ hC hH hB hR => wL_discount hC hH n S a0 x1 x2 a3 hTa0 hTa3 hf hB hR)
-- L_budget
theorem dL_budget_0 : decode cL_budget 0 = .ok (.aload_n 2, 1) := by decide +kernel
theorem dL_budget_1 : decode cL_budget 1 = .ok (.iconst 0, 1) := by decide +kernel
theorem dL_budget_2 : decode cL_budget 2 = .ok (.aload_n 0, 1) := by decide +kernel
theorem dL_budget_3 : decode cL_budget 3 = .ok (.iload_n 1, 1) := by decide +kernel
theorem dL_budget_4 : decode cL_budget 4 = .ok (.invokevirtual 79, 3) := by decide +kernel
theorem dL_budget_7 : decode cL_budget 7 = .ok (.i2l, 1) := by decide +kernel
theorem dL_budget_8 : decode cL_budget 8 = .ok (.lastore, 1) := by decide +kernel
theorem dL_budget_9 : decode cL_budget 9 = .ok (.goto 6, 3) := by decide +kernel
theorem dL_budget_12 : decode cL_budget 12 = .ok (.astore_n 3, 1) := by decide +kernel
theorem dL_budget_13 : decode cL_budget 13 = .ok (.iconst 1, 1) := by decide +kernel
theorem dL_budget_14 : decode cL_budget 14 = .ok (.ireturn, 1) := by decide +kernel
theorem dL_budget_15 : decode cL_budget 15 = .ok (.iconst 0, 1) := by decide +kernel
theorem dL_budget_16 : decode cL_budget 16 = .ok (.ireturn, 1) := by decide +kernel
def hL_budget : List (Nat × Nat × Nat × Nat) := [(0, 9, 12, 13)]
def fL_budget (Y : XS) (n : Nat) (S : PS) (a0 : Nat) (x1 : Int32) (a2 : Nat) : Option (Int32 × XS × PS) := kc (fX10_budget Y n S a0 x1) (fun r => ks r (fun q => kwl Y q.2 a2 0 (Int32.toInt64 q.1) (fun S2 => some ((0 : Int32), Y, S2))) (fun e => if e.1 = 2 then some ((1 : Int32), Y, e.2) else none))
theorem wL_budget {C : CT} {ρ : Nat → Nat} {Y : XS} (hC : CK C RL cL_budget 4 (some .int) 8) (hH : HT C hL_budget) (n : Nat) (S : PS) (a0 : Nat) (x1 : Int32) (a2 : Nat) (hTa0 : Ty Y a0 10) (hTa2 : Ty Y a2 15) {o : Int32 × XS × PS} (hf : fL_budget Y n S a0 x1 a2 = some o) (hB : XB C (ρ, Y, 0, 0) 8 48) (hR : RtA C ρ Y cL_budget (some .int) 8 48 (fun _ => some (.int o.1)) o.2.2 o.2.1) : UW C (ρ, Y, 0, 0) S 0 [(0, .ref (ρ a0)), (1, .int x1), (2, .ref (ρ a2))] [] := by
  unfold fL_budget at hf
  refine u_aload_n hC dL_budget_0 2 rfl rfl ?_
  refine u_iconst (v := (0 : Int32)) hC dL_budget_1 (by decide) ?_
  refine u_aload_n hC dL_budget_2 0 rfl rfl ?_
  refine u_iload_n hC dL_budget_3 1 rfl rfl ?_
  obtain ⟨r, hr, hf⟩ := kc_some hf
  refine u_callVY (X := (ρ, Y, 0, 0)) (a := a0) (rest := [.int 0, .ref (ρ a2)]) hC (ctX10_budget (cL C) hC.tr (cG C) ρ Y n S a0 x1 hTa0 hr).toMy hB lk_L_79 rfl hTa0 (by decide) rfl (by decide) (by decide) rfl rfl (Nat.le_of_ble_eq_true rfl) dL_budget_4 (fun ρ1 v' S' hAG he => ?_) (fun k' S' he => ?_)
  · rcases r with q | e
    · have he : (Sum.inl (some (.int q.1), q.2) : MR) = .inl (v', S') := he
      obtain ⟨hv9, hS9⟩ : some (Value.int q.1) = v' ∧ q.2 = S' := by cases he; exact ⟨rfl, rfl⟩
      subst hv9
      subst hS9
      have hf := ks_l hf
      replace hAG : AG ρ Y ρ1 Y := hAG
      have hTo := (hAG a2 _ hTa2).2
      show UW C (ρ1, Y, 0 + 8, 0 + 48) q.2 _ _ [.int q.1, .int 0, .ref (ρ a2)]
      rw [← (hAG a2 _ hTa2).1]
      refine u_sub (lv' := []) [] rfl ?_
      refine u_i2l hC dL_budget_7 ?_
      refine u_wl (X := (ρ1, Y, 0 + 8, 0 + 48)) (a := a2) hC hTo dL_budget_8 hf (fun S2 hf => ?_)
      refine u_goto (tgt := 15) hC dL_budget_9 (by decide) ?_
      refine u_iconst (v := (0 : Int32)) hC dL_budget_15 (by decide) ?_
      cases hf
      exact hR _ hAG _ _ (Nat.le_of_ble_eq_true rfl) (Nat.le_of_ble_eq_true rfl) _ _ dL_budget_16 trivial
    · have he : (Sum.inr e : MR) = .inl (v', S') := he
      cases he
  · rcases r with q | e
    · have he : (Sum.inl (some (.int q.1), q.2) : MR) = .inr (k', S') := he
      cases he
    · have he : (Sum.inr e : MR) = .inr (k', S') := he
      have hf := ks_r hf
      cases he
      by_cases hk0 : k' = 2
      · subst hk0
        rw [if_pos rfl] at hf
        cases hf
        refine u_catch (own := RL) (hh := hL_budget) hC hH [] (0, 9, 12, 13) [] rfl (fun z h => nomatch h) (by decide) (by decide) (tb_3 17 rfl rfl) (nt_3 24 rfl rfl) (fun q => ?_)
        show UW C (ρ, Y, 0 + 8, 0 + 48) _ _ _ _
        refine u_astore_n (lv' := [(3, .ref q)]) hC dL_budget_12 rfl (by decide) rfl ?_
        refine u_iconst (v := (1 : Int32)) hC dL_budget_13 (by decide) ?_
        exact hR _ (AG.refl ρ Y) _ _ (Nat.le_of_ble_eq_true rfl) (Nat.le_of_ble_eq_true rfl) _ _ dL_budget_14 trivial
      rw [if_neg hk0] at hf
      cases hf
theorem ctL_budget (l : Launch) (hl : l.stackTraces = false) (G : GT) (ρ : Nat → Nat) (Y : XS) (n : Nat) (S : PS) (a0 : Nat) (x1 : Int32) (a2 : Nat) (hTa0 : Ty Y a0 10) (hTa2 : Ty Y a2 15) {o : Int32 × XS × PS} (hf : fL_budget Y n S a0 x1 a2 = some o) : Mw l G yL_budget cL_budget 4 hL_budget 8 8 48 ρ Y [.ref (ρ a0), .int x1, .ref (ρ a2)] S o.1 o.2.2 o.2.1 :=
  Mw_of hl (by decide) (Nat.le_of_ble_eq_true rfl) (fun C _ _ hC hH hB hR => wL_budget hC hH n S a0 x1 a2 hTa0 hTa2 hf hB hR)
-- L_cost
theorem dL_cost_0 : decode cL_cost 0 = .ok (.aload_n 3, 1) := by decide +kernel
theorem dL_cost_1 : decode cL_cost 1 = .ok (.iconst 0, 1) := by decide +kernel
theorem dL_cost_2 : decode cL_cost 2 = .ok (.aload_n 0, 1) := by decide +kernel
theorem dL_cost_3 : decode cL_cost 3 = .ok (.iload_n 1, 1) := by decide +kernel
theorem dL_cost_4 : decode cL_cost 4 = .ok (.iload_n 2, 1) := by decide +kernel
theorem dL_cost_5 : decode cL_cost 5 = .ok (.invokevirtual 82, 3) := by decide +kernel
theorem dL_cost_8 : decode cL_cost 8 = .ok (.i2l, 1) := by decide +kernel
theorem dL_cost_9 : decode cL_cost 9 = .ok (.lastore, 1) := by decide +kernel
theorem dL_cost_10 : decode cL_cost 10 = .ok (.goto 11, 3) := by decide +kernel
theorem dL_cost_13 : decode cL_cost 13 = .ok (.astore 4, 2) := by decide +kernel
theorem dL_cost_15 : decode cL_cost 15 = .ok (.iconst 1, 1) := by decide +kernel
theorem dL_cost_16 : decode cL_cost 16 = .ok (.ireturn, 1) := by decide +kernel
theorem dL_cost_17 : decode cL_cost 17 = .ok (.astore 4, 2) := by decide +kernel
theorem dL_cost_19 : decode cL_cost 19 = .ok (.iconst 2, 1) := by decide +kernel
theorem dL_cost_20 : decode cL_cost 20 = .ok (.ireturn, 1) := by decide +kernel
theorem dL_cost_21 : decode cL_cost 21 = .ok (.iconst 0, 1) := by decide +kernel
theorem dL_cost_22 : decode cL_cost 22 = .ok (.ireturn, 1) := by decide +kernel
def hL_cost : List (Nat × Nat × Nat × Nat) := [(0, 10, 13, 18), (0, 10, 17, 13)]
def fL_cost (Y : XS) (n : Nat) (S : PS) (a0 : Nat) (x1 : Int32) (x2 : Int32) (a3 : Nat) : Option (Int32 × XS × PS) := kc (fX10_cost Y n S a0 x1 x2) (fun r => ks r (fun q => kwl Y q.2 a3 0 (Int32.toInt64 q.1) (fun S2 => some ((0 : Int32), Y, S2))) (fun e => if e.1 = 1 then some ((1 : Int32), Y, e.2) else if e.1 = 2 then some ((2 : Int32), Y, e.2) else none))
theorem wL_cost {C : CT} {ρ : Nat → Nat} {Y : XS} (hC : CK C RL cL_cost 5 (some .int) 8) (hH : HT C hL_cost) (n : Nat) (S : PS) (a0 : Nat) (x1 : Int32) (x2 : Int32) (a3 : Nat) (hTa0 : Ty Y a0 10) (hTa3 : Ty Y a3 15) {o : Int32 × XS × PS} (hf : fL_cost Y n S a0 x1 x2 a3 = some o) (hB : XB C (ρ, Y, 0, 0) 8 48) (hR : RtA C ρ Y cL_cost (some .int) 8 48 (fun _ => some (.int o.1)) o.2.2 o.2.1) : UW C (ρ, Y, 0, 0) S 0 [(0, .ref (ρ a0)), (1, .int x1), (2, .int x2), (3, .ref (ρ a3))] [] := by
  unfold fL_cost at hf
  refine u_aload_n hC dL_cost_0 3 rfl rfl ?_
  refine u_iconst (v := (0 : Int32)) hC dL_cost_1 (by decide) ?_
  refine u_aload_n hC dL_cost_2 0 rfl rfl ?_
  refine u_iload_n hC dL_cost_3 1 rfl rfl ?_
  refine u_iload_n hC dL_cost_4 2 rfl rfl ?_
  obtain ⟨r, hr, hf⟩ := kc_some hf
  refine u_callVY (X := (ρ, Y, 0, 0)) (a := a0) (rest := [.int 0, .ref (ρ a3)]) hC (ctX10_cost (cL C) hC.tr (cG C) ρ Y n S a0 x1 x2 hTa0 hr).toMy hB lk_L_82 rfl hTa0 (by decide) rfl (by decide) (by decide) rfl rfl (Nat.le_of_ble_eq_true rfl) dL_cost_5 (fun ρ1 v' S' hAG he => ?_) (fun k' S' he => ?_)
  · rcases r with q | e
    · have he : (Sum.inl (some (.int q.1), q.2) : MR) = .inl (v', S') := he
      obtain ⟨hv9, hS9⟩ : some (Value.int q.1) = v' ∧ q.2 = S' := by cases he; exact ⟨rfl, rfl⟩
      subst hv9
      subst hS9
      have hf := ks_l hf
      replace hAG : AG ρ Y ρ1 Y := hAG
      have hTo := (hAG a3 _ hTa3).2
      show UW C (ρ1, Y, 0 + 8, 0 + 48) q.2 _ _ [.int q.1, .int 0, .ref (ρ a3)]
      rw [← (hAG a3 _ hTa3).1]
      refine u_sub (lv' := []) [] rfl ?_
      refine u_i2l hC dL_cost_8 ?_
      refine u_wl (X := (ρ1, Y, 0 + 8, 0 + 48)) (a := a3) hC hTo dL_cost_9 hf (fun S2 hf => ?_)
      refine u_goto (tgt := 21) hC dL_cost_10 (by decide) ?_
      refine u_iconst (v := (0 : Int32)) hC dL_cost_21 (by decide) ?_
      cases hf
      exact hR _ hAG _ _ (Nat.le_of_ble_eq_true rfl) (Nat.le_of_ble_eq_true rfl) _ _ dL_cost_22 trivial
    · have he : (Sum.inr e : MR) = .inl (v', S') := he
      cases he
  · rcases r with q | e
    · have he : (Sum.inl (some (.int q.1), q.2) : MR) = .inr (k', S') := he
      cases he
    · have he : (Sum.inr e : MR) = .inr (k', S') := he
      have hf := ks_r hf
      cases he
      by_cases hk0 : k' = 1
      · subst hk0
        rw [if_pos rfl] at hf
        cases hf
        refine u_catch (own := RL) (hh := hL_cost) hC hH [] (0, 10, 13, 18) [(0, 10, 17, 13)] rfl (fun z h => nomatch h) (by decide) (by decide) (tb_4 53 rfl rfl) (nt_4 63 rfl rfl) (fun q => ?_)
        show UW C (ρ, Y, 0 + 8, 0 + 48) _ _ _ _
        refine u_astore (lv' := [(4, .ref q)]) hC dL_cost_13 (by decide) rfl ?_
        refine u_iconst (v := (1 : Int32)) hC dL_cost_15 (by decide) ?_
        exact hR _ (AG.refl ρ Y) _ _ (Nat.le_of_ble_eq_true rfl) (Nat.le_of_ble_eq_true rfl) _ _ dL_cost_16 trivial
      by_cases hk1 : k' = 2
      · subst hk1
        rw [if_neg (show ¬ (2 : Nat) = 1 by decide), if_pos rfl] at hf
        cases hf
        refine u_catch (own := RL) (hh := hL_cost) hC hH [(0, 10, 13, 18)] (0, 10, 17, 13) [] rfl (fun z h => by cases List.mem_singleton.mp h; exact ⟨by decide, rfl, (tb_4 53 rfl rfl)⟩) (by decide) (by decide) (tb_3 17 rfl rfl) (nt_3 24 rfl rfl) (fun q => ?_)
        show UW C (ρ, Y, 0 + 8, 0 + 48) _ _ _ _
        refine u_astore (lv' := [(4, .ref q)]) hC dL_cost_17 (by decide) rfl ?_
        refine u_iconst (v := (2 : Int32)) hC dL_cost_19 (by decide) ?_
        exact hR _ (AG.refl ρ Y) _ _ (Nat.le_of_ble_eq_true rfl) (Nat.le_of_ble_eq_true rfl) _ _ dL_cost_20 trivial
      rw [if_neg hk0, if_neg hk1] at hf
      cases hf
theorem ctL_cost (l : Launch) (hl : l.stackTraces = false) (G : GT) (ρ : Nat → Nat) (Y : XS) (n : Nat) (S : PS) (a0 : Nat) (x1 : Int32) (x2 : Int32) (a3 : Nat) (hTa0 : Ty Y a0 10) (hTa3 : Ty Y a3 15) {o : Int32 × XS × PS} (hf : fL_cost Y n S a0 x1 x2 a3 = some o) : Mw l G yL_cost cL_cost 5 hL_cost 8 8 48 ρ Y [.ref (ρ a0), .int x1, .int x2, .ref (ρ a3)] S o.1 o.2.2 o.2.1 :=
  Mw_of hl (by decide) (Nat.le_of_ble_eq_true rfl) (fun C _ _ hC hH hB hR => wL_cost hC hH n S a0 x1 x2 a3 hTa0 hTa3 hf hB hR)
-- L_score
theorem dL_score_0 : decode cL_score 0 = .ok (.aload 4, 2) := by decide +kernel
theorem dL_score_2 : decode cL_score 2 = .ok (.iconst 0, 1) := by decide +kernel
theorem dL_score_3 : decode cL_score 3 = .ok (.aload_n 0, 1) := by decide +kernel
theorem dL_score_4 : decode cL_score 4 = .ok (.iload_n 1, 1) := by decide +kernel
theorem dL_score_5 : decode cL_score 5 = .ok (.iload_n 2, 1) := by decide +kernel
theorem dL_score_6 : decode cL_score 6 = .ok (.iload_n 3, 1) := by decide +kernel
theorem dL_score_7 : decode cL_score 7 = .ok (.invokevirtual 85, 3) := by decide +kernel
theorem dL_score_10 : decode cL_score 10 = .ok (.i2l, 1) := by decide +kernel
theorem dL_score_11 : decode cL_score 11 = .ok (.lastore, 1) := by decide +kernel
theorem dL_score_12 : decode cL_score 12 = .ok (.goto 11, 3) := by decide +kernel
theorem dL_score_15 : decode cL_score 15 = .ok (.astore 5, 2) := by decide +kernel
theorem dL_score_17 : decode cL_score 17 = .ok (.iconst 1, 1) := by decide +kernel
theorem dL_score_18 : decode cL_score 18 = .ok (.ireturn, 1) := by decide +kernel
theorem dL_score_19 : decode cL_score 19 = .ok (.astore 5, 2) := by decide +kernel
theorem dL_score_21 : decode cL_score 21 = .ok (.iconst 2, 1) := by decide +kernel
theorem dL_score_22 : decode cL_score 22 = .ok (.ireturn, 1) := by decide +kernel
theorem dL_score_23 : decode cL_score 23 = .ok (.iconst 0, 1) := by decide +kernel
theorem dL_score_24 : decode cL_score 24 = .ok (.ireturn, 1) := by decide +kernel
def hL_score : List (Nat × Nat × Nat × Nat) := [(0, 12, 15, 18), (0, 12, 19, 13)]
def fL_score (Y : XS) (n : Nat) (S : PS) (a0 : Nat) (x1 : Int32) (x2 : Int32) (x3 : Int32) (a4 : Nat) : Option (Int32 × XS × PS) := kc (fX10_score Y n S a0 x1 x2 x3) (fun r => ks r (fun q => kwl Y q.2 a4 0 (Int32.toInt64 q.1) (fun S2 => some ((0 : Int32), Y, S2))) (fun e => if e.1 = 1 then some ((1 : Int32), Y, e.2) else if e.1 = 2 then some ((2 : Int32), Y, e.2) else none))
theorem wL_score {C : CT} {ρ : Nat → Nat} {Y : XS} (hC : CK C RL cL_score 6 (some .int) 8) (hH : HT C hL_score) (n : Nat) (S : PS) (a0 : Nat) (x1 : Int32) (x2 : Int32) (x3 : Int32) (a4 : Nat) (hTa0 : Ty Y a0 10) (hTa4 : Ty Y a4 15) {o : Int32 × XS × PS} (hf : fL_score Y n S a0 x1 x2 x3 a4 = some o) (hB : XB C (ρ, Y, 0, 0) 8 48) (hR : RtA C ρ Y cL_score (some .int) 8 48 (fun _ => some (.int o.1)) o.2.2 o.2.1) : UW C (ρ, Y, 0, 0) S 0 [(0, .ref (ρ a0)), (1, .int x1), (2, .int x2), (3, .int x3), (4, .ref (ρ a4))] [] := by
  unfold fL_score at hf
  refine u_aload hC dL_score_0 4 rfl ?_
  refine u_iconst (v := (0 : Int32)) hC dL_score_2 (by decide) ?_
  refine u_aload_n hC dL_score_3 0 rfl rfl ?_
  refine u_iload_n hC dL_score_4 1 rfl rfl ?_
  refine u_iload_n hC dL_score_5 2 rfl rfl ?_
  refine u_iload_n hC dL_score_6 3 rfl rfl ?_
  obtain ⟨r, hr, hf⟩ := kc_some hf
  refine u_callVY (X := (ρ, Y, 0, 0)) (a := a0) (rest := [.int 0, .ref (ρ a4)]) hC (ctX10_score (cL C) hC.tr (cG C) ρ Y n S a0 x1 x2 x3 hTa0 hr).toMy hB lk_L_85 rfl hTa0 (by decide) rfl (by decide) (by decide) rfl rfl (Nat.le_of_ble_eq_true rfl) dL_score_7 (fun ρ1 v' S' hAG he => ?_) (fun k' S' he => ?_)
  · rcases r with q | e
    · have he : (Sum.inl (some (.int q.1), q.2) : MR) = .inl (v', S') := he
      obtain ⟨hv9, hS9⟩ : some (Value.int q.1) = v' ∧ q.2 = S' := by cases he; exact ⟨rfl, rfl⟩
      subst hv9
      subst hS9
      have hf := ks_l hf
      replace hAG : AG ρ Y ρ1 Y := hAG
      have hTo := (hAG a4 _ hTa4).2
      show UW C (ρ1, Y, 0 + 8, 0 + 48) q.2 _ _ [.int q.1, .int 0, .ref (ρ a4)]
      rw [← (hAG a4 _ hTa4).1]
      refine u_sub (lv' := []) [] rfl ?_
      refine u_i2l hC dL_score_10 ?_
      refine u_wl (X := (ρ1, Y, 0 + 8, 0 + 48)) (a := a4) hC hTo dL_score_11 hf (fun S2 hf => ?_)
      refine u_goto (tgt := 23) hC dL_score_12 (by decide) ?_
      refine u_iconst (v := (0 : Int32)) hC dL_score_23 (by decide) ?_
      cases hf
      exact hR _ hAG _ _ (Nat.le_of_ble_eq_true rfl) (Nat.le_of_ble_eq_true rfl) _ _ dL_score_24 trivial
    · have he : (Sum.inr e : MR) = .inl (v', S') := he
      cases he
  · rcases r with q | e
    · have he : (Sum.inl (some (.int q.1), q.2) : MR) = .inr (k', S') := he
      cases he
    · have he : (Sum.inr e : MR) = .inr (k', S') := he
      have hf := ks_r hf
      cases he
      by_cases hk0 : k' = 1
      · subst hk0
        rw [if_pos rfl] at hf
        cases hf
        refine u_catch (own := RL) (hh := hL_score) hC hH [] (0, 12, 15, 18) [(0, 12, 19, 13)] rfl (fun z h => nomatch h) (by decide) (by decide) (tb_4 53 rfl rfl) (nt_4 63 rfl rfl) (fun q => ?_)
        show UW C (ρ, Y, 0 + 8, 0 + 48) _ _ _ _
        refine u_astore (lv' := [(5, .ref q)]) hC dL_score_15 (by decide) rfl ?_
        refine u_iconst (v := (1 : Int32)) hC dL_score_17 (by decide) ?_
        exact hR _ (AG.refl ρ Y) _ _ (Nat.le_of_ble_eq_true rfl) (Nat.le_of_ble_eq_true rfl) _ _ dL_score_18 trivial
      by_cases hk1 : k' = 2
      · subst hk1
        rw [if_neg (show ¬ (2 : Nat) = 1 by decide), if_pos rfl] at hf
        cases hf
        refine u_catch (own := RL) (hh := hL_score) hC hH [(0, 12, 15, 18)] (0, 12, 19, 13) [] rfl (fun z h => by cases List.mem_singleton.mp h; exact ⟨by decide, rfl, (tb_4 53 rfl rfl)⟩) (by decide) (by decide) (tb_3 17 rfl rfl) (nt_3 24 rfl rfl) (fun q => ?_)
        show UW C (ρ, Y, 0 + 8, 0 + 48) _ _ _ _
        refine u_astore (lv' := [(5, .ref q)]) hC dL_score_19 (by decide) rfl ?_
        refine u_iconst (v := (2 : Int32)) hC dL_score_21 (by decide) ?_
        exact hR _ (AG.refl ρ Y) _ _ (Nat.le_of_ble_eq_true rfl) (Nat.le_of_ble_eq_true rfl) _ _ dL_score_22 trivial
      rw [if_neg hk0, if_neg hk1] at hf
      cases hf
theorem ctL_score (l : Launch) (hl : l.stackTraces = false) (G : GT) (ρ : Nat → Nat) (Y : XS) (n : Nat) (S : PS) (a0 : Nat) (x1 : Int32) (x2 : Int32) (x3 : Int32) (a4 : Nat) (hTa0 : Ty Y a0 10) (hTa4 : Ty Y a4 15) {o : Int32 × XS × PS} (hf : fL_score Y n S a0 x1 x2 x3 a4 = some o) : Mw l G yL_score cL_score 6 hL_score 8 8 48 ρ Y [.ref (ρ a0), .int x1, .int x2, .int x3, .ref (ρ a4)] S o.1 o.2.2 o.2.1 :=
  Mw_of hl (by decide) (Nat.le_of_ble_eq_true rfl) (fun C _ _ hC hH hB hR => wL_score hC hH n S a0 x1 x2 x3 a4 hTa0 hTa4 hf hB hR)
-- L_go
theorem dL_go_0 : decode cL_go 0 = .ok (.aload_n 3, 1) := by decide +kernel
theorem dL_go_1 : decode cL_go 1 = .ok (.iconst 0, 1) := by decide +kernel
theorem dL_go_2 : decode cL_go 2 = .ok (.aload_n 0, 1) := by decide +kernel
theorem dL_go_3 : decode cL_go 3 = .ok (.iload_n 1, 1) := by decide +kernel
theorem dL_go_4 : decode cL_go 4 = .ok (.iload_n 2, 1) := by decide +kernel
theorem dL_go_5 : decode cL_go 5 = .ok (.invokevirtual 88, 3) := by decide +kernel
theorem dL_go_8 : decode cL_go 8 = .ok (.i2l, 1) := by decide +kernel
theorem dL_go_9 : decode cL_go 9 = .ok (.lastore, 1) := by decide +kernel
theorem dL_go_10 : decode cL_go 10 = .ok (.goto 7, 3) := by decide +kernel
theorem dL_go_13 : decode cL_go 13 = .ok (.astore 4, 2) := by decide +kernel
theorem dL_go_15 : decode cL_go 15 = .ok (.iconst 1, 1) := by decide +kernel
theorem dL_go_16 : decode cL_go 16 = .ok (.ireturn, 1) := by decide +kernel
theorem dL_go_17 : decode cL_go 17 = .ok (.iconst 0, 1) := by decide +kernel
theorem dL_go_18 : decode cL_go 18 = .ok (.ireturn, 1) := by decide +kernel
def hL_go : List (Nat × Nat × Nat × Nat) := [(0, 10, 13, 18)]
def fL_go (Y : XS) (n : Nat) (S : PS) (a0 : Nat) (x1 : Int32) (x2 : Int32) (a3 : Nat) : Option (Int32 × XS × PS) := kc (fX10_go Y n S a0 x1 x2) (fun r => ks r (fun q => kwl Y q.2 a3 0 (Int32.toInt64 q.1) (fun S2 => some ((0 : Int32), Y, S2))) (fun e => if e.1 = 1 then some ((1 : Int32), Y, e.2) else none))
theorem wL_go {C : CT} {ρ : Nat → Nat} {Y : XS} (hC : CK C RL cL_go 5 (some .int) 8) (hH : HT C hL_go) (n : Nat) (S : PS) (a0 : Nat) (x1 : Int32) (x2 : Int32) (a3 : Nat) (hTa0 : Ty Y a0 10) (hTa3 : Ty Y a3 15) {o : Int32 × XS × PS} (hf : fL_go Y n S a0 x1 x2 a3 = some o) (hB : XB C (ρ, Y, 0, 0) 8 48) (hR : RtA C ρ Y cL_go (some .int) 8 48 (fun _ => some (.int o.1)) o.2.2 o.2.1) : UW C (ρ, Y, 0, 0) S 0 [(0, .ref (ρ a0)), (1, .int x1), (2, .int x2), (3, .ref (ρ a3))] [] := by
  unfold fL_go at hf
  refine u_aload_n hC dL_go_0 3 rfl rfl ?_
  refine u_iconst (v := (0 : Int32)) hC dL_go_1 (by decide) ?_
  refine u_aload_n hC dL_go_2 0 rfl rfl ?_
  refine u_iload_n hC dL_go_3 1 rfl rfl ?_
  refine u_iload_n hC dL_go_4 2 rfl rfl ?_
  obtain ⟨r, hr, hf⟩ := kc_some hf
  refine u_callVY (X := (ρ, Y, 0, 0)) (a := a0) (rest := [.int 0, .ref (ρ a3)]) hC (ctX10_go (cL C) hC.tr (cG C) ρ Y n S a0 x1 x2 hTa0 hr).toMy hB lk_L_88 rfl hTa0 (by decide) rfl (by decide) (by decide) rfl rfl (Nat.le_of_ble_eq_true rfl) dL_go_5 (fun ρ1 v' S' hAG he => ?_) (fun k' S' he => ?_)
  · rcases r with q | e
    · have he : (Sum.inl (some (.int q.1), q.2) : MR) = .inl (v', S') := he
      obtain ⟨hv9, hS9⟩ : some (Value.int q.1) = v' ∧ q.2 = S' := by cases he; exact ⟨rfl, rfl⟩
      subst hv9
      subst hS9
      have hf := ks_l hf
      replace hAG : AG ρ Y ρ1 Y := hAG
      have hTo := (hAG a3 _ hTa3).2
      show UW C (ρ1, Y, 0 + 8, 0 + 48) q.2 _ _ [.int q.1, .int 0, .ref (ρ a3)]
      rw [← (hAG a3 _ hTa3).1]
      refine u_sub (lv' := []) [] rfl ?_
      refine u_i2l hC dL_go_8 ?_
      refine u_wl (X := (ρ1, Y, 0 + 8, 0 + 48)) (a := a3) hC hTo dL_go_9 hf (fun S2 hf => ?_)
      refine u_goto (tgt := 17) hC dL_go_10 (by decide) ?_
      refine u_iconst (v := (0 : Int32)) hC dL_go_17 (by decide) ?_
      cases hf
      exact hR _ hAG _ _ (Nat.le_of_ble_eq_true rfl) (Nat.le_of_ble_eq_true rfl) _ _ dL_go_18 trivial
    · have he : (Sum.inr e : MR) = .inl (v', S') := he
      cases he
  · rcases r with q | e
    · have he : (Sum.inl (some (.int q.1), q.2) : MR) = .inr (k', S') := he
      cases he
    · have he : (Sum.inr e : MR) = .inr (k', S') := he
      have hf := ks_r hf
      cases he
      by_cases hk0 : k' = 1
      · subst hk0
        rw [if_pos rfl] at hf
        cases hf
        refine u_catch (own := RL) (hh := hL_go) hC hH [] (0, 10, 13, 18) [] rfl (fun z h => nomatch h) (by decide) (by decide) (tb_4 53 rfl rfl) (nt_4 63 rfl rfl) (fun q => ?_)
        show UW C (ρ, Y, 0 + 8, 0 + 48) _ _ _ _
        refine u_astore (lv' := [(4, .ref q)]) hC dL_go_13 (by decide) rfl ?_
        refine u_iconst (v := (1 : Int32)) hC dL_go_15 (by decide) ?_
        exact hR _ (AG.refl ρ Y) _ _ (Nat.le_of_ble_eq_true rfl) (Nat.le_of_ble_eq_true rfl) _ _ dL_go_16 trivial
      rw [if_neg hk0] at hf
      cases hf
theorem ctL_go (l : Launch) (hl : l.stackTraces = false) (G : GT) (ρ : Nat → Nat) (Y : XS) (n : Nat) (S : PS) (a0 : Nat) (x1 : Int32) (x2 : Int32) (a3 : Nat) (hTa0 : Ty Y a0 10) (hTa3 : Ty Y a3 15) {o : Int32 × XS × PS} (hf : fL_go Y n S a0 x1 x2 a3 = some o) : Mw l G yL_go cL_go 5 hL_go 8 8 48 ρ Y [.ref (ρ a0), .int x1, .int x2, .ref (ρ a3)] S o.1 o.2.2 o.2.1 :=
  Mw_of hl (by decide) (Nat.le_of_ble_eq_true rfl) (fun C _ _ hC hH hB hR => wL_go hC hH n S a0 x1 x2 a3 hTa0 hTa3 hf hB hR)
