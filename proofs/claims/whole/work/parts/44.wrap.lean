/-! methods that return or throw and make cells; the law's wrappers -/
def My (l : Launch) (G : GT) (y : MethodName) (cc : ByteArray) (maxL : Nat) (ret : Option FieldType) (d mc ms : Nat) (ρ : Nat → Nat) (Y : XS) (As : List Value) (S : PS) (r : MR) (Y' : XS) : Prop :=
  ∀ sz : Nat, vx_Met l y (.code y cc maxL ret :: Tb) (rmd d mc ms) (va_Pc As (fun U => U.heap.size = sz ∧ Wd G ρ Y S U)) (fun _ st oc t => ∃ ρ' v S', AG ρ Y ρ' Y' ∧ (∀ a, a < nX Y' → ¬ a < nX Y → sz ≤ ρ' a) ∧ r = .inl (v, S') ∧ oc = .returned v ∧ Wd G ρ' Y' S' t ∧ va_F (aA ρ (nX Y) sz) st t) (fun E st t => ∃ c S', r = .inr (c, S') ∧ E = exN c ∧ (Wc G ρ Y S' t.heap ∧ WT Y S') ∧ va_F (aA ρ (nX Y) sz) st t) mc ms (aA ρ (nX Y) sz)
theorem vx_mono {l : Launch} {y : MethodName} {ws : List Cond} {rm : Room} {Pc : Array Value → State → Prop} {Qc Qd : Array Value → State → Outcome → State → Prop} {XC : String → State → State → Prop} {mc ms : Nat} {free : Addr → Prop} (hq : ∀ a s o t, Qc a s o t → Qd a s o t) (h : vx_Met l y ws rm Pc Qc XC mc ms free) : vx_Met l y ws rm Pc Qd XC mc ms free := by
  intro p e ha hc hk s m args below hf happ hP hT
  obtain ⟨k, o, h1, h2, h3, hQ⟩ := h p e ha hc hk s m args below hf happ hP hT
  refine ⟨k, o, h1, h2, h3, ?_⟩
  rcases hQ with ⟨hQ, hL⟩ | hQ
  · exact Or.inl ⟨hq _ _ _ _ hQ, hL⟩
  · exact Or.inr hQ
theorem Mx.toMy {l : Launch} {G : GT} {y : MethodName} {cc : ByteArray} {maxL : Nat} {ret : Option FieldType} {d mc ms : Nat} {ρ : Nat → Nat} {Y : XS} {As : List Value} {S : PS} {r : MR} (h : Mx l G y cc maxL ret d mc ms ρ Y As S r) : My l G y cc maxL ret d mc ms ρ Y As S r Y :=
  fun sz => vx_mono (fun _ _ _ _ ⟨v, S', h1, h2, h3, h4⟩ => ⟨ρ, v, S', AG.refl ρ Y, fun _ h k => absurd h k, h1, h2, h3, h4⟩) (h sz)
def RtY (C : CT) (ρ : Nat → Nat) (Y : XS) (cc : ByteArray) (ret : Option FieldType) (mc ms : Nat) (r : MR) (Y' : XS) : Prop := ∀ v S', r = .inl (v, S') → ∀ ρ' : Nat → Nat, AG ρ Y ρ' Y' → ∀ k z, k ≤ mc → z ≤ ms → Rt C (ρ', Y', k, z) cc ret v S'
set_option maxHeartbeats 2000000 in
theorem My_of {l : Launch} {G : GT} {y : MethodName} {cc : ByteArray} {maxL : Nat} {ret : Option FieldType} {d mc ms : Nat} {ρ : Nat → Nat} {Y : XS} {As : List Value} {S : PS} {r : MR} {Y' : XS} (hl0 : l.stackTraces = false) (hy : plainName y.cls = true) (hys : y.cls = "SharedPurse") (hd6 : 6 ≤ d) (hlen : (lg_sl As).length ≤ maxL)
    (body : ∀ (C : CT), cL C = l → cG C = G → CK C y.cls cc maxL ret d → XB C (ρ, Y, 0, 0) mc ms → RtY C ρ Y cc ret mc ms r Y' → ThO C ρ Y cc mc ms r → ThP C ρ Y mc ms r → UW C (ρ, Y, 0, 0) S 0 (lv_args 0 As) []) : My l G y cc maxL ret d mc ms ρ Y As S r Y' := by
  intro sz
  refine vx_ofW (cc := cc) (maxL := maxL) (ret := ret) hy rfl ?_
  intro p e s m args below meth c s₁ B hml hnot hv
  obtain ⟨rfl, hsz, hW⟩ := hv
  have hx := B.exec
  have hb := B.bytes
  have hr := B.returns
  have hts := atoms_spec (ws := .code y cc maxL ret :: Tb) B.pre
  have hown : s.vm.findClass y.cls = some m.cls := findClass_of_methodNamed B.named
  have hlocks := B.notSynchronized
  subst hsz
  have hl := lv_entry As (n := maxL) hlen
  rw [lg_entry_eq]
  generalize (lg_sl As ++ List.replicate (maxL - (lg_sl As).length) Slot.unset).toArray = ls at hl ⊢
  generalize hQc : (fun (_ : Array Value) (st : State) (oc : Outcome) (t : State) => ∃ ρ' v S', AG ρ Y ρ' Y' ∧ (∀ a, a < nX Y' → ¬ a < nX Y → s.heap.size ≤ ρ' a) ∧ r = .inl (v, S') ∧ oc = .returned v ∧ Wd G ρ' Y' S' t ∧ va_F (aA ρ (nX Y) s.heap.size) st t) = Qc
  generalize hXC : (fun (E : String) (st t : State) => ∃ c S', r = .inr (c, S') ∧ E = exN c ∧ (Wc G ρ Y S' t.heap ∧ WT Y S') ∧ va_F (aA ρ (nX Y) s.heap.size) st t) = XC
  have hC : CK (p, l, e, rmd d mc ms, s, m, As.toArray, below, meth, c, vx_MQ below Qc XC As.toArray s mc ms (aA ρ (nX Y) s.heap.size), G, aA ρ (nX Y) s.heap.size) y.cls cc maxL ret d := by
    refine ⟨hx, hb, hml, hown, fun w h => hts w (List.mem_cons_of_mem _ h), hW.2.1, fun q h => Or.inr h, ?_, hlocks, hr, Nat.le_refl _, Nat.le_refl _, hl0⟩
    rintro q (⟨a, ha, rfl⟩ | h)
    · exact hW.2.2.2.2.1 a ha
    · exact Nat.le_trans hW.2.2.2.2.2 h
  have hX : XO (p, l, e, rmd d mc ms, s, m, As.toArray, below, meth, c, vx_MQ below Qc XC As.toArray s mc ms (aA ρ (nX Y) s.heap.size), G, aA ρ (nX Y) s.heap.size) (ρ, Y, 0, 0) := ⟨hW.2.2.2.1, fun a ha => Or.inl ⟨a, ha, rfl⟩, hW.2.2.2.2.1, Nat.zero_le _, Nat.zero_le _⟩
  have hK : Kw G s s.heap := hW.2.1
  have hwd : ∀ w ∈ Tb, w.before As.toArray s = true := fun w h => hts w (List.mem_cons_of_mem _ h)
  refine body _ rfl rfl hC ⟨by show 0 + mc ≤ mc; omega, by show 0 + ms ≤ ms; omega⟩ ?_ ?_ ?_ s.heap [] ls hX hW.1 va_S.rf (by rw [hml]; exact hl) hW.2.2.1
  · intro v S' hr' ρ' hag k z hk hz pc lv hdec hok H locs ls hX hP hS hl hT
    refine W.widen hk hz ?_
    refine vx_ret ?_
    have hq : ∀ t : State, t.heap = H → s.WarmedH t.vm → Qc As.toArray s (.returned v) t := fun t ht hWt => by
      rw [← hQc]
      refine ⟨ρ', v, S', hag, fun a ha hna => ?_, hr', rfl, Wd_at (X := (ρ', Y', k, z)) hC hX hP hS hT t ht hWt, hS.F ht⟩
      rcases hX.2.1 a ha with ⟨b, hb2, e1⟩ | h
      · have hb3 := hag b (kd Y b) ⟨hb2, rfl⟩
        have : a = b := hX.1 a b ha hb3.2.1 (by rw [e1, hb3.1])
        omega
      · exact h
    match ret, v, hok, hdec, hr, hq with
    | none, none, _, hdec, hr, hq => exact W.vret hx hb hr hq hS.2.2 hdec
    | some .int, some (.int _), _, hdec, hr, hq => exact W.iret hx hb hr hq hS.2.2 hdec
    | some .boolean, some (.int x), hok, hdec, hr, hq => exact W.zret hx hb hr (by rcases hok with rfl | rfl <;> rfl) hq hS.2.2 hdec
    | some .long, some (.long _), _, hdec, hr, hq => exact W.lret hx hb hr hq hS.2.2 hdec
    | some .char, some (.int x), hok, hdec, hr, hq => exact W.zret hx hb hr hok hq hS.2.2 hdec
    | some .byte, some (.int x), hok, hdec, hr, hq => exact W.zret hx hb hr hok hq hS.2.2 hdec
    | some (.object _), some (.ref _), _, hdec, hr, hq => exact W.aret hx hb hr (Or.inl ⟨_, rfl⟩) (Or.inr ⟨_, rfl⟩) hq hS.2.2 hdec
  · intro ec S' hr' hec k z hk hz pc lv i hth H locs ls hX hP hS hl hT
    obtain ⟨hi, ho, t0, t3, tt⟩ := hth
    obtain ⟨dC, dI, cy, B0, sK, sV⟩ := G
    have hAB : ∀ q, aA ρ (nX Y) s.heap.size q → B0 ≤ q := hC.2.2.2.2.2.2.2.1
    have hstr : vk_R (strO i) (strI i) (strT i) (sK i) s := hK.2.2.1 i hi
    rw [ho] at hstr
    have hU := hK.2.2.2.2.1.1.narrow hAB
    have hN := hK.2.2.2.2.1.2.narrow hAB
    rw [hys] at hown
    have hend : ∀ t : State, s.vm.Alike t.vm → H.size ≤ t.heap.size → (∀ q : Nat, q < H.size → t.heap[q]? = H[q]?) → XC (exN ec) s t := by
      intro t _ hz2 hq2
      rw [← hXC]
      refine ⟨ec, S', hr', rfl, ⟨?_, hT⟩, Nat.le_trans hS.1 hz2, fun q h1 h2 => ?_⟩
      · exact va_P.kept hP (fun k' x hx' => hq2 x.1 ((hP k' x hx').lt))
      · rw [hq2 q (Nat.lt_of_lt_of_le h1 hS.1)]
        exact hS.2.1 q h1 h2
    have hlsz : ls.size = c.maxLocals := hl.1
    have hfr : (["java/lang/Exception"] : List String).length + 4 < (rmd d mc ms).frames := by show 1 + 4 < d; omega
    have hlo : ((([] : List Value).map fun v => v.category).sum + (13 * ((["java/lang/Exception"] : List String).length + 2) + 43) ≤ (rmd d mc ms).locals) := by show 0 + (13 * (1 + 2) + 43) ≤ 128 * d; omega
    have hnest : ∀ w ∈ nestT, va_Nw w s := hK.2.1
    rcases hec with rfl | rfl
    · have hat : ∀ w ∈ (nx_at "SharedPurse" 189 "java/util/NoSuchElementException" 13 prog_31_method_4_code "java/lang/RuntimeException" ["java/lang/Exception"]).filter vx_no, w.before As.toArray s = true := fun w h => be_of hwd hnest (nxw_1 w h)
      have hgood : ∀ w ∈ Cond.classLink "SharedPurse" 185 "java/util/NoSuchElementException" :: Cond.initialized "java/util/NoSuchElementException" :: (nx_at "SharedPurse" 189 "java/util/NoSuchElementException" 13 prog_31_method_4_code "java/lang/RuntimeException" ["java/lang/Exception"]).filter vx_no, vx_ot w = true := by
        intro w h
        rcases List.mem_cons.mp h with rfl | h
        · rfl
        rcases List.mem_cons.mp h with rfl | h
        · rfl
        exact ot_of (nxw_1 w h)
      rcases tt with ⟨t4, t6, t9⟩ | ⟨t4, t7, t10⟩
      · exact nx_throwS (own := "SharedPurse") (cls := "java/util/NoSuchElementException") (i1 := 13) (b1 := prog_31_method_4_code) (sup := "java/lang/RuntimeException") (names := ["java/lang/Exception"]) (ik := 185) (ic := 189) hx hb hl0 hown (by decide +kernel) (by decide +kernel) (by decide +kernel) (by decide +kernel) (by decide +kernel) (by decide +kernel) (by decide +kernel) (hwd _ (tb_4 61 rfl rfl)) (hwd _ (tb_1 24 rfl rfl)) hstr hat hgood hU hN hS hlsz t0 t3 t4 t6 t9 (fun x hx => (hnot x hx).elim) hfr hlo hk hz hlocks hend hS.2.2 hk hz
      · exact nx_throwSW (own := "SharedPurse") (cls := "java/util/NoSuchElementException") (i1 := 13) (b1 := prog_31_method_4_code) (sup := "java/lang/RuntimeException") (names := ["java/lang/Exception"]) (ik := 185) (ic := 189) hx hb hl0 hown (by decide +kernel) (by decide +kernel) (by decide +kernel) (by decide +kernel) (by decide +kernel) (by decide +kernel) (by decide +kernel) (hwd _ (tb_4 61 rfl rfl)) (hwd _ (tb_1 24 rfl rfl)) hstr hat hgood hU hN hS hlsz t0 t3 t4 t7 t10 (fun x hx => (hnot x hx).elim) hfr hlo hk hz hlocks hend hS.2.2 hk hz
    · have hat : ∀ w ∈ (nx_at "SharedPurse" 87 "java/lang/IllegalArgumentException" 7 prog_19_method_2_code "java/lang/RuntimeException" ["java/lang/Exception"]).filter vx_no, w.before As.toArray s = true := fun w h => be_of hwd hnest (nxw_2 w h)
      have hgood : ∀ w ∈ Cond.classLink "SharedPurse" 83 "java/lang/IllegalArgumentException" :: Cond.initialized "java/lang/IllegalArgumentException" :: (nx_at "SharedPurse" 87 "java/lang/IllegalArgumentException" 7 prog_19_method_2_code "java/lang/RuntimeException" ["java/lang/Exception"]).filter vx_no, vx_ot w = true := by
        intro w h
        rcases List.mem_cons.mp h with rfl | h
        · rfl
        rcases List.mem_cons.mp h with rfl | h
        · rfl
        exact ot_of (nxw_2 w h)
      rcases tt with ⟨t4, t6, t9⟩ | ⟨t4, t7, t10⟩
      · exact nx_throwS (own := "SharedPurse") (cls := "java/lang/IllegalArgumentException") (i1 := 7) (b1 := prog_19_method_2_code) (sup := "java/lang/RuntimeException") (names := ["java/lang/Exception"]) (ik := 83) (ic := 87) hx hb hl0 hown (by decide +kernel) (by decide +kernel) (by decide +kernel) (by decide +kernel) (by decide +kernel) (by decide +kernel) (by decide +kernel) (hwd _ (tb_3 22 rfl rfl)) (hwd _ (tb_1 15 rfl rfl)) hstr hat hgood hU hN hS hlsz t0 t3 t4 t6 t9 (fun x hx => (hnot x hx).elim) hfr hlo hk hz hlocks hend hS.2.2 hk hz
      · exact nx_throwSW (own := "SharedPurse") (cls := "java/lang/IllegalArgumentException") (i1 := 7) (b1 := prog_19_method_2_code) (sup := "java/lang/RuntimeException") (names := ["java/lang/Exception"]) (ik := 83) (ic := 87) hx hb hl0 hown (by decide +kernel) (by decide +kernel) (by decide +kernel) (by decide +kernel) (by decide +kernel) (by decide +kernel) (by decide +kernel) (hwd _ (tb_3 22 rfl rfl)) (hwd _ (tb_1 15 rfl rfl)) hstr hat hgood hU hN hS hlsz t0 t3 t4 t7 t10 (fun x hx => (hnot x hx).elim) hfr hlo hk hz hlocks hend hS.2.2 hk hz
  · intro ec S' hr' k z hk hz H locs ls pc rest q ce hX hP hS hT hce hcv hcl hls
    refine vx_out (fun x hx => (hnot x hx).elim) hlocks hce hcv hcl (fun t ht hal => ?_) hS.2.2 hk hz
    rw [← hXC]
    exact ⟨ec, S', hr', rfl, ⟨by rw [ht]; exact hP, hT⟩, hS.F ht⟩

theorem dX10_election_0 : decode cX10_election 0 = .ok (.iload_n 1, 1) := by decide +kernel
theorem dX10_election_1 : decode cX10_election 1 = .ok (.ifCond .lt 14, 3) := by decide +kernel
theorem dX10_election_4 : decode cX10_election 4 = .ok (.iload_n 1, 1) := by decide +kernel
theorem dX10_election_5 : decode cX10_election 5 = .ok (.aload_n 0, 1) := by decide +kernel
theorem dX10_election_6 : decode cX10_election 6 = .ok (.getfield 10, 3) := by decide +kernel
theorem dX10_election_9 : decode cX10_election 9 = .ok (.getfield 76, 3) := by decide +kernel
theorem dX10_election_12 : decode cX10_election 12 = .ok (.if_icmp .le 13, 3) := by decide +kernel
theorem dX10_election_15 : decode cX10_election 15 = .ok (.new 83, 3) := by decide +kernel
theorem dX10_election_18 : decode cX10_election 18 = .ok (.dup, 1) := by decide +kernel
theorem dX10_election_19 : decode cX10_election 19 = .ok (.ldc 85, 2) := by decide +kernel
theorem dX10_election_21 : decode cX10_election 21 = .ok (.invokespecial 87, 3) := by decide +kernel
theorem dX10_election_24 : decode cX10_election 24 = .ok (.athrow, 1) := by decide +kernel
theorem dX10_election_25 : decode cX10_election 25 = .ok (.aload_n 0, 1) := by decide +kernel
theorem dX10_election_26 : decode cX10_election 26 = .ok (.getfield 10, 3) := by decide +kernel
theorem dX10_election_29 : decode cX10_election 29 = .ok (.iload_n 1, 1) := by decide +kernel
theorem dX10_election_30 : decode cX10_election 30 = .ok (.invokevirtual 90, 3) := by decide +kernel
theorem dX10_election_33 : decode cX10_election 33 = .ok (.istore_n 2, 1) := by decide +kernel
theorem dX10_election_34 : decode cX10_election 34 = .ok (.iload_n 2, 1) := by decide +kernel
theorem dX10_election_35 : decode cX10_election 35 = .ok (.ifCond .eq 19, 3) := by decide +kernel
theorem dX10_election_38 : decode cX10_election 38 = .ok (.aload_n 0, 1) := by decide +kernel
theorem dX10_election_39 : decode cX10_election 39 = .ok (.aload_n 0, 1) := by decide +kernel
theorem dX10_election_40 : decode cX10_election 40 = .ok (.getfield 10, 3) := by decide +kernel
theorem dX10_election_43 : decode cX10_election 43 = .ok (.getfield 94, 3) := by decide +kernel
theorem dX10_election_46 : decode cX10_election 46 = .ok (.putfield 16, 3) := by decide +kernel
theorem dX10_election_49 : decode cX10_election 49 = .ok (.bipush (-10), 2) := by decide +kernel
theorem dX10_election_51 : decode cX10_election 51 = .ok (.iload_n 2, 1) := by decide +kernel
theorem dX10_election_52 : decode cX10_election 52 = .ok (.isub, 1) := by decide +kernel
theorem dX10_election_53 : decode cX10_election 53 = .ok (.ireturn, 1) := by decide +kernel
theorem dX10_election_54 : decode cX10_election 54 = .ok (.aload_n 0, 1) := by decide +kernel
theorem dX10_election_55 : decode cX10_election 55 = .ok (.iconst (-1), 1) := by decide +kernel
theorem dX10_election_56 : decode cX10_election 56 = .ok (.putfield 16, 3) := by decide +kernel
theorem dX10_election_59 : decode cX10_election 59 = .ok (.aload_n 0, 1) := by decide +kernel
theorem dX10_election_60 : decode cX10_election 60 = .ok (.aload_n 0, 1) := by decide +kernel
theorem dX10_election_61 : decode cX10_election 61 = .ok (.getfield 10, 3) := by decide +kernel
theorem dX10_election_64 : decode cX10_election 64 = .ok (.getfield 97, 3) := by decide +kernel
theorem dX10_election_67 : decode cX10_election 67 = .ok (.invokevirtual 100, 3) := by decide +kernel
theorem dX10_election_70 : decode cX10_election 70 = .ok (.aload_n 0, 1) := by decide +kernel
theorem dX10_election_71 : decode cX10_election 71 = .ok (.getfield 23, 3) := by decide +kernel
theorem dX10_election_74 : decode cX10_election 74 = .ok (.getfield 104, 3) := by decide +kernel
theorem dX10_election_77 : decode cX10_election 77 = .ok (.getfield 105, 3) := by decide +kernel
theorem dX10_election_80 : decode cX10_election 80 = .ok (.ireturn, 1) := by decide +kernel
def fX10_election (Y : XS) (n : Nat) (S : PS) (a0 : Nat) (x1 : Int32) : Option ((Int32 × XS × PS) ⊕ (Nat × PS)) :=
  if x1 < 0 then some (.inr (2, S)) else kgr S a0 0 (fun b6 => kgi S b6 3 (fun x9 => if x1 ≤ x9 then
    kgr S a0 0 (fun b26 => kc (fX7_readText Y n S b26 x1) (fun q => if q.1 = 0 then
      kpi q.2.2 a0 1 (-1) (fun S1 => kgr S1 a0 0 (fun b1 => kgr S1 b1 0 (fun b2 => kc (fX10_startFrom q.2.1 n S1 a0 b2) (fun S2 => kgr S2 a0 2 (fun b3 => kgr S2 b3 0 (fun b4 => kgi S2 b4 1 (fun x => some (.inl (x, q.2.1, S2)))))))))
      else kgr q.2.2 a0 0 (fun b1 => kgi q.2.2 b1 1 (fun x => kpi q.2.2 a0 1 x (fun S1 => some (.inl ((-10 : Int32) - q.1, q.2.1, S1))))))) else some (.inr (2, S))))
def mrE (o : (Int32 × XS × PS) ⊕ (Nat × PS)) : MR := match o with
  | .inl q => .inl (some (.int q.1), q.2.2)
  | .inr e => .inr e
def yE (Y : XS) (o : (Int32 × XS × PS) ⊕ (Nat × PS)) : XS := match o with
  | .inl q => q.2.1
  | .inr _ => Y
theorem wX10_election {C : CT} {ρ : Nat → Nat} {Y : XS} (hC : CK C RX10 cX10_election 3 (some .int) 11) (n : Nat) (S : PS) (a0 : Nat) (x1 : Int32) (hTa0 : Ty Y a0 10) {o : (Int32 × XS × PS) ⊕ (Nat × PS)} (hf : fX10_election Y n S a0 x1 = some o) (hB : XB C (ρ, Y, 0, 0) 3 508) (hR : RtY C ρ Y cX10_election (some .int) 3 508 (mrE o) (yE Y o)) (hTo : ThO C ρ Y cX10_election 3 508 (mrE o)) : UW C (ρ, Y, 0, 0) S 0 [(0, .ref (ρ a0)), (1, .int x1)] [] := by
  unfold fX10_election at hf
  have hthr : o = .inr (2, S) → UW C (ρ, Y, 0, 0) S 15 [(0, .ref (ρ a0)), (1, .int x1)] [] := by
    intro ho
    subst ho
    exact hTo _ _ rfl (by decide) _ _ (Nat.le_of_ble_eq_true rfl) (Nat.le_of_ble_eq_true rfl) _ _ 0 ⟨by decide, rfl, dX10_election_15, dX10_election_18, Or.inl ⟨dX10_election_19, dX10_election_21, dX10_election_24⟩⟩
  refine u_iload_n hC dX10_election_0 1 rfl rfl ?_
  refine u_if_lt (tgt := 15) hC dX10_election_1 (by decide) hf (fun h hf => ?_) (fun h hf => ?_)
  · exact hthr (Option.some.inj hf).symm
  refine u_iload_n hC dX10_election_4 1 rfl rfl ?_
  refine u_aload_n hC dX10_election_5 0 rfl rfl ?_
  refine u_gr (X := (ρ, Y, 0, 0)) (a := a0) hC lf_X10_10 rfl hTa0 dX10_election_6 hf (fun b6 hTb6 hf => ?_)
  refine u_gi (X := (ρ, Y, 0, 0)) (a := b6) hC lf_X10_76 rfl hTb6 dX10_election_9 hf (fun x9 hf => ?_)
  refine u_icmp_le (tgt := 25) hC dX10_election_12 (by decide) hf (fun h hf => ?_) (fun h hf => ?_)
  rotate_left
  · exact hthr (Option.some.inj hf).symm
  refine u_aload_n hC dX10_election_25 0 rfl rfl ?_
  refine u_gr (X := (ρ, Y, 0, 0)) (a := a0) hC lf_X10_10 rfl hTa0 dX10_election_26 hf (fun b26 hTb26 hf => ?_)
  refine u_iload_n hC dX10_election_29 1 rfl rfl ?_
  obtain ⟨q, hq, hf⟩ := kc_some hf
  refine u_callVA (X := (ρ, Y, 0, 0)) (a := b26) (rest := []) hC (ctX7_readText (cL C) hC.tr (cG C) ρ Y n S b26 x1 hTb26 hq) (hB.at (Nat.le_of_ble_eq_true rfl) (Nat.le_of_ble_eq_true rfl)) lk_X10_90 rfl hTb26 (by decide) rfl (by decide) (by decide) rfl rfl (Nat.le_of_ble_eq_true rfl) dX10_election_30 (fun ρ1 hag => ?_)
  replace hag : ∀ a k, Ty Y a k → ρ1 a = ρ a ∧ Ty q.2.1 a k := hag
  have hAG : AG ρ Y ρ1 q.2.1 := hag
  show UW C (ρ1, q.2.1, 0 + 2, 0 + 502) q.2.2 _ [(0, .ref (ρ a0)), (1, .int x1)] [.int q.1]
  show UW C (ρ1, q.2.1, 2, 502) q.2.2 _ [(0, .ref (ρ a0)), (1, .int x1)] [.int q.1]
  rw [← (hag a0 _ hTa0).1]
  have hTa0 := (hag _ _ hTa0).2
  refine u_istore_n (lv' := [(2, .int q.1), (0, .ref (ρ1 a0)), (1, .int x1)]) hC dX10_election_33 rfl (by decide) rfl ?_
  refine u_iload_n hC dX10_election_34 0 rfl rfl ?_
  refine u_if_eq (tgt := 54) hC dX10_election_35 (by decide) hf (fun h hf => ?_) (fun h hf => ?_)
  · refine u_aload_n hC dX10_election_54 1 rfl rfl ?_
    refine u_iconst (v := (-1 : Int32)) hC dX10_election_55 (by decide) ?_
    refine u_pi (X := (ρ1, q.2.1, 2, 502)) (a := a0) hC lf_X10_16 rfl rfl rfl hTa0 dX10_election_56 hf (fun S1 hf => ?_)
    refine u_aload_n hC dX10_election_59 1 rfl rfl ?_
    refine u_aload_n hC dX10_election_60 1 rfl rfl ?_
    refine u_gr (X := (ρ1, q.2.1, 2, 502)) (a := a0) hC lf_X10_10 rfl hTa0 dX10_election_61 hf (fun b1 hTb1 hf => ?_)
    refine u_gr (X := (ρ1, q.2.1, 2, 502)) (a := b1) hC lf_X10_97 rfl hTb1 dX10_election_64 hf (fun b2 hTb2 hf => ?_)
    obtain ⟨S2, hS2, hf⟩ := kc_some hf
    refine u_callV (X := (ρ1, q.2.1, 2, 502)) (a := a0) (rest := []) hC (ctX10_startFrom (cL C) hC.tr (cG C) ρ1 q.2.1 n S1 a0 b2 hTa0 hTb2 hS2) lk_X10_100 rfl hTa0 (by decide) rfl (by decide) (by decide) rfl rfl (Nat.le_of_ble_eq_true rfl) dX10_election_67 ?_
    refine u_aload_n hC dX10_election_70 1 rfl rfl ?_
    refine u_gr (X := (ρ1, q.2.1, 2, 502)) (a := a0) hC lf_X10_23 rfl hTa0 dX10_election_71 hf (fun b3 hTb3 hf => ?_)
    refine u_gr (X := (ρ1, q.2.1, 2, 502)) (a := b3) hC lf_X10_104 rfl hTb3 dX10_election_74 hf (fun b4 hTb4 hf => ?_)
    refine u_gi (X := (ρ1, q.2.1, 2, 502)) (a := b4) hC lf_X10_105 rfl hTb4 dX10_election_77 hf (fun x hf => ?_)
    obtain rfl := Option.some.inj hf
    exact hR _ _ rfl _ hAG _ _ (Nat.le_of_ble_eq_true rfl) (Nat.le_of_ble_eq_true rfl) _ _ dX10_election_80 trivial
  · refine u_aload_n hC dX10_election_38 1 rfl rfl ?_
    refine u_aload_n hC dX10_election_39 1 rfl rfl ?_
    refine u_gr (X := (ρ1, q.2.1, 2, 502)) (a := a0) hC lf_X10_10 rfl hTa0 dX10_election_40 hf (fun b1 hTb1 hf => ?_)
    refine u_gi (X := (ρ1, q.2.1, 2, 502)) (a := b1) hC lf_X10_94 rfl hTb1 dX10_election_43 hf (fun x hf => ?_)
    refine u_pi (X := (ρ1, q.2.1, 2, 502)) (a := a0) hC lf_X10_16 rfl rfl rfl hTa0 dX10_election_46 hf (fun S1 hf => ?_)
    refine u_bipush (v := (-10 : Int32)) hC dX10_election_49 (by decide) ?_
    refine u_iload_n hC dX10_election_51 0 rfl rfl ?_
    refine u_isub hC dX10_election_52 ?_
    obtain rfl := Option.some.inj hf
    exact hR _ _ rfl _ hAG _ _ (Nat.le_of_ble_eq_true rfl) (Nat.le_of_ble_eq_true rfl) _ _ dX10_election_53 trivial
theorem ctX10_election (l : Launch) (hl : l.stackTraces = false) (G : GT) (ρ : Nat → Nat) (Y : XS) (n : Nat) (S : PS) (a0 : Nat) (x1 : Int32) (hTa0 : Ty Y a0 10) {o : (Int32 × XS × PS) ⊕ (Nat × PS)} (hf : fX10_election Y n S a0 x1 = some o) : My l G yX10_election cX10_election 3 (some .int) 11 3 508 ρ Y [.ref (ρ a0), .int x1] S (mrE o) (yE Y o) :=
  My_of hl (by decide) rfl (by decide) (Nat.le_of_ble_eq_true rfl) (fun C _ _ hC hB hR hTo _ => wX10_election hC n S a0 x1 hTa0 hf hB hR hTo)
