/-! THE CLAIM OUT OF ONE WALK OF THE LAW'S BODY. Your part is whole_start (and what it stands on); all else here is the same for every law, but numbers. -/
def R_law : String := "SharedPurseLaw"
def lw_P (b : Addr) (xs : List Int32) (args : Array Value) (s : State) : Prop := args = #[.ref b] ∧ s.IntsAt b xs ∧ xs.length ≤ 3072 ∧ (Jvm.Cond.and given_1 narrow_1).before args s = true
def lw_Q (_ : Array Value) (s : State) (o : Outcome) (t : State) : Prop := o = .returned (some (.int 1)) ∧ Framed s o t [] 601024 7293034
def lw_Z (below : List Frame) (a : Array Value) (s : State) : State → Prop := fun t => ∃ o, t.status = .running ∧ Ended t below o ∧ lw_Q a s o t
/-- the law's own end, with 1 on the stack, nothing written that was there before, its room as the claim has it -/
theorem lw_ret {p : Program} {l : Launch} {e : Env} {s : State} {m : MethodId} {below : List Frame} {meth : Method} {c : Code} {b : Nat} (hx : p.tables.exec = Jvm.exec) (hb : c.code = code) (hr : meth.sig.returnType = ret) (hlocks : meth.locks = false) {pc : Nat} {H : Heap} {ls : Array Slot} (hdg : decode code pc = .ok (.ireturn, 1)) : W p l e room_1 s m #[Value.ref b] below meth c H [] 601024 7293034 (lw_Z below #[Value.ref b] s) (F0 m pc ls [.int 1]) := by
  intro T hT X
  obtain ⟨fs, hret, hrun, hended, hW, hframe⟩ := X.leave (v := some (.int 1)) (hlocks := hlocks) (fun h => by rw [hr] at h; cases h)
  have hmeth' : T.vm.method? m = some meth := X.method'
  refine ⟨T.setFrames fs, ?_, .returned (some (.int 1)), hrun, hended, rfl, ⟨_, rfl⟩, hW, hframe⟩
  jvm_step X.here [X.here.top, hx, hb, hdg, hmeth', hr, ret, narrow_b1]
  (try refine ⟨rfl, ?_⟩); (try refine ⟨rfl, ?_⟩)
  first | (intro acts; rw [hret _ acts rfl rfl rfl]) | rw [hret _ _ rfl rfl rfl]
  exact Steps.refl _
/-- what holds at the law's entry: the machine, the code, the tables' words (any of lw_tbl by 'hts w (by decide +kernel)'), the script of L ints xs at the cell b, what the Statement gives of the start (any of its parts by flat_of_before) -/
def lw_At (p : Program) (s : State) (m : MethodId) (meth : Method) (c : Code) (b L : Nat) (xs : Nat → Int32) : Prop :=
  p.tables.exec = Jvm.exec ∧ c.code = code ∧ meth.sig.returnType = ret ∧ c.maxLocals = 7 ∧ s.vm.findClass R_law = some m.cls ∧ (∀ w ∈ lw_tbl, w.before #[Value.ref b] s = true) ∧ va_X b L xs s s.heap ∧ b < s.heap.size ∧ meth.locks = false ∧ (Jvm.Cond.and given_1 narrow_1).before #[Value.ref b] s = true

def Y0 : XS := (0, fun _ => 0, fun _ => 0)
def S0 : PS := (fun _ _ => 0, fun _ _ => 0, fun _ _ => none)
/-- the law as a pure function: none is no answer, or false -/
def fLawAll (xs : Nat → Int32) (L n : Nat) : Option Unit :=
  knw Y0 S0 10 0 (fun Y1 S1 ax => kc (fX10_init Y1 n S1 ax) (fun q => knw q.1 q.2 11 0 (fun Y2 S2 am => kc (fX11_init Y2 n S2 am) (fun r => kna r.1 r.2 15 1 (fun Y3 S3 ao => iter (bLaw xs L n ax am ao) n ((0 : Int32), Y3, S3))))))
theorem XB_of {C : CT} {ρ : Nat → Nat} {Y : XS} {a b : Nat} (h : a ≤ C.2.2.2.1.cells ∧ b ≤ C.2.2.2.1.slots) : XB C (ρ, Y, 0, 0) a b := by
  obtain ⟨p, l, e, R, s0, m, args, below, meth, c, Q, G, A⟩ := C
  have hr1 : a ≤ R.cells := h.1
  have hr2 : b ≤ R.slots := h.2
  exact ⟨by show 0 + a ≤ R.cells; omega, by show 0 + b ≤ R.slots; omega⟩
theorem wLawAll {C : CT} (hC : CK C RL cL_law 7 ret 100) {b L : Nat} {xs : Nat → Int32} (hL : L ≤ 3072) (hSC : SC C b L xs) (hNc : va_Nc eI eN C.2.2.2.2.1) (hR : 100000 ≤ C.2.2.2.1.cells ∧ 1000000 ≤ C.2.2.2.1.slots) (n : Nat) (hEnd : ∀ ρ Y S cells slots lv, cells ≤ 100000 → slots ≤ 1000000 → UW C (ρ, Y, cells, slots) S 2036 lv []) (hf : fLawAll xs L n = some ()) (ρ : Nat → Nat) : UW C (ρ, Y0, 0, 0) S0 0 [(0, .ref b)] [] := by
  unfold fLawAll at hf
  have hB : XB C (ρ, Y0, 0, 0) 100000 1000000 := XB_of hR
  refine u_new (ci := 10) hC (by decide) ⟨(tb_1 26 rfl rfl), (tb_1 27 rfl rfl), (tb_1 1 rfl rfl)⟩ (hB.more (Nat.le_of_ble_eq_true rfl) (Nat.le_of_ble_eq_true rfl)) dL_law_0 hf (fun ρ1 Y1 S1 ax hag hup hTx hf => ?_)
  show UW C (ρ1, Y1, 1, 12) S1 _ [(0, .ref b)] [.ref (ρ1 ax)]
  refine u_dup hC dL_law_3 rfl ?_
  obtain ⟨q, hq, hf⟩ := kc_some hf
  refine u_callI (X := (ρ1, Y1, 1, 12)) (rest := [.ref (ρ1 ax)]) hC (ctX10_init (cL C) hC.tr (cG C) ρ1 Y1 n S1 ax hTx hq) (hB.more (Nat.le_of_ble_eq_true rfl) (Nat.le_of_ble_eq_true rfl)) lk_L_92 (tb_1 29 rfl rfl) rfl rfl (by decide) (by decide) rfl rfl (Nat.le_of_ble_eq_true rfl) dL_law_4 (fun ρ2 hag2 => ?_)
  replace hag2 : ∀ a k, Ty Y1 a k → ρ2 a = ρ1 a ∧ Ty q.1 a k := hag2
  show UW C (ρ2, q.1, 1 + 214, 12 + 16524) q.2 _ [(0, .ref b)] [.ref (ρ1 ax)]
  show UW C (ρ2, q.1, 215, 16536) q.2 _ [(0, .ref b)] [.ref (ρ1 ax)]
  rw [← (hag2 ax _ hTx).1]
  have hTx := (hag2 _ _ hTx).2
  refine u_astore_n (lv' := [(1, .ref (ρ2 ax)), (0, .ref b)]) hC dL_law_7 rfl (by decide) rfl ?_
  refine u_new (ci := 11) hC (by decide) ⟨(tb_6 20 rfl rfl), (tb_6 21 rfl rfl), (tb_1 11 rfl rfl)⟩ (hB.more (Nat.le_of_ble_eq_true rfl) (Nat.le_of_ble_eq_true rfl)) dL_law_8 hf (fun ρ3 Y3 S3 am hag3 hup3 hTm hf => ?_)
  replace hag3 : ∀ a k, Ty q.1 a k → ρ3 a = ρ2 a := hag3
  replace hup3 : ∀ a k, Ty q.1 a k → Ty Y3 a k := hup3
  show UW C (ρ3, Y3, 215 + 1, 16536 + 38) S3 _ [(1, .ref (ρ2 ax)), (0, .ref b)] [.ref (ρ3 am)]
  show UW C (ρ3, Y3, 216, 16574) S3 _ [(1, .ref (ρ2 ax)), (0, .ref b)] [.ref (ρ3 am)]
  rw [← hag3 ax _ hTx]
  have hTx := hup3 _ _ hTx
  refine u_dup hC dL_law_11 rfl ?_
  obtain ⟨r, hr, hf⟩ := kc_some hf
  refine u_callI (X := (ρ3, Y3, 216, 16574)) (rest := [.ref (ρ3 am)]) hC (ctX11_init (cL C) hC.tr (cG C) ρ3 Y3 n S3 am hTm hr) (hB.more (Nat.le_of_ble_eq_true rfl) (Nat.le_of_ble_eq_true rfl)) lk_L_95 (tb_6 23 rfl rfl) rfl rfl (by decide) (by decide) rfl rfl (Nat.le_of_ble_eq_true rfl) dL_law_12 (fun ρ4 hag4 => ?_)
  replace hag4 : ∀ a k, Ty Y3 a k → ρ4 a = ρ3 a ∧ Ty r.1 a k := hag4
  show UW C (ρ4, r.1, 216 + 18, 16574 + 22280) r.2 _ [(1, .ref (ρ3 ax)), (0, .ref b)] [.ref (ρ3 am)]
  show UW C (ρ4, r.1, 234, 38854) r.2 _ [(1, .ref (ρ3 ax)), (0, .ref b)] [.ref (ρ3 am)]
  rw [← (hag4 ax _ hTx).1, ← (hag4 am _ hTm).1]
  have hTx := (hag4 _ _ hTx).2
  have hTm := (hag4 _ _ hTm).2
  refine u_astore_n (lv' := [(2, .ref (ρ4 am)), (1, .ref (ρ4 ax)), (0, .ref b)]) hC dL_law_15 rfl (by decide) rfl ?_
  refine u_iconst (v := (1 : Int32)) hC dL_law_16 (by decide) ?_
  refine u_newl (N := 1) hC (by decide) (by decide) (hB.more (Nat.le_of_ble_eq_true rfl) (Nat.le_of_ble_eq_true rfl)) dL_law_17 hf (fun ρ5 Y5 S5 ao hag5 hup5 hTo hf => ?_)
  replace hag5 : ∀ a k, Ty r.1 a k → ρ5 a = ρ4 a := hag5
  replace hup5 : ∀ a k, Ty r.1 a k → Ty Y5 a k := hup5
  show UW C (ρ5, Y5, 234 + 1, 38854 + 1) S5 _ [(2, .ref (ρ4 am)), (1, .ref (ρ4 ax)), (0, .ref b)] [.ref (ρ5 ao)]
  show UW C (ρ5, Y5, 235, 38855) S5 _ [(2, .ref (ρ4 am)), (1, .ref (ρ4 ax)), (0, .ref b)] [.ref (ρ5 ao)]
  rw [← hag5 ax _ hTx, ← hag5 am _ hTm]
  have hTx := hup5 _ _ hTx
  have hTm := hup5 _ _ hTm
  refine u_astore_n (lv' := [(3, .ref (ρ5 ao)), (2, .ref (ρ5 am)), (1, .ref (ρ5 ax)), (0, .ref b)]) hC dL_law_19 rfl (by decide) rfl ?_
  refine u_iconst (v := (0 : Int32)) hC dL_law_20 (by decide) ?_
  refine u_istore (lv' := [(4, .int 0), (3, .ref (ρ5 ao)), (2, .ref (ρ5 am)), (1, .ref (ρ5 ax)), (0, .ref b)]) hC dL_law_21 (by decide) rfl ?_
  have hP : PL C ax am ao b ((0 : Int32), Y5, S5) := iter_ind (P := PL C ax am ao b) (fun s o' hb hin hout => wbLaw hC hL hSC hNc hR n ax am ao hEnd s hb hin) n _ hf
  have e0 : (0 : Int32).toInt.toNat = 0 := by decide
  exact hP (show 0 ≤ (0 : Int32).toInt by decide) (show (0 : Int32).toInt ≤ 3072 by decide) hTx hTm hTo ρ5 235 38855 (by show 235 ≤ 1000 + 2 * (0 : Int32).toInt.toNat; rw [e0]; omega) (by show 38855 ≤ 50000 + 85 * (0 : Int32).toInt.toNat; rw [e0]; omega)
theorem whole_of {p : Program} {e : Env} {s : State} {m : MethodId} {below : List Frame} {meth : Method} {c : Code} (l : Launch) (hflags : l.flags = flags0) {b L : Nat} {xs : Nat → Int32} (hL : L ≤ 3072) (C0 : lw_At p s m meth c b L xs) (n : Nat) (hf : fLawAll xs L n = some ()) : W p l e room_1 s m #[Value.ref b] below meth c s.heap [] 0 0 (lw_Z below #[Value.ref b] s) (entryFrame m ([Value.ref b] : List Value).toArray 7) := by
  obtain ⟨hx, hb, hr, hml, hown, hts, hX, hbl, hlocks, hgv⟩ := C0
  have hnar : narrow_1.before #[Value.ref b] s = true := n_r hgv
  obtain ⟨G, hG, hK⟩ := Kw_start hnar hts
  have hlt : l.stackTraces = false := by
    show (!l.flags.contains noTraceFlag) = false
    rw [hflags]
    decide +kernel
  have hl := lv_entry [Value.ref b] (n := 7) (Nat.le_of_ble_eq_true rfl)
  rw [lg_entry_eq]
  generalize (lg_sl [Value.ref b] ++ List.replicate (7 - (lg_sl [Value.ref b]).length) Slot.unset).toArray = ls at hl ⊢
  have hC : CK (p, l, e, room_1, s, m, #[Value.ref b], below, meth, c, lw_Z below #[Value.ref b] s, G, fun q => s.heap.size ≤ q) RL cL_law 7 ret 100 := by
    refine ⟨hx, hb, hml, hown, fun w h => hts w (List.mem_filter.mp h).1, hK, fun q h => h, fun q h => by rw [hG]; exact h, hlocks, hr, by decide, by decide, hlt⟩
  refine wLawAll hC hL ⟨hX, hbl, Nat.not_le.mpr hbl⟩ (nc_start hnar) ⟨by show 100000 ≤ 601024; decide, by show 1000000 ≤ 7293034; decide⟩ n ?_ hf (fun _ => 0) s.heap [] ls ⟨?_, ?_, ?_, Nat.zero_le _, Nat.zero_le _⟩ ?_ va_S.rf (by rw [hml]; exact hl) ?_
  · intro ρ Y S cells slots lv hc hz
    refine u_iconst (v := (1 : Int32)) hC dL_law_2036 (by decide) ?_
    intro H locs ls hX hP hS hl hT
    refine va_forget (fun q hq => hS.2.2 q hq) ?_
    refine W.widen (k := 601024) (n := 7293034) (by omega) (by omega) ?_
    exact lw_ret hx hb hr hlocks dL_law_2037
  · intro a b ha; exact absurd ha (Nat.not_lt_zero _)
  · intro a ha; exact absurd ha (Nat.not_lt_zero _)
  · intro a ha; exact absurd ha (Nat.not_lt_zero _)
  · obtain ⟨dC, dI, cy, B0, sK, sV⟩ := G
    intro k q hq
    cases hq
  · intro a k b' ha; exact absurd ha (Nat.not_lt_zero _)
