/-! new cells: rows, contracts of methods that make them -/
def zS (S : PS) (a : Nat) : PS := (fun b j => if b = a then 0 else S.1 b j, fun b j => if b = a then 0 else S.2.1 b j, fun b j => if b = a then none else S.2.2 b j)
def nY (Y : XS) (k l : Nat) : XS := (nX Y + 1, fun b => if b = nX Y then k else kd Y b, fun b => if b = nX Y then l else ln Y b)
theorem gi_zS {S : PS} {a b j : Nat} : gi (zS S a) b j = if b = a then 0 else gi S b j := rfl
theorem gl_zS {S : PS} {a b j : Nat} : gl (zS S a) b j = if b = a then 0 else gl S b j := rfl
theorem gr_zS {S : PS} {a b j : Nat} : gr (zS S a) b j = if b = a then none else gr S b j := rfl
theorem nX_nY {Y : XS} {k l : Nat} : nX (nY Y k l) = nX Y + 1 := rfl
theorem kd_nY {Y : XS} {k l b : Nat} : kd (nY Y k l) b = if b = nX Y then k else kd Y b := rfl
theorem ln_nY {Y : XS} {k l b : Nat} : ln (nY Y k l) b = if b = nX Y then l else ln Y b := rfl
theorem Ty.new {Y : XS} {a j k l : Nat} (h : Ty Y a j) : Ty (nY Y k l) a j := by
  refine ⟨Nat.lt_succ_of_lt h.1, ?_⟩
  rw [kd_nY, if_neg (Nat.ne_of_lt h.1)]
  exact h.2
theorem Ty.last {Y : XS} {k l : Nat} : Ty (nY Y k l) (nX Y) k := ⟨Nat.lt_succ_self _, by rw [kd_nY, if_pos rfl]⟩
theorem WT.new {Y : XS} {S : PS} {k l : Nat} (h : WT Y S) : WT (nY Y k l) (zS S (nX Y)) := by
  intro a j b ha hb
  rw [gr_zS] at hb
  by_cases e : a = nX Y
  · rw [if_pos e] at hb; cases hb
  · rw [if_neg e] at hb
    have ha' : a < nX Y := by
      have : a < nX Y + 1 := ha
      omega
    obtain ⟨i, h1, h2⟩ := h a j b ha' hb
    exact ⟨i, by rw [kd_nY, if_neg e]; exact h1, h2.new⟩
theorem map_new {Y : XS} {S : PS} {ρ : Nat → Nat} {q a j : Nat} (h : WT Y S) (ha : a < nX Y) : (gr S a j).map (va_up ρ (nX Y) q) = (gr S a j).map ρ := by
  cases hg : gr S a j with
  | none => rfl
  | some b =>
    obtain ⟨i, h1, h2⟩ := h a j b ha hg
    show some (va_up ρ (nX Y) q b) = some (ρ b)
    rw [va_up_ne _ _ (Nat.ne_of_lt h2.1)]
theorem cf_new {cy : Nat → ClassId} {Y : XS} {S : PS} {ρ : Nat → Nat} {q a k l : Nat} (h : WT Y S) (ha : a < nX Y) : cf cy (va_up ρ (nX Y) q) (nY Y k l) (zS S (nX Y)) a = cf cy ρ Y S a := by
  have hne : a ≠ nX Y := Nat.ne_of_lt ha
  have h1 : kd (nY Y k l) a = kd Y a := by rw [kd_nY, if_neg hne]
  have h2 : ln (nY Y k l) a = ln Y a := by rw [ln_nY, if_neg hne]
  have h3 : (zS S (nX Y)).1 a = S.1 a := by funext j; simp [zS, hne]
  have h4 : (zS S (nX Y)).2.1 a = S.2.1 a := by funext j; simp [zS, hne]
  have h5 : ∀ j, (gr (zS S (nX Y)) a j).map (va_up ρ (nX Y) q) = (gr S a j).map ρ := fun j => by rw [gr_zS, if_neg hne, map_new h ha]
  have h6 : ∀ j, gi (zS S (nX Y)) a j = gi S a j := fun j => by rw [gi_zS, if_neg hne]
  simp only [cf, ov, h1, h2, h3, h4, h5, h6]
theorem wl_push {cy : Nat → ClassId} {Y : XS} {S : PS} {ρ : Nat → Nat} {q k l : Nat} {e : va_E} (h : WT Y S) (he : cf cy (va_up ρ (nX Y) q) (nY Y k l) (zS S (nX Y)) (nX Y) = e) : wl cy ρ Y S ++ [(q, e)] = wl cy (va_up ρ (nX Y) q) (nY Y k l) (zS S (nX Y)) := by
  unfold wl
  rw [nX_nY, List.range_succ, List.map_append, List.map_singleton, he, va_up_self]
  congr 1
  apply List.map_congr_left
  intro a ha
  have ha' : a < nX Y := List.mem_range.mp ha
  rw [cf_new h ha', va_up_ne _ _ (Nat.ne_of_lt ha')]
theorem XO.new {C : CT} {ρ : Nat → Nat} {Y : XS} {S : PS} {cells slots q kk ll mc mz : Nat} {cy : Nat → ClassId} {ev : va_E} {own : String} {cc : ByteArray} {nL d : Nat} {ret : Option FieldType} (hC : CK C own cc nL ret d) (hX : XO C (ρ, Y, cells, slots)) (hD : va_D C.2.2.2.2.2.2.2.2.2.2.2.2 (wl cy ρ Y S ++ [(q, ev)])) (hc : cells + mc ≤ C.2.2.2.1.cells) (hz : slots + mz ≤ C.2.2.2.1.slots) : XO C (va_up ρ (nX Y) q, nY Y kk ll, cells + mc, slots + mz) := by
  obtain ⟨p, l, e, R, s, m, args, below, meth, c, Q, G, A⟩ := C
  have h0 : (wl cy ρ Y S ++ [(q, ev)])[nX Y]? = some (q, ev) := by rw [List.getElem?_append_right (by rw [wl_len]; exact Nat.le_refl _), wl_len, Nat.sub_self]; rfl
  have hq : A q := hD.2 (nX Y) (q, ev) h0
  have hne : ∀ a, a < nX Y → ρ a ≠ q := by
    intro a ha e1
    have h1 : (wl cy ρ Y S ++ [(q, ev)])[a]? = some (ρ a, cf cy ρ Y S a) := by rw [List.getElem?_append_left (by rw [wl_len]; exact ha), wl_at ha]
    have := hD.1 a (nX Y) _ _ h1 h0 e1
    omega
  have hlt : ∀ a, a < nX (nY Y kk ll) → a < nX Y ∨ a = nX Y := by
    intro a ha
    have : a < nX Y + 1 := ha
    omega
  refine ⟨fun a b ha hb hab => ?_, fun a ha => ?_, fun a ha => ?_, hc, hz⟩
  · rcases hlt a ha with h1 | h1 <;> rcases hlt b hb with h2 | h2
    · rw [va_up_ne _ _ (Nat.ne_of_lt h1), va_up_ne _ _ (Nat.ne_of_lt h2)] at hab
      exact hX.1 a b h1 h2 hab
    · rw [h2, va_up_ne _ _ (Nat.ne_of_lt h1), va_up_self] at hab
      exact absurd hab (hne a h1)
    · rw [h1, va_up_ne _ _ (Nat.ne_of_lt h2), va_up_self] at hab
      exact absurd hab.symm (hne b h2)
    · rw [h1, h2]
  · rcases hlt a ha with h1 | h1
    · rw [va_up_ne _ _ (Nat.ne_of_lt h1)]; exact hX.2.1 a h1
    · rw [h1, va_up_self]; exact hq
  · rcases hlt a ha with h1 | h1
    · rw [va_up_ne _ _ (Nat.ne_of_lt h1)]; exact hX.2.2.1 a h1
    · rw [h1, va_up_self]; exact hC.2.2.2.2.2.2.2.1 q hq
/-- make a cell of kind k and length l -/
def knw {α : Type} (Y : XS) (S : PS) (k l : Nat) (K : XS → PS → Nat → Option α) : Option α := K (nY Y k l) (zS S (nX Y)) (nX Y)
/-- make an array: its length isn't below 0 -/
def kna {α : Type} (Y : XS) (S : PS) (k : Nat) (i : Int32) (K : XS → PS → Nat → Option α) : Option α := if i < 0 then none else K (nY Y k i.toNatClampNeg) (zS S (nX Y)) (nX Y)
def kwr {α : Type} (Y : XS) (S : PS) (a : Nat) (i : Int32) (b : Nat) (K : PS → Option α) : Option α := if inb i (ln Y a) = true then K (sr S a i.toNatClampNeg (some b)) else none
theorem dv_ok : ∀ ci, ci < 12 → ∀ j, j < nf ci → defaultValue (cY ci j) = if (ft ci j).isSome = true then .null else .int 0 := by decide +kernel
theorem ov_new {ρ : Nat → Nat} {S : PS} {ci a j : Nat} (hci : ci < 12) (hj : j < nf ci) : defaultValue (cY ci j) = vp_V (ov ρ (zS S a) ci a) j := by
  rw [dv_ok ci hci j hj]
  have : (ov ρ (zS S a) ci a)[j]? = some (if (ft ci j).isSome = true then .null else .int 0) := by
    simp only [ov, List.getElem?_map, List.getElem?_range hj, Option.map_some, gr_zS, gi_zS, if_pos]
    rfl
  simp [vp_V, List.getD_eq_getElem?_getD, this]
section UN
variable {C : CT} {X : XT} {S : PS} {own : String} {cc : ByteArray} {nL d : Nat} {ret : Option FieldType} {pc : Nat} {lv : List (Nat × Value)} {rest : List Value} {α : Type} {o : α}
theorem u_new (hC : CK C own cc nL ret d) {ci idx : Nat} (hci : ci < 12) (hL : Cond.classLink own idx (cN ci) ∈ Tb ∧ Cond.instantiable (cN ci) (nf ci) ∈ Tb ∧ Cond.initialized (cN ci) ∈ Tb) (hB : XB C X 1 (nf ci)) (hd : decode cc pc = .ok (.new idx, 3)) {K : XS → PS → Nat → Option α} (hf : knw X.2.1 S ci 0 K = some o)
    (kk : ∀ (ρ' : Nat → Nat) (Y' : XS) (S' : PS) (b : Nat), (∀ a k, Ty X.2.1 a k → ρ' a = X.1 a) → (∀ a k, Ty X.2.1 a k → Ty Y' a k) → Ty Y' b ci → K Y' S' b = some o → UW C (ρ', Y', X.2.2.1 + 1, X.2.2.2 + nf ci) S' (pc + 3) lv (.ref (ρ' b) :: rest)) : UW C X S pc lv rest := by
  obtain ⟨p, l, e, R, s, m, args, below, meth, c, Q, ⟨dC, dI, cy, B0, sK, sV⟩, A⟩ := C
  obtain ⟨ρ, Y, cells, slots⟩ := X
  intro H locs ls hX hP hS hl hT
  have hts : ∀ w ∈ Tb, w.before args s = true := hC.2.2.2.2.1
  refine va_new (fs := ov ρ (zS S (nX Y)) ci (nX Y)) hC.1 hC.2.1 hts (lay_in ci hci) (cY ci) (cY_ok ci hci) hC.2.2.2.1 (hts _ hL.1) (hts _ hL.2.1) (hts _ hL.2.2) hC.2.2.2.2.2.1.1 hP (wl_D hX.1 hX.2.1) hS hC.2.2.2.2.2.2.1 (cls_at ci hci) (fun j hj => ov_new hci hj) hB.1 hB.2 hd (fun q H1 hP1 hD1 hS1 => ?_)
  have hcf : cf cy (va_up ρ (nX Y) q) (nY Y ci 0) (zS S (nX Y)) (nX Y) = .inr (ci, ov ρ (zS S (nX Y)) ci (nX Y)) := by
    rw [cf_obj (ci := ci) (by rw [kd_nY, if_pos rfl]) hci]
    simp only [ov, gr_zS, if_pos]
    rfl
  have hX' := XO.new (kk := ci) (ll := 0) (mc := 1) (mz := nf ci) hC hX hD1 hB.1 hB.2
  rw [wl_push hT hcf] at hP1
  have := kk (va_up ρ (nX Y) q) (nY Y ci 0) (zS S (nX Y)) (nX Y) (fun a k h => va_up_ne _ _ (Nat.ne_of_lt h.1)) (fun a k h => h.new) Ty.last hf H1 locs ls hX' hP1 hS1 hl hT.new
  rw [va_up_self] at this
  exact this
theorem u_newi (hC : CK C own cc nL ret d) {i : Int32} {N : Nat} (hN : i.toNatClampNeg = N) (hN2 : N ≤ 100000) (hB : XB C X 1 N) (hd : decode cc pc = .ok (.newarray .int, 2)) {K : XS → PS → Nat → Option α} (hf : kna X.2.1 S 12 i K = some o)
    (kk : ∀ (ρ' : Nat → Nat) (Y' : XS) (S' : PS) (b : Nat), (∀ a k, Ty X.2.1 a k → ρ' a = X.1 a) → (∀ a k, Ty X.2.1 a k → Ty Y' a k) → Ty Y' b 12 → K Y' S' b = some o → UW C (ρ', Y', X.2.2.1 + 1, X.2.2.2 + N) S' (pc + 2) lv (.ref (ρ' b) :: rest)) : UW C X S pc lv (.int i :: rest) := by
  obtain ⟨p, l, e, R, s, m, args, below, meth, c, Q, ⟨dC, dI, cy, B0, sK, sV⟩, A⟩ := C
  obtain ⟨ρ, Y, cells, slots⟩ := X
  intro H locs ls hX hP hS hl hT
  have hts : ∀ w ∈ Tb, w.before args s = true := hC.2.2.2.2.1
  unfold kna at hf
  by_cases h0 : i < 0
  · rw [if_pos h0] at hf; cases hf
  rw [if_neg h0, hN] at hf
  refine va_newa (atype := .int) (ty := .int) (a0 := (N, .inl (fun _ => 0))) hC.1 hC.2.1 (hts _ (tb_1 106 rfl rfl)) rfl hC.2.2.2.2.2.1.1 hP (wl_D hX.1 hX.2.1) hS hC.2.2.2.2.2.2.1 (fun _ => rfl) h0 hN (by show N * 4 ≤ _; omega) hB.1 hB.2 hd (fun q cA H1 hK1 hP1 hD1 hS1 => ?_)
  have hcA : cA = cy 12 := by
    have h1 : s.vm.findClass ("[" ++ FieldType.int.toString) = some cA := (hK1.2 6 (cA, .int) rfl).2
    have h2 : s.vm.findClass ("[" ++ FieldType.int.toString) = some (cy 12) := (hC.2.2.2.2.2.1.1.2 0 (cy 12, .int) rfl).2
    exact Option.some.inj (h1.symm.trans h2)
  subst hcA
  have hcf : cf cy (va_up ρ (nX Y) q) (nY Y 12 N) (zS S (nX Y)) (nX Y) = .inl (cy 12, N, .inl (fun _ => 0)) := by
    rw [cf_int (ci := 12) (by rw [kd_nY, if_pos rfl]) (by decide) (by decide), ln_nY, if_pos rfl]
    congr 4
    funext j
    simp [zS]
  have hX' := XO.new (kk := 12) (ll := N) (mc := 1) (mz := N) hC hX hD1 hB.1 hB.2
  rw [wl_push hT hcf] at hP1
  have := kk (va_up ρ (nX Y) q) (nY Y 12 N) (zS S (nX Y)) (nX Y) (fun a k h => va_up_ne _ _ (Nat.ne_of_lt h.1)) (fun a k h => h.new) Ty.last hf H1 locs ls hX' hP1 hS1 hl hT.new
  rw [va_up_self] at this
  exact this
end UN
