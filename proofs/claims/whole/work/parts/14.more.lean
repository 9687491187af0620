/-! what the walks of throwing methods need -/
def mrV (o : PS ⊕ (Nat × PS)) : MR := match o with
  | .inl S => .inl (none, S)
  | .inr e => .inr e
def mrI (o : (Int32 × PS) ⊕ (Nat × PS)) : MR := match o with
  | .inl q => .inl (some (.int q.1), q.2)
  | .inr e => .inr e
theorem XB.at {C : CT} {ρ : Nat → Nat} {Y : XS} {MC MS k z a b : Nat} (hB : XB C (ρ, Y, 0, 0) MC MS) (h1 : k + a ≤ MC) (h2 : z + b ≤ MS) : XB C (ρ, Y, k, z) a b := by
  obtain ⟨p, l, e, R, s, m, args, below, meth, c, Q, G, A⟩ := C
  have hb1 : 0 + MC ≤ R.cells := hB.1
  have hb2 : 0 + MS ≤ R.slots := hB.2
  exact ⟨by show k + a ≤ R.cells; omega, by show z + b ≤ R.slots; omega⟩
def kty {α : Type} (Y : XS) (b k : Nat) (r : Option α) : Option α := if b < nX Y ∧ kd Y b = k then r else none
theorem kty_some {α : Type} {Y : XS} {b k : Nat} {r : Option α} {o : α} (h : kty Y b k r = some o) : Ty Y b k ∧ r = some o := by
  unfold kty at h
  by_cases hv : b < nX Y ∧ kd Y b = k
  · rw [if_pos hv] at h; exact ⟨hv, h⟩
  · rw [if_neg hv] at h; cases h
theorem u_ldsw {C : CT} {X : XT} {S : PS} {own : String} {cc : ByteArray} {nL d : Nat} {ret : Option FieldType} {pc : Nat} {lv : List (Nat × Value)} {rest : List Value} (hC : CK C own cc nL ret d) {i idx : Nat} (hi : i < nStr) (ho : strO i = own) (hx : strI i = idx) (hd : decode cc pc = .ok (.ldc_w idx, 3)) (k : UW C X S (pc + 3) lv (.ref (gK (cG C) i) :: rest)) : UW C X S pc lv rest := by
  obtain ⟨p, l, e, R, s, m, args, below, meth, c, Q, ⟨dC, dI, cy, B0, sK, sV⟩, A⟩ := C
  obtain ⟨ρ, Y, cells, slots⟩ := X
  intro H locs ls hX hP hS hl hT
  have h1 : vk_R (strO i) (strI i) (strT i) (sK i) s := hC.2.2.2.2.2.1.2.2.1 i hi
  rw [ho, hx] at h1
  intro T hT' X0
  obtain ⟨t, a1, b1⟩ := k H locs ls hX hP hS hl hT T hT' X0
  exact ⟨t, X0.ldcStringW hC.1 hC.2.2.2.1 (text := strT i) (a := sK i) h1.1 h1.2 (g := F0 m pc ls rest) rfl (by rw [hC.2.1]; exact hd) t a1, b1⟩
