/-! more rows for making: other arrays, stores of references, constructors' own fields; contracts of methods that make cells -/
section UN2
variable {C : CT} {X : XT} {S : PS} {own : String} {cc : ByteArray} {nL d : Nat} {ret : Option FieldType} {pc : Nat} {lv : List (Nat × Value)} {rest : List Value} {α : Type} {o : α}
theorem u_newb (hC : CK C own cc nL ret d) {i : Int32} {N : Nat} (hN : i.toNatClampNeg = N) (hN2 : N ≤ 100000) (hB : XB C X 1 N) (hd : decode cc pc = .ok (.newarray .byte, 2)) {K : XS → PS → Nat → Option α} (hf : kna X.2.1 S 13 i K = some o)
    (kk : ∀ (ρ' : Nat → Nat) (Y' : XS) (S' : PS) (b : Nat), (∀ a k, Ty X.2.1 a k → ρ' a = X.1 a) → (∀ a k, Ty X.2.1 a k → Ty Y' a k) → Ty Y' b 13 → K Y' S' b = some o → UW C (ρ', Y', X.2.2.1 + 1, X.2.2.2 + N) S' (pc + 2) lv (.ref (ρ' b) :: rest)) : UW C X S pc lv (.int i :: rest) := by
  obtain ⟨p, l, e, R, s, m, args, below, meth, c, Q, ⟨dC, dI, cy, B0, sK, sV⟩, A⟩ := C
  obtain ⟨ρ, Y, cells, slots⟩ := X
  intro H locs ls hX hP hS hl hT
  have hts : ∀ w ∈ Tb, w.before args s = true := hC.2.2.2.2.1
  unfold kna at hf
  by_cases h0 : i < 0
  · rw [if_pos h0] at hf; cases hf
  rw [if_neg h0, hN] at hf
  refine va_newa (atype := .byte) (ty := .byte) (a0 := (N, .inl (fun _ => 0))) hC.1 hC.2.1 (hts _ (tb_1 156 rfl rfl)) rfl hC.2.2.2.2.2.1.1 hP (wl_D hX.1 hX.2.1) hS hC.2.2.2.2.2.2.1 (fun _ => rfl) h0 hN (by show N * 1 ≤ _; omega) hB.1 hB.2 hd (fun q cA H1 hK1 hP1 hD1 hS1 => ?_)
  have hcA : cA = cy 13 := by
    have h1 : s.vm.findClass ("[" ++ FieldType.byte.toString) = some cA := (hK1.2 6 (cA, .byte) rfl).2
    have h2 : s.vm.findClass ("[" ++ FieldType.byte.toString) = some (cy 13) := (hC.2.2.2.2.2.1.1.2 1 (cy 13, .byte) rfl).2
    exact Option.some.inj (h1.symm.trans h2)
  subst hcA
  have hcf : cf cy (va_up ρ (nX Y) q) (nY Y 13 N) (zS S (nX Y)) (nX Y) = .inl (cy 13, N, .inl (fun _ => 0)) := by
    rw [cf_int (ci := 13) (by rw [kd_nY, if_pos rfl]) (by decide) (by decide), ln_nY, if_pos rfl]
    congr 4
    funext j
    simp [zS]
  have hX' := XO.new (kk := 13) (ll := N) (mc := 1) (mz := N) hC hX hD1 hB.1 hB.2
  rw [wl_push hT hcf] at hP1
  have := kk (va_up ρ (nX Y) q) (nY Y 13 N) (zS S (nX Y)) (nX Y) (fun a k h => va_up_ne _ _ (Nat.ne_of_lt h.1)) (fun a k h => h.new) Ty.last hf H1 locs ls hX' hP1 hS1 hl hT.new
  rw [va_up_self] at this
  exact this
theorem u_newz (hC : CK C own cc nL ret d) {i : Int32} {N : Nat} (hN : i.toNatClampNeg = N) (hN2 : N ≤ 100000) (hB : XB C X 1 N) (hd : decode cc pc = .ok (.newarray .boolean, 2)) {K : XS → PS → Nat → Option α} (hf : kna X.2.1 S 14 i K = some o)
    (kk : ∀ (ρ' : Nat → Nat) (Y' : XS) (S' : PS) (b : Nat), (∀ a k, Ty X.2.1 a k → ρ' a = X.1 a) → (∀ a k, Ty X.2.1 a k → Ty Y' a k) → Ty Y' b 14 → K Y' S' b = some o → UW C (ρ', Y', X.2.2.1 + 1, X.2.2.2 + N) S' (pc + 2) lv (.ref (ρ' b) :: rest)) : UW C X S pc lv (.int i :: rest) := by
  obtain ⟨p, l, e, R, s, m, args, below, meth, c, Q, ⟨dC, dI, cy, B0, sK, sV⟩, A⟩ := C
  obtain ⟨ρ, Y, cells, slots⟩ := X
  intro H locs ls hX hP hS hl hT
  have hts : ∀ w ∈ Tb, w.before args s = true := hC.2.2.2.2.1
  unfold kna at hf
  by_cases h0 : i < 0
  · rw [if_pos h0] at hf; cases hf
  rw [if_neg h0, hN] at hf
  refine va_newa (atype := .boolean) (ty := .boolean) (a0 := (N, .inl (fun _ => 0))) hC.1 hC.2.1 (hts _ (tb_6 141 rfl rfl)) rfl hC.2.2.2.2.2.1.1 hP (wl_D hX.1 hX.2.1) hS hC.2.2.2.2.2.2.1 (fun _ => rfl) h0 hN (by show N * 1 ≤ _; omega) hB.1 hB.2 hd (fun q cA H1 hK1 hP1 hD1 hS1 => ?_)
  have hcA : cA = cy 14 := by
    have h1 : s.vm.findClass ("[" ++ FieldType.boolean.toString) = some cA := (hK1.2 6 (cA, .boolean) rfl).2
    have h2 : s.vm.findClass ("[" ++ FieldType.boolean.toString) = some (cy 14) := (hC.2.2.2.2.2.1.1.2 2 (cy 14, .boolean) rfl).2
    exact Option.some.inj (h1.symm.trans h2)
  subst hcA
  have hcf : cf cy (va_up ρ (nX Y) q) (nY Y 14 N) (zS S (nX Y)) (nX Y) = .inl (cy 14, N, .inl (fun _ => 0)) := by
    rw [cf_int (ci := 14) (by rw [kd_nY, if_pos rfl]) (by decide) (by decide), ln_nY, if_pos rfl]
    congr 4
    funext j
    simp [zS]
  have hX' := XO.new (kk := 14) (ll := N) (mc := 1) (mz := N) hC hX hD1 hB.1 hB.2
  rw [wl_push hT hcf] at hP1
  have := kk (va_up ρ (nX Y) q) (nY Y 14 N) (zS S (nX Y)) (nX Y) (fun a k h => va_up_ne _ _ (Nat.ne_of_lt h.1)) (fun a k h => h.new) Ty.last hf H1 locs ls hX' hP1 hS1 hl hT.new
  rw [va_up_self] at this
  exact this
theorem u_newl (hC : CK C own cc nL ret d) {i : Int32} {N : Nat} (hN : i.toNatClampNeg = N) (hN2 : N ≤ 100000) (hB : XB C X 1 N) (hd : decode cc pc = .ok (.newarray .long, 2)) {K : XS → PS → Nat → Option α} (hf : kna X.2.1 S 15 i K = some o)
    (kk : ∀ (ρ' : Nat → Nat) (Y' : XS) (S' : PS) (b : Nat), (∀ a k, Ty X.2.1 a k → ρ' a = X.1 a) → (∀ a k, Ty X.2.1 a k → Ty Y' a k) → Ty Y' b 15 → K Y' S' b = some o → UW C (ρ', Y', X.2.2.1 + 1, X.2.2.2 + N) S' (pc + 2) lv (.ref (ρ' b) :: rest)) : UW C X S pc lv (.int i :: rest) := by
  obtain ⟨p, l, e, R, s, m, args, below, meth, c, Q, ⟨dC, dI, cy, B0, sK, sV⟩, A⟩ := C
  obtain ⟨ρ, Y, cells, slots⟩ := X
  intro H locs ls hX hP hS hl hT
  have hts : ∀ w ∈ Tb, w.before args s = true := hC.2.2.2.2.1
  unfold kna at hf
  by_cases h0 : i < 0
  · rw [if_pos h0] at hf; cases hf
  rw [if_neg h0, hN] at hf
  refine va_newa (atype := .long) (ty := .long) (a0 := (N, .inr (.inl (fun _ => 0)))) hC.1 hC.2.1 (hts _ (tb_2 87 rfl rfl)) rfl hC.2.2.2.2.2.1.1 hP (wl_D hX.1 hX.2.1) hS hC.2.2.2.2.2.2.1 (fun _ => rfl) h0 hN (by show N * 8 ≤ _; omega) hB.1 hB.2 hd (fun q cA H1 hK1 hP1 hD1 hS1 => ?_)
  have hcA : cA = cy 15 := by
    have h1 : s.vm.findClass ("[" ++ FieldType.long.toString) = some cA := (hK1.2 6 (cA, .long) rfl).2
    have h2 : s.vm.findClass ("[" ++ FieldType.long.toString) = some (cy 15) := (hC.2.2.2.2.2.1.1.2 3 (cy 15, .long) rfl).2
    exact Option.some.inj (h1.symm.trans h2)
  subst hcA
  have hcf : cf cy (va_up ρ (nX Y) q) (nY Y 15 N) (zS S (nX Y)) (nX Y) = .inl (cy 15, N, .inr (.inl (fun _ => 0))) := by
    rw [cf_long (by rw [kd_nY, if_pos rfl]), ln_nY, if_pos rfl]
    congr 5
    funext j
    simp [zS]
  have hX' := XO.new (kk := 15) (ll := N) (mc := 1) (mz := N) hC hX hD1 hB.1 hB.2
  rw [wl_push hT hcf] at hP1
  have := kk (va_up ρ (nX Y) q) (nY Y 15 N) (zS S (nX Y)) (nX Y) (fun a k h => va_up_ne _ _ (Nat.ne_of_lt h.1)) (fun a k h => h.new) Ty.last hf H1 locs ls hX' hP1 hS1 hl hT.new
  rw [va_up_self] at this
  exact this
theorem u_newqE (hC : CK C own cc nL ret d) {idx : Nat} (hL : Cond.classLink own idx "SharedPurse$Election" ∈ Tb) {i : Int32} {N : Nat} (hN : i.toNatClampNeg = N) (hN2 : N ≤ 100000) (hB : XB C X 1 N) (hd : decode cc pc = .ok (.anewarray idx, 3)) {K : XS → PS → Nat → Option α} (hf : kna X.2.1 S 16 i K = some o)
    (kk : ∀ (ρ' : Nat → Nat) (Y' : XS) (S' : PS) (b : Nat), (∀ a k, Ty X.2.1 a k → ρ' a = X.1 a) → (∀ a k, Ty X.2.1 a k → Ty Y' a k) → Ty Y' b 16 → K Y' S' b = some o → UW C (ρ', Y', X.2.2.1 + 1, X.2.2.2 + N) S' (pc + 3) lv (.ref (ρ' b) :: rest)) : UW C X S pc lv (.int i :: rest) := by
  obtain ⟨p, l, e, R, s, m, args, below, meth, c, Q, ⟨dC, dI, cy, B0, sK, sV⟩, A⟩ := C
  obtain ⟨ρ, Y, cells, slots⟩ := X
  intro H locs ls hX hP hS hl hT
  have hts : ∀ w ∈ Tb, w.before args s = true := hC.2.2.2.2.1
  unfold kna at hf
  by_cases h0 : i < 0
  · rw [if_pos h0] at hf; cases hf
  rw [if_neg h0, hN] at hf
  refine va_newq hC.1 hC.2.1 hC.2.2.2.1 (hts _ hL) hC.2.2.2.2.2.1.2.2.2.2.2.2.2.1 hC.2.2.2.2.2.1.1 hP (wl_D hX.1 hX.2.1) hS hC.2.2.2.2.2.2.1 h0 hN (by omega) hB.1 hB.2 hd (fun q cA H1 hK1 hP1 hD1 hS1 => ?_)
  have hcA : cA = cy 16 := by
    obtain ⟨_, _, _, _, _, h1⟩ := (hK1.2 6 (cA, .object "SharedPurse$Election") rfl).2
    obtain ⟨_, _, _, _, _, h2⟩ := (hC.2.2.2.2.2.1.1.2 4 (cy 16, .object "SharedPurse$Election") rfl).2
    exact Option.some.inj (h1.symm.trans h2)
  subst hcA
  have hcf : cf cy (va_up ρ (nX Y) q) (nY Y 16 N) (zS S (nX Y)) (nX Y) = .inl (cy 16, N, .inr (.inr (.inr (.inr (fun _ => none))))) := by
    rw [cf_refs (ci := 16) (by rw [kd_nY, if_pos rfl]) (by decide), ln_nY, if_pos rfl]
    congr 8
    funext j
    simp [gr_zS]
  have hX' := XO.new (kk := 16) (ll := N) (mc := 1) (mz := N) hC hX hD1 hB.1 hB.2
  rw [wl_push hT hcf] at hP1
  have := kk (va_up ρ (nX Y) q) (nY Y 16 N) (zS S (nX Y)) (nX Y) (fun a k h => va_up_ne _ _ (Nat.ne_of_lt h.1)) (fun a k h => h.new) Ty.last hf H1 locs ls hX' hP1 hS1 hl hT.new
  rw [va_up_self] at this
  exact this
theorem u_newqO (hC : CK C own cc nL ret d) {idx : Nat} (hL : Cond.classLink own idx "SharedPurse$Outcome" ∈ Tb) {i : Int32} {N : Nat} (hN : i.toNatClampNeg = N) (hN2 : N ≤ 100000) (hB : XB C X 1 N) (hd : decode cc pc = .ok (.anewarray idx, 3)) {K : XS → PS → Nat → Option α} (hf : kna X.2.1 S 17 i K = some o)
    (kk : ∀ (ρ' : Nat → Nat) (Y' : XS) (S' : PS) (b : Nat), (∀ a k, Ty X.2.1 a k → ρ' a = X.1 a) → (∀ a k, Ty X.2.1 a k → Ty Y' a k) → Ty Y' b 17 → K Y' S' b = some o → UW C (ρ', Y', X.2.2.1 + 1, X.2.2.2 + N) S' (pc + 3) lv (.ref (ρ' b) :: rest)) : UW C X S pc lv (.int i :: rest) := by
  obtain ⟨p, l, e, R, s, m, args, below, meth, c, Q, ⟨dC, dI, cy, B0, sK, sV⟩, A⟩ := C
  obtain ⟨ρ, Y, cells, slots⟩ := X
  intro H locs ls hX hP hS hl hT
  have hts : ∀ w ∈ Tb, w.before args s = true := hC.2.2.2.2.1
  unfold kna at hf
  by_cases h0 : i < 0
  · rw [if_pos h0] at hf; cases hf
  rw [if_neg h0, hN] at hf
  refine va_newq hC.1 hC.2.1 hC.2.2.2.1 (hts _ hL) hC.2.2.2.2.2.1.2.2.2.2.2.2.2.2 hC.2.2.2.2.2.1.1 hP (wl_D hX.1 hX.2.1) hS hC.2.2.2.2.2.2.1 h0 hN (by omega) hB.1 hB.2 hd (fun q cA H1 hK1 hP1 hD1 hS1 => ?_)
  have hcA : cA = cy 17 := by
    obtain ⟨_, _, _, _, _, h1⟩ := (hK1.2 6 (cA, .object "SharedPurse$Outcome") rfl).2
    obtain ⟨_, _, _, _, _, h2⟩ := (hC.2.2.2.2.2.1.1.2 5 (cy 17, .object "SharedPurse$Outcome") rfl).2
    exact Option.some.inj (h1.symm.trans h2)
  subst hcA
  have hcf : cf cy (va_up ρ (nX Y) q) (nY Y 17 N) (zS S (nX Y)) (nX Y) = .inl (cy 17, N, .inr (.inr (.inr (.inr (fun _ => none))))) := by
    rw [cf_refs (ci := 17) (by rw [kd_nY, if_pos rfl]) (by decide), ln_nY, if_pos rfl]
    congr 8
    funext j
    simp [gr_zS]
  have hX' := XO.new (kk := 17) (ll := N) (mc := 1) (mz := N) hC hX hD1 hB.1 hB.2
  rw [wl_push hT hcf] at hP1
  have := kk (va_up ρ (nX Y) q) (nY Y 17 N) (zS S (nX Y)) (nX Y) (fun a k h => va_up_ne _ _ (Nat.ne_of_lt h.1)) (fun a k h => h.new) Ty.last hf H1 locs ls hX' hP1 hS1 hl hT.new
  rw [va_up_self] at this
  exact this
theorem u_wr (hC : CK C own cc nL ret d) {a b ka j t0 : Nat} (hka : (ka = 16 ∧ j = 1 ∧ t0 = 4) ∨ (ka = 17 ∧ j = 5 ∧ t0 = 5)) (hTa : Ty X.2.1 a ka) (hTb : Ty X.2.1 b j) {i : Int32} (hd : decode cc pc = .ok (.aastore, 1)) {K : PS → Option α} (hf : kwr X.2.1 S a i b K = some o) (kk : ∀ S1, K S1 = some o → UW C X S1 (pc + 1) lv rest) : UW C X S pc lv (.ref (X.1 b) :: .int i :: .ref (X.1 a) :: rest) := by
  obtain ⟨p, l, e, R, s, m, args, below, meth, c, Q, ⟨dC, dI, cy, B0, sK, sV⟩, A⟩ := C
  obtain ⟨ρ, Y, cells, slots⟩ := X
  intro H locs ls hX hP hS hl hT
  unfold kwr at hf
  by_cases hi : inb i (ln Y a) = true
  · rw [if_pos hi] at hf
    have hset : ∀ k, (fun j => (gr (sr S a i.toNatClampNeg (some b)) a j).map ρ) k = va_up (fun j => (gr S a j).map ρ) i.toNatClampNeg (some (ρ b)) k := by
      intro k
      by_cases hk : k = i.toNatClampNeg
      · simp [gr_sr, hk, va_up]
      · simp [gr_sr, hk, va_up]
    rcases hka with ⟨rfl, rfl, rfl⟩ | ⟨rfl, rfl, rfl⟩
    · refine va_astq (r := (cN 1, cT 1, nf 1)) hC.1 hC.2.1 hC.2.2.2.2.2.1.1 hP (wl_D hX.1 hX.2.1) hS a 4 b 1 (by rw [wl_at hTa.1, cf_refs hTa.2 (by decide)]) rfl (by rw [wl_at hTb.1, cf_obj hTb.2 (by decide)]) (cls_at 1 (by decide)) (inb_in.mp hi) hd (fun H1 locs1 hP1 _ hS1 => ?_)
      rw [wl_set (S' := sr S a i.toNatClampNeg (some b)) hTa.1 (by rw [cf_refs hTa.2 (by decide), funext hset]) (fun b' hb => cf_sr hb)] at hP1
      exact kk _ hf H1 locs1 ls hX hP1 hS1 hl (hT.sr hTa rfl (fun c hc => Option.some.inj hc ▸ hTb))
    · refine va_astq (r := (cN 5, cT 5, nf 5)) hC.1 hC.2.1 hC.2.2.2.2.2.1.1 hP (wl_D hX.1 hX.2.1) hS a 5 b 5 (by rw [wl_at hTa.1, cf_refs hTa.2 (by decide)]) rfl (by rw [wl_at hTb.1, cf_obj hTb.2 (by decide)]) (cls_at 5 (by decide)) (inb_in.mp hi) hd (fun H1 locs1 hP1 _ hS1 => ?_)
      rw [wl_set (S' := sr S a i.toNatClampNeg (some b)) hTa.1 (by rw [cf_refs hTa.2 (by decide), funext hset]) (fun b' hb => cf_sr hb)] at hP1
      exact kk _ hf H1 locs1 ls hX hP1 hS1 hl (hT.sr hTa rfl (fun c hc => Option.some.inj hc ▸ hTb))
  · rw [if_neg hi] at hf; cases hf
/-- the frame is a constructor's -/
def CI (C : CT) : Prop := C.2.2.2.2.2.2.2.2.1.name = "<init>"
def isRefT : FieldType → Bool
  | .object _ => true
  | .array _ => true
  | _ => false
theorem u_prF (hC : CK C own cc nL ret d) (hI : CI C) {a b ci k idx j : Nat} (hL : Lf own idx ci k) (hr : ft ci k = some j) (hy : isRefT (cY ci k) = true) (hfin : (cT ci k).2.2.2 = true) (hdecl : cN ci = own) (hT0 : Ty X.2.1 a ci) (hTb : Ty X.2.1 b j) (hd : decode cc pc = .ok (.putfield idx, 3)) {K : PS → Option α} (hf : kpr S a k (some b) K = some o) (kk : ∀ S1, K S1 = some o → UW C X S1 (pc + 3) lv rest) : UW C X S pc lv (.ref (X.1 b) :: .ref (X.1 a) :: rest) := by
  obtain ⟨p, l, e, R, s, m, args, below, meth, c, Q, ⟨dC, dI, cy, B0, sK, sV⟩, A⟩ := C
  obtain ⟨ρ, Y, cells, slots⟩ := X
  intro H locs ls hX hP hS hl hT
  refine va_putF hC.1 hC.2.1 hC.2.2.2.2.1 (lay_in ci hL.1) (cY ci) (cY_ok ci hL.1) (cT_nm ci hL.1) hC.2.2.2.1 hC.2.2.2.2.2.1.1 hP (wl_D hX.1 hX.2.1) hS a (by rw [wl_at hT0.1, cf_obj hT0.2 hL.1]) (cls_at ci hL.1) k hL.2.1 (hC.2.2.2.2.1 _ hL.2.2) (by rw [cT_own ci hL.1 k hL.2.1]; exact fun _ h => h) hfin hI (by rw [cT_own ci hL.1 k hL.2.1]; exact hdecl) (ty := cY ci k) (v := .ref (ρ b)) (cY_ok ci hL.1 k hL.2.1) (by generalize cY ci k = t at hy; cases t <;> first | rfl | (simp [isRefT] at hy)) (by generalize cY ci k = t at hy; cases t <;> first | rfl | (simp [isRefT] at hy)) (by rw [ov_len]; exact hL.2.1) hd (fun H1 locs1 hP1 _ hS1 => ?_)
  rw [wl_set (S' := sr S a k (some b)) hT0.1 (by rw [cf_obj hT0.2 hL.1, ov_sr hr]; rfl) (fun b' hb => cf_sr hb)] at hP1
  exact kk _ hf H1 locs1 ls hX hP1 hS1 hl (hT.sr hT0 hr (fun c hc => Option.some.inj hc ▸ hTb))
theorem u_oinit (hC : CK C own cc nL ret d) {idx a : Nat} (hL : Cond.methodLink own idx objectInit ∈ Tb) (h1d : 1 ≤ d) (hW : (rest.map fun v => v.category).sum ≤ 8) (hd : decode cc pc = .ok (.invokespecial idx, 3)) (k : UW C X S (pc + 3) lv rest) : UW C X S pc lv (.ref (X.1 a) :: rest) := by
  obtain ⟨p, l, e, R, s, m, args, below, meth, c, Q, G, A⟩ := C
  obtain ⟨ρ, Y, cells, slots⟩ := X
  intro H locs ls hX hP hS hl hT
  have hts : ∀ w ∈ Tb, w.before args s = true := hC.2.2.2.2.1
  have hR1 : d ≤ R.frames := hC.2.2.2.2.2.2.2.2.2.2.1
  have hR2 : 128 * d ≤ R.locals := hC.2.2.2.2.2.2.2.2.2.2.2.1
  refine W.objInit hC.1 hC.2.1 hC.2.2.2.1 (hts _ hL) (hts _ (tb_1 32 rfl rfl)) (hts _ (tb_1 33 rfl rfl)) rfl hl.1 rfl hd (by omega) (by show 2 * 0 + _ + 12 ≤ _; omega) ?_
  exact k H locs ls hX hP hS hl hT
end UN2
/-- a method that may make cells: it leaves S' and Y'; its answer by the new addresses -/
def Ma (l : Launch) (G : GT) (y : MethodName) (cc : ByteArray) (maxL : Nat) (ret : Option FieldType) (d mc ms : Nat) (ρ : Nat → Nat) (Y : XS) (As : List Value) (S : PS) (v : (Nat → Nat) → Option Value) (S' : PS) (Y' : XS) : Prop :=
  ∀ sz : Nat, Met l y (.code y cc maxL ret :: Tb) (rmd d mc ms) (va_Pc As (fun U => U.heap.size = sz ∧ Wd G ρ Y S U)) (fun _ st oc t => ∃ ρ' : Nat → Nat, (∀ a k, Ty Y a k → ρ' a = ρ a ∧ Ty Y' a k) ∧ (∀ a, a < nX Y' → ¬ a < nX Y → sz ≤ ρ' a) ∧ oc = .returned (v ρ') ∧ Wd G ρ' Y' S' t ∧ va_F (aA ρ (nX Y) sz) st t) mc ms (aA ρ (nX Y) sz)
section UCA
variable {C : CT} {X : XT} {S : PS} {own : String} {cc : ByteArray} {nL d : Nat} {ret : Option FieldType} {pc : Nat} {lv : List (Nat × Value)} {rest : List Value}
variable {y : MethodName} {cc' : ByteArray} {maxL' d' np idx mc ms : Nat} {ret' : Option FieldType} {As : List Value} {v : (Nat → Nat) → Option Value} {S' : PS} {Y' : XS}
theorem u_afterA (hC : CK C own cc nL ret d) {H : Heap} {locs : List Loc} {ls : Array Slot} {st : List Value} (hX : XO C X) (hB : XB C X mc ms) (hS : va_S C.2.2.2.2.2.2.2.2.2.2.2.2 C.2.2.2.2.1.heap H locs) (hl : lv_has ls C.2.2.2.2.2.2.2.2.2.1.maxLocals lv)
    (hr : va_Run C.1 C.2.1 C.2.2.1 C.2.2.2.1 C.2.2.2.2.1 C.2.2.2.2.2.1 C.2.2.2.2.2.2.1 C.2.2.2.2.2.2.2.1 C.2.2.2.2.2.2.2.2.1 C.2.2.2.2.2.2.2.2.2.1 H locs X.2.2.1 X.2.2.2 mc ms (F0 C.2.2.2.2.2.1 pc ls st) rest (fun st0 oc t => ∃ ρ' : Nat → Nat, (∀ a k, Ty X.2.1 a k → ρ' a = X.1 a ∧ Ty Y' a k) ∧ (∀ a, a < nX Y' → ¬ a < nX X.2.1 → H.size ≤ ρ' a) ∧ oc = .returned (v ρ') ∧ Wd (cG C) ρ' Y' S' t ∧ va_F (aA X.1 (nX X.2.1) H.size) st0 t) (aA X.1 (nX X.2.1) H.size))
    (k : ∀ ρ' : Nat → Nat, (∀ a k, Ty X.2.1 a k → ρ' a = X.1 a ∧ Ty Y' a k) → UW C (ρ', Y', X.2.2.1 + mc, X.2.2.2 + ms) S' (pc + 3) lv ((v ρ').toList ++ rest)) : W C.1 C.2.1 C.2.2.1 C.2.2.2.1 C.2.2.2.2.1 C.2.2.2.2.2.1 C.2.2.2.2.2.2.1 C.2.2.2.2.2.2.2.1 C.2.2.2.2.2.2.2.2.1 C.2.2.2.2.2.2.2.2.2.1 H locs X.2.2.1 X.2.2.2 C.2.2.2.2.2.2.2.2.2.2.1 (F0 C.2.2.2.2.2.1 pc ls st) := by
  obtain ⟨p, l, e, R, s, m, args, below, meth, c, Q, G, A⟩ := C
  obtain ⟨ρ, Y, cells, slots⟩ := X
  have hA1 : ∀ q, s.heap.size ≤ q → A q := hC.2.2.2.2.2.2.1
  intro T hT0 X0
  obtain ⟨v', st₀, t, T', L, h0, Xs, hL, e1, e2, ⟨ρ', hag, hnew, hv, hWd, hF⟩, st⟩ := hr T hT0 X0
  cases hv
  have hAA : ∀ q, aA ρ (nX Y) H.size q → A q := by
    rintro q (⟨a, ha, rfl⟩ | hq)
    · exact hX.2.1 a ha
    · exact hA1 q (Nat.le_trans hS.1 hq)
  obtain ⟨k1, k2, k3⟩ := vx_keep h0 e1 hS (fun q _ h => hAA q h) hAA hL hF
  have hX' : XO (p, l, e, R, s, m, args, below, meth, c, Q, G, A) (ρ', Y', cells + mc, slots + ms) := by
    refine ⟨hWd.2.2.2.1, fun a ha => ?_, hWd.2.2.2.2.1, hB.1, hB.2⟩
    by_cases h : a < nX Y
    · rw [(hag a (kd Y a) ⟨h, rfl⟩).1]; exact hX.2.1 a h
    · exact hA1 _ (Nat.le_trans hS.1 (hnew a ha h))
  obtain ⟨t2, a1, b1⟩ := k ρ' hag T'.heap (locs ++ L) ls hX' (by rw [e1]; exact hWd.1) k3 hl hWd.2.2.1 T' rfl Xs
  exact ⟨t2, st t2 a1, b1⟩
/-- a constructor of a nest mate -/
theorem u_callIN (hC : CK C own cc nL ret d) {host : String} (hM : Ma (cL C) (cG C) y cc' maxL' none d' mc ms X.1 X.2.1 As S v S' Y') (hB : XB C X mc ms) (hL : Ln own idx y cc' maxL' none np host) (hi : Cond.instanceMethod y ∈ Tb) (hy1 : y.name = "<init>") {a : Nat} {Bs : List Value} (hAs : As = .ref (X.1 a) :: Bs) (hd' : d' + 1 ≤ d) (hm : 19 + maxL' ≤ 128) (hn : Bs.length = np) {st : List Value} (hst : st = Bs.reverse ++ .ref (X.1 a) :: rest) (hW : (rest.map fun v => v.category).sum ≤ 8) (hdg : decode cc pc = .ok (.invokespecial idx, 3))
    (k : ∀ ρ' : Nat → Nat, (∀ a k, Ty X.2.1 a k → ρ' a = X.1 a ∧ Ty Y' a k) → UW C (ρ', Y', X.2.2.1 + mc, X.2.2.2 + ms) S' (pc + 3) lv ((v ρ').toList ++ rest)) : UW C X S pc lv st := by
  obtain ⟨p, l, e, R, s, m, args, below, meth, c, Q, G, A⟩ := C
  obtain ⟨ρ, Y, cells, slots⟩ := X
  intro H locs ls hX hP hS hl hT
  subst hAs
  obtain ⟨h1, h2, h3, h4⟩ := hL
  have hts : ∀ w ∈ Tb, w.before args s = true := hC.2.2.2.2.1
  have hR1 : d ≤ R.frames := hC.2.2.2.2.2.2.2.2.2.2.1
  have hR2 : 128 * d ≤ R.locals := hC.2.2.2.2.2.2.2.2.2.2.2.1
  have hnest : ∀ w ∈ nestT, va_Nw w s := by
    obtain ⟨dC, dI, cy, B0, sK, sV⟩ := G
    exact hC.2.2.2.2.2.1.2.1
  refine u_afterA (X := (ρ, Y, cells, slots)) (S' := S') (Y' := Y') (v := v) (rest := rest) hC hX hB hS hl ?_ k
  exact va_runIN (As := Bs) (rest := rest) (host := host) (b := ρ a) ⟨hC.1, hC.2.1, hC.2.2.1, hC.2.2.2.1, hts⟩ (hM H.size) ⟨va_cnB np hts (Tb_goodC h3) rfl rfl rfl (hnest _ h1) (hts _ h2) h4 ⟨by show d' + 1 ≤ R.frames; omega, by show 8 + (maxL' + 11) + 128 * d' ≤ R.locals; omega⟩, hy1, hts _ hi⟩ ⟨fb_Wd, fun U hU hW' => ⟨rfl, by rw [hU], Wd_at (X := (ρ, Y, cells, slots)) hC hX hP hS hT U hU hW'⟩⟩ rfl hn (hl.1.trans hC.2.2.1) hst (lv_room hW) hdg ⟨hB.1, hB.2⟩
/-- a constructor, linked plainly -/
theorem u_callI (hC : CK C own cc nL ret d) (hM : Ma (cL C) (cG C) y cc' maxL' none d' mc ms X.1 X.2.1 As S v S' Y') (hB : XB C X mc ms) (hL : Lm own idx y cc' maxL' none np) (hi : Cond.instanceMethod y ∈ Tb) (hy1 : y.name = "<init>") {a : Nat} {Bs : List Value} (hAs : As = .ref (X.1 a) :: Bs) (hd' : d' + 1 ≤ d) (hm : 19 + maxL' ≤ 128) (hn : Bs.length = np) {st : List Value} (hst : st = Bs.reverse ++ .ref (X.1 a) :: rest) (hW : (rest.map fun v => v.category).sum ≤ 8) (hdg : decode cc pc = .ok (.invokespecial idx, 3))
    (k : ∀ ρ' : Nat → Nat, (∀ a k, Ty X.2.1 a k → ρ' a = X.1 a ∧ Ty Y' a k) → UW C (ρ', Y', X.2.2.1 + mc, X.2.2.2 + ms) S' (pc + 3) lv ((v ρ').toList ++ rest)) : UW C X S pc lv st := by
  obtain ⟨p, l, e, R, s, m, args, below, meth, c, Q, G, A⟩ := C
  obtain ⟨ρ, Y, cells, slots⟩ := X
  intro H locs ls hX hP hS hl hT
  subst hAs
  obtain ⟨h1, h2, h3, h4⟩ := hL
  have hts : ∀ w ∈ Tb, w.before args s = true := hC.2.2.2.2.1
  have hR1 : d ≤ R.frames := hC.2.2.2.2.2.2.2.2.2.2.1
  have hR2 : 128 * d ≤ R.locals := hC.2.2.2.2.2.2.2.2.2.2.2.1
  refine u_afterA (X := (ρ, Y, cells, slots)) (S' := S') (Y' := Y') (v := v) (rest := rest) hC hX hB hS hl ?_ k
  exact va_runI (As := Bs) (rest := rest) (b := ρ a) ⟨hC.1, hC.2.1, hC.2.2.1, hC.2.2.2.1, hts⟩ (hM H.size) ⟨callB_of np hts (Tb_goodC h3) rfl rfl rfl (hts _ h2) (hts _ h1) h4 ⟨by show d' + 1 ≤ R.frames; omega, by show 8 + (maxL' + 11) + 128 * d' ≤ R.locals; omega⟩, hy1, hts _ hi⟩ ⟨fb_Wd, fun U hU hW' => ⟨rfl, by rw [hU], Wd_at (X := (ρ, Y, cells, slots)) hC hX hP hS hT U hU hW'⟩⟩ rfl hn (hl.1.trans hC.2.2.1) hst (lv_room hW) hdg ⟨hB.1, hB.2⟩
/-- a method of an object of ours that may make cells -/
theorem u_callVA (hC : CK C own cc nL ret d) (hM : Ma (cL C) (cG C) y cc' maxL' ret' d' mc ms X.1 X.2.1 As S v S' Y') (hB : XB C X mc ms) (hL : Lv own idx y cc' maxL' ret' np) {a ci : Nat} {Bs : List Value} (hAs : As = .ref (X.1 a) :: Bs) (hTa : Ty X.2.1 a ci) (hci : ci < 12) (hcl : y.cls = cN ci) (hd' : d' + 1 ≤ d) (hm : 19 + maxL' ≤ 128) (hn : Bs.length = np) {st : List Value} (hst : st = Bs.reverse ++ .ref (X.1 a) :: rest) (hW : (rest.map fun v => v.category).sum ≤ 8) (hdg : decode cc pc = .ok (.invokevirtual idx, 3))
    (k : ∀ ρ' : Nat → Nat, (∀ a k, Ty X.2.1 a k → ρ' a = X.1 a ∧ Ty Y' a k) → UW C (ρ', Y', X.2.2.1 + mc, X.2.2.2 + ms) S' (pc + 3) lv ((v ρ').toList ++ rest)) : UW C X S pc lv st := by
  obtain ⟨p, l, e, R, s, m, args, below, meth, c, Q, G, A⟩ := C
  obtain ⟨ρ, Y, cells, slots⟩ := X
  intro H locs ls hX hP hS hl hT
  subst hAs
  obtain ⟨⟨h1, h2, h3, h4⟩, h5, h6⟩ := hL
  have hts : ∀ w ∈ Tb, w.before args s = true := hC.2.2.2.2.1
  have hR1 : d ≤ R.frames := hC.2.2.2.2.2.2.2.2.2.2.1
  have hR2 : 128 * d ≤ R.locals := hC.2.2.2.2.2.2.2.2.2.2.2.1
  have hrecv : ∃ cell : Cell, H[ρ a]? = some cell ∧ cell.vm.isStatics = false ∧ s.vm.findClass y.cls = some cell.cls := by
    obtain ⟨dC, dI, cy, B0, sK, sV⟩ := G
    rw [hcl]
    exact va_recv (q := (cN ci, cT ci, nf ci)) hC.2.2.2.2.2.1.1 hP (cls_at ci hci) (q0 := a) (fs := ov ρ S ci a) (by rw [wl_at hTa.1, cf_obj hTa.2 hci])
  refine u_afterA (X := (ρ, Y, cells, slots)) (S' := S') (Y' := Y') (v := v) (rest := rest) hC hX hB hS hl ?_ k
  exact va_runV (As := Bs) (rest := rest) (C := y.cls) (b := ρ a) ⟨hC.1, hC.2.1, hC.2.2.1, hC.2.2.2.1, hts⟩ (hM H.size) ⟨callB_of np hts (Tb_goodC h3) rfl rfl rfl (hts _ h2) (hts _ h1) h4 ⟨by show d' + 1 ≤ R.frames; omega, by show 8 + (maxL' + 11) + 128 * d' ≤ R.locals; omega⟩, hts _ h5, hts _ h6⟩ ⟨fb_Wd, hrecv, fun U hU hW' => ⟨rfl, by rw [hU], Wd_at (X := (ρ, Y, cells, slots)) hC hX hP hS hT U hU hW'⟩⟩ rfl hn (hl.1.trans hC.2.2.1) hst (lv_room hW) hdg ⟨hB.1, hB.2⟩
end UCA
/-- the end of such a method -/
def RtA (C : CT) (ρ : Nat → Nat) (Y : XS) (cc : ByteArray) (ret : Option FieldType) (mc ms : Nat) (v : (Nat → Nat) → Option Value) (S' : PS) (Y' : XS) : Prop := ∀ ρ' : Nat → Nat, (∀ a k, Ty Y a k → ρ' a = ρ a ∧ Ty Y' a k) → ∀ k z, k ≤ mc → z ≤ ms → Rt C (ρ', Y', k, z) cc ret (v ρ') S'
theorem Ma_of {l : Launch} {G : GT} {y : MethodName} {cc : ByteArray} {maxL : Nat} {ret : Option FieldType} {d mc ms : Nat} {ρ : Nat → Nat} {Y : XS} {As : List Value} {S : PS} {v : (Nat → Nat) → Option Value} {S' : PS} {Y' : XS} (hl0 : l.stackTraces = false) (hy : plainName y.cls = true) (hlen : (lg_sl As).length ≤ maxL)
    (body : ∀ (C : CT), cL C = l → cG C = G → CK C y.cls cc maxL ret d → (y.name = "<init>" → CI C) → XB C (ρ, Y, 0, 0) mc ms → RtA C ρ Y cc ret mc ms v S' Y' → UW C (ρ, Y, 0, 0) S 0 (lv_args 0 As) []) : Ma l G y cc maxL ret d mc ms ρ Y As S v S' Y' := by
  intro sz
  refine Met.ofW (cc := cc) (maxL := maxL) (ret := ret) hy rfl ?_
  intro p e s m args below meth c s₁ B hml hv
  obtain ⟨rfl, hsz, hW⟩ := hv
  have hx := B.exec
  have hb := B.bytes
  have hr := B.returns
  have hts := atoms_spec (ws := .code y cc maxL ret :: Tb) B.pre
  have hown : s.vm.findClass y.cls = some m.cls := findClass_of_methodNamed B.named
  have hlocks := B.notSynchronized
  have hname := (name_of_methodNamed B.named B.method).1
  subst hsz
  have hl := lv_entry As (n := maxL) hlen
  rw [lg_entry_eq]
  generalize (lg_sl As ++ List.replicate (maxL - (lg_sl As).length) Slot.unset).toArray = ls at hl ⊢
  generalize hQc : (fun (_ : Array Value) (st : State) (oc : Outcome) (t : State) => ∃ ρ' : Nat → Nat, (∀ a k, Ty Y a k → ρ' a = ρ a ∧ Ty Y' a k) ∧ (∀ a, a < nX Y' → ¬ a < nX Y → s.heap.size ≤ ρ' a) ∧ oc = .returned (v ρ') ∧ Wd G ρ' Y' S' t ∧ va_F (aA ρ (nX Y) s.heap.size) st t) = Qc
  have hC : CK (p, l, e, rmd d mc ms, s, m, As.toArray, below, meth, c, MQ below Qc As.toArray s mc ms (aA ρ (nX Y) s.heap.size), G, aA ρ (nX Y) s.heap.size) y.cls cc maxL ret d := by
    refine ⟨hx, hb, hml, hown, fun w h => hts w (List.mem_cons_of_mem _ h), hW.2.1, fun q h => Or.inr h, ?_, hlocks, hr, Nat.le_refl _, Nat.le_refl _, hl0⟩
    rintro q (⟨a, ha, rfl⟩ | h)
    · exact hW.2.2.2.2.1 a ha
    · exact Nat.le_trans hW.2.2.2.2.2 h
  have hX : XO (p, l, e, rmd d mc ms, s, m, As.toArray, below, meth, c, MQ below Qc As.toArray s mc ms (aA ρ (nX Y) s.heap.size), G, aA ρ (nX Y) s.heap.size) (ρ, Y, 0, 0) := ⟨hW.2.2.2.1, fun a ha => Or.inl ⟨a, ha, rfl⟩, hW.2.2.2.2.1, Nat.zero_le _, Nat.zero_le _⟩
  refine body _ rfl rfl hC (fun h => by show meth.name = "<init>"; rw [hname, h]) ⟨by show 0 + mc ≤ mc; omega, by show 0 + ms ≤ ms; omega⟩ ?_ s.heap [] ls hX hW.1 va_S.rf (by rw [hml]; exact hl) hW.2.2.1
  intro ρ' hag k z hk hz pc lv hdec hok H locs ls hX hP hS hl hT
  refine W.widen hk hz ?_
  have hq : ∀ t : State, t.heap = H → s.WarmedH t.vm → Qc As.toArray s (.returned (v ρ')) t := fun t ht hWt => by
    rw [← hQc]
    refine ⟨ρ', hag, fun a ha hna => ?_, rfl, Wd_at (X := (ρ', Y', k, z)) hC hX hP hS hT t ht hWt, hS.F ht⟩
    rcases hX.2.1 a ha with ⟨b, hb2, e1⟩ | h
    · have hb3 := hag b (kd Y b) ⟨hb2, rfl⟩
      have : a = b := hX.1 a b ha hb3.2.1 (by rw [e1, hb3.1])
      omega
    · exact h
  generalize v ρ' = vv at *
  match ret, vv, hok, hdec, hr, hq with
  | none, none, _, hdec, hr, hq => exact W.vret hx hb hr hq hS.2.2 hdec
  | some .int, some (.int _), _, hdec, hr, hq => exact W.iret hx hb hr hq hS.2.2 hdec
  | some .boolean, some (.int x), hok, hdec, hr, hq => exact W.zret hx hb hr (by rcases hok with rfl | rfl <;> rfl) hq hS.2.2 hdec
  | some .long, some (.long _), _, hdec, hr, hq => exact W.lret hx hb hr hq hS.2.2 hdec
  | some .char, some (.int x), hok, hdec, hr, hq => exact W.zret hx hb hr hok hq hS.2.2 hdec
  | some .byte, some (.int x), hok, hdec, hr, hq => exact W.zret hx hb hr hok hq hS.2.2 hdec
  | some (.object _), some (.ref _), _, hdec, hr, hq => exact W.aret hx hb hr (Or.inl ⟨_, rfl⟩) (Or.inr ⟨_, rfl⟩) hq hS.2.2 hdec
