/-! rows that read and write the heap; calls; a method's contract -/
def inb (i : Int32) (n : Nat) : Bool := decide (¬ (i < 0 ∨ n ≤ i.toNatClampNeg))
theorem inb_in {i : Int32} {n : Nat} : inb i n = true ↔ vp_in i n := by unfold inb vp_in; simp
def kgi {α : Type} (S : PS) (a k : Nat) (K : Int32 → Option α) : Option α := K (gi S a k)
def kgr {α : Type} (S : PS) (a k : Nat) (K : Nat → Option α) : Option α := match gr S a k with
  | none => none
  | some b => K b
def kgq {α : Type} (S : PS) (a k : Nat) (K : Option Nat → Option α) : Option α := K (gr S a k)
def kai {α : Type} (Y : XS) (S : PS) (a : Nat) (i : Int32) (K : Int32 → Option α) : Option α := if inb i (ln Y a) = true then K (gi S a i.toNatClampNeg) else none
def kal {α : Type} (Y : XS) (S : PS) (a : Nat) (i : Int32) (K : Int64 → Option α) : Option α := if inb i (ln Y a) = true then K (gl S a i.toNatClampNeg) else none
def kar {α : Type} (Y : XS) (S : PS) (a : Nat) (i : Int32) (K : Nat → Option α) : Option α := if inb i (ln Y a) = true then (match gr S a i.toNatClampNeg with | none => none | some b => K b) else none
def kwi {α : Type} (Y : XS) (S : PS) (a : Nat) (i x : Int32) (K : PS → Option α) : Option α := if inb i (ln Y a) = true then K (si S a i.toNatClampNeg x) else none
def kwb {α : Type} (Y : XS) (S : PS) (a : Nat) (i x : Int32) (K : PS → Option α) : Option α := if inb i (ln Y a) = true then K (si S a i.toNatClampNeg x.toInt8.toInt32) else none
def kwz {α : Type} (Y : XS) (S : PS) (a : Nat) (i x : Int32) (K : PS → Option α) : Option α := if inb i (ln Y a) = true then K (si S a i.toNatClampNeg (x &&& 1)) else none
def kwl {α : Type} (Y : XS) (S : PS) (a : Nat) (i : Int32) (x : Int64) (K : PS → Option α) : Option α := if inb i (ln Y a) = true then K (sj S a i.toNatClampNeg x) else none
def kpi {α : Type} (S : PS) (a k : Nat) (v : Int32) (K : PS → Option α) : Option α := K (si S a k v)
def kpz {α : Type} (S : PS) (a k : Nat) (v : Int32) (K : PS → Option α) : Option α := if v = 0 ∨ v = 1 then K (si S a k v) else none
def kpr {α : Type} (S : PS) (a k : Nat) (r : Option Nat) (K : PS → Option α) : Option α := K (sr S a k r)
def kln {α : Type} (Y : XS) (a : Nat) (K : Int32 → Option α) : Option α := K (Int32.ofNat (ln Y a))
def kzr {α : Type} (v : Int32) (r : Option α) : Option α := if v = 0 ∨ v = 1 then r else none
def kc {α β : Type} (m : Option β) (K : β → Option α) : Option α := match m with
  | none => none
  | some b => K b
/-- arraycopy of ints -/
def sc (S : PS) (b : Nat) (f : Nat → Int32) : PS := (fun c j => if c = b then f j else S.1 c j, S.2.1, S.2.2)
def kcp {α : Type} (Y : XS) (S : PS) (a : Nat) (sp : Int32) (b : Nat) (dp n : Int32) (K : PS → Option α) : Option α :=
  if ¬ sp < 0 ∧ ¬ dp < 0 ∧ ¬ n < 0 ∧ sp.toNatClampNeg + n.toNatClampNeg ≤ ln Y a ∧ dp.toNatClampNeg + n.toNatClampNeg ≤ ln Y b then K (sc S b (va_cpy (S.1 a) (S.1 b) sp.toNatClampNeg dp.toNatClampNeg n.toNatClampNeg)) else none
def Lf (own : String) (idx ci k : Nat) : Prop := ci < 12 ∧ k < nf ci ∧ Cond.fieldLink own idx (cN ci) (cT ci k).2.1 (cT ci k).2.2.1 ∈ Tb
theorem cf_obj {cy : Nat → ClassId} {ρ : Nat → Nat} {Y : XS} {S : PS} {a ci : Nat} (h : kd Y a = ci) (hc : ci < 12) : cf cy ρ Y S a = .inr (ci, ov ρ S ci a) := by simp [cf, h, hc]
theorem cf_int {cy : Nat → ClassId} {ρ : Nat → Nat} {Y : XS} {S : PS} {a ci : Nat} (h : kd Y a = ci) (hc : 12 ≤ ci) (hc2 : ci < 15) : cf cy ρ Y S a = .inl (cy ci, ln Y a, .inl (S.1 a)) := by simp [cf, h, hc2, Nat.not_lt.mpr hc]
theorem cf_long {cy : Nat → ClassId} {ρ : Nat → Nat} {Y : XS} {S : PS} {a : Nat} (h : kd Y a = 15) : cf cy ρ Y S a = .inl (cy 15, ln Y a, .inr (.inl (S.2.1 a))) := by simp [cf, h]
theorem cf_refs {cy : Nat → ClassId} {ρ : Nat → Nat} {Y : XS} {S : PS} {a ci : Nat} (h : kd Y a = ci) (hc : 16 ≤ ci) : cf cy ρ Y S a = .inl (cy ci, ln Y a, .inr (.inr (.inr (.inr (fun j => (gr S a j).map ρ))))) := by
  simp [cf, h, show ¬ ci < 12 by omega, show ¬ ci < 15 by omega, show ¬ ci < 16 by omega]
theorem ov_int {ρ : Nat → Nat} {S : PS} {ci a k : Nat} (hk : k < nf ci) (hr : ft ci k = none) : (ov ρ S ci a)[k]? = some (.int (gi S a k)) := by simp [ov, hk, hr]
theorem ov_ref {ρ : Nat → Nat} {S : PS} {ci a k j : Nat} (hk : k < nf ci) (hr : ft ci k = some j) : (ov ρ S ci a)[k]? = some (va_rf ((gr S a k).map ρ)) := by simp [ov, hk, hr]
theorem ov_len {ρ : Nat → Nat} {S : PS} {ci a : Nat} : (ov ρ S ci a).length = nf ci := by simp [ov]
theorem gi_si {S : PS} {a k b j : Nat} {v : Int32} : gi (si S a k v) b j = if b = a ∧ j = k then v else gi S b j := rfl
theorem gl_si {S : PS} {a k b j : Nat} {v : Int32} : gl (si S a k v) b j = gl S b j := rfl
theorem gr_si {S : PS} {a k b j : Nat} {v : Int32} : gr (si S a k v) b j = gr S b j := rfl
theorem gi_sj {S : PS} {a k b j : Nat} {v : Int64} : gi (sj S a k v) b j = gi S b j := rfl
theorem gl_sj {S : PS} {a k b j : Nat} {v : Int64} : gl (sj S a k v) b j = if b = a ∧ j = k then v else gl S b j := rfl
theorem gr_sj {S : PS} {a k b j : Nat} {v : Int64} : gr (sj S a k v) b j = gr S b j := rfl
theorem gi_sr {S : PS} {a k b j : Nat} {v : Option Nat} : gi (sr S a k v) b j = gi S b j := rfl
theorem gl_sr {S : PS} {a k b j : Nat} {v : Option Nat} : gl (sr S a k v) b j = gl S b j := rfl
theorem gr_sr {S : PS} {a k b j : Nat} {v : Option Nat} : gr (sr S a k v) b j = if b = a ∧ j = k then v else gr S b j := rfl
theorem gi_sc {S : PS} {a b j : Nat} {f : Nat → Int32} : gi (sc S a f) b j = if b = a then f j else gi S b j := rfl
theorem gl_sc {S : PS} {a b j : Nat} {f : Nat → Int32} : gl (sc S a f) b j = gl S b j := rfl
theorem gr_sc {S : PS} {a b j : Nat} {f : Nat → Int32} : gr (sc S a f) b j = gr S b j := rfl
theorem up2_ne {α : Type} {f : Nat → Nat → α} {a k b : Nat} {v : α} (h : b ≠ a) : up2 f a k v b = f b := by funext j; simp [up2, h]
theorem up2_self {f : Nat → Nat → Int32} {a k : Nat} {v : Int32} : up2 f a k v a = upd (f a) k v := by funext j; simp [up2, upd]
theorem up2_selfL {f : Nat → Nat → Int64} {a k : Nat} {v : Int64} : up2 f a k v a = vp_updL (f a) k v := by funext j; simp [up2, vp_updL]
theorem cf_si {cy : Nat → ClassId} {ρ : Nat → Nat} {Y : XS} {S : PS} {a k b : Nat} {v : Int32} (h : b ≠ a) : cf cy ρ Y (si S a k v) b = cf cy ρ Y S b := by
  have h1 : (si S a k v).1 b = S.1 b := up2_ne h
  have h2 : ∀ j, gi (si S a k v) b j = gi S b j := fun j => congrFun h1 j
  simp only [cf, ov, h1, h2, gr_si]
  rfl
theorem cf_sc {cy : Nat → ClassId} {ρ : Nat → Nat} {Y : XS} {S : PS} {a b : Nat} {f : Nat → Int32} (h : b ≠ a) : cf cy ρ Y (sc S a f) b = cf cy ρ Y S b := by
  have h1 : (sc S a f).1 b = S.1 b := by funext j; simp [sc, h]
  have h2 : ∀ j, gi (sc S a f) b j = gi S b j := fun j => congrFun h1 j
  simp only [cf, ov, h1, h2, gr_sc]
  rfl
theorem cf_sj {cy : Nat → ClassId} {ρ : Nat → Nat} {Y : XS} {S : PS} {a k b : Nat} {v : Int64} (h : b ≠ a) : cf cy ρ Y (sj S a k v) b = cf cy ρ Y S b := by
  have h1 : (sj S a k v).2.1 b = S.2.1 b := up2_ne h
  simp only [cf, ov, h1, gi_sj, gr_sj]
  rfl
theorem cf_sr {cy : Nat → ClassId} {ρ : Nat → Nat} {Y : XS} {S : PS} {a k b : Nat} {v : Option Nat} (h : b ≠ a) : cf cy ρ Y (sr S a k v) b = cf cy ρ Y S b := by
  have h1 : ∀ j, gr (sr S a k v) b j = gr S b j := fun j => by simp [gr_sr, h]
  simp only [cf, ov, h1, gi_sr]
  rfl
theorem ov_si {ρ : Nat → Nat} {S : PS} {ci a k : Nat} {v : Int32} (hr : ft ci k = none) : ov ρ (si S a k v) ci a = (ov ρ S ci a).set k (.int v) := by
  apply List.ext_getElem?
  intro j
  by_cases hj : j = k
  · subst hj
    by_cases hn : j < nf ci
    · rw [List.getElem?_set_self (by rw [ov_len]; exact hn), ov_int hn hr]
      simp [gi_si]
    · rw [List.getElem?_eq_none (by rw [ov_len]; omega), List.getElem?_eq_none (by rw [List.length_set, ov_len]; omega)]
  · rw [List.getElem?_set_ne (fun q => hj q.symm)]
    simp only [ov, List.getElem?_map]
    cases hjn : (List.range (nf ci))[j]? with
    | none => rfl
    | some i =>
      have e : i = j := by
        have := List.getElem?_eq_some_iff.mp hjn
        obtain ⟨h1, h2⟩ := this
        simpa using h2.symm
      subst e
      simp [gi_si, gr_si, hj]
theorem ov_sr {ρ : Nat → Nat} {S : PS} {ci a k j0 : Nat} {v : Option Nat} (hr : ft ci k = some j0) : ov ρ (sr S a k v) ci a = (ov ρ S ci a).set k (va_rf (v.map ρ)) := by
  apply List.ext_getElem?
  intro j
  by_cases hj : j = k
  · subst hj
    by_cases hn : j < nf ci
    · rw [List.getElem?_set_self (by rw [ov_len]; exact hn), ov_ref hn hr]
      simp [gr_sr]
    · rw [List.getElem?_eq_none (by rw [ov_len]; omega), List.getElem?_eq_none (by rw [List.length_set, ov_len]; omega)]
  · rw [List.getElem?_set_ne (fun q => hj q.symm)]
    simp only [ov, List.getElem?_map]
    cases hjn : (List.range (nf ci))[j]? with
    | none => rfl
    | some i =>
      have e : i = j := by
        have := List.getElem?_eq_some_iff.mp hjn
        obtain ⟨h1, h2⟩ := this
        simpa using h2.symm
      subst e
      simp [gi_sr, gr_sr, hj]
theorem WT.si {Y : XS} {S : PS} {a k : Nat} {v : Int32} (h : WT Y S) : WT Y (si S a k v) := h
theorem WT.sj {Y : XS} {S : PS} {a k : Nat} {v : Int64} (h : WT Y S) : WT Y (sj S a k v) := h
theorem WT.sr {Y : XS} {S : PS} {a k ci j : Nat} {v : Option Nat} (h : WT Y S) (hT : Ty Y a ci) (hf : ft ci k = some j) (hv : ∀ b, v = some b → Ty Y b j) : WT Y (sr S a k v) := by
  intro b i c hb hc
  rw [gr_sr] at hc
  by_cases hq : b = a ∧ i = k
  · rw [if_pos hq] at hc
    obtain ⟨rfl, rfl⟩ := hq
    exact ⟨j, by rw [hT.2]; exact hf, hv c hc⟩
  · rw [if_neg hq] at hc
    exact h b i c hb hc
section UH
variable {C : CT} {X : XT} {S : PS} {own : String} {cc : ByteArray} {nL d : Nat} {ret : Option FieldType} {pc : Nat} {lv : List (Nat × Value)} {rest : List Value} {α : Type} {o : α}
theorem u_gi (hC : CK C own cc nL ret d) {a ci k idx : Nat} (hL : Lf own idx ci k) (hr : ft ci k = none) (hT0 : Ty X.2.1 a ci) (hd : decode cc pc = .ok (.getfield idx, 3)) {K : Int32 → Option α} (hf : kgi S a k K = some o) (kk : ∀ x, K x = some o → UW C X S (pc + 3) lv (.int x :: rest)) : UW C X S pc lv (.ref (X.1 a) :: rest) := by
  obtain ⟨p, l, e, R, s, m, args, below, meth, c, Q, ⟨dC, dI, cy, B0, sK, sV⟩, A⟩ := C
  obtain ⟨ρ, Y, cells, slots⟩ := X
  intro H locs ls hX hP hS hl hT
  exact va_get hC.1 hC.2.1 hC.2.2.2.2.1 (lay_in ci hL.1) hC.2.2.2.1 hC.2.2.2.2.2.1.1 hP a (by rw [wl_at hT0.1, cf_obj hT0.2 hL.1]) (cls_at ci hL.1) k hL.2.1 (hC.2.2.2.2.1 _ hL.2.2) (by rw [cT_own ci hL.1 k hL.2.1]; exact fun _ h => h) (ov_int hL.2.1 hr) hd (kk _ hf H locs ls hX hP hS hl hT)
theorem u_gr (hC : CK C own cc nL ret d) {a ci k j idx : Nat} (hL : Lf own idx ci k) (hr : ft ci k = some j) (hT0 : Ty X.2.1 a ci) (hd : decode cc pc = .ok (.getfield idx, 3)) {K : Nat → Option α} (hf : kgr S a k K = some o) (kk : ∀ b, Ty X.2.1 b j → K b = some o → UW C X S (pc + 3) lv (.ref (X.1 b) :: rest)) : UW C X S pc lv (.ref (X.1 a) :: rest) := by
  obtain ⟨p, l, e, R, s, m, args, below, meth, c, Q, ⟨dC, dI, cy, B0, sK, sV⟩, A⟩ := C
  obtain ⟨ρ, Y, cells, slots⟩ := X
  intro H locs ls hX hP hS hl hT
  unfold kgr at hf
  cases hg : gr S a k with
  | none => rw [hg] at hf; cases hf
  | some b =>
    rw [hg] at hf
    obtain ⟨j', hj', hb⟩ := hT a k b hT0.1 hg
    rw [hT0.2, hr] at hj'
    cases hj'
    exact va_get hC.1 hC.2.1 hC.2.2.2.2.1 (lay_in ci hL.1) hC.2.2.2.1 hC.2.2.2.2.2.1.1 hP a (by rw [wl_at hT0.1, cf_obj hT0.2 hL.1]) (cls_at ci hL.1) k hL.2.1 (hC.2.2.2.2.1 _ hL.2.2) (by rw [cT_own ci hL.1 k hL.2.1]; exact fun _ h => h) (by rw [ov_ref hL.2.1 hr, hg]; rfl) hd (kk b hb hf H locs ls hX hP hS hl hT)
theorem u_gq (hC : CK C own cc nL ret d) {a ci k j idx : Nat} (hL : Lf own idx ci k) (hr : ft ci k = some j) (hT0 : Ty X.2.1 a ci) (hd : decode cc pc = .ok (.getfield idx, 3)) {K : Option Nat → Option α} (hf : kgq S a k K = some o) (kk : ∀ r, (∀ b, r = some b → Ty X.2.1 b j) → K r = some o → UW C X S (pc + 3) lv (va_rf (r.map X.1) :: rest)) : UW C X S pc lv (.ref (X.1 a) :: rest) := by
  obtain ⟨p, l, e, R, s, m, args, below, meth, c, Q, ⟨dC, dI, cy, B0, sK, sV⟩, A⟩ := C
  obtain ⟨ρ, Y, cells, slots⟩ := X
  intro H locs ls hX hP hS hl hT
  refine va_get hC.1 hC.2.1 hC.2.2.2.2.1 (lay_in ci hL.1) hC.2.2.2.1 hC.2.2.2.2.2.1.1 hP a (by rw [wl_at hT0.1, cf_obj hT0.2 hL.1]) (cls_at ci hL.1) k hL.2.1 (hC.2.2.2.2.1 _ hL.2.2) (by rw [cT_own ci hL.1 k hL.2.1]; exact fun _ h => h) (ov_ref hL.2.1 hr) hd (kk _ (fun b hb => ?_) hf H locs ls hX hP hS hl hT)
  obtain ⟨j', hj', hb⟩ := hT a k b hT0.1 hb
  rw [hT0.2, hr] at hj'
  cases hj'
  exact hb
theorem u_pi (hC : CK C own cc nL ret d) {a ci k idx : Nat} (hL : Lf own idx ci k) (hr : ft ci k = none) (hy : cY ci k = .int) (hfin : (cT ci k).2.2.2 = false) (hT0 : Ty X.2.1 a ci) (hd : decode cc pc = .ok (.putfield idx, 3)) {v : Int32} {K : PS → Option α} (hf : kpi S a k v K = some o) (kk : ∀ S1, K S1 = some o → UW C X S1 (pc + 3) lv rest) : UW C X S pc lv (.int v :: .ref (X.1 a) :: rest) := by
  obtain ⟨p, l, e, R, s, m, args, below, meth, c, Q, ⟨dC, dI, cy, B0, sK, sV⟩, A⟩ := C
  obtain ⟨ρ, Y, cells, slots⟩ := X
  intro H locs ls hX hP hS hl hT
  refine va_put hC.1 hC.2.1 hC.2.2.2.2.1 (lay_in ci hL.1) (cY ci) (cY_ok ci hL.1) (cT_nm ci hL.1) hC.2.2.2.1 hC.2.2.2.2.2.1.1 hP (wl_D hX.1 hX.2.1) hS a (by rw [wl_at hT0.1, cf_obj hT0.2 hL.1]) (cls_at ci hL.1) k hL.2.1 (hC.2.2.2.2.1 _ hL.2.2) (by rw [cT_own ci hL.1 k hL.2.1]; exact fun _ h => h) hfin (ty := .int) (by rw [← hy]; exact cY_ok ci hL.1 k hL.2.1) rfl rfl (by rw [ov_len]; exact hL.2.1) hd (fun H1 locs1 hP1 _ hS1 => ?_)
  rw [wl_set (S' := si S a k v) hT0.1 (by rw [cf_obj hT0.2 hL.1, ov_si hr]) (fun b hb => cf_si hb)] at hP1
  exact kk _ hf H1 locs1 ls hX hP1 hS1 hl hT.si
theorem u_pz (hC : CK C own cc nL ret d) {a ci k idx : Nat} (hL : Lf own idx ci k) (hr : ft ci k = none) (hy : cY ci k = .boolean) (hfin : (cT ci k).2.2.2 = false) (hT0 : Ty X.2.1 a ci) (hd : decode cc pc = .ok (.putfield idx, 3)) {v : Int32} {K : PS → Option α} (hf : kpz S a k v K = some o) (kk : ∀ S1, K S1 = some o → UW C X S1 (pc + 3) lv rest) : UW C X S pc lv (.int v :: .ref (X.1 a) :: rest) := by
  obtain ⟨p, l, e, R, s, m, args, below, meth, c, Q, ⟨dC, dI, cy, B0, sK, sV⟩, A⟩ := C
  obtain ⟨ρ, Y, cells, slots⟩ := X
  intro H locs ls hX hP hS hl hT
  unfold kpz at hf
  by_cases hv : v = 0 ∨ v = 1
  · rw [if_pos hv] at hf
    have h1 : narrow .boolean (.int v) = .int v := by rcases hv with rfl | rfl <;> rfl
    have h2 : fits .boolean (.int v) = true := by rcases hv with rfl | rfl <;> rfl
    refine va_put hC.1 hC.2.1 hC.2.2.2.2.1 (lay_in ci hL.1) (cY ci) (cY_ok ci hL.1) (cT_nm ci hL.1) hC.2.2.2.1 hC.2.2.2.2.2.1.1 hP (wl_D hX.1 hX.2.1) hS a (by rw [wl_at hT0.1, cf_obj hT0.2 hL.1]) (cls_at ci hL.1) k hL.2.1 (hC.2.2.2.2.1 _ hL.2.2) (by rw [cT_own ci hL.1 k hL.2.1]; exact fun _ h => h) hfin (ty := .boolean) (by rw [← hy]; exact cY_ok ci hL.1 k hL.2.1) h1 h2 (by rw [ov_len]; exact hL.2.1) hd (fun H1 locs1 hP1 _ hS1 => ?_)
    rw [wl_set (S' := si S a k v) hT0.1 (by rw [cf_obj hT0.2 hL.1, ov_si hr]) (fun b hb => cf_si hb)] at hP1
    exact kk _ hf H1 locs1 ls hX hP1 hS1 hl hT.si
  · rw [if_neg hv] at hf; cases hf
theorem u_pr (hC : CK C own cc nL ret d) {a ci k idx j : Nat} (hL : Lf own idx ci k) (hr : ft ci k = some j) {tn : String} (hy : cY ci k = .object tn) (hfin : (cT ci k).2.2.2 = false) (hT0 : Ty X.2.1 a ci) (hd : decode cc pc = .ok (.putfield idx, 3)) {r : Option Nat} (hR : ∀ b, r = some b → Ty X.2.1 b j) {K : PS → Option α} (hf : kpr S a k r K = some o) (kk : ∀ S1, K S1 = some o → UW C X S1 (pc + 3) lv rest) : UW C X S pc lv (va_rf (r.map X.1) :: .ref (X.1 a) :: rest) := by
  obtain ⟨p, l, e, R, s, m, args, below, meth, c, Q, ⟨dC, dI, cy, B0, sK, sV⟩, A⟩ := C
  obtain ⟨ρ, Y, cells, slots⟩ := X
  intro H locs ls hX hP hS hl hT
  refine va_put hC.1 hC.2.1 hC.2.2.2.2.1 (lay_in ci hL.1) (cY ci) (cY_ok ci hL.1) (cT_nm ci hL.1) hC.2.2.2.1 hC.2.2.2.2.2.1.1 hP (wl_D hX.1 hX.2.1) hS a (by rw [wl_at hT0.1, cf_obj hT0.2 hL.1]) (cls_at ci hL.1) k hL.2.1 (hC.2.2.2.2.1 _ hL.2.2) (by rw [cT_own ci hL.1 k hL.2.1]; exact fun _ h => h) hfin (ty := .object tn) (by rw [← hy]; exact cY_ok ci hL.1 k hL.2.1) (by cases r <;> rfl) (by cases r <;> rfl) (by rw [ov_len]; exact hL.2.1) hd (fun H1 locs1 hP1 _ hS1 => ?_)
  rw [wl_set (S' := sr S a k r) hT0.1 (by rw [cf_obj hT0.2 hL.1, ov_sr hr]) (fun b hb => cf_sr hb)] at hP1
  exact kk _ hf H1 locs1 ls hX hP1 hS1 hl (hT.sr hT0 hr hR)
theorem u_ai (hC : CK C own cc nL ret d) {a : Nat} (hT0 : Ty X.2.1 a 12) (hd : decode cc pc = .ok (.iaload, 1)) {i : Int32} {K : Int32 → Option α} (hf : kai X.2.1 S a i K = some o) (kk : ∀ x, K x = some o → UW C X S (pc + 1) lv (.int x :: rest)) : UW C X S pc lv (.int i :: .ref (X.1 a) :: rest) := by
  obtain ⟨p, l, e, R, s, m, args, below, meth, c, Q, ⟨dC, dI, cy, B0, sK, sV⟩, A⟩ := C
  obtain ⟨ρ, Y, cells, slots⟩ := X
  intro H locs ls hX hP hS hl hT
  unfold kai at hf
  by_cases hi : inb i (ln Y a) = true
  · rw [if_pos hi] at hf
    exact va_iald hC.1 hC.2.1 hC.2.2.2.2.2.1.1 hP a 0 (by rw [wl_at hT0.1, cf_int hT0.2 (by decide) (by decide)]; rfl) rfl (inb_in.mp hi) hd (kk _ hf H locs ls hX hP hS hl hT)
  · rw [if_neg hi] at hf; cases hf
theorem u_ab (hC : CK C own cc nL ret d) {a : Nat} (hT0 : Ty X.2.1 a 13) (hd : decode cc pc = .ok (.baload, 1)) {i : Int32} {K : Int32 → Option α} (hf : kai X.2.1 S a i K = some o) (kk : ∀ x, K x = some o → UW C X S (pc + 1) lv (.int x :: rest)) : UW C X S pc lv (.int i :: .ref (X.1 a) :: rest) := by
  obtain ⟨p, l, e, R, s, m, args, below, meth, c, Q, ⟨dC, dI, cy, B0, sK, sV⟩, A⟩ := C
  obtain ⟨ρ, Y, cells, slots⟩ := X
  intro H locs ls hX hP hS hl hT
  unfold kai at hf
  by_cases hi : inb i (ln Y a) = true
  · rw [if_pos hi] at hf
    exact va_bald hC.1 hC.2.1 hC.2.2.2.2.2.1.1 hP a 1 (by rw [wl_at hT0.1, cf_int hT0.2 (by decide) (by decide)]; rfl) rfl (inb_in.mp hi) hd (kk _ hf H locs ls hX hP hS hl hT)
  · rw [if_neg hi] at hf; cases hf
theorem u_az (hC : CK C own cc nL ret d) {a : Nat} (hT0 : Ty X.2.1 a 14) (hd : decode cc pc = .ok (.baload, 1)) {i : Int32} {K : Int32 → Option α} (hf : kai X.2.1 S a i K = some o) (kk : ∀ x, K x = some o → UW C X S (pc + 1) lv (.int x :: rest)) : UW C X S pc lv (.int i :: .ref (X.1 a) :: rest) := by
  obtain ⟨p, l, e, R, s, m, args, below, meth, c, Q, ⟨dC, dI, cy, B0, sK, sV⟩, A⟩ := C
  obtain ⟨ρ, Y, cells, slots⟩ := X
  intro H locs ls hX hP hS hl hT
  unfold kai at hf
  by_cases hi : inb i (ln Y a) = true
  · rw [if_pos hi] at hf
    exact va_zald hC.1 hC.2.1 hC.2.2.2.2.2.1.1 hP a 2 (by rw [wl_at hT0.1, cf_int hT0.2 (by decide) (by decide)]; rfl) rfl (inb_in.mp hi) hd (kk _ hf H locs ls hX hP hS hl hT)
  · rw [if_neg hi] at hf; cases hf
theorem u_al (hC : CK C own cc nL ret d) {a : Nat} (hT0 : Ty X.2.1 a 15) (hd : decode cc pc = .ok (.laload, 1)) {i : Int32} {K : Int64 → Option α} (hf : kal X.2.1 S a i K = some o) (kk : ∀ x, K x = some o → UW C X S (pc + 1) lv (.long x :: rest)) : UW C X S pc lv (.int i :: .ref (X.1 a) :: rest) := by
  obtain ⟨p, l, e, R, s, m, args, below, meth, c, Q, ⟨dC, dI, cy, B0, sK, sV⟩, A⟩ := C
  obtain ⟨ρ, Y, cells, slots⟩ := X
  intro H locs ls hX hP hS hl hT
  unfold kal at hf
  by_cases hi : inb i (ln Y a) = true
  · rw [if_pos hi] at hf
    exact va_lald hC.1 hC.2.1 hC.2.2.2.2.2.1.1 hP a 3 (by rw [wl_at hT0.1, cf_long hT0.2]; rfl) rfl (inb_in.mp hi) hd (kk _ hf H locs ls hX hP hS hl hT)
  · rw [if_neg hi] at hf; cases hf
theorem u_ar (hC : CK C own cc nL ret d) {a ka j : Nat} (hka : (ka = 16 ∧ j = 1) ∨ (ka = 17 ∧ j = 5)) (hT0 : Ty X.2.1 a ka) (hd : decode cc pc = .ok (.aaload, 1)) {i : Int32} {K : Nat → Option α} (hf : kar X.2.1 S a i K = some o) (kk : ∀ b, Ty X.2.1 b j → K b = some o → UW C X S (pc + 1) lv (.ref (X.1 b) :: rest)) : UW C X S pc lv (.int i :: .ref (X.1 a) :: rest) := by
  obtain ⟨p, l, e, R, s, m, args, below, meth, c, Q, ⟨dC, dI, cy, B0, sK, sV⟩, A⟩ := C
  obtain ⟨ρ, Y, cells, slots⟩ := X
  intro H locs ls hX hP hS hl hT
  unfold kar at hf
  by_cases hi : inb i (ln Y a) = true
  · rw [if_pos hi] at hf
    cases hg : gr S a i.toNatClampNeg with
    | none => rw [hg] at hf; cases hf
    | some b =>
      rw [hg] at hf
      obtain ⟨j', hj', hb⟩ := hT a _ b hT0.1 hg
      rw [hT0.2] at hj'
      have hv : va_rf ((fun j => (gr S a j).map ρ) i.toNatClampNeg) = .ref (ρ b) := by show va_rf ((gr S a i.toNatClampNeg).map ρ) = _; rw [hg]; rfl
      rcases hka with ⟨rfl, rfl⟩ | ⟨rfl, rfl⟩
      · cases hj'
        refine va_aldq hC.1 hC.2.1 hC.2.2.2.2.2.1.1 hP a 4 (by rw [wl_at hT0.1, cf_refs hT0.2 (by decide)]) rfl (inb_in.mp hi) hd ?_
        rw [hv]
        exact kk b hb hf H locs ls hX hP hS hl hT
      · cases hj'
        refine va_aldq hC.1 hC.2.1 hC.2.2.2.2.2.1.1 hP a 5 (by rw [wl_at hT0.1, cf_refs hT0.2 (by decide)]) rfl (inb_in.mp hi) hd ?_
        rw [hv]
        exact kk b hb hf H locs ls hX hP hS hl hT
  · rw [if_neg hi] at hf; cases hf
theorem u_wi (hC : CK C own cc nL ret d) {a : Nat} (hT0 : Ty X.2.1 a 12) (hd : decode cc pc = .ok (.iastore, 1)) {i x : Int32} {K : PS → Option α} (hf : kwi X.2.1 S a i x K = some o) (kk : ∀ S1, K S1 = some o → UW C X S1 (pc + 1) lv rest) : UW C X S pc lv (.int x :: .int i :: .ref (X.1 a) :: rest) := by
  obtain ⟨p, l, e, R, s, m, args, below, meth, c, Q, ⟨dC, dI, cy, B0, sK, sV⟩, A⟩ := C
  obtain ⟨ρ, Y, cells, slots⟩ := X
  intro H locs ls hX hP hS hl hT
  unfold kwi at hf
  by_cases hi : inb i (ln Y a) = true
  · rw [if_pos hi] at hf
    refine va_iast hC.1 hC.2.1 hC.2.2.2.2.2.1.1 hP (wl_D hX.1 hX.2.1) hS a 0 (by rw [wl_at hT0.1, cf_int hT0.2 (by decide) (by decide)]) rfl (inb_in.mp hi) hd (fun H1 locs1 hP1 _ hS1 => ?_)
    rw [wl_set (S' := si S a i.toNatClampNeg x) hT0.1 (by rw [cf_int hT0.2 (by decide) (by decide)]; simp only [si, up2_self]) (fun b hb => cf_si hb)] at hP1
    exact kk _ hf H1 locs1 ls hX hP1 hS1 hl hT.si
  · rw [if_neg hi] at hf; cases hf
theorem u_wb (hC : CK C own cc nL ret d) {a : Nat} (hT0 : Ty X.2.1 a 13) (hd : decode cc pc = .ok (.bastore, 1)) {i x : Int32} {K : PS → Option α} (hf : kwb X.2.1 S a i x K = some o) (kk : ∀ S1, K S1 = some o → UW C X S1 (pc + 1) lv rest) : UW C X S pc lv (.int x :: .int i :: .ref (X.1 a) :: rest) := by
  obtain ⟨p, l, e, R, s, m, args, below, meth, c, Q, ⟨dC, dI, cy, B0, sK, sV⟩, A⟩ := C
  obtain ⟨ρ, Y, cells, slots⟩ := X
  intro H locs ls hX hP hS hl hT
  unfold kwb at hf
  by_cases hi : inb i (ln Y a) = true
  · rw [if_pos hi] at hf
    refine va_bast hC.1 hC.2.1 hC.2.2.2.2.2.1.1 hP (wl_D hX.1 hX.2.1) hS a 1 (by rw [wl_at hT0.1, cf_int hT0.2 (by decide) (by decide)]) rfl (inb_in.mp hi) hd (fun H1 locs1 hP1 _ hS1 => ?_)
    rw [vp_nar_byte, wl_set (S' := si S a i.toNatClampNeg x.toInt8.toInt32) hT0.1 (by rw [cf_int hT0.2 (by decide) (by decide)]; simp only [si, up2_self]) (fun b hb => cf_si hb)] at hP1
    exact kk _ hf H1 locs1 ls hX hP1 hS1 hl hT.si
  · rw [if_neg hi] at hf; cases hf
theorem u_wz (hC : CK C own cc nL ret d) {a : Nat} (hT0 : Ty X.2.1 a 14) (hd : decode cc pc = .ok (.bastore, 1)) {i x : Int32} {K : PS → Option α} (hf : kwz X.2.1 S a i x K = some o) (kk : ∀ S1, K S1 = some o → UW C X S1 (pc + 1) lv rest) : UW C X S pc lv (.int x :: .int i :: .ref (X.1 a) :: rest) := by
  obtain ⟨p, l, e, R, s, m, args, below, meth, c, Q, ⟨dC, dI, cy, B0, sK, sV⟩, A⟩ := C
  obtain ⟨ρ, Y, cells, slots⟩ := X
  intro H locs ls hX hP hS hl hT
  unfold kwz at hf
  by_cases hi : inb i (ln Y a) = true
  · rw [if_pos hi] at hf
    refine va_zast hC.1 hC.2.1 hC.2.2.2.2.2.1.1 hP (wl_D hX.1 hX.2.1) hS a 2 (by rw [wl_at hT0.1, cf_int hT0.2 (by decide) (by decide)]) rfl (inb_in.mp hi) hd (fun H1 locs1 hP1 _ hS1 => ?_)
    rw [show vp_nar .boolean x = x &&& 1 from rfl, wl_set (S' := si S a i.toNatClampNeg (x &&& 1)) hT0.1 (by rw [cf_int hT0.2 (by decide) (by decide)]; simp only [si, up2_self]) (fun b hb => cf_si hb)] at hP1
    exact kk _ hf H1 locs1 ls hX hP1 hS1 hl hT.si
  · rw [if_neg hi] at hf; cases hf
theorem u_wl (hC : CK C own cc nL ret d) {a : Nat} (hT0 : Ty X.2.1 a 15) (hd : decode cc pc = .ok (.lastore, 1)) {i : Int32} {x : Int64} {K : PS → Option α} (hf : kwl X.2.1 S a i x K = some o) (kk : ∀ S1, K S1 = some o → UW C X S1 (pc + 1) lv rest) : UW C X S pc lv (.long x :: .int i :: .ref (X.1 a) :: rest) := by
  obtain ⟨p, l, e, R, s, m, args, below, meth, c, Q, ⟨dC, dI, cy, B0, sK, sV⟩, A⟩ := C
  obtain ⟨ρ, Y, cells, slots⟩ := X
  intro H locs ls hX hP hS hl hT
  unfold kwl at hf
  by_cases hi : inb i (ln Y a) = true
  · rw [if_pos hi] at hf
    refine va_last hC.1 hC.2.1 hC.2.2.2.2.2.1.1 hP (wl_D hX.1 hX.2.1) hS a 3 (by rw [wl_at hT0.1, cf_long hT0.2]) rfl (inb_in.mp hi) hd (fun H1 locs1 hP1 _ hS1 => ?_)
    rw [wl_set (S' := sj S a i.toNatClampNeg x) hT0.1 (by rw [cf_long hT0.2]; simp only [sj, up2_selfL]) (fun b hb => cf_sj hb)] at hP1
    exact kk _ hf H1 locs1 ls hX hP1 hS1 hl hT.sj
  · rw [if_neg hi] at hf; cases hf
theorem u_ln (hC : CK C own cc nL ret d) {a : Nat} (hT0 : Ty X.2.1 a 12) (hd : decode cc pc = .ok (.arraylength, 1)) {K : Int32 → Option α} (hf : kln X.2.1 a K = some o) (kk : ∀ x, K x = some o → UW C X S (pc + 1) lv (.int x :: rest)) : UW C X S pc lv (.ref (X.1 a) :: rest) := by
  obtain ⟨p, l, e, R, s, m, args, below, meth, c, Q, ⟨dC, dI, cy, B0, sK, sV⟩, A⟩ := C
  obtain ⟨ρ, Y, cells, slots⟩ := X
  intro H locs ls hX hP hS hl hT
  exact va_alen hC.1 hC.2.1 hC.2.2.2.2.2.1.1 hP a 0 (by rw [wl_at hT0.1, cf_int hT0.2 (by decide) (by decide)]) (ty := .int) rfl rfl hd (kk _ hf H locs ls hX hP hS hl hT)
theorem u_lnl (hC : CK C own cc nL ret d) {a : Nat} (hT0 : Ty X.2.1 a 15) (hd : decode cc pc = .ok (.arraylength, 1)) {K : Int32 → Option α} (hf : kln X.2.1 a K = some o) (kk : ∀ x, K x = some o → UW C X S (pc + 1) lv (.int x :: rest)) : UW C X S pc lv (.ref (X.1 a) :: rest) := by
  obtain ⟨p, l, e, R, s, m, args, below, meth, c, Q, ⟨dC, dI, cy, B0, sK, sV⟩, A⟩ := C
  obtain ⟨ρ, Y, cells, slots⟩ := X
  intro H locs ls hX hP hS hl hT
  exact va_alen hC.1 hC.2.1 hC.2.2.2.2.2.1.1 hP a 3 (by rw [wl_at hT0.1, cf_long hT0.2]) (ty := .long) rfl rfl hd (kk _ hf H locs ls hX hP hS hl hT)
end UH
