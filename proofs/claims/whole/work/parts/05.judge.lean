/-! THE JUDGEMENT: UW C X S pc lv st: from the place pc, with locals lv, stack st and the heap S (cells at the addresses X.1), the machine comes to its end. -/
abbrev GT : Type := (Nat → ClassId) × (Nat → Nat → Nat) × (Nat → ClassId) × Nat × (Nat → Nat) × (Nat → Nat)
def strB (i j : Nat) : Int32 := (strC i).getD j 0
def tys6 (cy : Nat → ClassId) : List (ClassId × FieldType) := [(cy 12, .int), (cy 13, .byte), (cy 14, .boolean), (cy 15, .long), (cy 16, .object "SharedPurse$Election"), (cy 17, .object "SharedPurse$Outcome")]
def ov (ρ : Nat → Nat) (S : PS) (ci a : Nat) : List Value := (List.range (nf ci)).map (fun k => if (ft ci k).isSome = true then va_rf ((gr S a k).map ρ) else .int (gi S a k))
def cf (cy : Nat → ClassId) (ρ : Nat → Nat) (Y : XS) (S : PS) (a : Nat) : va_E :=
  if kd Y a < 12 then .inr (kd Y a, ov ρ S (kd Y a) a)
  else if kd Y a < 15 then .inl (cy (kd Y a), ln Y a, .inl (S.1 a))
  else if kd Y a < 16 then .inl (cy (kd Y a), ln Y a, .inr (.inl (S.2.1 a)))
  else .inl (cy (kd Y a), ln Y a, .inr (.inr (.inr (.inr (fun j => (gr S a j).map ρ)))))
def wl (cy : Nat → ClassId) (ρ : Nat → Nat) (Y : XS) (S : PS) : va_W := (List.range (nX Y)).map (fun a => (ρ a, cf cy ρ Y S a))
def WT (Y : XS) (S : PS) : Prop := ∀ a k b, a < nX Y → gr S a k = some b → ∃ j, ft (kd Y a) k = some j ∧ Ty Y b j
def aA (ρ : Nat → Nat) (n sz : Nat) : Nat → Prop := fun q => (∃ a, a < n ∧ q = ρ a) ∨ sz ≤ q
def Inj (ρ : Nat → Nat) (n : Nat) : Prop := ∀ a b, a < n → b < n → ρ a = ρ b → a = b
/-- what lies in the heap ahead of the law and is never written: the String constants, statics of the JDK -/
def Bs (B0 : Nat) (sK sV : Nat → Nat) (U : State) (H : Heap) : Prop :=
  (∀ i, i < nStr → vk_R (strO i) (strI i) (strT i) (sK i) U) ∧
  (∀ i, i < nStr → va_O "java/lang/String" (sK i) (fun q => B0 ≤ q) U H ∧ va_OF "java/lang/String" "coder" "B" (.int 0) (sK i) (fun q => B0 ≤ q) U H ∧ va_OF "java/lang/String" "value" "[B" (.ref (sV i)) (sK i) (fun q => B0 ≤ q) U H ∧ va_T .byte (sV i) (strL i) (fun j => .int (strB i j)) (fun q => B0 ≤ q) U H) ∧
  (vx_Zq Bundle.tN "UNASSIGNED_STACK" Bundle.steD (fun q => B0 ≤ q) U H ∧ vx_Zq Bundle.tN "SUPPRESSED_SENTINEL" Bundle.listD (fun q => B0 ≤ q) U H) ∧
  va_Z "java/lang/String" "COMPACT_STRINGS" "Z" (.int 1) (fun q => B0 ≤ q) U H ∧ va_Zq "jdk/internal/util/Preconditions" "SIOOBE_FORMATTER" "Ljava/util/function/BiFunction;" (fun q => B0 ≤ q) U H ∧
  va_AO "SharedPurse$Election" U ∧ va_AO "SharedPurse$Outcome" U
theorem Bs.warm {B0 : Nat} {sK sV : Nat → Nat} {s U : State} {H : Heap} (hW : s.WarmedH U.vm) (h : Bs B0 sK sV s H) : Bs B0 sK sV U H :=
  have hvm := hW.alike
  ⟨fun i hi => vk_R.warm hW (h.1 i hi), fun i hi => ⟨va_O.moved hvm (h.2.1 i hi).1, va_OF.moved hvm (h.2.1 i hi).2.1, va_OF.moved hvm (h.2.1 i hi).2.2.1, va_T.moved hvm (h.2.1 i hi).2.2.2⟩, ⟨vx_Zq.moved hvm h.2.2.1.1, vx_Zq.moved hvm h.2.2.1.2⟩, va_Z.moved hvm h.2.2.2.1, va_Zq.moved hvm h.2.2.2.2.1, va_AO.moved hvm h.2.2.2.2.2.1, va_AO.moved hvm h.2.2.2.2.2.2⟩
theorem Bs.same {B0 : Nat} {sK sV : Nat → Nat} {s U : State} {H : Heap} (hv : U.vm = s.vm) (h : Bs B0 sK sV s H) : Bs B0 sK sV U H :=
  have hvm : s.vm.Alike U.vm := by rw [hv]; exact Vm.Alike.refl s.vm
  ⟨fun i hi => vk_R.same hv (h.1 i hi), fun i hi => ⟨va_O.moved hvm (h.2.1 i hi).1, va_OF.moved hvm (h.2.1 i hi).2.1, va_OF.moved hvm (h.2.1 i hi).2.2.1, va_T.moved hvm (h.2.1 i hi).2.2.2⟩, ⟨vx_Zq.moved hvm h.2.2.1.1, vx_Zq.moved hvm h.2.2.1.2⟩, va_Z.moved hvm h.2.2.2.1, va_Zq.moved hvm h.2.2.2.2.1, va_AO.moved hvm h.2.2.2.2.2.1, va_AO.moved hvm h.2.2.2.2.2.2⟩
theorem Bs.kept {B0 : Nat} {sK sV : Nat → Nat} {U : State} {H H1 : Heap} (h : Bs B0 sK sV U H) (hq : ∀ a : Nat, a < H.size → ¬ B0 ≤ a → H1[a]? = H[a]?) : Bs B0 sK sV U H1 :=
  ⟨h.1, fun i hi => ⟨(h.2.1 i hi).1.kept hq, (h.2.1 i hi).2.1.kept hq, (h.2.1 i hi).2.2.1.kept hq, (h.2.1 i hi).2.2.2.kept hq⟩, ⟨h.2.2.1.1.kept hq, h.2.2.1.2.kept hq⟩, h.2.2.2.1.kept hq, h.2.2.2.2.1.kept hq, h.2.2.2.2.2⟩
def Kw (G : GT) (U : State) (H : Heap) : Prop := match G with
  | (dC, dI, cy, B0, sK, sV) => va_K (dC, dI) cls12 (tys6 cy) U ∧ (∀ w ∈ nestT, va_Nw w U) ∧ Bs B0 sK sV U H
theorem Kw.warm {G : GT} {s U : State} {H : Heap} (hW : s.WarmedH U.vm) (h : Kw G s H) : Kw G U H := by
  obtain ⟨dC, dI, cy, B0, sK, sV⟩ := G
  exact ⟨va_K.moved hW.alike h.1, nest_warm hW h.2.1, h.2.2.warm hW⟩
theorem Kw.same {G : GT} {s U : State} {H : Heap} (hv : U.vm = s.vm) (h : Kw G s H) : Kw G U H := by
  obtain ⟨dC, dI, cy, B0, sK, sV⟩ := G
  exact ⟨va_K.moved (by rw [hv]; exact Vm.Alike.refl s.vm) h.1, nest_same hv.symm h.2.1, h.2.2.same hv⟩
def gB (G : GT) : Nat := G.2.2.2.1
theorem Kw.kept {G : GT} {U : State} {H H1 : Heap} (h : Kw G U H) (hq : ∀ a : Nat, a < H.size → ¬ gB G ≤ a → H1[a]? = H[a]?) : Kw G U H1 := by
  obtain ⟨dC, dI, cy, B0, sK, sV⟩ := G
  exact ⟨h.1, h.2.1, h.2.2.kept hq⟩
/-- the world of a method: cells, tables, what lies below -/
def Wc (G : GT) (ρ : Nat → Nat) (Y : XS) (S : PS) (H : Heap) : Prop := match G with
  | (dC, dI, cy, _, _, _) => va_P (dC, dI) cls12 (wl cy ρ Y S) H
def Wd (G : GT) (ρ : Nat → Nat) (Y : XS) (S : PS) (U : State) : Prop :=
  Wc G ρ Y S U.heap ∧ Kw G U U.heap ∧ WT Y S ∧ Inj ρ (nX Y) ∧ (∀ a, a < nX Y → gB G ≤ ρ a) ∧ gB G ≤ U.heap.size
theorem Wd.same {G : GT} {ρ : Nat → Nat} {Y : XS} {S : PS} {s U : State} (hv : U.vm = s.vm) (hh : U.heap = s.heap) (h : Wd G ρ Y S s) : Wd G ρ Y S U := by
  obtain ⟨h1, h2, h3⟩ := h
  refine ⟨by rw [hh]; exact h1, by rw [hh]; exact h2.same hv, by rw [hh]; exact h3⟩
theorem wl_at {cy : Nat → ClassId} {ρ : Nat → Nat} {Y : XS} {S : PS} {a : Nat} (h : a < nX Y) : (wl cy ρ Y S)[a]? = some (ρ a, cf cy ρ Y S a) := by simp [wl, h]
theorem wl_len {cy : Nat → ClassId} {ρ : Nat → Nat} {Y : XS} {S : PS} : (wl cy ρ Y S).length = nX Y := by simp [wl]
theorem wl_set {cy : Nat → ClassId} {ρ : Nat → Nat} {Y : XS} {S S' : PS} {a : Nat} {e : va_E} (h : a < nX Y) (he : cf cy ρ Y S' a = e) (ho : ∀ b, b ≠ a → cf cy ρ Y S' b = cf cy ρ Y S b) : (wl cy ρ Y S).set a (ρ a, e) = wl cy ρ Y S' := by
  apply List.ext_getElem?
  intro j
  by_cases hj : j = a
  · subst hj
    rw [List.getElem?_set_self (by rw [wl_len]; exact h), wl_at h, he]
  · rw [List.getElem?_set_ne (fun q => hj q.symm)]
    by_cases hn : j < nX Y
    · rw [wl_at hn, wl_at hn, ho j hj]
    · rw [List.getElem?_eq_none (by rw [wl_len]; omega), List.getElem?_eq_none (by rw [wl_len]; omega)]
theorem wl_D {cy : Nat → ClassId} {ρ : Nat → Nat} {Y : XS} {S : PS} {A : Nat → Prop} (hi : Inj ρ (nX Y)) (hA : ∀ a, a < nX Y → A (ρ a)) : va_D A (wl cy ρ Y S) := by
  have key : ∀ (k : Nat) (q : Nat × va_E), (wl cy ρ Y S)[k]? = some q → k < nX Y ∧ q.1 = ρ k := by
    intro k q hk
    have hl : k < nX Y := by
      have := (List.getElem?_eq_some_iff.mp hk).1
      rw [wl_len] at this
      exact this
    rw [wl_at hl] at hk
    cases hk
    exact ⟨hl, rfl⟩
  refine ⟨fun i j p q h1 h2 e => ?_, fun k q hk => ?_⟩
  · obtain ⟨a1, a2⟩ := key i p h1
    obtain ⟨b1, b2⟩ := key j q h2
    exact hi i j a1 b1 (by rw [← a2, ← b2]; exact e)
  · obtain ⟨a1, a2⟩ := key k q hk
    rw [a2]
    exact hA k a1
theorem wl_A {cy : Nat → ClassId} {ρ : Nat → Nat} {Y : XS} {S : PS} {sz q : Nat} : va_A (wl cy ρ Y S) sz q ↔ aA ρ (nX Y) sz q := by
  constructor
  · rintro (⟨k, e, h⟩ | h)
    · have hl : k < nX Y := by
        have := (List.getElem?_eq_some_iff.mp h).1
        rw [wl_len] at this
        exact this
      rw [wl_at hl] at h
      cases h
      exact Or.inl ⟨k, hl, rfl⟩
    · exact Or.inr h
  · rintro (⟨a, ha, rfl⟩ | h)
    · exact Or.inl ⟨a, _, wl_at ha⟩
    · exact Or.inr h
abbrev CT : Type := Program × Launch × Env × Room × State × MethodId × Array Value × List Frame × Method × Code × (State → Prop) × GT × (Nat → Prop)
/-- addresses, kinds and lengths, cells and slots made so far -/
abbrev XT : Type := (Nat → Nat) × XS × Nat × Nat
def rmd (d k z : Nat) : Room := { frames := d, cells := k, slots := z, locals := 128 * d }
/-- the frame's fixed facts -/
def CK (C : CT) (own : String) (cc : ByteArray) (nL : Nat) (ret : Option FieldType) (d : Nat) : Prop := match C with
  | (p, l, _, R, s, m, args, _, meth, c, _, G, A) => p.tables.exec = Jvm.exec ∧ c.code = cc ∧ c.maxLocals = nL ∧ s.vm.findClass own = some m.cls ∧ (∀ w ∈ Tb, w.before args s = true) ∧ Kw G s s.heap ∧ (∀ q, s.heap.size ≤ q → A q) ∧ (∀ q, A q → gB G ≤ q) ∧ meth.locks = false ∧ meth.sig.returnType = ret ∧ d ≤ R.frames ∧ 128 * d ≤ R.locals ∧ l.stackTraces = false
def XO (C : CT) (X : XT) : Prop := match C, X with
  | (_, _, _, R, _, _, _, _, _, _, _, G, A), (ρ, Y, cells, slots) => Inj ρ (nX Y) ∧ (∀ a, a < nX Y → A (ρ a)) ∧ (∀ a, a < nX Y → gB G ≤ ρ a) ∧ cells ≤ R.cells ∧ slots ≤ R.slots
def UW (C : CT) (X : XT) (S : PS) (pc : Nat) (lv : List (Nat × Value)) (st : List Value) : Prop := match C, X with
  | (p, l, e, R, s, m, args, below, meth, c, Q, G, A), (ρ, Y, cells, slots) => ∀ (H : Heap) (locs : List Loc) (ls : Array Slot), XO (p, l, e, R, s, m, args, below, meth, c, Q, G, A) (ρ, Y, cells, slots) → Wc G ρ Y S H → va_S A s.heap H locs → lv_has ls c.maxLocals lv → WT Y S → W p l e R s m args below meth c H locs cells slots Q (F0 m pc ls st)
