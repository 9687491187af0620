/-! THE WORLD: one heap of numbered cells; a method's pure function speaks of it, the walk of its bytecode follows that function. -/
abbrev PS : Type := (Nat → Nat → Int32) × (Nat → Nat → Int64) × (Nat → Nat → Option Nat)
abbrev XS : Type := Nat × (Nat → Nat) × (Nat → Nat)
def gi (S : PS) (a k : Nat) : Int32 := S.1 a k
def gl (S : PS) (a k : Nat) : Int64 := S.2.1 a k
def gr (S : PS) (a k : Nat) : Option Nat := S.2.2 a k
def up2 {α : Type} (f : Nat → Nat → α) (a k : Nat) (v : α) : Nat → Nat → α := fun b j => if b = a ∧ j = k then v else f b j
def si (S : PS) (a k : Nat) (v : Int32) : PS := (up2 S.1 a k v, S.2.1, S.2.2)
def sj (S : PS) (a k : Nat) (v : Int64) : PS := (S.1, up2 S.2.1 a k v, S.2.2)
def sr (S : PS) (a k : Nat) (v : Option Nat) : PS := (S.1, S.2.1, up2 S.2.2 a k v)
def nX (Y : XS) : Nat := Y.1
def kd (Y : XS) (a : Nat) : Nat := Y.2.1 a
def ln (Y : XS) (a : Nat) : Nat := Y.2.2 a
def Ty (Y : XS) (a k : Nat) : Prop := a < nX Y ∧ kd Y a = k
def nf : Nat → Nat
  | 0 => 3
  | 1 => 7
  | 2 => 7
  | 3 => 3
  | 4 => 1
  | 5 => 13
  | 6 => 7
  | 7 => 15
  | 8 => 5
  | 9 => 2
  | 10 => 12
  | 11 => 38
  | _ => 0
def cN : Nat → String
  | 0 => RX0
  | 1 => RX1
  | 2 => RX2
  | 3 => RX3
  | 4 => RX4
  | 5 => RX5
  | 6 => RX6
  | 7 => RX7
  | 8 => RX8
  | 9 => RX9
  | 10 => RX10
  | 11 => RX11
  | _ => ""
def cT : Nat → u_T
  | 0 => TX0
  | 1 => TX1
  | 2 => TX2
  | 3 => TX3
  | 4 => TX4
  | 5 => TX5
  | 6 => TX6
  | 7 => TX7
  | 8 => TX8
  | 9 => TX9
  | 10 => TX10
  | 11 => TX11
  | _ => TX0
def cY : Nat → (Nat → FieldType)
  | 0 => tyX0
  | 1 => tyX1
  | 2 => tyX2
  | 3 => tyX3
  | 4 => tyX4
  | 5 => tyX5
  | 6 => tyX6
  | 7 => tyX7
  | 8 => tyX8
  | 9 => tyX9
  | 10 => tyX10
  | 11 => tyX11
  | _ => tyX0
/-- kinds: 0 to 11 the classes, 12 int[], 13 byte[], 14 boolean[], 15 long[], 16 Election[], 17 Outcome[]; what a field or element that is a reference refers to (none: it is a number) -/
def ft : Nat → Nat → Option Nat
  | 0, 0 => some 9
  | 0, 1 => some 8
  | 0, 2 => some 15
  | 1, 3 => some 4
  | 1, 4 => some 12
  | 1, 5 => some 12
  | 1, 6 => some 12
  | 2, 0 => some 12
  | 2, 1 => some 12
  | 2, 2 => some 12
  | 2, 3 => some 12
  | 2, 4 => some 12
  | 3, 0 => some 16
  | 4, 0 => some 12
  | 5, 0 => some 12
  | 5, 6 => some 12
  | 5, 7 => some 12
  | 5, 8 => some 12
  | 5, 9 => some 12
  | 5, 10 => some 12
  | 5, 12 => some 12
  | 6, 0 => some 1
  | 6, 1 => some 12
  | 6, 2 => some 12
  | 6, 3 => some 12
  | 6, 4 => some 12
  | 6, 5 => some 12
  | 6, 6 => some 12
  | 7, 0 => some 1
  | 7, 2 => some 13
  | 7, 10 => some 12
  | 7, 12 => some 12
  | 8, 0 => some 12
  | 8, 1 => some 12
  | 8, 2 => some 12
  | 8, 3 => some 12
  | 8, 4 => some 12
  | 9, 0 => some 12
  | 9, 1 => some 12
  | 10, 0 => some 7
  | 10, 2 => some 6
  | 10, 3 => some 17
  | 10, 5 => some 6
  | 10, 6 => some 5
  | 10, 7 => some 0
  | 10, 8 => some 2
  | 10, 9 => some 3
  | 10, 10 => some 1
  | 11, 0 => some 12
  | 11, 1 => some 12
  | 11, 2 => some 12
  | 11, 3 => some 12
  | 11, 4 => some 12
  | 11, 12 => some 12
  | 11, 13 => some 12
  | 11, 14 => some 12
  | 11, 15 => some 12
  | 11, 16 => some 12
  | 11, 17 => some 12
  | 11, 18 => some 12
  | 11, 19 => some 12
  | 11, 20 => some 12
  | 11, 24 => some 14
  | 11, 25 => some 15
  | 11, 26 => some 12
  | 11, 27 => some 12
  | 16, _ => some 1
  | 17, _ => some 5
  | _, _ => none
abbrev cls12 : List vw_C := [(RX0, TX0, 3), (RX1, TX1, 7), (RX2, TX2, 7), (RX3, TX3, 3), (RX4, TX4, 1), (RX5, TX5, 13), (RX6, TX6, 7), (RX7, TX7, 15), (RX8, TX8, 5), (RX9, TX9, 2), (RX10, TX10, 12), (RX11, TX11, 38)]
theorem cls_at : ∀ ci, ci < 12 → cls12[ci]? = some (cN ci, cT ci, nf ci)
  | 0, _ => rfl
  | 1, _ => rfl
  | 2, _ => rfl
  | 3, _ => rfl
  | 4, _ => rfl
  | 5, _ => rfl
  | 6, _ => rfl
  | 7, _ => rfl
  | 8, _ => rfl
  | 9, _ => rfl
  | 10, _ => rfl
  | 11, _ => rfl
  | n + 12, h => absurd h (by omega)
theorem cY_ok : ∀ ci, ci < 12 → ∀ k, k < nf ci → parseFieldDescriptor (cT ci k).2.2.1 = some (cY ci k)
  | 0, _ => tyX0_ok
  | 1, _ => tyX1_ok
  | 2, _ => tyX2_ok
  | 3, _ => tyX3_ok
  | 4, _ => tyX4_ok
  | 5, _ => tyX5_ok
  | 6, _ => tyX6_ok
  | 7, _ => tyX7_ok
  | 8, _ => tyX8_ok
  | 9, _ => tyX9_ok
  | 10, _ => tyX10_ok
  | 11, _ => tyX11_ok
  | n + 12, h => absurd h (by omega)
theorem cT_nm : ∀ ci, ci < 12 → ∀ a, a < nf ci → ∀ b, b < nf ci → a ≠ b → (cT ci a).2.1 ≠ (cT ci b).2.1
  | 0, _ => nmX0
  | 1, _ => nmX1
  | 2, _ => nmX2
  | 3, _ => nmX3
  | 4, _ => nmX4
  | 5, _ => nmX5
  | 6, _ => nmX6
  | 7, _ => nmX7
  | 8, _ => nmX8
  | 9, _ => nmX9
  | 10, _ => nmX10
  | 11, _ => nmX11
  | n + 12, h => absurd h (by omega)
theorem cT_own : ∀ ci, ci < 12 → ∀ k, k < nf ci → (cT ci k).1 = cN ci
  | 0, _ => by decide +kernel
  | 1, _ => by decide +kernel
  | 2, _ => by decide +kernel
  | 3, _ => by decide +kernel
  | 4, _ => by decide +kernel
  | 5, _ => by decide +kernel
  | 6, _ => by decide +kernel
  | 7, _ => by decide +kernel
  | 8, _ => by decide +kernel
  | 9, _ => by decide +kernel
  | 10, _ => by decide +kernel
  | 11, _ => by decide +kernel
  | n + 12, h => absurd h (by omega)
/-- the words that every method may lean on -/
def Tb : List Cond := lw_tbl.filter goodWord
theorem tq_1 {w : Cond} (h : w ∈ tables_1_1) : w ∈ tables_1 := by unfold tables_1; exact (List.mem_append_left _ h)
theorem tb_1 {w : Cond} (j : Nat) (h : tables_1_1[j]? = some w) (hg : goodWord w = true) : w ∈ Tb := List.mem_filter.mpr ⟨List.mem_append_right _ (tq_1 (List.mem_of_getElem? h)), hg⟩
theorem tq_2 {w : Cond} (h : w ∈ tables_1_2) : w ∈ tables_1 := by unfold tables_1; exact List.mem_append_right _ ((List.mem_append_left _ h))
theorem tb_2 {w : Cond} (j : Nat) (h : tables_1_2[j]? = some w) (hg : goodWord w = true) : w ∈ Tb := List.mem_filter.mpr ⟨List.mem_append_right _ (tq_2 (List.mem_of_getElem? h)), hg⟩
theorem tq_3 {w : Cond} (h : w ∈ tables_1_3) : w ∈ tables_1 := by unfold tables_1; exact List.mem_append_right _ (List.mem_append_right _ ((List.mem_append_left _ h)))
theorem tb_3 {w : Cond} (j : Nat) (h : tables_1_3[j]? = some w) (hg : goodWord w = true) : w ∈ Tb := List.mem_filter.mpr ⟨List.mem_append_right _ (tq_3 (List.mem_of_getElem? h)), hg⟩
theorem tq_4 {w : Cond} (h : w ∈ tables_1_4) : w ∈ tables_1 := by unfold tables_1; exact List.mem_append_right _ (List.mem_append_right _ (List.mem_append_right _ ((List.mem_append_left _ h))))
theorem tb_4 {w : Cond} (j : Nat) (h : tables_1_4[j]? = some w) (hg : goodWord w = true) : w ∈ Tb := List.mem_filter.mpr ⟨List.mem_append_right _ (tq_4 (List.mem_of_getElem? h)), hg⟩
theorem tq_5 {w : Cond} (h : w ∈ tables_1_5) : w ∈ tables_1 := by unfold tables_1; exact List.mem_append_right _ (List.mem_append_right _ (List.mem_append_right _ (List.mem_append_right _ ((List.mem_append_left _ h)))))
theorem tb_5 {w : Cond} (j : Nat) (h : tables_1_5[j]? = some w) (hg : goodWord w = true) : w ∈ Tb := List.mem_filter.mpr ⟨List.mem_append_right _ (tq_5 (List.mem_of_getElem? h)), hg⟩
theorem tq_6 {w : Cond} (h : w ∈ tables_1_6) : w ∈ tables_1 := by unfold tables_1; exact List.mem_append_right _ (List.mem_append_right _ (List.mem_append_right _ (List.mem_append_right _ (List.mem_append_right _ ((List.mem_append_left _ h))))))
theorem tb_6 {w : Cond} (j : Nat) (h : tables_1_6[j]? = some w) (hg : goodWord w = true) : w ∈ Tb := List.mem_filter.mpr ⟨List.mem_append_right _ (tq_6 (List.mem_of_getElem? h)), hg⟩
theorem tq_7 {w : Cond} (h : w ∈ tables_1_7) : w ∈ tables_1 := by unfold tables_1; exact List.mem_append_right _ (List.mem_append_right _ (List.mem_append_right _ (List.mem_append_right _ (List.mem_append_right _ (List.mem_append_right _ ((List.mem_append_left _ h)))))))
theorem tb_7 {w : Cond} (j : Nat) (h : tables_1_7[j]? = some w) (hg : goodWord w = true) : w ∈ Tb := List.mem_filter.mpr ⟨List.mem_append_right _ (tq_7 (List.mem_of_getElem? h)), hg⟩
theorem tq_8 {w : Cond} (h : w ∈ tables_1_8) : w ∈ tables_1 := by unfold tables_1; exact List.mem_append_right _ (List.mem_append_right _ (List.mem_append_right _ (List.mem_append_right _ (List.mem_append_right _ (List.mem_append_right _ (List.mem_append_right _ (h)))))))
theorem tb_8 {w : Cond} (j : Nat) (h : tables_1_8[j]? = some w) (hg : goodWord w = true) : w ∈ Tb := List.mem_filter.mpr ⟨List.mem_append_right _ (tq_8 (List.mem_of_getElem? h)), hg⟩
theorem tb_sel {q : MethodName × Nat} (h : q ∈ lw_privs) (hg : goodWord (.selects q.1.cls q.1 q.1) = true) : Cond.selects q.1.cls q.1 q.1 ∈ Tb := List.mem_filter.mpr ⟨List.mem_append_left _ (List.mem_map.mpr ⟨q, h, rfl⟩), hg⟩
theorem lay_in : ∀ ci, ci < 12 → ∀ w ∈ u_ws (cN ci) (cT ci) (nf ci), w ∈ Tb
  | 0, _ => fun w h => by
    obtain ⟨k, hk, rfl⟩ := List.mem_map.mp h
    have hk : k < 3 := List.mem_range.mp hk
    rcases (show k = 0 ∨ k = 1 ∨ k = 2 by omega) with rfl | rfl | rfl
    · exact tb_2 80 rfl rfl
    · exact tb_2 82 rfl rfl
    · exact tb_2 84 rfl rfl
  | 1, _ => fun w h => by
    obtain ⟨k, hk, rfl⟩ := List.mem_map.mp h
    have hk : k < 7 := List.mem_range.mp hk
    rcases (show k = 0 ∨ k = 1 ∨ k = 2 ∨ k = 3 ∨ k = 4 ∨ k = 5 ∨ k = 6 by omega) with rfl | rfl | rfl | rfl | rfl | rfl | rfl
    · exact tb_1 91 rfl rfl
    · exact tb_1 93 rfl rfl
    · exact tb_1 95 rfl rfl
    · exact tb_1 97 rfl rfl
    · exact tb_1 99 rfl rfl
    · exact tb_1 101 rfl rfl
    · exact tb_1 103 rfl rfl
  | 2, _ => fun w h => by
    obtain ⟨k, hk, rfl⟩ := List.mem_map.mp h
    have hk : k < 7 := List.mem_range.mp hk
    rcases (show k = 0 ∨ k = 1 ∨ k = 2 ∨ k = 3 ∨ k = 4 ∨ k = 5 ∨ k = 6 by omega) with rfl | rfl | rfl | rfl | rfl | rfl | rfl
    · exact tb_2 101 rfl rfl
    · exact tb_2 103 rfl rfl
    · exact tb_2 105 rfl rfl
    · exact tb_2 107 rfl rfl
    · exact tb_2 109 rfl rfl
    · exact tb_2 111 rfl rfl
    · exact tb_2 113 rfl rfl
  | 3, _ => fun w h => by
    obtain ⟨k, hk, rfl⟩ := List.mem_map.mp h
    have hk : k < 3 := List.mem_range.mp hk
    rcases (show k = 0 ∨ k = 1 ∨ k = 2 by omega) with rfl | rfl | rfl
    · exact tb_2 129 rfl rfl
    · exact tb_2 131 rfl rfl
    · exact tb_2 133 rfl rfl
  | 4, _ => fun w h => by
    obtain ⟨k, hk, rfl⟩ := List.mem_map.mp h
    have hk : k < 1 := List.mem_range.mp hk
    obtain rfl : k = 0 := by omega
    · exact tb_4 34 rfl rfl
  | 5, _ => fun w h => by
    obtain ⟨k, hk, rfl⟩ := List.mem_map.mp h
    have hk : k < 13 := List.mem_range.mp hk
    rcases (show k = 0 ∨ k = 1 ∨ k = 2 ∨ k = 3 ∨ k = 4 ∨ k = 5 ∨ k = 6 ∨ k = 7 ∨ k = 8 ∨ k = 9 ∨ k = 10 ∨ k = 11 ∨ k = 12 by omega) with rfl | rfl | rfl | rfl | rfl | rfl | rfl | rfl | rfl | rfl | rfl | rfl | rfl
    · exact tb_2 8 rfl rfl
    · exact tb_2 10 rfl rfl
    · exact tb_2 12 rfl rfl
    · exact tb_2 14 rfl rfl
    · exact tb_2 16 rfl rfl
    · exact tb_2 18 rfl rfl
    · exact tb_2 20 rfl rfl
    · exact tb_2 22 rfl rfl
    · exact tb_2 24 rfl rfl
    · exact tb_2 26 rfl rfl
    · exact tb_2 28 rfl rfl
    · exact tb_2 30 rfl rfl
    · exact tb_2 32 rfl rfl
  | 6, _ => fun w h => by
    obtain ⟨k, hk, rfl⟩ := List.mem_map.mp h
    have hk : k < 7 := List.mem_range.mp hk
    rcases (show k = 0 ∨ k = 1 ∨ k = 2 ∨ k = 3 ∨ k = 4 ∨ k = 5 ∨ k = 6 by omega) with rfl | rfl | rfl | rfl | rfl | rfl | rfl
    · exact tb_1 192 rfl rfl
    · exact tb_1 194 rfl rfl
    · exact tb_1 196 rfl rfl
    · exact tb_1 198 rfl rfl
    · exact tb_1 200 rfl rfl
    · exact tb_1 202 rfl rfl
    · exact tb_1 204 rfl rfl
  | 7, _ => fun w h => by
    obtain ⟨k, hk, rfl⟩ := List.mem_map.mp h
    have hk : k < 15 := List.mem_range.mp hk
    rcases (show k = 0 ∨ k = 1 ∨ k = 2 ∨ k = 3 ∨ k = 4 ∨ k = 5 ∨ k = 6 ∨ k = 7 ∨ k = 8 ∨ k = 9 ∨ k = 10 ∨ k = 11 ∨ k = 12 ∨ k = 13 ∨ k = 14 by omega) with rfl | rfl | rfl | rfl | rfl | rfl | rfl | rfl | rfl | rfl | rfl | rfl | rfl | rfl | rfl
    · exact tb_1 125 rfl rfl
    · exact tb_1 127 rfl rfl
    · exact tb_1 129 rfl rfl
    · exact tb_1 131 rfl rfl
    · exact tb_1 133 rfl rfl
    · exact tb_1 135 rfl rfl
    · exact tb_1 137 rfl rfl
    · exact tb_1 139 rfl rfl
    · exact tb_1 141 rfl rfl
    · exact tb_1 143 rfl rfl
    · exact tb_1 145 rfl rfl
    · exact tb_1 147 rfl rfl
    · exact tb_1 149 rfl rfl
    · exact tb_1 151 rfl rfl
    · exact tb_1 153 rfl rfl
  | 8, _ => fun w h => by
    obtain ⟨k, hk, rfl⟩ := List.mem_map.mp h
    have hk : k < 5 := List.mem_range.mp hk
    rcases (show k = 0 ∨ k = 1 ∨ k = 2 ∨ k = 3 ∨ k = 4 by omega) with rfl | rfl | rfl | rfl | rfl
    · exact tb_2 65 rfl rfl
    · exact tb_2 67 rfl rfl
    · exact tb_2 69 rfl rfl
    · exact tb_2 71 rfl rfl
    · exact tb_2 73 rfl rfl
  | 9, _ => fun w h => by
    obtain ⟨k, hk, rfl⟩ := List.mem_map.mp h
    have hk : k < 2 := List.mem_range.mp hk
    rcases (show k = 0 ∨ k = 1 by omega) with rfl | rfl
    · exact tb_2 49 rfl rfl
    · exact tb_2 51 rfl rfl
  | 10, _ => fun w h => by
    obtain ⟨k, hk, rfl⟩ := List.mem_map.mp h
    have hk : k < 12 := List.mem_range.mp hk
    rcases (show k = 0 ∨ k = 1 ∨ k = 2 ∨ k = 3 ∨ k = 4 ∨ k = 5 ∨ k = 6 ∨ k = 7 ∨ k = 8 ∨ k = 9 ∨ k = 10 ∨ k = 11 by omega) with rfl | rfl | rfl | rfl | rfl | rfl | rfl | rfl | rfl | rfl | rfl | rfl
    · exact tb_2 150 rfl rfl
    · exact tb_2 152 rfl rfl
    · exact tb_2 154 rfl rfl
    · exact tb_2 156 rfl rfl
    · exact tb_2 158 rfl rfl
    · exact tb_2 160 rfl rfl
    · exact tb_2 162 rfl rfl
    · exact tb_2 164 rfl rfl
    · exact tb_2 166 rfl rfl
    · exact tb_2 168 rfl rfl
    · exact tb_2 170 rfl rfl
    · exact tb_2 172 rfl rfl
  | 11, _ => fun w h => by
    obtain ⟨k, hk, rfl⟩ := List.mem_map.mp h
    have hk : k < 38 := List.mem_range.mp hk
    rcases (show k = 0 ∨ k = 1 ∨ k = 2 ∨ k = 3 ∨ k = 4 ∨ k = 5 ∨ k = 6 ∨ k = 7 ∨ k = 8 ∨ k = 9 ∨ k = 10 ∨ k = 11 ∨ k = 12 ∨ k = 13 ∨ k = 14 ∨ k = 15 ∨ k = 16 ∨ k = 17 ∨ k = 18 ∨ k = 19 ∨ k = 20 ∨ k = 21 ∨ k = 22 ∨ k = 23 ∨ k = 24 ∨ k = 25 ∨ k = 26 ∨ k = 27 ∨ k = 28 ∨ k = 29 ∨ k = 30 ∨ k = 31 ∨ k = 32 ∨ k = 33 ∨ k = 34 ∨ k = 35 ∨ k = 36 ∨ k = 37 by omega) with rfl | rfl | rfl | rfl | rfl | rfl | rfl | rfl | rfl | rfl | rfl | rfl | rfl | rfl | rfl | rfl | rfl | rfl | rfl | rfl | rfl | rfl | rfl | rfl | rfl | rfl | rfl | rfl | rfl | rfl | rfl | rfl | rfl | rfl | rfl | rfl | rfl | rfl
    · exact tb_6 64 rfl rfl
    · exact tb_6 66 rfl rfl
    · exact tb_6 68 rfl rfl
    · exact tb_6 70 rfl rfl
    · exact tb_6 72 rfl rfl
    · exact tb_6 74 rfl rfl
    · exact tb_6 76 rfl rfl
    · exact tb_6 78 rfl rfl
    · exact tb_6 80 rfl rfl
    · exact tb_6 82 rfl rfl
    · exact tb_6 84 rfl rfl
    · exact tb_6 86 rfl rfl
    · exact tb_6 88 rfl rfl
    · exact tb_6 90 rfl rfl
    · exact tb_6 92 rfl rfl
    · exact tb_6 94 rfl rfl
    · exact tb_6 96 rfl rfl
    · exact tb_6 98 rfl rfl
    · exact tb_6 100 rfl rfl
    · exact tb_6 102 rfl rfl
    · exact tb_6 104 rfl rfl
    · exact tb_6 106 rfl rfl
    · exact tb_6 108 rfl rfl
    · exact tb_6 110 rfl rfl
    · exact tb_6 112 rfl rfl
    · exact tb_6 114 rfl rfl
    · exact tb_6 116 rfl rfl
    · exact tb_6 118 rfl rfl
    · exact tb_6 120 rfl rfl
    · exact tb_6 122 rfl rfl
    · exact tb_6 124 rfl rfl
    · exact tb_6 126 rfl rfl
    · exact tb_6 128 rfl rfl
    · exact tb_6 130 rfl rfl
    · exact tb_6 132 rfl rfl
    · exact tb_6 134 rfl rfl
    · exact tb_6 136 rfl rfl
    · exact tb_6 138 rfl rfl
  | n + 12, h => absurd h (by omega)
def isNest : Cond → Bool
  | .methodLinkNest _ _ _ _ => true
  | .castable _ _ => true
  | .declares _ => true
  | _ => false
def nestT : List Cond := tables_1.filter isNest
theorem nt_1 {w : Cond} (j : Nat) (h : tables_1_1[j]? = some w) (hg : isNest w = true) : w ∈ nestT := List.mem_filter.mpr ⟨tq_1 (List.mem_of_getElem? h), hg⟩
theorem nt_2 {w : Cond} (j : Nat) (h : tables_1_2[j]? = some w) (hg : isNest w = true) : w ∈ nestT := List.mem_filter.mpr ⟨tq_2 (List.mem_of_getElem? h), hg⟩
theorem nt_3 {w : Cond} (j : Nat) (h : tables_1_3[j]? = some w) (hg : isNest w = true) : w ∈ nestT := List.mem_filter.mpr ⟨tq_3 (List.mem_of_getElem? h), hg⟩
theorem nt_4 {w : Cond} (j : Nat) (h : tables_1_4[j]? = some w) (hg : isNest w = true) : w ∈ nestT := List.mem_filter.mpr ⟨tq_4 (List.mem_of_getElem? h), hg⟩
theorem nt_5 {w : Cond} (j : Nat) (h : tables_1_5[j]? = some w) (hg : isNest w = true) : w ∈ nestT := List.mem_filter.mpr ⟨tq_5 (List.mem_of_getElem? h), hg⟩
theorem nt_6 {w : Cond} (j : Nat) (h : tables_1_6[j]? = some w) (hg : isNest w = true) : w ∈ nestT := List.mem_filter.mpr ⟨tq_6 (List.mem_of_getElem? h), hg⟩
theorem nt_7 {w : Cond} (j : Nat) (h : tables_1_7[j]? = some w) (hg : isNest w = true) : w ∈ nestT := List.mem_filter.mpr ⟨tq_7 (List.mem_of_getElem? h), hg⟩
theorem nt_8 {w : Cond} (j : Nat) (h : tables_1_8[j]? = some w) (hg : isNest w = true) : w ∈ nestT := List.mem_filter.mpr ⟨tq_8 (List.mem_of_getElem? h), hg⟩
theorem nest_warm {s U : State} (hW : s.WarmedH U.vm) (h : ∀ w ∈ nestT, va_Nw w s) : ∀ w ∈ nestT, va_Nw w U := by
  intro w hw
  have h1 := h w hw
  have h2 := (List.mem_filter.mp hw).2
  cases w <;> first | exact va_Nw.warmM hW h1 | exact va_Nw.warmC hW h1 | exact va_Nw.warmD hW h1 | (simp [isNest] at h2)
theorem nest_same {u U : State} (hv : u.vm = U.vm) (h : ∀ w ∈ nestT, va_Nw w u) : ∀ w ∈ nestT, va_Nw w U := by
  intro w hw
  have h1 := h w hw
  have h2 := (List.mem_filter.mp hw).2
  cases w <;> first | exact va_Nw.same rfl hv h1 | (simp [isNest] at h2)
def nStr : Nat := 24
def strO : Nat → String
  | 0 => "SharedPurse"
  | 1 => "SharedPurse$Reader"
  | 2 => "SharedPurse$Reader"
  | 3 => "SharedPurse$Reader"
  | 4 => "SharedPurse$Reader"
  | 5 => "SharedPurse$Reader"
  | 6 => "SharedPurse$Reader"
  | 7 => "SharedPurse$Reader"
  | 8 => "SharedPurse$Reader"
  | 9 => "SharedPurse"
  | 10 => "SharedPurse"
  | 11 => "SharedPurse"
  | 12 => "SharedPurse"
  | 13 => "SharedPurse"
  | 14 => "SharedPurse"
  | 15 => "SharedPurse"
  | 16 => "SharedPurseModel"
  | 17 => "SharedPurseModel"
  | 18 => "SharedPurseModel"
  | 19 => "SharedPurseModel"
  | 20 => "SharedPurseModel"
  | 21 => "SharedPurseModel"
  | 22 => "SharedPurseModel"
  | 23 => "SharedPurseModel"
  | _ => ""
def strI : Nat → Nat
  | 0 => 85
  | 1 => 79
  | 2 => 91
  | 3 => 96
  | 4 => 101
  | 5 => 189
  | 6 => 191
  | 7 => 193
  | 8 => 195
  | 9 => 313
  | 10 => 317
  | 11 => 319
  | 12 => 315
  | 13 => 187
  | 14 => 321
  | 15 => 323
  | 16 => 377
  | 17 => 383
  | 18 => 385
  | 19 => 387
  | 20 => 411
  | 21 => 413
  | 22 => 415
  | 23 => 417
  | _ => 0
def strT : Nat → String
  | 0 => "the tape has not so many"
  | 1 => "budget"
  | 2 => "project"
  | 3 => "votes"
  | 4 => "law"
  | 5 => "score"
  | 6 => "cost"
  | 7 => "liked"
  | 8 => "voters"
  | 9 => "no such what"
  | 10 => "no such project"
  | 11 => "no such voter"
  | 12 => "no such rule"
  | 13 => "not so many are chosen"
  | 14 => "no such group"
  | 15 => "not in its bounds"
  | 16 => "budget"
  | 17 => "project"
  | 18 => "votes"
  | 19 => "law"
  | 20 => "score"
  | 21 => "cost"
  | 22 => "liked"
  | 23 => "voters"
  | _ => ""
def strL : Nat → Nat
  | 0 => 24
  | 1 => 6
  | 2 => 7
  | 3 => 5
  | 4 => 3
  | 5 => 5
  | 6 => 4
  | 7 => 5
  | 8 => 6
  | 9 => 12
  | 10 => 15
  | 11 => 13
  | 12 => 12
  | 13 => 22
  | 14 => 13
  | 15 => 17
  | 16 => 6
  | 17 => 7
  | 18 => 5
  | 19 => 3
  | 20 => 5
  | 21 => 4
  | 22 => 5
  | 23 => 6
  | _ => 0
def strC : Nat → (List Int32)
  | 0 => [116, 104, 101, 32, 116, 97, 112, 101, 32, 104, 97, 115, 32, 110, 111, 116, 32, 115, 111, 32, 109, 97, 110, 121]
  | 1 => [98, 117, 100, 103, 101, 116]
  | 2 => [112, 114, 111, 106, 101, 99, 116]
  | 3 => [118, 111, 116, 101, 115]
  | 4 => [108, 97, 119]
  | 5 => [115, 99, 111, 114, 101]
  | 6 => [99, 111, 115, 116]
  | 7 => [108, 105, 107, 101, 100]
  | 8 => [118, 111, 116, 101, 114, 115]
  | 9 => [110, 111, 32, 115, 117, 99, 104, 32, 119, 104, 97, 116]
  | 10 => [110, 111, 32, 115, 117, 99, 104, 32, 112, 114, 111, 106, 101, 99, 116]
  | 11 => [110, 111, 32, 115, 117, 99, 104, 32, 118, 111, 116, 101, 114]
  | 12 => [110, 111, 32, 115, 117, 99, 104, 32, 114, 117, 108, 101]
  | 13 => [110, 111, 116, 32, 115, 111, 32, 109, 97, 110, 121, 32, 97, 114, 101, 32, 99, 104, 111, 115, 101, 110]
  | 14 => [110, 111, 32, 115, 117, 99, 104, 32, 103, 114, 111, 117, 112]
  | 15 => [110, 111, 116, 32, 105, 110, 32, 105, 116, 115, 32, 98, 111, 117, 110, 100, 115]
  | 16 => [98, 117, 100, 103, 101, 116]
  | 17 => [112, 114, 111, 106, 101, 99, 116]
  | 18 => [118, 111, 116, 101, 115]
  | 19 => [108, 97, 119]
  | 20 => [115, 99, 111, 114, 101]
  | 21 => [99, 111, 115, 116]
  | 22 => [108, 105, 107, 101, 100]
  | 23 => [118, 111, 116, 101, 114, 115]
  | _ => []
