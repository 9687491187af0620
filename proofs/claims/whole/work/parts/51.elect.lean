/-! ELECTIONS: what an Election cell holds, its methods; laws as code. -/
abbrev LF : Type := Int32 → Int32 → Int32 → Int32 → Int32
abbrev EL : Type := Nat × Nat × Nat × (Nat → Nat) × (Nat → Nat → Int32) × (Nat → Nat → Nat) × Option LF
def eM (A : EL) : Nat := A.1
def eP (A : EL) : Nat := A.2.1
def eV (A : EL) : Nat := A.2.2.1
def eC (A : EL) : Nat → Nat := A.2.2.2.1
def eNm (A : EL) : Nat → Nat → Int32 := A.2.2.2.2.1
def eS (A : EL) : Nat → Nat → Nat := A.2.2.2.2.2.1
def eL (A : EL) : Option LF := A.2.2.2.2.2.2
def EW (A : EL) : Prop := eM A ≤ 99999 ∧ eP A ≤ 12 ∧ eV A ≤ 24 ∧ (∀ p, p < eP A → 1 ≤ eC A p ∧ eC A p ≤ 9999) ∧ (∀ p v, p < eP A → v < eV A → eS A p v ≤ 9)
def vOf (c s co l vo : Int32) : Int32 := if c = -4 then vo else if c = -3 then l else if c = -2 then co else if c = -1 then s else c
def jn (c a b : Int32) : Int32 := if c = -7 then a * b else if c = -6 then a - b else if c = -5 then a + b else if b = 0 then 0 else a / b
/-- a law's code over a stack (its top first); none: too many wait, or too few -/
def runC (s co l vo : Int32) : List Int32 → List Int32 → Option (List Int32)
  | [], st => some st
  | c :: cs, st => if c ≤ -5 then (match st with
      | b :: a :: r => runC s co l vo cs (jn c a b :: r)
      | _ => none) else if st.length < 15 then runC s co l vo cs (vOf c s co l vo :: st) else none
def LawOK (code : List Int32) (f : LF) : Prop := ∀ s co l vo, runC s co l vo code [] = some [f s co l vo]
def LawV (Y : XS) (S : PS) : Option Nat → Option LF → Prop
  | none, none => True
  | some l, some f => ∃ (c : Nat) (code : List Int32), 235 ≤ l ∧ l < nX Y ∧ 235 ≤ c ∧ c < nX Y ∧ gr S l 0 = some c ∧ ln Y c = code.length ∧ code.length ≤ 500 ∧ (∀ j, j < code.length → gi S c j = code.getD j 0) ∧ LawOK code f
  | _, _ => False
/-- the heap of the laws is the same -/
def LH (S S' : PS) : Prop := ∀ b, 235 ≤ b → S'.1 b = S.1 b ∧ S'.2.2 b = S.2.2 b
theorem LH.rf {S : PS} : LH S S := fun _ _ => ⟨rfl, rfl⟩
theorem LH.tr {S S' S'' : PS} (h : LH S S') (k : LH S' S'') : LH S S'' := fun b hb => ⟨(k b hb).1.trans (h b hb).1, (k b hb).2.trans (h b hb).2⟩
theorem LH.fr {M : Nat → Prop} {S S' : PS} (h : Fr M S S') (k : ∀ b, 235 ≤ b → ¬ M b) : LH S S' := fun b hb => ⟨h.2.2 b (k b hb), by rw [h.2.1]⟩
theorem LawV.mv {Y : XS} {S S' : PS} {r : Option Nat} {f : Option LF} (hh : LH S S') (h : LawV Y S r f) : LawV Y S' r f := by
  cases r with
  | none => cases f with
    | none => exact h
    | some f => exact h
  | some l => cases f with
    | none => exact h
    | some f =>
      obtain ⟨c, code, h1, h2, h3, h4, h5, h6, h7, h8, h9⟩ := h
      refine ⟨c, code, h1, h2, h3, h4, ?_, h6, h7, fun j hj => ?_, h9⟩
      · show S'.2.2 l 0 = some c
        rw [(hh l h1).2]
        exact h5
      · show S'.1 c j = _
        rw [(hh c h3).1]
        exact h8 j hj
def SE (Y : XS) (S : PS) (e : Nat) : Prop := gr S e 4 = some (e + 1) ∧ gr S e 5 = some (e + 2) ∧ gr S e 6 = some (e + 3) ∧ ln Y (e + 1) = 12 ∧ ln Y (e + 2) = 72 ∧ ln Y (e + 3) = 288
def EV (Y : XS) (S : PS) (e : Nat) (A : EL) : Prop := gi S e 0 = nI (eM A) ∧ gi S e 1 = nI (eP A) ∧ gi S e 2 = nI (eV A) ∧ (∀ p, p < eP A → gi S (e + 1) p = nI (eC A p)) ∧ (∀ p k, p < eP A → k < 6 → gi S (e + 2) (p * 6 + k) = eNm A p k) ∧ (∀ p v, p < eP A → v < eV A → gi S (e + 3) (p * 24 + v) = nI (eS A p v)) ∧ LawV Y S (gr S e 3) (eL A) ∧ EW A
/-- only the election e was changed, its law is r -/
def FE (e : Nat) (r : Option Nat) (S S' : PS) : Prop := S'.2.1 = S.2.1 ∧ S'.2.2 = up2 S.2.2 e 3 r ∧ ∀ b, (b < e ∨ e + 4 ≤ b) → S'.1 b = S.1 b
theorem FE.gr {e : Nat} {r : Option Nat} {S S' : PS} (h : FE e r S S') (b k : Nat) : gr S' b k = if b = e ∧ k = 3 then r else gr S b k := by
  show S'.2.2 b k = _
  rw [h.2.1]
  rfl
theorem FE.gi {e : Nat} {r : Option Nat} {S S' : PS} (h : FE e r S S') {b : Nat} (hb : b < e ∨ e + 4 ≤ b) (k : Nat) : gi S' b k = gi S b k := congrFun (h.2.2 b hb) k
theorem FE.lh {e : Nat} {r : Option Nat} {S S' : PS} (h : FE e r S S') (he : e + 4 ≤ 235) : LH S S' := by
  intro b hb
  refine ⟨h.2.2 b (by omega), ?_⟩
  rw [h.2.1]
  funext k
  show (if b = e ∧ k = 3 then r else S.2.2 b k) = _
  rw [if_neg]
  rintro ⟨q, _⟩
  omega
theorem SE.fr {Y : XS} {S S' : PS} {e : Nat} (h : SE Y S e) (hf : S'.2.2 = S.2.2) : SE Y S' e := by
  unfold SE gr at *
  rw [hf]
  exact h
theorem SE.fe {Y : XS} {S S' : PS} {e e' : Nat} {r : Option Nat} (h : SE Y S e) (hf : FE e' r S S') : SE Y S' e := by
  obtain ⟨h1, h2, h3, h4⟩ := h
  refine ⟨?_, ?_, ?_, h4⟩
  · rw [hf.gr, if_neg (fun q => absurd q.2 (by decide))]; exact h1
  · rw [hf.gr, if_neg (fun q => absurd q.2 (by decide))]; exact h2
  · rw [hf.gr, if_neg (fun q => absurd q.2 (by decide))]; exact h3
theorem EV.mv {Y : XS} {S S' : PS} {e : Nat} {A : EL} (h : EV Y S e A) (h0 : S'.1 e = S.1 e) (h1 : S'.1 (e + 1) = S.1 (e + 1)) (h2 : S'.1 (e + 2) = S.1 (e + 2)) (h3 : S'.1 (e + 3) = S.1 (e + 3)) (hr : gr S' e 3 = gr S e 3) (hh : LH S S') : EV Y S' e A := by
  obtain ⟨a0, a1, a2, a3, a4, a5, a6, a7⟩ := h
  unfold gi at *
  refine ⟨?_, ?_, ?_, ?_, ?_, ?_, ?_, a7⟩
  · unfold gi; rw [h0]; exact a0
  · unfold gi; rw [h0]; exact a1
  · unfold gi; rw [h0]; exact a2
  · unfold gi; rw [h1]; exact a3
  · unfold gi; rw [h2]; exact a4
  · unfold gi; rw [h3]; exact a5
  · rw [hr]; exact a6.mv hh
theorem EV.fe {Y : XS} {S S' : PS} {e e' : Nat} {r : Option Nat} {A : EL} (h : EV Y S e A) (hf : FE e' r S S') (hd : e + 4 ≤ e' ∨ e' + 4 ≤ e) (he : e' + 4 ≤ 235) : EV Y S' e A :=
  h.mv (hf.2.2 _ (by omega)) (hf.2.2 _ (by omega)) (hf.2.2 _ (by omega)) (hf.2.2 _ (by omega)) (by rw [hf.gr, if_neg]; rintro ⟨q, _⟩; omega) (hf.lh he)
theorem EV.fr {Y : XS} {S S' : PS} {M : Nat → Prop} {e : Nat} {A : EL} (h : EV Y S e A) (hf : Fr M S S') (hd : ∀ b, e ≤ b → b < e + 4 → ¬ M b) (hl : ∀ b, 235 ≤ b → ¬ M b) : EV Y S' e A :=
  h.mv (hf.2.2 _ (hd _ (by omega) (by omega))) (hf.2.2 _ (hd _ (by omega) (by omega))) (hf.2.2 _ (hd _ (by omega) (by omega))) (hf.2.2 _ (hd _ (by omega) (by omega))) (hf.gr _ _) (LH.fr hf hl)
theorem up2_cong {α : Type} {f : Nat → Nat → α} {a k : Nat} {v w : α} (h : v = w) : up2 f a k v = up2 f a k w := by rw [h]
theorem s_clear {Y : XS} {n : Nat} {S : PS} {e : Nat} (hn : 1000 ≤ n) (hE : SE Y S e) : ok (fX1_clear Y n S e) (fun S' => FE e none S S' ∧ gi S' e 0 = nI 0 ∧ gi S' e 1 = nI 0 ∧ gi S' e 2 = nI 0 ∧ (∀ j, j < 12 → gi S' (e + 1) j = nI 0) ∧ (∀ j, j < 72 → gi S' (e + 2) j = nI 0) ∧ (∀ j, j < 288 → gi S' (e + 3) j = nI 0)) := by
  obtain ⟨h1, h2, h3, h4, h5, h6⟩ := hE
  unfold fX1_clear
  simp (discharger := omega) only [kpi, kpr]
  rw [kgr_n (b := e + 1) (by simp only [Gr_sr, Gr_si]; rw [if_neg (by omega)]; exact h1), s_fill (by omega) (by omega), kc_s]
  rw [kgr_n (b := e + 2) (by simp only [Gr_sr, Gr_si, Gr_sc]; rw [if_neg (by omega)]; exact h2), s_fill (by omega) (by omega), kc_s]
  rw [kgr_n (b := e + 3) (by simp only [Gr_sr, Gr_si, Gr_sc]; rw [if_neg (by omega)]; exact h3), s_fill (by omega) (by omega), kc_s]
  apply ok_i
  refine ⟨⟨rfl, rfl, fun b hb => ?_⟩, ?_, ?_, ?_, fun j hj => ?_, fun j hj => ?_, fun j hj => ?_⟩
  · funext j
    show gi _ b j = gi S b j
    simp (discharger := omega) only [Gi_sc, Gi_sr, Gi_si, if_neg]
  · simp (discharger := omega) only [Gi_sc, Gi_sr, Gi_si, if_neg, if_pos, and_self, if_true]; rfl
  · simp (discharger := omega) only [Gi_sc, Gi_sr, Gi_si, if_neg, if_pos, and_self, if_true]; rfl
  · simp (discharger := omega) only [Gi_sc, Gi_sr, Gi_si, if_neg, if_pos, and_self, if_true]; rfl
  · simp (discharger := omega) only [Gi_sc, Gi_sr, Gi_si, if_neg, if_pos, and_self, if_true]; rfl
  · simp (discharger := omega) only [Gi_sc, Gi_sr, Gi_si, if_neg, if_pos, and_self, if_true]; rfl
  · simp (discharger := omega) only [Gi_sc, Gi_sr, Gi_si, if_neg, if_pos, and_self, if_true]; rfl
theorem cpy0 {f g : Nat → Int32} {n j : Nat} (h : j < n) : va_cpy f g 0 0 n j = f j := by
  unfold va_cpy
  rw [if_pos (by omega)]
  simp
theorem s_copyE {Y : XS} {n : Nat} {S : PS} {e e' : Nat} (hE : SE Y S e) (hE' : SE Y S e') (hd : e + 4 ≤ e' ∨ e' + 4 ≤ e) : ok (fX1_copyFrom Y n S e e') (fun S' => FE e (gr S e' 3) S S' ∧ gi S' e 0 = gi S e' 0 ∧ gi S' e 1 = gi S e' 1 ∧ gi S' e 2 = gi S e' 2 ∧ (∀ j, j < 12 → gi S' (e + 1) j = gi S (e' + 1) j) ∧ (∀ j, j < 72 → gi S' (e + 2) j = gi S (e' + 2) j) ∧ (∀ j, j < 288 → gi S' (e + 3) j = gi S (e' + 3) j)) := by
  obtain ⟨h1, h2, h3, h4, h5, h6⟩ := hE
  obtain ⟨k1, k2, k3, k4, k5, k6⟩ := hE'
  unfold fX1_copyFrom
  simp (discharger := omega) only [kpi, kpr, kgi, kgq]
  rw [kgr_n (b := e' + 1) (by simp only [Gr_sr, Gr_si]; rw [if_neg (by omega)]; exact k1), kgr_n (b := e + 1) (by simp only [Gr_sr, Gr_si]; rw [if_neg (by omega)]; exact h1)]
  rw [show (0 : Int32) = nI 0 from rfl, show (12 : Int32) = nI 12 from rfl, show (72 : Int32) = nI 72 from rfl, show (288 : Int32) = nI 288 from rfl]
  rw [kcp_n (by omega) (by omega) (by omega) (by omega)]
  rw [kgr_n (b := e' + 2) (by simp only [Gr_sc, Gr_sr, Gr_si]; rw [if_neg (by omega)]; exact k2), kgr_n (b := e + 2) (by simp only [Gr_sc, Gr_sr, Gr_si]; rw [if_neg (by omega)]; exact h2)]
  rw [kcp_n (by omega) (by omega) (by omega) (by omega)]
  rw [kgr_n (b := e' + 3) (by simp only [Gr_sc, Gr_sr, Gr_si]; rw [if_neg (by omega)]; exact k3), kgr_n (b := e + 3) (by simp only [Gr_sc, Gr_sr, Gr_si]; rw [if_neg (by omega)]; exact h3)]
  rw [kcp_n (by omega) (by omega) (by omega) (by omega)]
  apply ok_i
  refine ⟨⟨rfl, rfl, fun b hb => ?_⟩, ?_, ?_, ?_, fun j hj => ?_, fun j hj => ?_, fun j hj => ?_⟩
  · funext j
    show gi _ b j = gi S b j
    simp (discharger := omega) only [Gi_sc, Gi_sr, Gi_si, if_neg]
  · simp (discharger := omega) only [Gi_sc, Gi_sr, Gi_si, if_neg, if_pos, and_self, if_true]
  · simp (discharger := omega) only [Gi_sc, Gi_sr, Gi_si, if_neg, if_pos, and_self, if_true]
  · simp (discharger := omega) only [Gi_sc, Gi_sr, Gi_si, if_neg, if_pos, and_self, if_true]
  · simp (discharger := omega) only [Gi_sc, if_neg, if_pos, and_self, if_true]
    rw [cpy0 hj]
    show gi _ (e' + 1) j = _
    simp (discharger := omega) only [Gi_sc, Gi_sr, Gi_si, if_neg]
  · simp (discharger := omega) only [Gi_sc, if_neg, if_pos, and_self, if_true]
    rw [cpy0 hj]
    show gi _ (e' + 2) j = _
    simp (discharger := omega) only [Gi_sc, Gi_sr, Gi_si, if_neg]
  · simp (discharger := omega) only [Gi_sc, if_pos]
    rw [cpy0 hj]
    show gi _ (e' + 3) j = _
    simp (discharger := omega) only [Gi_sc, Gi_sr, Gi_si, if_neg]
theorem s_copyV {Y : XS} {n : Nat} {S : PS} {e e' : Nat} {A : EL} (hE : SE Y S e) (hE' : SE Y S e') (hd : e + 4 ≤ e' ∨ e' + 4 ≤ e) (he : e + 4 ≤ 235) (hA : EV Y S e' A) : ok (fX1_copyFrom Y n S e e') (fun S' => FE e (gr S e' 3) S S' ∧ EV Y S' e A) := by
  refine ok_mono (s_copyE hE hE' hd) ?_
  rintro S' ⟨hf, q0, q1, q2, q3, q4, q5⟩
  refine ⟨hf, ?_⟩
  obtain ⟨a0, a1, a2, a3, a4, a5, a6, a7⟩ := hA
  have b1 := a7.2.1
  have b2 := a7.2.2.1
  refine ⟨q0.trans a0, q1.trans a1, q2.trans a2, fun p hp => ?_, fun p k hp hk => ?_, fun p v hp hv => ?_, ?_, a7⟩
  · rw [q3 p (by omega)]; exact a3 p hp
  · rw [q4 _ (by omega)]; exact a4 p k hp hk
  · rw [q5 _ (by omega)]; exact a5 p v hp hv
  · rw [hf.gr, if_pos ⟨rfl, rfl⟩]
    exact a6.mv (hf.lh he)
def cst (A : EL) (s : Nat) (p : Nat) : Nat := if s.testBit p = true then eC A p else 0
/-- what a set of projects costs -/
def csum (A : EL) (s : Nat) : Nat := sm (cst A s) (eP A)
theorem s_costOf {Y : XS} {n : Nat} {S : PS} {e s : Nat} {A : EL} (hn : 100 ≤ n) (hE : SE Y S e) (hA : EV Y S e A) (hs : s < 2147483648) : fX1_costOf Y n S e (nI s) = some (nI (csum A s)) := by
  obtain ⟨h1, h2, h3, h4, h5, h6⟩ := hE
  obtain ⟨a0, a1, a2, a3, a4, a5, a6, a7⟩ := hA
  have b1 := a7.2.1
  unfold fX1_costOf
  refine kc_run (fun i => (nI (sm (cst A s) i), nI i)) (eP A) (fun i hi => ?_) ?_ (by omega) rfl rfl
  · have a3' := a3 i hi
    simp (discharger := omega) only [bX1_costOf_4, kgi, a1, nle, if_neg, s_isIn, kc_s, kgr_n h1, kai_n, a3', jX1_costOf_29_4, nI_1, sm_s, cst]
    by_cases hb : s.testBit i = true
    · simp [hb, nI_add]
    · simp [hb]
  · simp (discharger := omega) only [bX1_costOf_4, kgi, a1, nle, if_pos]
    rfl
