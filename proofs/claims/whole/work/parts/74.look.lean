/-! GROUPS, CLASS: lookAt. -/
def fsf (f : Nat → Bool) : Nat → Option Nat
  | 0 => none
  | s + 1 => match fsf f s with
    | some x => some x
    | none => if f s = true then some s else none
theorem fsf_s (f : Nat → Bool) (s : Nat) : fsf f (s + 1) = match fsf f s with
    | some x => some x
    | none => if f s = true then some s else none := rfl
theorem fsf_lt {f : Nat → Bool} : ∀ {s x : Nat}, fsf f s = some x → x < s
  | 0, _, h => by cases h
  | s + 1, x, h => by
    rw [fsf_s] at h
    cases hf : fsf f s with
    | some y => rw [hf] at h; cases h; have := fsf_lt hf; omega
    | none =>
      rw [hf] at h
      dsimp only at h
      split at h
      · cases h; omega
      · cases h
def gf0 (A : EL) (s : Nat) : Bool := decide (0 < s) && dueG A s
def gf1 (A : EL) (B s : Nat) (nr : Bool) : Bool := decide (0 < s) && (dueG A s && !srv A B s nr)
theorem gf_skip {f : Nat → Bool} {s : Nat} : ∀ d, (∀ x, s ≤ x → x < s + d → f x = false) → nK f (s + d) = nK f s ∧ fsf f (s + d) = fsf f s
  | 0, _ => ⟨rfl, rfl⟩
  | d + 1, h => by
    obtain ⟨i1, i2⟩ := gf_skip d (fun x h1 h2 => h x h1 (by omega))
    have e := h (s + d) (by omega) (by omega)
    rw [← Nat.add_assoc]
    refine ⟨?_, ?_⟩
    · rw [nK_s, i1, e]; rfl
    · rw [fsf_s, i2, e]
      cases fsf f s <;> rfl
/-- what groupFacts holds of all sets below s -/
def GF (S : PS) (a : Nat) (A : EL) (B s : Nat) : Prop := gi S a 0 = nI (nK (gf0 A) s) ∧ gi S a 1 = nI (nK (fun x => gf1 A B x false) s) ∧ gi S a 2 = nI (nK (fun x => gf1 A B x true) s) ∧ gi S a 3 = oI (fsf (fun x => gf1 A B x false) s) ∧ gi S a 4 = oI (fsf (fun x => gf1 A B x true) s)
theorem up_mb {A : EL} {s x : Nat} (h : s < 4096) (h0 : 0 < s) (h1 : s ≤ x) (h2 : x < s + 2 ^ lo s) (v : Nat) (hv : (mb A x).testBit v = true) : (mb A s).testBit v = true := by
  unfold mb mbi at *
  rw [bs_tb, Bool.and_eq_true, allq_iff] at *
  refine ⟨hv.1, fun q hq => ?_⟩
  have := hv.2 q hq
  by_cases hi : q < lo s
  · rw [lo_below h h0 hi]; rfl
  · rw [up_tb (lo_bits s h h0).2.2.2.2.2.1 h1 h2 (by omega)] at this
    exact this
theorem up_due {A : EL} {s x : Nat} (h : s < 4096) (h0 : 0 < s) (h1 : s ≤ x) (h2 : x < s + 2 ^ lo s) (hd : dueG A s = false) : dueG A x = false := by
  have hc := up_cost (A := A) h h0 h1 h2
  have hp : pcn 24 (mb A x) ≤ pcn 24 (mb A s) := by
    rw [pcn_tb, pcn_tb]
    exact nK_mono (fun v _ hv => up_mb h h0 h1 h2 v hv)
  have hd' := of_decide_eq_false hd
  refine decide_eq_false ?_
  rintro ⟨y1, y2⟩
  apply hd'
  have m1' := Nat.mul_le_mul_right (eV A) hc
  have m2' := Nat.mul_le_mul_right (eM A) hp
  exact ⟨by omega, by omega⟩
theorem note38 {Y : XS} {n : Nat} {S : PS} {g a s : Nat} {A : EL} {B : Nat} (hs : s < 4096) (h0 : 0 < s) (hla : ln Y a = 5) (hga : g ≠ a) (hd : dueG A s = true) (hn : gi S g 6 = (if srv A B s true = true then 1 else 0)) (h2 : gi S a 2 = nI (nK (fun x => gf1 A B x true) s)) (h4 : gi S a 4 = oI (fsf (fun x => gf1 A B x true) s)) :
    ok (jX2_note_38 Y n S g a (nI s)) (fun S' => Fr (fun x => x = a) S S' ∧ gi S' a 2 = nI (nK (fun x => gf1 A B x true) (s + 1)) ∧ gi S' a 4 = oI (fsf (fun x => gf1 A B x true) (s + 1)) ∧ gi S' a 0 = gi S a 0 ∧ gi S' a 1 = gi S a 1 ∧ gi S' a 3 = gi S a 3) := by
  unfold jX2_note_38 jX2_note_68 jX2_note_69
  rw [kgi_n, hn]
  have hf : gf1 A B s true = !srv A B s true := by unfold gf1; rw [hd, decide_eq_true h0]; rfl
  cases hv : srv A B s true with
  | true =>
    rw [if_pos rfl, if_neg (by decide), nK_s, fsf_s, hf, hv]
    refine ok_i ⟨Fr.rf, h2, ?_, rfl, rfl, rfl⟩
    rw [h4]
    cases fsf (fun x => gf1 A B x true) s <;> rfl
  | false =>
    rw [if_pos (show (if false = true then (1 : Int32) else 0) = 0 from rfl), show (2 : Int32) = nI 2 from rfl, show (4 : Int32) = nI 4 from rfl, kai_n (by omega) (by omega), h2, nI_1, kwi_n (by omega) (by omega)]
    generalize hS1 : si S a 2 (nI (nK (fun x => gf1 A B x true) s + 1)) = S1
    have f1 : Fr (fun x => x = a) S S1 := by rw [← hS1]; exact Fr.rf.si rfl
    have q : ∀ j, j ≠ 2 → gi S1 a j = gi S a j := by intro j hj; rw [← hS1, Gi_si, if_neg (fun y => hj y.2)]
    have q2 : gi S1 a 2 = nI (nK (fun x => gf1 A B x true) s + 1) := by rw [← hS1, Gi_si, if_pos ⟨rfl, rfl⟩]
    simp (discharger := omega) only [kai_n, kwi_n]
    rw [q 4 (by decide), h4, nK_s, fsf_s, hf, hv]
    cases hx : fsf (fun x => gf1 A B x true) s with
    | none =>
      rw [if_pos (show oI none = -1 from rfl)]
      refine ok_i ⟨f1.si rfl, ?_, ?_, ?_, ?_, ?_⟩
      · rw [Gi_si, if_neg (by omega)]; exact q2
      · rw [Gi_si, if_pos ⟨rfl, rfl⟩]; rfl
      · rw [Gi_si, if_neg (by omega)]; exact q 0 (by decide)
      · rw [Gi_si, if_neg (by omega)]; exact q 1 (by decide)
      · rw [Gi_si, if_neg (by omega)]; exact q 3 (by decide)
    | some y =>
      have hy := fsf_lt hx
      have hno : ¬ oI (some y) = -1 := by show ¬ nI y = m1; rw [nm1 (by omega)]; exact fun h => h
      rw [if_neg hno]
      refine ok_i ⟨f1.si rfl, ?_, ?_, ?_, ?_, ?_⟩
      · rw [Gi_si, if_neg (by omega)]; exact q2
      · rw [Gi_si, if_pos ⟨rfl, rfl⟩]
      · rw [Gi_si, if_neg (by omega)]; exact q 0 (by decide)
      · rw [Gi_si, if_neg (by omega)]; exact q 1 (by decide)
      · rw [Gi_si, if_neg (by omega)]; exact q 3 (by decide)
theorem s_note {Y : XS} {n : Nat} {S : PS} {g a s : Nat} {A : EL} {B : Nat} (hs : s < 4096) (h0 : 0 < s) (hla : ln Y a = 5) (hga : g ≠ a) (hd : dueG A s = true) (hm : gi S g 5 = (if srv A B s false = true then 1 else 0)) (hn : gi S g 6 = (if srv A B s true = true then 1 else 0)) (h : GF S a A B s) :
    ok (fX2_note Y n S g a (nI s)) (fun S' => Fr (fun x => x = a) S S' ∧ GF S' a A B (s + 1)) := by
  obtain ⟨h1, h2, h3, h4, h5⟩ := h
  have hf0 : gf0 A s = true := by unfold gf0; rw [hd, decide_eq_true h0]; rfl
  have hf : gf1 A B s false = !srv A B s false := by unfold gf1; rw [hd, decide_eq_true h0]; rfl
  unfold fX2_note jX2_note_37
  rw [show (0 : Int32) = nI 0 from rfl, show (1 : Int32) = nI 1 from rfl, show (3 : Int32) = nI 3 from rfl, kai_n (by omega) (by omega), h1, nI_add, kwi_n (by omega) (by omega)]
  generalize hS1 : si S a 0 (nI (nK (gf0 A) s + 1)) = S1
  have f1 : Fr (fun x => x = a) S S1 := by rw [← hS1]; exact Fr.rf.si rfl
  have q1 : ∀ j, j ≠ 0 → gi S1 a j = gi S a j := by intro j hj; rw [← hS1, Gi_si, if_neg (fun y => hj y.2)]
  have q1' : gi S1 a 0 = nI (nK (gf0 A) (s + 1)) := by rw [← hS1, Gi_si, if_pos ⟨rfl, rfl⟩, nK_s, hf0]; rfl
  have m5 : gi S1 g 5 = (if srv A B s false = true then 1 else 0) := by rw [f1.gi hga]; exact hm
  have m6 : gi S1 g 6 = (if srv A B s true = true then 1 else 0) := by rw [f1.gi hga]; exact hn
  rw [kgi_n, m5]
  cases hv : srv A B s false with
  | true =>
    rw [if_neg (by decide)]
    refine ok_mono (note38 hs h0 hla hga hd m6 (by rw [q1 2 (by decide)]; exact h3) (by rw [q1 4 (by decide)]; exact h5)) ?_
    rintro S' ⟨f2, y2, y4, y0, y1, y3⟩
    refine ⟨f1.tr f2, y0.trans q1', ?_, y2, ?_, y4⟩
    · rw [y1, q1 1 (by decide), h2, nK_s, hf, hv]; rfl
    · rw [y3, q1 3 (by decide), h4, fsf_s, hf, hv]
      cases fsf (fun x => gf1 A B x false) s <;> rfl
  | false =>
    rw [if_pos (by decide), kai_n (by omega) (by omega), q1 1 (by decide), h2, nI_add, kwi_n (by omega) (by omega)]
    generalize hS2 : si S1 a 1 (nI (nK (fun x => gf1 A B x false) s + 1)) = S2
    have f2 : Fr (fun x => x = a) S S2 := by rw [← hS2]; exact f1.si rfl
    have q2 : ∀ j, j ≠ 1 → gi S2 a j = gi S1 a j := by intro j hj; rw [← hS2, Gi_si, if_neg (fun y => hj y.2)]
    have q2' : gi S2 a 1 = nI (nK (fun x => gf1 A B x false) (s + 1)) := by rw [← hS2, Gi_si, if_pos ⟨rfl, rfl⟩, nK_s, hf, hv]; rfl
    have tail : ∀ x : Int32, x = oI (fsf (fun x => gf1 A B x false) (s + 1)) → ok (jX2_note_38 Y n (si S2 a 3 x) g a (nI s)) (fun S' => Fr (fun x => x = a) S S' ∧ GF S' a A B (s + 1)) := by
      intro x hx
      have q3 : ∀ j, j ≠ 3 → gi (si S2 a 3 x) a j = gi S2 a j := by intro j hj; rw [Gi_si, if_neg (fun y => hj y.2)]
      have q3' : gi (si S2 a 3 x) a 3 = x := by rw [Gi_si, if_pos ⟨rfl, rfl⟩]
      refine ok_mono (note38 (A := A) (B := B) hs h0 hla hga hd (by rw [(f2.si rfl).gi hga]; exact hn) (by rw [q3 2 (by decide), q2 2 (by decide), q1 2 (by decide)]; exact h3) (by rw [q3 4 (by decide), q2 4 (by decide), q1 4 (by decide)]; exact h5)) ?_
      rintro S' ⟨f3, y2, y4, y0, y1, y3⟩
      refine ⟨(f2.si rfl).tr f3, ?_, ?_, y2, ?_, y4⟩
      · rw [y0, q3 0 (by decide), q2 0 (by decide)]; exact q1'
      · rw [y1, q3 1 (by decide)]; exact q2'
      · rw [y3, q3', hx]
    simp (discharger := omega) only [kai_n, kwi_n]
    rw [q2 3 (by decide), q1 3 (by decide), h4]
    cases hx : fsf (fun x => gf1 A B x false) s with
    | none =>
      rw [if_pos (show oI none = -nI 1 from rfl)]
      exact tail _ (by rw [fsf_s, hx, hf, hv]; rfl)
    | some y =>
      have hy := fsf_lt hx
      have hno : ¬ oI (some y) = -nI 1 := by show ¬ nI y = m1; rw [nm1 (by omega)]; exact fun h => h
      rw [if_neg hno]
      exact tail _ (by rw [fsf_s, hx])
theorem s_begin {Y : XS} {n : Nat} {S : PS} {g p o B : Nat} {A : EL} (hn : 100 ≤ n) (hg : g + 6 ≤ 235) (hp : p + 11 ≤ 235) (ho : o + 8 ≤ 235) (hpg : p + 11 ≤ g ∨ g + 6 ≤ p) (hpo : p + 11 ≤ o ∨ o + 8 ≤ p) (hgo : g + 6 ≤ o ∨ o + 8 ≤ g) (hP : SP Y S p) (hA : PV Y S p A) (hG : SG Y S g) (hO : SO Y S o) (hB : gi S o 2 = nI B) (hB2 : B < 4096) :
    ok (fX2_begin Y n S g p o) (fun S' => Fr (fun x => x = g + 2 ∨ x = g + 5 ∨ x = o ∨ x = o + 7) S S' ∧ gi S' (g + 2) 12 = nI (mb A 0) ∧ (∀ v, v < eV A → gi S' (g + 5) v = nI (wt A v B)) ∧ GF S' (o + 7) A B 1 ∧ gi S' o 11 = 1 ∧ ∀ j, j ≠ 11 → gi S' o j = gi S o j) := by
  have a7 := hA.1.2.2.2.2.2.2.2
  have b1 := a7.2.1
  have b2 := a7.2.2.1
  have a2 := hA.1.2.2.1
  have hG0 := hG
  obtain ⟨s0, s1, s2, s3, s4, l1, l2, l3, l4, l5⟩ := hG
  have o6 := hO.2.2.2.2.2.2.1
  have lo7 := hO.2.2.2.2.2.2.2.2.2.2.2.2.2
  have hx : (1 : Int32) <<< (nI (eV A) &&& 31) - 1 = nI (mb A 0) := by
    have hp : 1 ≤ 2 ^ eV A := Nat.one_le_two_pow
    rw [n2p (by omega), show (1 : Int32) = nI 1 from rfl, nsub hp]
    congr 1
    apply Nat.eq_of_testBit_eq
    intro i
    unfold mb mbi
    rw [Nat.testBit_two_pow_sub_one, bs_tb]
    have : allq (fun q => !(0 : Nat).testBit q || decide (0 < wo A q i)) (eP A) = true := allq_iff.mpr (fun q _ => by simp)
    rw [this, Bool.and_true]
  unfold fX2_begin
  rw [kgr_n s1, kgr_n hP.2.1, kgi_n, a2, hx, show (12 : Int32) = nI 12 from rfl, kwi_n (by omega) (by omega)]
  generalize hS1 : si S (g + 2) 12 (nI (mb A 0)) = S1
  have f1 : Fr (fun x => x = g + 2) S S1 := by rw [← hS1]; exact Fr.rf.si rfl
  have m12 : gi S1 (g + 2) 12 = nI (mb A 0) := by rw [← hS1, Gi_si, if_pos ⟨rfl, rfl⟩]
  refine ok_kc (iter_ok (fun i t => t.1 = nI i ∧ Fr (fun x => x = g + 5) S1 t.2 ∧ ∀ v, v < i → gi t.2 (g + 5) v = nI (wt A v B)) (Q := fun S' => Fr (fun x => x = g + 5) S1 S' ∧ ∀ v, v < eV A → gi S' (g + 5) v = nI (wt A v B)) (eV A) (fun i t hi h => ?_) (fun t h => ?_) (by omega) ⟨rfl, Fr.rf, fun v hv => absurd hv (Nat.not_lt_zero _)⟩) ?_
  · obtain ⟨t1, T⟩ := t
    obtain ⟨k1, k2, k3⟩ := h
    simp only at k1 k2 k3
    subst k1
    have fT : Fr (fun x => x = g + 2 ∨ x = g + 5) S T := (f1.mono (by omega)).tr (k2.mono (by omega))
    have hPT : SP Y T p := hP.fr fT.2.1
    have hAT : PV Y T p A := hA.fr fT (by omega) (by omega)
    have gV := hAT.1.2.2.1
    have r4 : gr T g 4 = some (g + 5) := by rw [fT.gr]; exact s4
    have gB : gi T o 2 = nI B := by rw [fT.gi (by omega)]; exact hB
    unfold bX2_begin_20
    simp (discharger := omega) only [kgr_n hPT.2.1, kgi, gV, nle, if_neg, kgr_n r4, gB]
    rw [s_worthTo hn hPT hAT hi (by omega), kc_s, kwi_n (by omega) (by omega), nI_1, ok_some, so_l]
    refine ⟨rfl, k2.si rfl, fun v hv => ?_⟩
    rw [Gi_si]
    by_cases e : v = i
    · rw [if_pos ⟨rfl, e⟩, e]
    · rw [if_neg (fun z => e z.2)]; exact k3 v (by omega)
  · obtain ⟨t1, T⟩ := t
    obtain ⟨k1, k2, k3⟩ := h
    simp only at k1 k2 k3
    subst k1
    have fT : Fr (fun x => x = g + 2 ∨ x = g + 5) S T := (f1.mono (by omega)).tr (k2.mono (by omega))
    have hPT : SP Y T p := hP.fr fT.2.1
    have hAT : PV Y T p A := hA.fr fT (by omega) (by omega)
    have gV := hAT.1.2.2.1
    unfold bX2_begin_20
    simp (discharger := omega) only [kgr_n hPT.2.1, kgi, gV, nle, if_pos, ok_some, so_r]
    exact ⟨k2, k3⟩
  · rintro T ⟨k2, k3⟩
    have fT : Fr (fun x => x = g + 2 ∨ x = g + 5) S T := (f1.mono (by omega)).tr (k2.mono (by omega))
    have r12 : gr T o 12 = some (o + 7) := by rw [fT.gr]; exact o6
    rw [kgr_n r12, s_fill (by omega) (by omega), kc_s]
    generalize hU : sc T (o + 7) (fun j => if j < ln Y (o + 7) then (0 : Int32) else gi T (o + 7) j) = U
    have u12 : gr U o 12 = some (o + 7) := by rw [← hU, Gr_sc]; exact r12
    rw [kgr_n u12, show (3 : Int32) = nI 3 from rfl, show (4 : Int32) = nI 4 from rfl, kwi_n (by omega) (by omega), kgr_n (b := o + 7) (by rw [Gr_si]; exact u12), kwi_n (by omega) (by omega)]
    unfold kpz
    rw [if_pos (Or.inr rfl)]
    generalize hW : si (si U (o + 7) 3 (-1)) (o + 7) 4 (-1) = W
    have fU : Fr (fun x => x = g + 2 ∨ x = g + 5 ∨ x = o ∨ x = o + 7) S U := by rw [← hU]; exact (fT.mono (by omega)).sc (by omega)
    have fW : Fr (fun x => x = g + 2 ∨ x = g + 5 ∨ x = o ∨ x = o + 7) S W := by rw [← hW]; exact (fU.si (by omega)).si (by omega)
    have eU : ∀ j, j < 5 → gi U (o + 7) j = nI 0 := by
      intro j hj
      rw [← hU, Gi_sc, if_pos rfl, if_pos (by omega)]
      rfl
    have eW : ∀ (x j : Nat), x ≠ o + 7 → gi W x j = gi T x j := by
      intro x j hx
      rw [← hW, Gi_si, if_neg (by omega), Gi_si, if_neg (by omega), ← hU, Gi_sc, if_neg hx]
    have z0 : gf0 A 0 = false := rfl
    have z1 : ∀ nr, gf1 A B 0 nr = false := fun _ => rfl
    refine ok_i ⟨fW.si (by omega), ?_, fun v hv => ?_, ⟨?_, ?_, ?_, ?_, ?_⟩, ?_, fun j hj => ?_⟩
    · rw [Gi_si, if_neg (by omega), eW _ _ (by omega), k2.gi (by omega)]; exact m12
    · rw [Gi_si, if_neg (by omega), eW _ _ (by omega)]; exact k3 v hv
    · rw [Gi_si, if_neg (by omega), ← hW, Gi_si, if_neg (by omega), Gi_si, if_neg (by omega), eU 0 (by omega)]; rfl
    · rw [Gi_si, if_neg (by omega), ← hW, Gi_si, if_neg (by omega), Gi_si, if_neg (by omega), eU 1 (by omega)]; rfl
    · rw [Gi_si, if_neg (by omega), ← hW, Gi_si, if_neg (by omega), Gi_si, if_neg (by omega), eU 2 (by omega)]; rfl
    · rw [Gi_si, if_neg (by omega), ← hW, Gi_si, if_neg (by omega), Gi_si, if_pos ⟨rfl, rfl⟩]; rfl
    · rw [Gi_si, if_neg (by omega), ← hW, Gi_si, if_pos ⟨rfl, rfl⟩]; rfl
    · rw [Gi_si, if_pos ⟨rfl, rfl⟩]
    · rw [Gi_si, if_neg (fun z => hj z.2), eW _ _ (by omega), fT.gi (by omega)]
