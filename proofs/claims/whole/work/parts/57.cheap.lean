/-! THE NEXT PROJECT: the least by a number, then by who like it, then by its place. -/
def amf (c : Nat → Bool) (f k : Nat → Nat) : Nat → Option Nat
  | 0 => none
  | i + 1 => if c i = true then (match amf c f k i with
      | none => some i
      | some o => if f i < f o ∨ (f i = f o ∧ k o < k i) then some i else some o) else amf c f k i
theorem amf_s (c : Nat → Bool) (f k : Nat → Nat) (i : Nat) : amf c f k (i + 1) = if c i = true then (match amf c f k i with
      | none => some i
      | some o => if f i < f o ∨ (f i = f o ∧ k o < k i) then some i else some o) else amf c f k i := rfl
def Ahd (f k : Nat → Nat) (b j : Nat) : Prop := f b < f j ∨ (f b = f j ∧ (k j < k b ∨ (k j = k b ∧ b < j)))
theorem amf_none {c : Nat → Bool} {f k : Nat → Nat} : ∀ {n : Nat}, amf c f k n = none ↔ ∀ j, j < n → c j = false
  | 0 => by simp [amf]
  | n + 1 => by
    have ih := amf_none (c := c) (f := f) (k := k) (n := n)
    rw [amf_s]
    by_cases hc : c n = true
    · rw [if_pos hc]
      constructor
      · intro h
        cases ha : amf c f k n with
        | none => rw [ha] at h; cases h
        | some o => rw [ha] at h; dsimp only at h; split at h <;> cases h
      · intro h
        have := h n (by omega)
        rw [hc] at this
        cases this
    · rw [if_neg hc, ih]
      constructor
      · intro h j hj
        by_cases e : j = n
        · rw [e]; simpa using hc
        · exact h j (by omega)
      · intro h j hj
        exact h j (by omega)
theorem amf_some {c : Nat → Bool} {f k : Nat → Nat} : ∀ {n b : Nat}, amf c f k n = some b → b < n ∧ c b = true ∧ ∀ j, j < n → c j = true → j ≠ b → Ahd f k b j
  | 0, b, h => by cases h
  | n + 1, b, h => by
    rw [amf_s] at h
    by_cases hc : c n = true
    · rw [if_pos hc] at h
      cases ha : amf c f k n with
      | none =>
        rw [ha] at h
        cases h
        refine ⟨by omega, hc, fun j hj hcj hne => ?_⟩
        have := amf_none.mp ha j (by omega)
        rw [hcj] at this
        cases this
      | some o =>
        rw [ha] at h
        obtain ⟨i1, i2, i3⟩ := amf_some ha
        dsimp only at h
        by_cases hx : f n < f o ∨ (f n = f o ∧ k o < k n)
        · rw [if_pos hx] at h
          cases h
          refine ⟨by omega, hc, fun j hj hcj hne => ?_⟩
          by_cases e : j = o
          · subst e
            rcases hx with hx | ⟨h1, h2⟩
            · exact Or.inl hx
            · exact Or.inr ⟨h1, Or.inl h2⟩
          · have := i3 j (by omega) hcj e
            unfold Ahd at *
            omega
        · rw [if_neg hx] at h
          cases h
          refine ⟨by omega, i2, fun j hj hcj hne => ?_⟩
          by_cases e : j = n
          · subst e
            unfold Ahd
            omega
          · exact i3 j (by omega) hcj hne
    · rw [if_neg hc] at h
      obtain ⟨i1, i2, i3⟩ := amf_some h
      refine ⟨by omega, i2, fun j hj hcj hne => ?_⟩
      by_cases e : j = n
      · subst e; exact absurd hcj hc
      · exact i3 j (by omega) hcj hne
theorem amf_uniq {c : Nat → Bool} {f k : Nat → Nat} {n b : Nat} (h1 : b < n) (h2 : c b = true) (h3 : ∀ j, j < n → c j = true → j ≠ b → Ahd f k b j) : amf c f k n = some b := by
  cases ha : amf c f k n with
  | none =>
    have := amf_none.mp ha b h1
    rw [h2] at this
    cases this
  | some o =>
    obtain ⟨i1, i2, i3⟩ := amf_some ha
    by_cases e : o = b
    · rw [e]
    · have q1 := h3 o i1 i2 e
      have q2 := i3 b h1 h2 (fun q => e q.symm)
      unfold Ahd at *
      omega
theorem amf_ext {c c' : Nat → Bool} {f f' k k' : Nat → Nat} {n : Nat} (hc : ∀ i, i < n → c i = c' i) (hf : ∀ i, i < n → c i = true → f i = f' i) (hk : ∀ i, i < n → k i = k' i) : amf c f k n = amf c' f' k' n := by
  cases ha : amf c' f' k' n with
  | none =>
    rw [amf_none]
    intro j hj
    rw [hc j hj]
    exact amf_none.mp ha j hj
  | some b =>
    obtain ⟨i1, i2, i3⟩ := amf_some ha
    have hb : c b = true := by rw [hc b i1]; exact i2
    refine amf_uniq i1 hb (fun j hj hcj hne => ?_)
    have := i3 j hj (by rw [← hc j hj]; exact hcj) hne
    unfold Ahd at *
    rw [hf b i1 hb, hf j hj hcj, hk b i1, hk j hj]
    exact this
/-- the project that equal shares choose next -/
noncomputable def nxt (A : EL) (ch : Nat) (b : Nat → Nat) : Option Nat := amf (fun q => !ch.testBit q && (prc A b q).isSome) (fun q => (prc A b q).getD 0) (lk A) (eP A)
def SH (Y : XS) (S : PS) (s : Nat) : Prop := gr S s 0 = some (s + 1) ∧ gr S s 1 = some (s + 2) ∧ ln Y (s + 1) = 12 ∧ ln Y (s + 2) = 24
theorem SH.fr {Y : XS} {S S' : PS} {s : Nat} (h : SH Y S s) (hf : S'.2.2 = S.2.2) : SH Y S' s := by
  unfold SH gr at *
  rw [hf]
  exact h
def bdV (A : EL) (bd : Nat → Option Nat) : Prop := ∀ q r, q < eP A → bd q = some r → r ≤ 20000000
theorem s_leastBound {Y : XS} {n : Nat} {S : PS} {p s : Nat} {A : EL} {bd : Nat → Option Nat} (hn : 100 ≤ n) (hP : SP Y S p) (hA : PV Y S p A) (hS : SH Y S s) (hb : ∀ q, q < eP A → gi S (s + 1) q = oI (bd q)) (hv : bdV A bd) :
    fX9_leastBound Y n S s p = some (oI (amf (fun q => (bd q).isSome) (fun q => (bd q).getD 0) (lk A) (eP A))) := by
  obtain ⟨⟨e1, e2, e3, e4, e5, e6⟩, h0, h1, h2, h3, h4, h5, h6, l1, l2, l3, l4, l5, l6⟩ := hP
  obtain ⟨⟨a0, a1, a2, a3, a4, a5, a6, a7⟩, hT⟩ := hA
  obtain ⟨s1, s2, s3, s4⟩ := hS
  have b1 := a7.2.1
  unfold fX9_leastBound
  simp (discharger := omega) only [kgr_n h1, kgr_n h0, kgi, a1]
  refine kc_run (fun i => (oI (amf (fun q => (bd q).isSome) (fun q => (bd q).getD 0) (lk A) i), nI (match amf (fun q => (bd q).isSome) (fun q => (bd q).getD 0) (lk A) i with
    | none => 0
    | some o => (bd o).getD 0), nI i)) (eP A) (fun i hi => ?_) ?_ (by omega) rfl rfl
  · have hbi := hb i hi
    have hlk := lk_le a7 i
    have ti := (hT i hi).1
    simp (discharger := omega) only [bX9_leastBound_22, jX9_leastBound_74_22, jX9_leastBound_82_22, nle, if_neg, kgr_n s1, kai_n, hbi, show (1 : Int32) = nI 1 from rfl, negm, nI_add]
    rw [amf_s]
    cases hbd : bd i with
    | none => simp [oI]
    | some r =>
      have hr := hv i r hi hbd
      have hne : ¬ oI (some r) = m1 := by show ¬ nI r = m1; rw [nm1 (by omega)]; exact fun h => h
      rw [if_neg hne]
      cases ha : amf (fun q => (bd q).isSome) (fun q => (bd q).getD 0) (lk A) i with
      | none => simp [oI, hbd]
      | some o =>
        obtain ⟨i1, i2, i3⟩ := amf_some ha
        have hlo := lk_le a7 o
        have hno : ¬ oI (some o) = m1 := by show ¬ nI o = m1; rw [nm1 (by omega)]; exact fun h => h
        rw [if_neg hno]
        cases hbo : bd o with
        | none => rw [hbo] at i2; cases i2
        | some r' =>
          have hr' := hv o r' (by omega) hbo
          have to := (hT o (by omega)).1
          simp (discharger := omega) only [oI_s, hbd, hbo, Option.getD_some, nlt, neq, kai_n, ti, to, nle, Option.isSome_some, if_true]
          by_cases q1 : r < r'
          · rw [if_pos q1, if_pos (Or.inl q1)]
            simp [oI, hbd]
          · rw [if_neg q1]
            by_cases q2 : r = r'
            · rw [if_pos q2]
              by_cases q3 : lk A i ≤ lk A o
              · rw [if_pos q3, if_neg (by omega)]
                simp [oI, hbo]
              · rw [if_neg q3, if_pos (by omega)]
                simp [oI, hbd]
            · rw [if_neg q2, if_neg (by omega)]
              simp [oI, hbo]
  · simp (discharger := omega) only [bX9_leastBound_22, nle, if_pos]
/-- bounds that are no more than the prices -/
def BdOK (A : EL) (ch : Nat) (b : Nat → Nat) (bd : Nat → Option Nat) : Prop := ∀ q, q < eP A → (bd q = none → ch.testBit q = true ∨ prc A b q = none) ∧ ∀ r, bd q = some r → ch.testBit q = false ∧ r ≤ 20000000 ∧ ∀ x, x < r → Gv b (wo A q) (eV A) x < eC A q * 1000
theorem BdOK.v {A : EL} {ch : Nat} {b : Nat → Nat} {bd : Nat → Option Nat} (h : BdOK A ch b bd) : bdV A bd := fun q r hq hr => ((h q hq).2 r hr).2.1
theorem nxt_of {A : EL} {ch : Nat} {b : Nat → Nat} {bd : Nat → Option Nat} (h : BdOK A ch b bd) : (amf (fun q => (bd q).isSome) (fun q => (bd q).getD 0) (lk A) (eP A) = none → nxt A ch b = none) ∧ (∀ q, amf (fun q => (bd q).isSome) (fun q => (bd q).getD 0) (lk A) (eP A) = some q → bd q = prc A b q → nxt A ch b = some q) := by
  constructor
  · intro ha
    unfold nxt
    rw [amf_none]
    intro j hj
    have h1 := amf_none.mp ha j hj
    have h2 : bd j = none := by cases hb : bd j with
      | none => rfl
      | some r => rw [hb] at h1; cases h1
    rcases (h j hj).1 h2 with h3 | h3
    · simp [h3]
    · simp [h3]
  · intro q ha he
    obtain ⟨i1, i2, i3⟩ := amf_some ha
    cases hb : bd q with
    | none => rw [hb] at i2; cases i2
    | some r =>
      have hq := (h q i1).2 r hb
      have hp : prc A b q = some r := by rw [← he]; exact hb
      refine amf_uniq i1 (by simp [hq.1, hp]) (fun j hj hcj hne => ?_)
      rw [Bool.and_eq_true] at hcj
      have hcj1 : ch.testBit j = false := by simpa using hcj.1
      cases hpj : prc A b j with
      | none => rw [hpj] at hcj; exact absurd hcj.2 (by simp)
      | some rj =>
        cases hbj : bd j with
        | none =>
          rcases (h j hj).1 hbj with z | z
          · rw [hcj1] at z; cases z
          · rw [hpj] at z; cases z
        | some r' =>
          have hl := ((h j hj).2 r' hbj).2.2
          have hsp := pr_spec b (wo A j) (eV A) (eC A j * 1000)
          have e : pr b (wo A j) (eV A) (eC A j * 1000) = some rj := hpj
          rw [e] at hsp
          have hle : r' ≤ rj := by
            by_cases z : rj < r'
            · have z1 := hl rj z
              have z2 := hsp.1
              omega
            · omega
          have hA := i3 j hj (by rw [hbj]; rfl) hne
          unfold Ahd at *
          simp only [hb, hbj, hp, hpj, Option.getD_some] at *
          omega
theorem tb_or (a q j : Nat) : (a ||| 2 ^ q).testBit j = (a.testBit j || decide (q = j)) := by rw [Nat.testBit_or, Nat.testBit_two_pow]
theorem s_cheapest {Y : XS} {n : Nat} {S : PS} {p s a ch : Nat} {A : EL} {b : Nat → Nat} {bd : Nat → Option Nat} (hn : 100 ≤ n) (hP : SP Y S p) (hA : PV Y S p A) (hS : SH Y S s) (hd : p + 11 ≤ s + 1 ∨ s + 1 < p) (hs235 : s + 2 ≤ 235) (hb : ∀ q, q < eP A → gi S (s + 1) q = oI (bd q)) (hok : BdOK A ch b bd) (ha : ln Y a = 24) (has : a ≠ s + 1) (hpb : ∀ v, v < eV A → gi S a v = nI (b v)) (hB : sm b (eV A) ≤ 200000000) :
    ok (fX9_cheapest Y n S s p a) (fun r => r.1 = oI (nxt A ch b) ∧ Fr (fun x => x = s + 1) S r.2 ∧ ∃ bd', (∀ q, q < eP A → gi r.2 (s + 1) q = oI (bd' q)) ∧ BdOK A ch b bd' ∧ ∀ q, nxt A ch b = some q → bd' q = prc A b q) := by
  have a7 := hA.1.2.2.2.2.2.2.2
  have b1 := a7.2.1
  unfold fX9_cheapest
  have key : ok (iter (bX9_cheapest_5 Y n s p a) n ((0 : Int32), (0 : Int32), S)) (fun r => ∃ r2, r = .inr (oI (nxt A ch b), r2) ∧ Fr (fun x => x = s + 1) S r2 ∧ ∃ bd', (∀ q, q < eP A → gi r2 (s + 1) q = oI (bd' q)) ∧ BdOK A ch b bd' ∧ ∀ q, nxt A ch b = some q → bd' q = prc A b q) := by
    have step : ∀ i (t : Int32 × Int32 × PS), i ≤ 12 → (t.2.1 = nI i ∧ ∃ fr, t.1 = nI fr ∧ fr < 4096 ∧ i ≤ nK (fun q => fr.testBit q) (eP A) ∧ Fr (fun x => x = s + 1) S t.2.2 ∧ ∃ bd', (∀ q, q < eP A → gi t.2.2 (s + 1) q = oI (bd' q)) ∧ BdOK A ch b bd' ∧ ∀ q, q < eP A → fr.testBit q = true → bd' q = prc A b q) → ok (bX9_cheapest_5 Y n s p a t) (so (fun t' => i < 12 ∧ t'.2.1 = nI (i + 1) ∧ ∃ fr, t'.1 = nI fr ∧ fr < 4096 ∧ i + 1 ≤ nK (fun q => fr.testBit q) (eP A) ∧ Fr (fun x => x = s + 1) S t'.2.2 ∧ ∃ bd', (∀ q, q < eP A → gi t'.2.2 (s + 1) q = oI (bd' q)) ∧ BdOK A ch b bd' ∧ ∀ q, q < eP A → fr.testBit q = true → bd' q = prc A b q) (fun r => ∃ r2, r = .inr (oI (nxt A ch b), r2) ∧ Fr (fun x => x = s + 1) S r2 ∧ ∃ bd', (∀ q, q < eP A → gi r2 (s + 1) q = oI (bd' q)) ∧ BdOK A ch b bd' ∧ ∀ q, nxt A ch b = some q → bd' q = prc A b q)) := by
      rintro i ⟨t1, t2, T⟩ hi ⟨k1, fr, k2, k3, k4, k5, bd', k6, k7, k8⟩
      simp only at k1 k2 k5 k6
      subst k1 k2
      have hPT : SP Y T p := hP.fr k5.2.1
      have hAT : PV Y T p A := ⟨hA.1.fr k5 (by omega) (by omega), fun q hq => by
        obtain ⟨c1, c2, c3, c4⟩ := hA.2 q hq
        refine ⟨?_, ?_, ?_, fun v hv => ?_⟩
        · rw [k5.gi (by omega)]; exact c1
        · rw [k5.gi (by omega)]; exact c2
        · rw [k5.gi (by omega)]; exact c3
        · rw [k5.gi (by omega)]; exact c4 v hv⟩
      have hST : SH Y T s := hS.fr k5.2.1
      unfold bX9_cheapest_5
      rw [if_neg (by rw [show (24 : Int32) = nI 24 from rfl, nlt (by omega) (by omega)]; omega), s_leastBound hn hPT hAT hST k6 k7.v, kc_s]
      cases hx : amf (fun q => (bd' q).isSome) (fun q => (bd' q).getD 0) (lk A) (eP A) with
      | none =>
        have hnx := (nxt_of k7).1 hx
        rw [if_pos (show oI none = -1 from rfl)]
        unfold jX9_cheapest_34_5
        rw [ok_some, so_r]
        exact ⟨T, by rw [hnx], k5, bd', k6, k7, fun q hq => by rw [hnx] at hq; cases hq⟩
      | some q =>
        obtain ⟨i1, i2, i3⟩ := amf_some hx
        have hno : ¬ oI (some q) = -1 := by show ¬ nI q = m1; rw [nm1 (by omega)]; exact fun h => h
        rw [if_neg hno]
        show ok (kc (fX10_isIn Y n T (nI q) (nI fr)) _) _
        rw [s_isIn (by omega) (by omega), kc_s]
        by_cases hf : fr.testBit q = true
        · have hnx := (nxt_of k7).2 q hx (k8 q i1 hf)
          rw [if_pos hf, if_neg (by decide)]
          unfold jX9_cheapest_34_5
          rw [ok_some, so_r]
          exact ⟨T, by rw [hnx], k5, bd', k6, k7, fun q' hq' => by rw [hnx] at hq'; cases hq'; exact k8 q i1 hf⟩
        · have hi12 : i < 12 := by
            by_cases z : i < 12
            · exact z
            · exact absurd (nK_full (K := fun q => fr.testBit q) (V := eP A) (by omega) q i1) hf
          rw [if_neg hf, if_pos rfl]
          cases hb' : bd' q with
          | none => rw [hb'] at i2; cases i2
          | some r =>
            have hq := (k7 q i1).2 r hb'
            have hk6 := k6 q i1
            rw [hb'] at hk6
            have hk6' : gi T (s + 1) q = nI r := hk6
            have hPb : ∀ v, v < eV A → gi T a v = nI (b v) := fun v hv => by rw [k5.gi has]; exact hpb v hv
            have hl1 := hS.2.2.1
            simp (discharger := omega) only [oI_s, kgr_n hST.1, kai_n, hk6']
            rw [s_priceFrom hn hPT hAT ha hPb hB i1 hq.2.1 hq.2.2, kc_s, kwi_n (by omega) (by omega)]
            have hx : (1 : Int32) <<< (nI q &&& 31) = nI (2 ^ q) := by
              have := nshl (s := 1) (p := q) (by omega) (by have := p12 (show q ≤ 12 by omega); omega)
              rw [Nat.one_mul] at this
              exact this
            rw [hx, nor, nI_1, ok_some, so_l]
            refine ⟨hi12, rfl, fr ||| 2 ^ q, rfl, ?_, ?_, k5.si rfl, fun j => if j = q then prc A b q else bd' j, fun j hj => ?_, fun j hj => ?_, fun j hj hfj => ?_⟩
            · exact Nat.or_lt_two_pow (n := 12) k3 (Nat.pow_lt_pow_right (by decide) (by omega))
            · have := nK_lt (K := fun j => fr.testBit j) (K' := fun j => (fr ||| 2 ^ q).testBit j) (V := eP A) (v := q) (fun j _ hj => by show (fr ||| 2 ^ q).testBit j = true; rw [tb_or, show fr.testBit j = true from hj]; rfl) i1 (by simpa using hf) (by show (fr ||| 2 ^ q).testBit q = true; rw [tb_or]; simp)
              omega
            · rw [Gi_si]
              dsimp only
              by_cases e : j = q
              · rw [if_pos ⟨rfl, e⟩, if_pos e]
                rfl
              · rw [if_neg (fun z => e z.2), if_neg e]
                exact k6 j hj
            · dsimp only
              by_cases e : j = q
              · subst e
                rw [if_pos rfl]
                refine ⟨fun h => Or.inr h, fun r' hr' => ⟨hq.1, ?_, ?_⟩⟩
                · have := prc_le a7 i1 hr'
                  omega
                · have hsp := pr_spec b (wo A j) (eV A) (eC A j * 1000)
                  have e : pr b (wo A j) (eV A) (eC A j * 1000) = some r' := hr'
                  rw [e] at hsp
                  exact hsp.2
              · rw [if_neg e]
                exact k7 j hj
            · dsimp only
              by_cases e : j = q
              · rw [if_pos e, e]
              · rw [if_neg e]
                rw [tb_or] at hfj
                have e' : ¬ q = j := fun z => e z.symm
                simp [e'] at hfj
                exact k8 j hj hfj
    refine iter_ok (fun i t => t.2.1 = nI i ∧ ∃ fr, t.1 = nI fr ∧ fr < 4096 ∧ i ≤ nK (fun q => fr.testBit q) (eP A) ∧ Fr (fun x => x = s + 1) S t.2.2 ∧ ∃ bd', (∀ q, q < eP A → gi t.2.2 (s + 1) q = oI (bd' q)) ∧ BdOK A ch b bd' ∧ ∀ q, q < eP A → fr.testBit q = true → bd' q = prc A b q) 12 (fun i t hi h => ?_) (fun t h => ?_) (by omega) ⟨rfl, 0, rfl, by decide, Nat.zero_le _, Fr.rf, bd, hb, hok, fun q _ h => by simp at h⟩
    · refine ok_mono (step i t (by omega) h) ?_
      intro o ho
      cases o with
      | inl s' => exact ho.2
      | inr r => exact ho
    · refine ok_mono (step 12 t (by omega) h) ?_
      intro o ho
      cases o with
      | inl s' => exact absurd ho.1 (by omega)
      | inr r => exact ho
  refine ok_kc key ?_
  rintro r ⟨r2, h1, h2, h3⟩
  subst h1
  exact ok_i ⟨rfl, h2, h3⟩
