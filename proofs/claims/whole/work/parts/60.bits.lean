/-! HOW MANY BITS: Integer.bitCount, and by clearing the least. -/
def pcn : Nat → Nat → Nat
  | 0, _ => 0
  | k + 1, m => m % 2 + pcn k (m / 2)
theorem sm_first (f : Nat → Nat) : ∀ k, sm f (k + 1) = f 0 + sm (fun i => f (i + 1)) k
  | 0 => by simp [sm]
  | k + 1 => by rw [sm_s, sm_first f k, sm_s]; omega
theorem pcn_tb : ∀ k m, pcn k m = nK (fun i => m.testBit i) k
  | 0, _ => rfl
  | k + 1, m => by
    unfold nK
    rw [sm_first]
    show m % 2 + pcn k (m / 2) = _
    rw [pcn_tb k (m / 2)]
    congr 1
    · show m % 2 = if m.testBit 0 = true then 1 else 0
      simp only [Nat.testBit_zero]
      by_cases h : m % 2 = 1
      · simp [h]
      · have : m % 2 = 0 := by omega
        simp [this]
    · unfold nK
      refine sm_ext (fun i _ => ?_)
      simp only [Nat.testBit_add_one]
theorem pcn_cat : ∀ (j k a b : Nat), a < 2 ^ j → pcn (j + k) (a + 2 ^ j * b) = pcn j a + pcn k b
  | 0, k, a, b, h => by
    have : a = 0 := by simpa using h
    subst this
    simp [pcn]
  | j + 1, k, a, b, h => by
    have e1 : (a + 2 ^ (j + 1) * b) % 2 = a % 2 := by rw [Nat.pow_succ, Nat.mul_comm (2 ^ j) 2, Nat.mul_assoc]; omega
    have e2 : (a + 2 ^ (j + 1) * b) / 2 = a / 2 + 2 ^ j * b := by rw [Nat.pow_succ, Nat.mul_comm (2 ^ j) 2, Nat.mul_assoc]; omega
    have e3 : j + 1 + k = (j + k) + 1 := by omega
    rw [e3]
    show (a + 2 ^ (j + 1) * b) % 2 + pcn (j + k) ((a + 2 ^ (j + 1) * b) / 2) = a % 2 + pcn j (a / 2) + pcn k b
    rw [e1, e2, pcn_cat j k (a / 2) b (by rw [Nat.pow_succ] at h; omega)]
    omega
theorem and8 {a b c d : Nat} (ha : a < 256) (hc : c < 256) : (256 * b + a) &&& (256 * d + c) = 256 * (b &&& d) + (a &&& c) := by
  have hac : a &&& c < 2 ^ 8 := Nat.and_lt_two_pow a hc
  apply Nat.eq_of_testBit_eq
  intro j
  rw [Nat.testBit_and, show 256 = 2 ^ 8 from rfl, Nat.testBit_two_pow_mul_add b ha, Nat.testBit_two_pow_mul_add d hc, Nat.testBit_two_pow_mul_add _ hac]
  by_cases h : j < 8
  · simp [h]
  · simp [h]
def q1 (x : Nat) : Nat := x - (x / 2 &&& 1431655765)
def q2 (x : Nat) : Nat := (x &&& 858993459) + (x / 4 &&& 858993459)
def q3 (x : Nat) : Nat := (x + x / 16) &&& 252645135
theorem q1_8 : ∀ a, a < 256 → ∀ e, e < 2 → (a / 2 + 128 * e) &&& 85 = a / 2 &&& 85 := by decide +kernel
theorem q2_8 : ∀ a, a < 256 → ∀ e, e < 4 → (a / 4 + 64 * e) &&& 51 = a / 4 &&& 51 := by decide +kernel
theorem q3_8 : ∀ a, a < 80 → ∀ e, e < 5 → (a + a / 16 + 16 * e) &&& 15 = (a + a / 16) &&& 15 := by decide +kernel
theorem q_8 : ∀ a, a < 256 → (a - (a / 2 &&& 85)) < 256 ∧ ((a - (a / 2 &&& 85)) &&& 51) + ((a - (a / 2 &&& 85)) / 4 &&& 51) < 80 ∧ (((a - (a / 2 &&& 85)) &&& 51) + ((a - (a / 2 &&& 85)) / 4 &&& 51)) % 16 < 5 ∧ ((((a - (a / 2 &&& 85)) &&& 51) + ((a - (a / 2 &&& 85)) / 4 &&& 51)) + (((a - (a / 2 &&& 85)) &&& 51) + ((a - (a / 2 &&& 85)) / 4 &&& 51)) / 16) &&& 15 = pcn 8 a := by decide +kernel
/-- the first three steps, byte by byte -/
theorem q1_24 {a b c : Nat} (ha : a < 256) (hb : b < 256) (hc : c < 256) : q1 (256 * (256 * c + b) + a) = 256 * (256 * (c - (c / 2 &&& 85)) + (b - (b / 2 &&& 85))) + (a - (a / 2 &&& 85)) := by
  have d1 : (256 * (256 * c + b) + a) / 2 = 256 * (256 * (c / 2) + (b / 2 + 128 * (c % 2))) + (a / 2 + 128 * (b % 2)) := by omega
  have m1' : 1431655765 = 256 * (256 * 21845 + 85) + 85 := rfl
  have m2' : c / 2 &&& 21845 = c / 2 &&& 85 := by
    have : ∀ c, c < 256 → c / 2 &&& 21845 = c / 2 &&& 85 := by decide +kernel
    exact this c hc
  have le1 := Nat.and_le_left (n := a / 2) (m := 85)
  have le2 := Nat.and_le_left (n := b / 2) (m := 85)
  have le3 := Nat.and_le_left (n := c / 2) (m := 85)
  unfold q1
  rw [d1, m1', and8 (by omega) (by omega), and8 (by omega) (by omega), q1_8 a ha _ (by omega), q1_8 b hb _ (by omega), m2']
  omega
theorem q2_24 {a b c : Nat} (ha : a < 256) (hb : b < 256) (hc : c < 256) : q2 (256 * (256 * c + b) + a) = 256 * (256 * ((c &&& 51) + (c / 4 &&& 51)) + ((b &&& 51) + (b / 4 &&& 51))) + ((a &&& 51) + (a / 4 &&& 51)) := by
  have d1 : (256 * (256 * c + b) + a) / 4 = 256 * (256 * (c / 4) + (b / 4 + 64 * (c % 4))) + (a / 4 + 64 * (b % 4)) := by omega
  have m1' : 858993459 = 256 * (256 * 13107 + 51) + 51 := rfl
  have m2' : c / 4 &&& 13107 = c / 4 &&& 51 := by
    have : ∀ c, c < 256 → c / 4 &&& 13107 = c / 4 &&& 51 := by decide +kernel
    exact this c hc
  have m3' : c &&& 13107 = c &&& 51 := by
    have : ∀ c, c < 256 → c &&& 13107 = c &&& 51 := by decide +kernel
    exact this c hc
  unfold q2
  rw [d1, m1', and8 (by omega) (by omega), and8 (by omega) (by omega), and8 (by omega) (by omega), and8 (by omega) (by omega), q2_8 a ha _ (by omega), q2_8 b hb _ (by omega), m2', m3']
  omega
theorem q3_24 {a b c : Nat} (ha : a < 80) (hb : b < 80) (hc : c < 80) (hb2 : b % 16 < 5) (hc2 : c % 16 < 5) : q3 (256 * (256 * c + b) + a) = 256 * (256 * ((c + c / 16) &&& 15) + ((b + b / 16) &&& 15)) + ((a + a / 16) &&& 15) := by
  have d1 : 256 * (256 * c + b) + a + (256 * (256 * c + b) + a) / 16 = 256 * (256 * (c + c / 16) + (b + b / 16 + 16 * (c % 16))) + (a + a / 16 + 16 * (b % 16)) := by omega
  have m1' : 252645135 = 256 * (256 * 3855 + 15) + 15 := rfl
  have m2' : (c + c / 16) &&& 3855 = (c + c / 16) &&& 15 := by
    have : ∀ c, c < 80 → (c + c / 16) &&& 3855 = (c + c / 16) &&& 15 := by decide +kernel
    exact this c hc
  unfold q3
  rw [d1, m1', and8 (by omega) (by omega), and8 (by omega) (by omega), q3_8 a ha _ (by omega), q3_8 b hb _ (by omega), m2']
theorem pcn_8 : ∀ a, a < 256 → pcn 8 a ≤ 8 := by decide +kernel
theorem bsum {x y z : Nat} (hx : x ≤ 8) (hy : y ≤ 8) (hz : z ≤ 8) : ((256 * (256 * z + y) + x + (256 * (256 * z + y) + x) / 256) + (256 * (256 * z + y) + x + (256 * (256 * z + y) + x) / 256) / 65536) % 64 = x + (y + z) := by
  have e1 : (256 * (256 * z + y) + x) / 256 = 256 * z + y := by omega
  rw [e1]
  have e2 : (256 * (256 * z + y) + x + (256 * z + y)) / 65536 = z := by omega
  rw [e2]
  omega
theorem bc_nat {m : Nat} (h : m < 16777216) : ((q3 (q2 (q1 m)) + q3 (q2 (q1 m)) / 256) + (q3 (q2 (q1 m)) + q3 (q2 (q1 m)) / 256) / 65536) % 64 = pcn 24 m ∧ q1 m < 16777216 ∧ q2 (q1 m) < 16777216 ∧ q3 (q2 (q1 m)) < 16777216 := by
  have e : m = 256 * (256 * (m / 65536) + m / 256 % 256) + m % 256 := by omega
  have hc : m / 65536 < 256 := by omega
  have hb : m / 256 % 256 < 256 := by omega
  have ha : m % 256 < 256 := by omega
  generalize m / 65536 = c at *
  generalize m / 256 % 256 = b at *
  generalize m % 256 = a at *
  subst e
  obtain ⟨a1, a2, a3, a4⟩ := q_8 a ha
  obtain ⟨b1, b2, b3, b4⟩ := q_8 b hb
  obtain ⟨c1, c2, c3, c4⟩ := q_8 c hc
  have z1 := q1_24 ha hb hc
  rw [z1, q2_24 a1 b1 c1, q3_24 a2 b2 c2 b3 c3, a4, b4, c4]
  have pa := pcn_8 a ha
  have pb := pcn_8 b hb
  have pc := pcn_8 c hc
  have hp : pcn 24 (256 * (256 * c + b) + a) = pcn 8 a + (pcn 8 b + pcn 8 c) := by
    have h1 := pcn_cat 8 16 a (256 * c + b) ha
    have h2 := pcn_cat 8 8 b c hb
    rw [show a + 2 ^ 8 * (256 * c + b) = 256 * (256 * c + b) + a by omega] at h1
    rw [show b + 2 ^ 8 * c = 256 * c + b by omega] at h2
    rw [h1, h2]
  rw [hp]
  refine ⟨bsum pa pb pc, by omega, by omega, by omega⟩
theorem q1_eq {m : Nat} : nI m - nI (m / 2 &&& 1431655765) = nI (q1 m) := nsub (Nat.le_trans Nat.and_le_left (Nat.div_le_self _ _))
theorem ush1 {m : Nat} (h : m < 4294967296) : (Int32.toUInt32 (nI m) >>> (Int32.toUInt32 (1 : Int32) &&& Int32.toUInt32 31)).toInt32 = nI (m / 2) := pk_ushrN h _ 1 (by decide)
theorem ush2 {m : Nat} (h : m < 4294967296) : (Int32.toUInt32 (nI m) >>> (Int32.toUInt32 (2 : Int32) &&& Int32.toUInt32 31)).toInt32 = nI (m / 4) := pk_ushrN h _ 2 (by decide)
theorem ush4 {m : Nat} (h : m < 4294967296) : (Int32.toUInt32 (nI m) >>> (Int32.toUInt32 (4 : Int32) &&& Int32.toUInt32 31)).toInt32 = nI (m / 16) := pk_ushrN h _ 4 (by decide)
theorem ush8 {m : Nat} (h : m < 4294967296) : (Int32.toUInt32 (nI m) >>> (Int32.toUInt32 (8 : Int32) &&& Int32.toUInt32 31)).toInt32 = nI (m / 256) := pk_ushrN h _ 8 (by decide)
theorem ush16 {m : Nat} (h : m < 4294967296) : (Int32.toUInt32 (nI m) >>> (Int32.toUInt32 (16 : Int32) &&& Int32.toUInt32 31)).toInt32 = nI (m / 65536) := pk_ushrN h _ 16 (by decide)
theorem s_bitCount {Y : XS} {n : Nat} {S : PS} {m : Nat} (h : m < 16777216) : fJ6_bitCount_0f7a4 Y n S (nI m) = some (nI (pcn 24 m)) := by
  obtain ⟨z1, z2, z3, z4⟩ := bc_nat h
  have c1 : (1431655765 : Int32) = nI 1431655765 := rfl
  have c2 : (858993459 : Int32) = nI 858993459 := rfl
  have c3 : (252645135 : Int32) = nI 252645135 := rfl
  have c4 : (63 : Int32) = nI 63 := rfl
  have e2 : ∀ x, (nI (x &&& 858993459) + nI (x / 4 &&& 858993459)) = nI (q2 x) := fun x => nI_add _ _
  have e3 : ∀ x, nI (x + x / 16 &&& 252645135) = nI (q3 x) := fun x => rfl
  unfold fJ6_bitCount_0f7a4
  simp (discharger := omega) only [c1, c2, c3, c4, ush1, nand, q1_eq, ush2, e2, ush4, nI_add, e3, ush8, ush16]
  rw [← z1]
  congr 2
  exact Nat.and_two_pow_sub_one_eq_mod _ 6
/-- s & (s - 1): the least bit is cleared -/
theorem pcn_low : ∀ (k s : Nat), 0 < s → s < 2 ^ k → pcn k (s &&& (s - 1)) + 1 = pcn k s
  | 0, s, h0, h => by simp at h; omega
  | k + 1, s, h0, h => by
    have hl : s / 2 < 2 ^ k := by rw [Nat.pow_succ] at h; omega
    have hd : (s &&& (s - 1)) / 2 = s / 2 &&& (s - 1) / 2 := by
      apply Nat.eq_of_testBit_eq
      intro i
      rw [← Nat.testBit_add_one, Nat.testBit_and, Nat.testBit_and, Nat.testBit_add_one, Nat.testBit_add_one]
    have hm : (s &&& (s - 1)) % 2 = 0 := by
      have hz : (s &&& (s - 1)).testBit 0 = false := by
        rw [Nat.testBit_and]
        by_cases e : s % 2 = 1
        · have e2 : (s - 1).testBit 0 = false := by
            rw [Nat.testBit_zero]
            exact decide_eq_false (by omega)
          rw [e2, Bool.and_false]
        · have e2 : s.testBit 0 = false := by
            rw [Nat.testBit_zero]
            exact decide_eq_false e
          rw [e2, Bool.false_and]
      rw [Nat.testBit_zero] at hz
      have := of_decide_eq_false hz
      omega
    show (s &&& (s - 1)) % 2 + pcn k ((s &&& (s - 1)) / 2) + 1 = s % 2 + pcn k (s / 2)
    rw [hm, hd]
    by_cases e : s % 2 = 1
    · have e1 : (s - 1) / 2 = s / 2 := by omega
      rw [e1, Nat.and_self, e]
      omega
    · have e1 : (s - 1) / 2 = s / 2 - 1 := by omega
      have e2 : s % 2 = 0 := by omega
      rw [e1, e2]
      have := pcn_low k (s / 2) (by omega) hl
      omega
theorem s_bitsOf {Y : XS} {n : Nat} {S : PS} {m : Nat} (hn : 100 ≤ n) (h : m < 16777216) : fX11_bitsOf Y n S (nI m) = some (nI (pcn 24 m)) := by
  unfold fX11_bitsOf
  have key : ok (iter (bX11_bitsOf_4 Y n S) n ((0 : Int32), nI m)) (fun r => r = nI (pcn 24 m)) := by
    refine iter_mu (fun t => ∃ s k, t = (nI k, nI s) ∧ s < 16777216 ∧ k + pcn 24 s = pcn 24 m) (fun t => pcn 24 t.2.toNatClampNeg) ?_ n _ ?_ ⟨m, 0, rfl, h, by omega⟩
    · rintro t ⟨s, k, rfl, hs, hk⟩
      unfold bX11_bitsOf_4
      dsimp only
      by_cases e : s = 0
      · subst e
        rw [if_pos (show nI 0 = 0 from rfl), ok_some, so_r]
        rw [← hk]
        rfl
      · have hx : nI s &&& (nI s - 1) = nI (s &&& (s - 1)) := by
          rw [show (1 : Int32) = nI 1 from rfl, nsub (by omega), nand]
        have hb : s &&& (s - 1) ≤ s := Nat.and_le_left
        have hp := pcn_low 24 s (by omega) hs
        rw [if_neg (nI_ne0 (by omega) (by omega)), hx, nI_1, ok_some, so_l]
        refine ⟨⟨s &&& (s - 1), k + 1, rfl, by omega, by omega⟩, ?_⟩
        dsimp only
        rw [ncl (by omega), ncl (by omega)]
        omega
    · dsimp only
      rw [ncl (by omega)]
      have : pcn 24 m ≤ 24 := by rw [pcn_tb]; exact nK_le
      omega
  obtain ⟨r, h1, h2⟩ := key
  rw [h1, h2]
  rfl
