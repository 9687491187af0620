/-! the law's loop, its start -/
theorem ti_add {a b : Int32} (h1 : -2147483648 ≤ a.toInt + b.toInt) (h2 : a.toInt + b.toInt < 2147483648) : (a + b).toInt = a.toInt + b.toInt := by
  rw [Int32.toInt_add]; exact Int.bmod_eq_of_le (by omega) (by omega)
theorem ti_sub {a b : Int32} (h1 : -2147483648 ≤ a.toInt - b.toInt) (h2 : a.toInt - b.toInt < 2147483648) : (a - b).toInt = a.toInt - b.toInt := by
  rw [Int32.toInt_sub]; exact Int.bmod_eq_of_le (by omega) (by omega)
theorem ti_mul {a b : Int32} (h1 : -2147483648 ≤ a.toInt * b.toInt) (h2 : a.toInt * b.toInt < 2147483648) : (a * b).toInt = a.toInt * b.toInt := by
  rw [Int32.toInt_mul]; exact Int.bmod_eq_of_le (by omega) (by omega)
def gsel (xs : Nat → Int32) (L n ax am ao : Nat) (c i : Int32) (Y : XS) (S : PS) : Option (XS × PS) :=
  if c = (0 : Int32) then g0 xs L n ax am ao i Y S else
  if c = (1 : Int32) then g1 xs L n ax am ao i Y S else
  if c = (2 : Int32) then g2 xs L n ax am ao i Y S else
  if c = (3 : Int32) then g3 xs L n ax am ao i Y S else
  if c = (4 : Int32) then g4 xs L n ax am ao i Y S else
  if c = (5 : Int32) then g5 xs L n ax am ao i Y S else
  if c = (6 : Int32) then g6 xs L n ax am ao i Y S else
  if c = (7 : Int32) then g7 xs L n ax am ao i Y S else
  if c = (8 : Int32) then g8 xs L n ax am ao i Y S else
  if c = (9 : Int32) then g9 xs L n ax am ao i Y S else
  if c = (10 : Int32) then g10 xs L n ax am ao i Y S else
  if c = (11 : Int32) then g11 xs L n ax am ao i Y S else
  if c = (12 : Int32) then g12 xs L n ax am ao i Y S else
  if c = (13 : Int32) then g13 xs L n ax am ao i Y S else
  if c = (14 : Int32) then g14 xs L n ax am ao i Y S else
  if c = (15 : Int32) then g15 xs L n ax am ao i Y S else
  if c = (16 : Int32) then g16 xs L n ax am ao i Y S else
  if c = (17 : Int32) then g17 xs L n ax am ao i Y S else
  if c = (18 : Int32) then g18 xs L n ax am ao i Y S else
  if c = (19 : Int32) then g19 xs L n ax am ao i Y S else
  if c = (20 : Int32) then g20 xs L n ax am ao i Y S else
  if c = (21 : Int32) then g21 xs L n ax am ao i Y S else
  if c = (22 : Int32) then g22 xs L n ax am ao i Y S else
  if c = (23 : Int32) then g23 xs L n ax am ao i Y S else
  if c = (24 : Int32) then g24 xs L n ax am ao i Y S else
  if c = (25 : Int32) then g25 xs L n ax am ao i Y S else
  if c = (26 : Int32) then g26 xs L n ax am ao i Y S else
  if c = (27 : Int32) then g27 xs L n ax am ao i Y S else
  if c = (28 : Int32) then g28 xs L n ax am ao i Y S else
  some (Y, S)
def bLaw (xs : Nat → Int32) (L n ax am ao : Nat) (s : Int32 × XS × PS) : Option ((Int32 × XS × PS) ⊕ Unit) :=
  if Int32.ofNat L - 6 < s.1 then some (.inr ()) else ksc xs L s.1 (fun y => kc (gsel xs L n ax am ao (y &&& 31) s.1 s.2.1 s.2.2) (fun o => some (.inl (s.1 + 6, o))))
def PL (C : CT) (ax am ao b : Nat) (s : Int32 × XS × PS) : Prop := 0 ≤ s.1.toInt → s.1.toInt ≤ 3072 → Ty s.2.1 ax 10 → Ty s.2.1 am 11 → Ty s.2.1 ao 15 → ∀ ρ cells slots, cells ≤ 1000 + 2 * s.1.toInt.toNat → slots ≤ 50000 + 85 * s.1.toInt.toNat → UW C (ρ, s.2.1, cells, slots) s.2.2 23 [(4, .int s.1), (3, .ref (ρ ao)), (2, .ref (ρ am)), (1, .ref (ρ ax)), (0, .ref b)] []
theorem wbLaw {C : CT} (hC : CK C RL cL_law 7 ret 100) {b L : Nat} {xs : Nat → Int32} (hL : L ≤ 3072) (hSC : SC C b L xs) (hNc : va_Nc eI eN C.2.2.2.2.1) (hR : 100000 ≤ C.2.2.2.1.cells ∧ 1000000 ≤ C.2.2.2.1.slots) (n ax am ao : Nat) (hEnd : ∀ ρ Y S cells slots lv, cells ≤ 100000 → slots ≤ 1000000 → UW C (ρ, Y, cells, slots) S 2036 lv []) (s : Int32 × XS × PS) {o : (Int32 × XS × PS) ⊕ Unit} (hf : bLaw xs L n ax am ao s = some o) (hN : ∀ s', o = .inl s' → PL C ax am ao b s') : PL C ax am ao b s := by
  intro h0 h1 hTx hTm hTo ρ cells slots hc hz
  unfold bLaw at hf
  refine u_iload hC dL_law_23 0 rfl ?_
  refine u_aload_n hC dL_law_25 4 rfl rfl ?_
  refine u_slen2 hC hSC dL_law_26 ?_
  refine u_bipush (v := (6 : Int32)) hC dL_law_27 (by decide) ?_
  refine u_isub hC dL_law_29 ?_
  refine u_icmp_gt (tgt := 2036) hC dL_law_30 (by decide) hf (fun h hf => ?_) (fun h hf => ?_)
  · exact hEnd _ _ _ _ _ _ (by omega) (by omega)
  have hLi : (Int32.ofNat L).toInt = L := by
    rw [Int32.toInt_ofNat_of_lt (by omega)]
  have hi6 : s.1.toInt ≤ (L : Int) - 6 := by
    have h2 := Int32.le_iff_toInt_le.mp (Int32.not_lt.mp h)
    have h6 : (6 : Int32).toInt = 6 := by decide
    rw [ti_sub (by rw [hLi, h6]; omega) (by rw [hLi, h6]; omega), hLi, h6] at h2
    exact h2
  have hi7 : (s.1 + 6).toInt = s.1.toInt + 6 := by
    have h6 : (6 : Int32).toInt = 6 := by decide
    rw [ti_add (by rw [h6]; omega) (by rw [h6]; omega), h6]
  refine u_aload_n hC dL_law_33 4 rfl rfl ?_
  refine u_iload hC dL_law_34 0 rfl ?_
  refine u_scr hC hSC dL_law_36 hf (fun y hf => ?_)
  refine u_bipush (v := (31 : Int32)) hC dL_law_37 (by decide) ?_
  refine u_iand hC dL_law_39 ?_
  obtain ⟨q, hq, hf⟩ := kc_some hf
  have hXB : XB C (ρ, s.2.1, cells, slots) 8 508 := by
    obtain ⟨p, l, e, R, s0, m, args, below, meth, c, Q, G, A⟩ := C
    have hr1 : 100000 ≤ R.cells := hR.1
    have hr2 : 1000000 ≤ R.slots := hR.2
    exact ⟨by show cells + 8 ≤ R.cells; omega, by show slots + 508 ≤ R.slots; omega⟩
  have hK : ∀ ρ' c' z', AG ρ s.2.1 ρ' q.1 → c' ≤ cells + 8 → z' ≤ slots + 508 → UW C (ρ', q.1, c', z') q.2 2030 [(4, .int s.1), (3, .ref (ρ' ao)), (2, .ref (ρ' am)), (1, .ref (ρ' ax)), (0, .ref b)] [] := by
    intro ρ' c' z' hag hc' hz'
    refine u_iinc (v := s.1 + 6) (lv' := [(4, .int (s.1 + 6)), (3, .ref (ρ' ao)), (2, .ref (ρ' am)), (1, .ref (ρ' ax)), (0, .ref b)]) hC dL_law_2030 0 rfl rfl (by decide) rfl ?_
    refine u_goto (tgt := 23) hC dL_law_2033 (by decide) ?_
    exact hN _ (Option.some.inj hf).symm (by rw [hi7]; omega) (by rw [hi7]; omega) (hag _ _ hTx).2 (hag _ _ hTm).2 (hag _ _ hTo).2 ρ' c' z' (by rw [hi7]; omega) (by rw [hi7]; omega)
  unfold gsel at hq
  by_cases hs0 : y &&& 31 = (0 : Int32)
  · rw [if_pos hs0] at hq
    refine u_tin (tgt := 172) hC dL_law_40 (by rw [hs0]; decide) (by rw [hs0]; decide) (by rw [hs0]; rfl) (by decide) ?_
    exact wg0 hC hSC hNc n s.2.2 s.1 ax am ao hTx hTm hTo hq hXB hK
  rw [if_neg hs0] at hq
  by_cases hs1 : y &&& 31 = (1 : Int32)
  · rw [if_pos hs1] at hq
    refine u_tin (tgt := 245) hC dL_law_40 (by rw [hs1]; decide) (by rw [hs1]; decide) (by rw [hs1]; rfl) (by decide) ?_
    exact wg1 hC hSC hNc n s.2.2 s.1 ax am ao hTx hTm hTo hq hXB hK
  rw [if_neg hs1] at hq
  by_cases hs2 : y &&& 31 = (2 : Int32)
  · rw [if_pos hs2] at hq
    refine u_tin (tgt := 301) hC dL_law_40 (by rw [hs2]; decide) (by rw [hs2]; decide) (by rw [hs2]; rfl) (by decide) ?_
    exact wg2 hC hSC hNc n s.2.2 s.1 ax am ao hTx hTm hTo hq hXB hK
  rw [if_neg hs2] at hq
  by_cases hs3 : y &&& 31 = (3 : Int32)
  · rw [if_pos hs3] at hq
    refine u_tin (tgt := 314) hC dL_law_40 (by rw [hs3]; decide) (by rw [hs3]; decide) (by rw [hs3]; rfl) (by decide) ?_
    exact wg3 hC hSC hNc n s.2.2 s.1 ax am ao hTx hTm hTo hq hXB hK
  rw [if_neg hs3] at hq
  by_cases hs4 : y &&& 31 = (4 : Int32)
  · rw [if_pos hs4] at hq
    refine u_tin (tgt := 370) hC dL_law_40 (by rw [hs4]; decide) (by rw [hs4]; decide) (by rw [hs4]; rfl) (by decide) ?_
    exact wg4 hC hSC hNc n s.2.2 s.1 ax am ao hTx hTm hTo hq hXB hK
  rw [if_neg hs4] at hq
  by_cases hs5 : y &&& 31 = (5 : Int32)
  · rw [if_pos hs5] at hq
    refine u_tin (tgt := 438) hC dL_law_40 (by rw [hs5]; decide) (by rw [hs5]; decide) (by rw [hs5]; rfl) (by decide) ?_
    exact wg5 hC hSC hNc n s.2.2 s.1 ax am ao hTx hTm hTo hq hXB hK
  rw [if_neg hs5] at hq
  by_cases hs6 : y &&& 31 = (6 : Int32)
  · rw [if_pos hs6] at hq
    refine u_tin (tgt := 534) hC dL_law_40 (by rw [hs6]; decide) (by rw [hs6]; decide) (by rw [hs6]; rfl) (by decide) ?_
    exact wg6 hC hSC hNc n s.2.2 s.1 ax am ao hTx hTm hTo hq hXB hK
  rw [if_neg hs6] at hq
  by_cases hs7 : y &&& 31 = (7 : Int32)
  · rw [if_pos hs7] at hq
    refine u_tin (tgt := 602) hC dL_law_40 (by rw [hs7]; decide) (by rw [hs7]; decide) (by rw [hs7]; rfl) (by decide) ?_
    exact wg7 hC hSC hNc n s.2.2 s.1 ax am ao hTx hTm hTo hq hXB hK
  rw [if_neg hs7] at hq
  by_cases hs8 : y &&& 31 = (8 : Int32)
  · rw [if_pos hs8] at hq
    refine u_tin (tgt := 670) hC dL_law_40 (by rw [hs8]; decide) (by rw [hs8]; decide) (by rw [hs8]; rfl) (by decide) ?_
    exact wg8 hC hSC hNc n s.2.2 s.1 ax am ao hTx hTm hTo hq hXB hK
  rw [if_neg hs8] at hq
  by_cases hs9 : y &&& 31 = (9 : Int32)
  · rw [if_pos hs9] at hq
    refine u_tin (tgt := 738) hC dL_law_40 (by rw [hs9]; decide) (by rw [hs9]; decide) (by rw [hs9]; rfl) (by decide) ?_
    exact wg9 hC hSC hNc n s.2.2 s.1 ax am ao hTx hTm hTo hq hXB hK
  rw [if_neg hs9] at hq
  by_cases hs10 : y &&& 31 = (10 : Int32)
  · rw [if_pos hs10] at hq
    refine u_tin (tgt := 818) hC dL_law_40 (by rw [hs10]; decide) (by rw [hs10]; decide) (by rw [hs10]; rfl) (by decide) ?_
    exact wg10 hC hSC hNc n s.2.2 s.1 ax am ao hTx hTm hTo hq hXB hK
  rw [if_neg hs10] at hq
  by_cases hs11 : y &&& 31 = (11 : Int32)
  · rw [if_pos hs11] at hq
    refine u_tin (tgt := 886) hC dL_law_40 (by rw [hs11]; decide) (by rw [hs11]; decide) (by rw [hs11]; rfl) (by decide) ?_
    exact wg11 hC hSC hNc n s.2.2 s.1 ax am ao hTx hTm hTo hq hXB hK
  rw [if_neg hs11] at hq
  by_cases hs12 : y &&& 31 = (12 : Int32)
  · rw [if_pos hs12] at hq
    refine u_tin (tgt := 954) hC dL_law_40 (by rw [hs12]; decide) (by rw [hs12]; decide) (by rw [hs12]; rfl) (by decide) ?_
    exact wg12 hC hSC hNc n s.2.2 s.1 ax am ao hTx hTm hTo hq hXB hK
  rw [if_neg hs12] at hq
  by_cases hs13 : y &&& 31 = (13 : Int32)
  · rw [if_pos hs13] at hq
    refine u_tin (tgt := 1022) hC dL_law_40 (by rw [hs13]; decide) (by rw [hs13]; decide) (by rw [hs13]; rfl) (by decide) ?_
    exact wg13 hC hSC hNc n s.2.2 s.1 ax am ao hTx hTm hTo hq hXB hK
  rw [if_neg hs13] at hq
  by_cases hs14 : y &&& 31 = (14 : Int32)
  · rw [if_pos hs14] at hq
    refine u_tin (tgt := 1090) hC dL_law_40 (by rw [hs14]; decide) (by rw [hs14]; decide) (by rw [hs14]; rfl) (by decide) ?_
    exact wg14 hC hSC hNc n s.2.2 s.1 ax am ao hTx hTm hTo hq hXB hK
  rw [if_neg hs14] at hq
  by_cases hs15 : y &&& 31 = (15 : Int32)
  · rw [if_pos hs15] at hq
    refine u_tin (tgt := 1193) hC dL_law_40 (by rw [hs15]; decide) (by rw [hs15]; decide) (by rw [hs15]; rfl) (by decide) ?_
    exact wg15 hC hSC hNc n s.2.2 s.1 ax am ao hTx hTm hTo hq hXB hK
  rw [if_neg hs15] at hq
  by_cases hs16 : y &&& 31 = (16 : Int32)
  · rw [if_pos hs16] at hq
    refine u_tin (tgt := 1261) hC dL_law_40 (by rw [hs16]; decide) (by rw [hs16]; decide) (by rw [hs16]; rfl) (by decide) ?_
    exact wg16 hC hSC hNc n s.2.2 s.1 ax am ao hTx hTm hTo hq hXB hK
  rw [if_neg hs16] at hq
  by_cases hs17 : y &&& 31 = (17 : Int32)
  · rw [if_pos hs17] at hq
    refine u_tin (tgt := 1329) hC dL_law_40 (by rw [hs17]; decide) (by rw [hs17]; decide) (by rw [hs17]; rfl) (by decide) ?_
    exact wg17 hC hSC hNc n s.2.2 s.1 ax am ao hTx hTm hTo hq hXB hK
  rw [if_neg hs17] at hq
  by_cases hs18 : y &&& 31 = (18 : Int32)
  · rw [if_pos hs18] at hq
    refine u_tin (tgt := 1397) hC dL_law_40 (by rw [hs18]; decide) (by rw [hs18]; decide) (by rw [hs18]; rfl) (by decide) ?_
    exact wg18 hC hSC hNc n s.2.2 s.1 ax am ao hTx hTm hTo hq hXB hK
  rw [if_neg hs18] at hq
  by_cases hs19 : y &&& 31 = (19 : Int32)
  · rw [if_pos hs19] at hq
    refine u_tin (tgt := 1489) hC dL_law_40 (by rw [hs19]; decide) (by rw [hs19]; decide) (by rw [hs19]; rfl) (by decide) ?_
    exact wg19 hC hSC hNc n s.2.2 s.1 ax am ao hTx hTm hTo hq hXB hK
  rw [if_neg hs19] at hq
  by_cases hs20 : y &&& 31 = (20 : Int32)
  · rw [if_pos hs20] at hq
    refine u_tin (tgt := 1569) hC dL_law_40 (by rw [hs20]; decide) (by rw [hs20]; decide) (by rw [hs20]; rfl) (by decide) ?_
    exact wg20 hC hSC hNc n s.2.2 s.1 ax am ao hTx hTm hTo hq hXB hK
  rw [if_neg hs20] at hq
  by_cases hs21 : y &&& 31 = (21 : Int32)
  · rw [if_pos hs21] at hq
    refine u_tin (tgt := 1637) hC dL_law_40 (by rw [hs21]; decide) (by rw [hs21]; decide) (by rw [hs21]; rfl) (by decide) ?_
    exact wg21 hC hSC hNc n s.2.2 s.1 ax am ao hTx hTm hTo hq hXB hK
  rw [if_neg hs21] at hq
  by_cases hs22 : y &&& 31 = (22 : Int32)
  · rw [if_pos hs22] at hq
    refine u_tin (tgt := 1705) hC dL_law_40 (by rw [hs22]; decide) (by rw [hs22]; decide) (by rw [hs22]; rfl) (by decide) ?_
    exact wg22 hC hSC hNc n s.2.2 s.1 ax am ao hTx hTm hTo hq hXB hK
  rw [if_neg hs22] at hq
  by_cases hs23 : y &&& 31 = (23 : Int32)
  · rw [if_pos hs23] at hq
    refine u_tin (tgt := 1761) hC dL_law_40 (by rw [hs23]; decide) (by rw [hs23]; decide) (by rw [hs23]; rfl) (by decide) ?_
    exact wg23 hC hSC hNc n s.2.2 s.1 ax am ao hTx hTm hTo hq hXB hK
  rw [if_neg hs23] at hq
  by_cases hs24 : y &&& 31 = (24 : Int32)
  · rw [if_pos hs24] at hq
    refine u_tin (tgt := 1829) hC dL_law_40 (by rw [hs24]; decide) (by rw [hs24]; decide) (by rw [hs24]; rfl) (by decide) ?_
    exact wg24 hC hSC hNc n s.2.2 s.1 ax am ao hTx hTm hTo hq hXB hK
  rw [if_neg hs24] at hq
  by_cases hs25 : y &&& 31 = (25 : Int32)
  · rw [if_pos hs25] at hq
    refine u_tin (tgt := 1909) hC dL_law_40 (by rw [hs25]; decide) (by rw [hs25]; decide) (by rw [hs25]; rfl) (by decide) ?_
    exact wg25 hC hSC hNc n s.2.2 s.1 ax am ao hTx hTm hTo hq hXB hK
  rw [if_neg hs25] at hq
  by_cases hs26 : y &&& 31 = (26 : Int32)
  · rw [if_pos hs26] at hq
    refine u_tin (tgt := 1993) hC dL_law_40 (by rw [hs26]; decide) (by rw [hs26]; decide) (by rw [hs26]; rfl) (by decide) ?_
    exact wg26 hC hSC hNc n s.2.2 s.1 ax am ao hTx hTm hTo hq hXB hK
  rw [if_neg hs26] at hq
  by_cases hs27 : y &&& 31 = (27 : Int32)
  · rw [if_pos hs27] at hq
    refine u_tin (tgt := 2006) hC dL_law_40 (by rw [hs27]; decide) (by rw [hs27]; decide) (by rw [hs27]; rfl) (by decide) ?_
    exact wg27 hC hSC hNc n s.2.2 s.1 ax am ao hTx hTm hTo hq hXB hK
  rw [if_neg hs27] at hq
  by_cases hs28 : y &&& 31 = (28 : Int32)
  · rw [if_pos hs28] at hq
    refine u_tin (tgt := 2017) hC dL_law_40 (by rw [hs28]; decide) (by rw [hs28]; decide) (by rw [hs28]; rfl) (by decide) ?_
    exact wg28 hC hSC hNc n s.2.2 s.1 ax am ao hTx hTm hTo hq hXB hK
  rw [if_neg hs28] at hq
  have hz0 := lv_neT (a := 0) hs0 (by decide)
  have hz1 := lv_neT (a := 1) hs1 (by decide)
  have hz2 := lv_neT (a := 2) hs2 (by decide)
  have hz3 := lv_neT (a := 3) hs3 (by decide)
  have hz4 := lv_neT (a := 4) hs4 (by decide)
  have hz5 := lv_neT (a := 5) hs5 (by decide)
  have hz6 := lv_neT (a := 6) hs6 (by decide)
  have hz7 := lv_neT (a := 7) hs7 (by decide)
  have hz8 := lv_neT (a := 8) hs8 (by decide)
  have hz9 := lv_neT (a := 9) hs9 (by decide)
  have hz10 := lv_neT (a := 10) hs10 (by decide)
  have hz11 := lv_neT (a := 11) hs11 (by decide)
  have hz12 := lv_neT (a := 12) hs12 (by decide)
  have hz13 := lv_neT (a := 13) hs13 (by decide)
  have hz14 := lv_neT (a := 14) hs14 (by decide)
  have hz15 := lv_neT (a := 15) hs15 (by decide)
  have hz16 := lv_neT (a := 16) hs16 (by decide)
  have hz17 := lv_neT (a := 17) hs17 (by decide)
  have hz18 := lv_neT (a := 18) hs18 (by decide)
  have hz19 := lv_neT (a := 19) hs19 (by decide)
  have hz20 := lv_neT (a := 20) hs20 (by decide)
  have hz21 := lv_neT (a := 21) hs21 (by decide)
  have hz22 := lv_neT (a := 22) hs22 (by decide)
  have hz23 := lv_neT (a := 23) hs23 (by decide)
  have hz24 := lv_neT (a := 24) hs24 (by decide)
  have hz25 := lv_neT (a := 25) hs25 (by decide)
  have hz26 := lv_neT (a := 26) hs26 (by decide)
  have hz27 := lv_neT (a := 27) hs27 (by decide)
  have hz28 := lv_neT (a := 28) hs28 (by decide)
  refine u_tout (tgt := 2030) hC dL_law_40 (by omega) (by decide) ?_
  cases hq
  exact hK ρ cells slots (AG.refl _ _) (by omega) (by omega)
theorem n_l {a b : Cond} {A : Array Value} {s : State} (h : (Cond.and a b).before A s = true) : a.before A s = true := by
  rw [Cond.before_and, Bool.and_eq_true] at h; exact h.1
theorem n_r {a b : Cond} {A : Array Value} {s : State} (h : (Cond.and a b).before A s = true) : b.before A s = true := by
  rw [Cond.before_and, Bool.and_eq_true] at h; exact h.2
def tmS (i : Nat) : Term := .string (strO i) (strI i)
def fV (i : Nat) : Term := .field (tmS i) "java/lang/String" "value" "[B"
/-- what the Statement says of a String constant -/
def SW (A : Array Value) (s : State) (i : Nat) : Prop := (Cond.exactly (tmS i) "java/lang/String").before A s = true ∧ (Cond.eq (.field (tmS i) "java/lang/String" "coder" "B") (.int 0)).before A s = true ∧ (Cond.arrayOf (fV i) .byte).before A s = true ∧ (Cond.eq (.length (fV i)) (.int (Int32.ofNat (strL i)))).before A s = true ∧ (∀ j, j < strL i → (Cond.eq (.elem (fV i) (.int (Int32.ofNat j))) (.int (strB i j))).before A s = true) ∧ (Cond.stringRef (strO i) (strI i) (strT i)).before A s = true
theorem strL_small : ∀ i, i < nStr → strL i < 2 ^ 31 := by decide
theorem lt_1 {w : Cond} (j : Nat) (h : tables_1_1[j]? = some w) : w ∈ lw_tbl := List.mem_append_right _ (tq_1 (List.mem_of_getElem? h))
theorem lt_2 {w : Cond} (j : Nat) (h : tables_1_2[j]? = some w) : w ∈ lw_tbl := List.mem_append_right _ (tq_2 (List.mem_of_getElem? h))
theorem lt_3 {w : Cond} (j : Nat) (h : tables_1_3[j]? = some w) : w ∈ lw_tbl := List.mem_append_right _ (tq_3 (List.mem_of_getElem? h))
theorem lt_4 {w : Cond} (j : Nat) (h : tables_1_4[j]? = some w) : w ∈ lw_tbl := List.mem_append_right _ (tq_4 (List.mem_of_getElem? h))
theorem lt_5 {w : Cond} (j : Nat) (h : tables_1_5[j]? = some w) : w ∈ lw_tbl := List.mem_append_right _ (tq_5 (List.mem_of_getElem? h))
theorem lt_6 {w : Cond} (j : Nat) (h : tables_1_6[j]? = some w) : w ∈ lw_tbl := List.mem_append_right _ (tq_6 (List.mem_of_getElem? h))
theorem lt_7 {w : Cond} (j : Nat) (h : tables_1_7[j]? = some w) : w ∈ lw_tbl := List.mem_append_right _ (tq_7 (List.mem_of_getElem? h))
theorem lt_8 {w : Cond} (j : Nat) (h : tables_1_8[j]? = some w) : w ∈ lw_tbl := List.mem_append_right _ (tq_8 (List.mem_of_getElem? h))
theorem sw_0 {A : Array Value} {s : State} (h : narrow_1.before A s = true) (ht : ∀ w ∈ lw_tbl, w.before A s = true) : SW A s 0 := by
  unfold narrow_1 at h
  refine ⟨(n_l (n_l (n_r (n_l (n_r (n_r (n_l (n_l (n_l h))))))))), (n_r (n_l (n_r (n_l (n_r (n_r (n_l (n_l (n_l h))))))))), (n_l (n_r (n_r (n_l (n_r (n_r (n_l (n_l (n_l h))))))))), (n_l (n_r (n_r (n_r (n_l (n_r (n_r (n_l (n_l (n_l h)))))))))), ?_, ht _ (lt_3 62 rfl)⟩
  intro j hj
  replace hj : j < 24 := hj
  match j, hj with
    | 0, _ => exact (n_r (n_r (n_r (n_r (n_l (n_r (n_r (n_l (n_l (n_l h))))))))))
    | 1, _ => exact (n_l (n_l (n_l (n_r (n_r (n_r (n_l (n_l (n_l h)))))))))
    | 2, _ => exact (n_r (n_l (n_l (n_r (n_r (n_r (n_l (n_l (n_l h)))))))))
    | 3, _ => exact (n_l (n_r (n_l (n_r (n_r (n_r (n_l (n_l (n_l h)))))))))
    | 4, _ => exact (n_l (n_r (n_r (n_l (n_r (n_r (n_r (n_l (n_l (n_l h))))))))))
    | 5, _ => exact (n_r (n_r (n_r (n_l (n_r (n_r (n_r (n_l (n_l (n_l h))))))))))
    | 6, _ => exact (n_l (n_l (n_r (n_r (n_r (n_r (n_l (n_l (n_l h)))))))))
    | 7, _ => exact (n_r (n_l (n_r (n_r (n_r (n_r (n_l (n_l (n_l h)))))))))
    | 8, _ => exact (n_l (n_r (n_r (n_r (n_r (n_r (n_l (n_l (n_l h)))))))))
    | 9, _ => exact (n_l (n_r (n_r (n_r (n_r (n_r (n_r (n_l (n_l (n_l h))))))))))
    | 10, _ => exact (n_r (n_r (n_r (n_r (n_r (n_r (n_r (n_l (n_l (n_l h))))))))))
    | 11, _ => exact (n_l (n_l (n_l (n_l (n_l (n_l (n_r (n_l (n_l h)))))))))
    | 12, _ => exact (n_r (n_l (n_l (n_l (n_l (n_l (n_r (n_l (n_l h)))))))))
    | 13, _ => exact (n_l (n_r (n_l (n_l (n_l (n_l (n_r (n_l (n_l h)))))))))
    | 14, _ => exact (n_l (n_r (n_r (n_l (n_l (n_l (n_l (n_r (n_l (n_l h))))))))))
    | 15, _ => exact (n_r (n_r (n_r (n_l (n_l (n_l (n_l (n_r (n_l (n_l h))))))))))
    | 16, _ => exact (n_l (n_l (n_r (n_l (n_l (n_l (n_r (n_l (n_l h)))))))))
    | 17, _ => exact (n_r (n_l (n_r (n_l (n_l (n_l (n_r (n_l (n_l h)))))))))
    | 18, _ => exact (n_l (n_r (n_r (n_l (n_l (n_l (n_r (n_l (n_l h)))))))))
    | 19, _ => exact (n_l (n_r (n_r (n_r (n_l (n_l (n_l (n_r (n_l (n_l h))))))))))
    | 20, _ => exact (n_r (n_r (n_r (n_r (n_l (n_l (n_l (n_r (n_l (n_l h))))))))))
    | 21, _ => exact (n_l (n_l (n_l (n_r (n_l (n_l (n_r (n_l (n_l h)))))))))
    | 22, _ => exact (n_r (n_l (n_l (n_r (n_l (n_l (n_r (n_l (n_l h)))))))))
    | 23, _ => exact (n_l (n_r (n_l (n_r (n_l (n_l (n_r (n_l (n_l h)))))))))
    | n + 24, h => exact absurd h (by omega)
theorem sw_1 {A : Array Value} {s : State} (h : narrow_1.before A s = true) (ht : ∀ w ∈ lw_tbl, w.before A s = true) : SW A s 1 := by
  unfold narrow_1 at h
  refine ⟨(n_l (n_r (n_r (n_l (n_r (n_l (n_l (n_r (n_l (n_l h)))))))))), (n_r (n_r (n_r (n_l (n_r (n_l (n_l (n_r (n_l (n_l h)))))))))), (n_l (n_l (n_r (n_r (n_l (n_l (n_r (n_l (n_l h))))))))), (n_r (n_l (n_r (n_r (n_l (n_l (n_r (n_l (n_l h))))))))), ?_, ht _ (lt_3 124 rfl)⟩
  intro j hj
  replace hj : j < 6 := hj
  match j, hj with
    | 0, _ => exact (n_l (n_r (n_r (n_r (n_l (n_l (n_r (n_l (n_l h)))))))))
    | 1, _ => exact (n_l (n_r (n_r (n_r (n_r (n_l (n_l (n_r (n_l (n_l h))))))))))
    | 2, _ => exact (n_r (n_r (n_r (n_r (n_r (n_l (n_l (n_r (n_l (n_l h))))))))))
    | 3, _ => exact (n_l (n_l (n_l (n_l (n_r (n_l (n_r (n_l (n_l h)))))))))
    | 4, _ => exact (n_r (n_l (n_l (n_l (n_r (n_l (n_r (n_l (n_l h)))))))))
    | 5, _ => exact (n_l (n_r (n_l (n_l (n_r (n_l (n_r (n_l (n_l h)))))))))
    | n + 6, h => exact absurd h (by omega)
theorem sw_2 {A : Array Value} {s : State} (h : narrow_1.before A s = true) (ht : ∀ w ∈ lw_tbl, w.before A s = true) : SW A s 2 := by
  unfold narrow_1 at h
  refine ⟨(n_r (n_r (n_r (n_l (n_l (n_r (n_l (n_r (n_l (n_l h)))))))))), (n_l (n_l (n_r (n_l (n_r (n_l (n_r (n_l (n_l h))))))))), (n_r (n_l (n_r (n_l (n_r (n_l (n_r (n_l (n_l h))))))))), (n_l (n_r (n_r (n_l (n_r (n_l (n_r (n_l (n_l h))))))))), ?_, ht _ (lt_3 198 rfl)⟩
  intro j hj
  replace hj : j < 7 := hj
  match j, hj with
    | 0, _ => exact (n_l (n_r (n_r (n_r (n_l (n_r (n_l (n_r (n_l (n_l h))))))))))
    | 1, _ => exact (n_r (n_r (n_r (n_r (n_l (n_r (n_l (n_r (n_l (n_l h))))))))))
    | 2, _ => exact (n_l (n_l (n_l (n_r (n_r (n_l (n_r (n_l (n_l h)))))))))
    | 3, _ => exact (n_r (n_l (n_l (n_r (n_r (n_l (n_r (n_l (n_l h)))))))))
    | 4, _ => exact (n_l (n_r (n_l (n_r (n_r (n_l (n_r (n_l (n_l h)))))))))
    | 5, _ => exact (n_l (n_r (n_r (n_l (n_r (n_r (n_l (n_r (n_l (n_l h))))))))))
    | 6, _ => exact (n_r (n_r (n_r (n_l (n_r (n_r (n_l (n_r (n_l (n_l h))))))))))
    | n + 7, h => exact absurd h (by omega)
theorem sw_3 {A : Array Value} {s : State} (h : narrow_1.before A s = true) (ht : ∀ w ∈ lw_tbl, w.before A s = true) : SW A s 3 := by
  unfold narrow_1 at h
  refine ⟨(n_l (n_r (n_r (n_r (n_r (n_l (n_r (n_l (n_l h))))))))), (n_l (n_r (n_r (n_r (n_r (n_r (n_l (n_r (n_l (n_l h)))))))))), (n_r (n_r (n_r (n_r (n_r (n_r (n_l (n_r (n_l (n_l h)))))))))), (n_l (n_l (n_l (n_l (n_l (n_r (n_r (n_l (n_l h))))))))), ?_, ht _ (lt_3 207 rfl)⟩
  intro j hj
  replace hj : j < 5 := hj
  match j, hj with
    | 0, _ => exact (n_r (n_l (n_l (n_l (n_l (n_r (n_r (n_l (n_l h)))))))))
    | 1, _ => exact (n_l (n_r (n_l (n_l (n_l (n_r (n_r (n_l (n_l h)))))))))
    | 2, _ => exact (n_l (n_r (n_r (n_l (n_l (n_l (n_r (n_r (n_l (n_l h))))))))))
    | 3, _ => exact (n_r (n_r (n_r (n_l (n_l (n_l (n_r (n_r (n_l (n_l h))))))))))
    | 4, _ => exact (n_l (n_l (n_r (n_l (n_l (n_r (n_r (n_l (n_l h)))))))))
    | n + 5, h => exact absurd h (by omega)
theorem sw_4 {A : Array Value} {s : State} (h : narrow_1.before A s = true) (ht : ∀ w ∈ lw_tbl, w.before A s = true) : SW A s 4 := by
  unfold narrow_1 at h
  refine ⟨(n_r (n_r (n_r (n_r (n_l (n_l (n_r (n_r (n_l (n_l h)))))))))), (n_l (n_l (n_l (n_r (n_l (n_r (n_r (n_l (n_l h))))))))), (n_r (n_l (n_l (n_r (n_l (n_r (n_r (n_l (n_l h))))))))), (n_l (n_r (n_l (n_r (n_l (n_r (n_r (n_l (n_l h))))))))), ?_, ht _ (lt_3 208 rfl)⟩
  intro j hj
  replace hj : j < 3 := hj
  match j, hj with
    | 0, _ => exact (n_l (n_r (n_r (n_l (n_r (n_l (n_r (n_r (n_l (n_l h))))))))))
    | 1, _ => exact (n_r (n_r (n_r (n_l (n_r (n_l (n_r (n_r (n_l (n_l h))))))))))
    | 2, _ => exact (n_l (n_l (n_r (n_r (n_l (n_r (n_r (n_l (n_l h)))))))))
    | n + 3, h => exact absurd h (by omega)
theorem sw_5 {A : Array Value} {s : State} (h : narrow_1.before A s = true) (ht : ∀ w ∈ lw_tbl, w.before A s = true) : SW A s 5 := by
  unfold narrow_1 at h
  refine ⟨(n_l (n_l (n_l (n_l (n_r (n_r (n_r (n_l (n_l h))))))))), (n_r (n_l (n_l (n_l (n_r (n_r (n_r (n_l (n_l h))))))))), (n_l (n_r (n_l (n_l (n_r (n_r (n_r (n_l (n_l h))))))))), (n_l (n_r (n_r (n_l (n_l (n_r (n_r (n_r (n_l (n_l h)))))))))), ?_, ht _ (lt_4 4 rfl)⟩
  intro j hj
  replace hj : j < 5 := hj
  match j, hj with
    | 0, _ => exact (n_r (n_r (n_r (n_l (n_l (n_r (n_r (n_r (n_l (n_l h))))))))))
    | 1, _ => exact (n_l (n_l (n_r (n_l (n_r (n_r (n_r (n_l (n_l h)))))))))
    | 2, _ => exact (n_r (n_l (n_r (n_l (n_r (n_r (n_r (n_l (n_l h)))))))))
    | 3, _ => exact (n_l (n_r (n_r (n_l (n_r (n_r (n_r (n_l (n_l h)))))))))
    | 4, _ => exact (n_l (n_r (n_r (n_r (n_l (n_r (n_r (n_r (n_l (n_l h))))))))))
    | n + 5, h => exact absurd h (by omega)
theorem sw_6 {A : Array Value} {s : State} (h : narrow_1.before A s = true) (ht : ∀ w ∈ lw_tbl, w.before A s = true) : SW A s 6 := by
  unfold narrow_1 at h
  refine ⟨(n_r (n_r (n_r (n_l (n_r (n_r (n_r (n_r (n_l (n_l h)))))))))), (n_l (n_l (n_r (n_r (n_r (n_r (n_r (n_l (n_l h))))))))), (n_l (n_r (n_l (n_r (n_r (n_r (n_r (n_r (n_l (n_l h)))))))))), (n_r (n_r (n_l (n_r (n_r (n_r (n_r (n_r (n_l (n_l h)))))))))), ?_, ht _ (lt_4 5 rfl)⟩
  intro j hj
  replace hj : j < 4 := hj
  match j, hj with
    | 0, _ => exact (n_l (n_r (n_r (n_r (n_r (n_r (n_r (n_l (n_l h)))))))))
    | 1, _ => exact (n_l (n_r (n_r (n_r (n_r (n_r (n_r (n_r (n_l (n_l h))))))))))
    | 2, _ => exact (n_r (n_r (n_r (n_r (n_r (n_r (n_r (n_r (n_l (n_l h))))))))))
    | 3, _ => exact (n_l (n_l (n_l (n_l (n_l (n_l (n_l (n_r (n_l h)))))))))
    | n + 4, h => exact absurd h (by omega)
theorem sw_7 {A : Array Value} {s : State} (h : narrow_1.before A s = true) (ht : ∀ w ∈ lw_tbl, w.before A s = true) : SW A s 7 := by
  unfold narrow_1 at h
  refine ⟨(n_l (n_r (n_r (n_l (n_l (n_l (n_l (n_r (n_l h))))))))), (n_l (n_r (n_r (n_r (n_l (n_l (n_l (n_l (n_r (n_l h)))))))))), (n_r (n_r (n_r (n_r (n_l (n_l (n_l (n_l (n_r (n_l h)))))))))), (n_l (n_l (n_l (n_r (n_l (n_l (n_l (n_r (n_l h))))))))), ?_, ht _ (lt_4 6 rfl)⟩
  intro j hj
  replace hj : j < 5 := hj
  match j, hj with
    | 0, _ => exact (n_r (n_l (n_l (n_r (n_l (n_l (n_l (n_r (n_l h)))))))))
    | 1, _ => exact (n_l (n_r (n_l (n_r (n_l (n_l (n_l (n_r (n_l h)))))))))
    | 2, _ => exact (n_l (n_r (n_r (n_l (n_r (n_l (n_l (n_l (n_r (n_l h))))))))))
    | 3, _ => exact (n_r (n_r (n_r (n_l (n_r (n_l (n_l (n_l (n_r (n_l h))))))))))
    | 4, _ => exact (n_l (n_l (n_r (n_r (n_l (n_l (n_l (n_r (n_l h)))))))))
    | n + 5, h => exact absurd h (by omega)
theorem sw_8 {A : Array Value} {s : State} (h : narrow_1.before A s = true) (ht : ∀ w ∈ lw_tbl, w.before A s = true) : SW A s 8 := by
  unfold narrow_1 at h
  refine ⟨(n_l (n_r (n_r (n_l (n_l (n_r (n_l (n_l (n_r (n_l h)))))))))), (n_r (n_r (n_r (n_l (n_l (n_r (n_l (n_l (n_r (n_l h)))))))))), (n_l (n_l (n_r (n_l (n_r (n_l (n_l (n_r (n_l h))))))))), (n_r (n_l (n_r (n_l (n_r (n_l (n_l (n_r (n_l h))))))))), ?_, ht _ (lt_4 7 rfl)⟩
  intro j hj
  replace hj : j < 6 := hj
  match j, hj with
    | 0, _ => exact (n_l (n_r (n_r (n_l (n_r (n_l (n_l (n_r (n_l h)))))))))
    | 1, _ => exact (n_l (n_r (n_r (n_r (n_l (n_r (n_l (n_l (n_r (n_l h))))))))))
    | 2, _ => exact (n_r (n_r (n_r (n_r (n_l (n_r (n_l (n_l (n_r (n_l h))))))))))
    | 3, _ => exact (n_l (n_l (n_l (n_r (n_r (n_l (n_l (n_r (n_l h)))))))))
    | 4, _ => exact (n_r (n_l (n_l (n_r (n_r (n_l (n_l (n_r (n_l h)))))))))
    | 5, _ => exact (n_l (n_r (n_l (n_r (n_r (n_l (n_l (n_r (n_l h)))))))))
    | n + 6, h => exact absurd h (by omega)
theorem sw_9 {A : Array Value} {s : State} (h : narrow_1.before A s = true) (ht : ∀ w ∈ lw_tbl, w.before A s = true) : SW A s 9 := by
  unfold narrow_1 at h
  refine ⟨(n_r (n_l (n_l (n_l (n_l (n_r (n_l (n_r (n_l h))))))))), (n_l (n_r (n_l (n_l (n_l (n_r (n_l (n_r (n_l h))))))))), (n_l (n_r (n_r (n_l (n_l (n_l (n_r (n_l (n_r (n_l h)))))))))), (n_r (n_r (n_r (n_l (n_l (n_l (n_r (n_l (n_r (n_l h)))))))))), ?_, ht _ (lt_4 70 rfl)⟩
  intro j hj
  replace hj : j < 12 := hj
  match j, hj with
    | 0, _ => exact (n_l (n_l (n_r (n_l (n_l (n_r (n_l (n_r (n_l h)))))))))
    | 1, _ => exact (n_r (n_l (n_r (n_l (n_l (n_r (n_l (n_r (n_l h)))))))))
    | 2, _ => exact (n_l (n_r (n_r (n_l (n_l (n_r (n_l (n_r (n_l h)))))))))
    | 3, _ => exact (n_l (n_r (n_r (n_r (n_l (n_l (n_r (n_l (n_r (n_l h))))))))))
    | 4, _ => exact (n_r (n_r (n_r (n_r (n_l (n_l (n_r (n_l (n_r (n_l h))))))))))
    | 5, _ => exact (n_l (n_l (n_l (n_r (n_l (n_r (n_l (n_r (n_l h)))))))))
    | 6, _ => exact (n_r (n_l (n_l (n_r (n_l (n_r (n_l (n_r (n_l h)))))))))
    | 7, _ => exact (n_l (n_r (n_l (n_r (n_l (n_r (n_l (n_r (n_l h)))))))))
    | 8, _ => exact (n_l (n_r (n_r (n_l (n_r (n_l (n_r (n_l (n_r (n_l h))))))))))
    | 9, _ => exact (n_r (n_r (n_r (n_l (n_r (n_l (n_r (n_l (n_r (n_l h))))))))))
    | 10, _ => exact (n_l (n_l (n_r (n_r (n_l (n_r (n_l (n_r (n_l h)))))))))
    | 11, _ => exact (n_r (n_l (n_r (n_r (n_l (n_r (n_l (n_r (n_l h)))))))))
    | n + 12, h => exact absurd h (by omega)
theorem sw_10 {A : Array Value} {s : State} (h : narrow_1.before A s = true) (ht : ∀ w ∈ lw_tbl, w.before A s = true) : SW A s 10 := by
  unfold narrow_1 at h
  refine ⟨(n_r (n_l (n_r (n_l (n_r (n_r (n_l (n_r (n_l h))))))))), (n_l (n_r (n_r (n_l (n_r (n_r (n_l (n_r (n_l h))))))))), (n_l (n_r (n_r (n_r (n_l (n_r (n_r (n_l (n_r (n_l h)))))))))), (n_r (n_r (n_r (n_r (n_l (n_r (n_r (n_l (n_r (n_l h)))))))))), ?_, ht _ (lt_4 93 rfl)⟩
  intro j hj
  replace hj : j < 15 := hj
  match j, hj with
    | 0, _ => exact (n_l (n_l (n_l (n_r (n_r (n_r (n_l (n_r (n_l h)))))))))
    | 1, _ => exact (n_r (n_l (n_l (n_r (n_r (n_r (n_l (n_r (n_l h)))))))))
    | 2, _ => exact (n_l (n_r (n_l (n_r (n_r (n_r (n_l (n_r (n_l h)))))))))
    | 3, _ => exact (n_l (n_r (n_r (n_l (n_r (n_r (n_r (n_l (n_r (n_l h))))))))))
    | 4, _ => exact (n_r (n_r (n_r (n_l (n_r (n_r (n_r (n_l (n_r (n_l h))))))))))
    | 5, _ => exact (n_l (n_l (n_r (n_r (n_r (n_r (n_l (n_r (n_l h)))))))))
    | 6, _ => exact (n_l (n_r (n_l (n_r (n_r (n_r (n_r (n_l (n_r (n_l h))))))))))
    | 7, _ => exact (n_r (n_r (n_l (n_r (n_r (n_r (n_r (n_l (n_r (n_l h))))))))))
    | 8, _ => exact (n_l (n_r (n_r (n_r (n_r (n_r (n_l (n_r (n_l h)))))))))
    | 9, _ => exact (n_l (n_r (n_r (n_r (n_r (n_r (n_r (n_l (n_r (n_l h))))))))))
    | 10, _ => exact (n_r (n_r (n_r (n_r (n_r (n_r (n_r (n_l (n_r (n_l h))))))))))
    | 11, _ => exact (n_l (n_l (n_l (n_l (n_l (n_l (n_r (n_r (n_l h)))))))))
    | 12, _ => exact (n_r (n_l (n_l (n_l (n_l (n_l (n_r (n_r (n_l h)))))))))
    | 13, _ => exact (n_l (n_r (n_l (n_l (n_l (n_l (n_r (n_r (n_l h)))))))))
    | 14, _ => exact (n_l (n_r (n_r (n_l (n_l (n_l (n_l (n_r (n_r (n_l h))))))))))
    | n + 15, h => exact absurd h (by omega)
theorem sw_11 {A : Array Value} {s : State} (h : narrow_1.before A s = true) (ht : ∀ w ∈ lw_tbl, w.before A s = true) : SW A s 11 := by
  unfold narrow_1 at h
  refine ⟨(n_r (n_r (n_r (n_l (n_r (n_l (n_l (n_r (n_r (n_l h)))))))))), (n_l (n_l (n_r (n_r (n_l (n_l (n_r (n_r (n_l h))))))))), (n_r (n_l (n_r (n_r (n_l (n_l (n_r (n_r (n_l h))))))))), (n_l (n_r (n_r (n_r (n_l (n_l (n_r (n_r (n_l h))))))))), ?_, ht _ (lt_4 105 rfl)⟩
  intro j hj
  replace hj : j < 13 := hj
  match j, hj with
    | 0, _ => exact (n_l (n_r (n_r (n_r (n_r (n_l (n_l (n_r (n_r (n_l h))))))))))
    | 1, _ => exact (n_r (n_r (n_r (n_r (n_r (n_l (n_l (n_r (n_r (n_l h))))))))))
    | 2, _ => exact (n_l (n_l (n_l (n_l (n_r (n_l (n_r (n_r (n_l h)))))))))
    | 3, _ => exact (n_r (n_l (n_l (n_l (n_r (n_l (n_r (n_r (n_l h)))))))))
    | 4, _ => exact (n_l (n_r (n_l (n_l (n_r (n_l (n_r (n_r (n_l h)))))))))
    | 5, _ => exact (n_l (n_r (n_r (n_l (n_l (n_r (n_l (n_r (n_r (n_l h))))))))))
    | 6, _ => exact (n_r (n_r (n_r (n_l (n_l (n_r (n_l (n_r (n_r (n_l h))))))))))
    | 7, _ => exact (n_l (n_l (n_r (n_l (n_r (n_l (n_r (n_r (n_l h)))))))))
    | 8, _ => exact (n_r (n_l (n_r (n_l (n_r (n_l (n_r (n_r (n_l h)))))))))
    | 9, _ => exact (n_l (n_r (n_r (n_l (n_r (n_l (n_r (n_r (n_l h)))))))))
    | 10, _ => exact (n_l (n_r (n_r (n_r (n_l (n_r (n_l (n_r (n_r (n_l h))))))))))
    | 11, _ => exact (n_r (n_r (n_r (n_r (n_l (n_r (n_l (n_r (n_r (n_l h))))))))))
    | 12, _ => exact (n_l (n_l (n_l (n_r (n_r (n_l (n_r (n_r (n_l h)))))))))
    | n + 13, h => exact absurd h (by omega)
theorem sw_12 {A : Array Value} {s : State} (h : narrow_1.before A s = true) (ht : ∀ w ∈ lw_tbl, w.before A s = true) : SW A s 12 := by
  unfold narrow_1 at h
  refine ⟨(n_l (n_r (n_l (n_l (n_l (n_r (n_r (n_r (n_l h))))))))), (n_l (n_r (n_r (n_l (n_l (n_l (n_r (n_r (n_r (n_l h)))))))))), (n_r (n_r (n_r (n_l (n_l (n_l (n_r (n_r (n_r (n_l h)))))))))), (n_l (n_l (n_r (n_l (n_l (n_r (n_r (n_r (n_l h))))))))), ?_, ht _ (lt_4 116 rfl)⟩
  intro j hj
  replace hj : j < 12 := hj
  match j, hj with
    | 0, _ => exact (n_r (n_l (n_r (n_l (n_l (n_r (n_r (n_r (n_l h)))))))))
    | 1, _ => exact (n_l (n_r (n_r (n_l (n_l (n_r (n_r (n_r (n_l h)))))))))
    | 2, _ => exact (n_l (n_r (n_r (n_r (n_l (n_l (n_r (n_r (n_r (n_l h))))))))))
    | 3, _ => exact (n_r (n_r (n_r (n_r (n_l (n_l (n_r (n_r (n_r (n_l h))))))))))
    | 4, _ => exact (n_l (n_l (n_l (n_r (n_l (n_r (n_r (n_r (n_l h)))))))))
    | 5, _ => exact (n_r (n_l (n_l (n_r (n_l (n_r (n_r (n_r (n_l h)))))))))
    | 6, _ => exact (n_l (n_r (n_l (n_r (n_l (n_r (n_r (n_r (n_l h)))))))))
    | 7, _ => exact (n_l (n_r (n_r (n_l (n_r (n_l (n_r (n_r (n_r (n_l h))))))))))
    | 8, _ => exact (n_r (n_r (n_r (n_l (n_r (n_l (n_r (n_r (n_r (n_l h))))))))))
    | 9, _ => exact (n_l (n_l (n_r (n_r (n_l (n_r (n_r (n_r (n_l h)))))))))
    | 10, _ => exact (n_r (n_l (n_r (n_r (n_l (n_r (n_r (n_r (n_l h)))))))))
    | 11, _ => exact (n_l (n_r (n_r (n_r (n_l (n_r (n_r (n_r (n_l h)))))))))
    | n + 12, h => exact absurd h (by omega)
theorem sw_13 {A : Array Value} {s : State} (h : narrow_1.before A s = true) (ht : ∀ w ∈ lw_tbl, w.before A s = true) : SW A s 13 := by
  unfold narrow_1 at h
  refine ⟨(n_l (n_l (n_l (n_r (n_r (n_r (n_r (n_r (n_l h))))))))), (n_r (n_l (n_l (n_r (n_r (n_r (n_r (n_r (n_l h))))))))), (n_l (n_r (n_l (n_r (n_r (n_r (n_r (n_r (n_l h))))))))), (n_l (n_r (n_r (n_l (n_r (n_r (n_r (n_r (n_r (n_l h)))))))))), ?_, ht _ (lt_5 32 rfl)⟩
  intro j hj
  replace hj : j < 22 := hj
  match j, hj with
    | 0, _ => exact (n_r (n_r (n_r (n_l (n_r (n_r (n_r (n_r (n_r (n_l h))))))))))
    | 1, _ => exact (n_l (n_l (n_r (n_r (n_r (n_r (n_r (n_r (n_l h)))))))))
    | 2, _ => exact (n_l (n_r (n_l (n_r (n_r (n_r (n_r (n_r (n_r (n_l h))))))))))
    | 3, _ => exact (n_r (n_r (n_l (n_r (n_r (n_r (n_r (n_r (n_r (n_l h))))))))))
    | 4, _ => exact (n_l (n_r (n_r (n_r (n_r (n_r (n_r (n_r (n_l h)))))))))
    | 5, _ => exact (n_l (n_r (n_r (n_r (n_r (n_r (n_r (n_r (n_r (n_l h))))))))))
    | 6, _ => exact (n_r (n_r (n_r (n_r (n_r (n_r (n_r (n_r (n_r (n_l h))))))))))
    | 7, _ => exact (n_l (n_l (n_l (n_l (n_l (n_l (n_l (n_l (n_r h)))))))))
    | 8, _ => exact (n_r (n_l (n_l (n_l (n_l (n_l (n_l (n_l (n_r h)))))))))
    | 9, _ => exact (n_l (n_r (n_l (n_l (n_l (n_l (n_l (n_l (n_r h)))))))))
    | 10, _ => exact (n_l (n_r (n_r (n_l (n_l (n_l (n_l (n_l (n_l (n_r h))))))))))
    | 11, _ => exact (n_r (n_r (n_r (n_l (n_l (n_l (n_l (n_l (n_l (n_r h))))))))))
    | 12, _ => exact (n_l (n_l (n_r (n_l (n_l (n_l (n_l (n_l (n_r h)))))))))
    | 13, _ => exact (n_r (n_l (n_r (n_l (n_l (n_l (n_l (n_l (n_r h)))))))))
    | 14, _ => exact (n_l (n_r (n_r (n_l (n_l (n_l (n_l (n_l (n_r h)))))))))
    | 15, _ => exact (n_l (n_r (n_r (n_r (n_l (n_l (n_l (n_l (n_l (n_r h))))))))))
    | 16, _ => exact (n_r (n_r (n_r (n_r (n_l (n_l (n_l (n_l (n_l (n_r h))))))))))
    | 17, _ => exact (n_l (n_l (n_l (n_r (n_l (n_l (n_l (n_l (n_r h)))))))))
    | 18, _ => exact (n_r (n_l (n_l (n_r (n_l (n_l (n_l (n_l (n_r h)))))))))
    | 19, _ => exact (n_l (n_r (n_l (n_r (n_l (n_l (n_l (n_l (n_r h)))))))))
    | 20, _ => exact (n_l (n_r (n_r (n_l (n_r (n_l (n_l (n_l (n_l (n_r h))))))))))
    | 21, _ => exact (n_r (n_r (n_r (n_l (n_r (n_l (n_l (n_l (n_l (n_r h))))))))))
    | n + 22, h => exact absurd h (by omega)
theorem sw_14 {A : Array Value} {s : State} (h : narrow_1.before A s = true) (ht : ∀ w ∈ lw_tbl, w.before A s = true) : SW A s 14 := by
  unfold narrow_1 at h
  refine ⟨(n_l (n_r (n_r (n_r (n_l (n_r (n_l (n_l (n_l (n_r h)))))))))), (n_r (n_r (n_r (n_r (n_l (n_r (n_l (n_l (n_l (n_r h)))))))))), (n_l (n_l (n_l (n_r (n_r (n_l (n_l (n_l (n_r h))))))))), (n_r (n_l (n_l (n_r (n_r (n_l (n_l (n_l (n_r h))))))))), ?_, ht _ (lt_5 98 rfl)⟩
  intro j hj
  replace hj : j < 13 := hj
  match j, hj with
    | 0, _ => exact (n_l (n_r (n_l (n_r (n_r (n_l (n_l (n_l (n_r h)))))))))
    | 1, _ => exact (n_l (n_r (n_r (n_l (n_r (n_r (n_l (n_l (n_l (n_r h))))))))))
    | 2, _ => exact (n_r (n_r (n_r (n_l (n_r (n_r (n_l (n_l (n_l (n_r h))))))))))
    | 3, _ => exact (n_l (n_l (n_r (n_r (n_r (n_l (n_l (n_l (n_r h)))))))))
    | 4, _ => exact (n_r (n_l (n_r (n_r (n_r (n_l (n_l (n_l (n_r h)))))))))
    | 5, _ => exact (n_l (n_r (n_r (n_r (n_r (n_l (n_l (n_l (n_r h)))))))))
    | 6, _ => exact (n_l (n_r (n_r (n_r (n_r (n_r (n_l (n_l (n_l (n_r h))))))))))
    | 7, _ => exact (n_r (n_r (n_r (n_r (n_r (n_r (n_l (n_l (n_l (n_r h))))))))))
    | 8, _ => exact (n_l (n_l (n_l (n_l (n_l (n_r (n_l (n_l (n_r h)))))))))
    | 9, _ => exact (n_r (n_l (n_l (n_l (n_l (n_r (n_l (n_l (n_r h)))))))))
    | 10, _ => exact (n_l (n_r (n_l (n_l (n_l (n_r (n_l (n_l (n_r h)))))))))
    | 11, _ => exact (n_l (n_r (n_r (n_l (n_l (n_l (n_r (n_l (n_l (n_r h))))))))))
    | 12, _ => exact (n_r (n_r (n_r (n_l (n_l (n_l (n_r (n_l (n_l (n_r h))))))))))
    | n + 13, h => exact absurd h (by omega)
theorem sw_15 {A : Array Value} {s : State} (h : narrow_1.before A s = true) (ht : ∀ w ∈ lw_tbl, w.before A s = true) : SW A s 15 := by
  unfold narrow_1 at h
  refine ⟨(n_r (n_r (n_r (n_r (n_r (n_l (n_r (n_l (n_l (n_r h)))))))))), (n_l (n_l (n_l (n_l (n_r (n_r (n_l (n_l (n_r h))))))))), (n_r (n_l (n_l (n_l (n_r (n_r (n_l (n_l (n_r h))))))))), (n_l (n_r (n_l (n_l (n_r (n_r (n_l (n_l (n_r h))))))))), ?_, ht _ (lt_5 186 rfl)⟩
  intro j hj
  replace hj : j < 17 := hj
  match j, hj with
    | 0, _ => exact (n_l (n_r (n_r (n_l (n_l (n_r (n_r (n_l (n_l (n_r h))))))))))
    | 1, _ => exact (n_r (n_r (n_r (n_l (n_l (n_r (n_r (n_l (n_l (n_r h))))))))))
    | 2, _ => exact (n_l (n_l (n_r (n_l (n_r (n_r (n_l (n_l (n_r h)))))))))
    | 3, _ => exact (n_r (n_l (n_r (n_l (n_r (n_r (n_l (n_l (n_r h)))))))))
    | 4, _ => exact (n_l (n_r (n_r (n_l (n_r (n_r (n_l (n_l (n_r h)))))))))
    | 5, _ => exact (n_l (n_r (n_r (n_r (n_l (n_r (n_r (n_l (n_l (n_r h))))))))))
    | 6, _ => exact (n_r (n_r (n_r (n_r (n_l (n_r (n_r (n_l (n_l (n_r h))))))))))
    | 7, _ => exact (n_l (n_l (n_l (n_r (n_r (n_r (n_l (n_l (n_r h)))))))))
    | 8, _ => exact (n_r (n_l (n_l (n_r (n_r (n_r (n_l (n_l (n_r h)))))))))
    | 9, _ => exact (n_l (n_r (n_l (n_r (n_r (n_r (n_l (n_l (n_r h)))))))))
    | 10, _ => exact (n_l (n_r (n_r (n_l (n_r (n_r (n_r (n_l (n_l (n_r h))))))))))
    | 11, _ => exact (n_r (n_r (n_r (n_l (n_r (n_r (n_r (n_l (n_l (n_r h))))))))))
    | 12, _ => exact (n_l (n_l (n_r (n_r (n_r (n_r (n_l (n_l (n_r h)))))))))
    | 13, _ => exact (n_l (n_r (n_l (n_r (n_r (n_r (n_r (n_l (n_l (n_r h))))))))))
    | 14, _ => exact (n_r (n_r (n_l (n_r (n_r (n_r (n_r (n_l (n_l (n_r h))))))))))
    | 15, _ => exact (n_l (n_r (n_r (n_r (n_r (n_r (n_l (n_l (n_r h)))))))))
    | 16, _ => exact (n_l (n_r (n_r (n_r (n_r (n_r (n_r (n_l (n_l (n_r h))))))))))
    | n + 17, h => exact absurd h (by omega)
theorem sw_16 {A : Array Value} {s : State} (h : narrow_1.before A s = true) (ht : ∀ w ∈ lw_tbl, w.before A s = true) : SW A s 16 := by
  unfold narrow_1 at h
  refine ⟨(n_r (n_r (n_r (n_l (n_r (n_l (n_l (n_r (n_l (n_r h)))))))))), (n_l (n_l (n_r (n_r (n_l (n_l (n_r (n_l (n_r h))))))))), (n_r (n_l (n_r (n_r (n_l (n_l (n_r (n_l (n_r h))))))))), (n_l (n_r (n_r (n_r (n_l (n_l (n_r (n_l (n_r h))))))))), ?_, ht _ (lt_8 50 rfl)⟩
  intro j hj
  replace hj : j < 6 := hj
  match j, hj with
    | 0, _ => exact (n_l (n_r (n_r (n_r (n_r (n_l (n_l (n_r (n_l (n_r h))))))))))
    | 1, _ => exact (n_r (n_r (n_r (n_r (n_r (n_l (n_l (n_r (n_l (n_r h))))))))))
    | 2, _ => exact (n_l (n_l (n_l (n_l (n_r (n_l (n_r (n_l (n_r h)))))))))
    | 3, _ => exact (n_r (n_l (n_l (n_l (n_r (n_l (n_r (n_l (n_r h)))))))))
    | 4, _ => exact (n_l (n_r (n_l (n_l (n_r (n_l (n_r (n_l (n_r h)))))))))
    | 5, _ => exact (n_l (n_r (n_r (n_l (n_l (n_r (n_l (n_r (n_l (n_r h))))))))))
    | n + 6, h => exact absurd h (by omega)
theorem sw_17 {A : Array Value} {s : State} (h : narrow_1.before A s = true) (ht : ∀ w ∈ lw_tbl, w.before A s = true) : SW A s 17 := by
  unfold narrow_1 at h
  refine ⟨(n_l (n_l (n_l (n_l (n_l (n_r (n_r (n_l (n_r h))))))))), (n_r (n_l (n_l (n_l (n_l (n_r (n_r (n_l (n_r h))))))))), (n_l (n_r (n_l (n_l (n_l (n_r (n_r (n_l (n_r h))))))))), (n_l (n_r (n_r (n_l (n_l (n_l (n_r (n_r (n_l (n_r h)))))))))), ?_, ht _ (lt_8 74 rfl)⟩
  intro j hj
  replace hj : j < 7 := hj
  match j, hj with
    | 0, _ => exact (n_r (n_r (n_r (n_l (n_l (n_l (n_r (n_r (n_l (n_r h))))))))))
    | 1, _ => exact (n_l (n_l (n_r (n_l (n_l (n_r (n_r (n_l (n_r h)))))))))
    | 2, _ => exact (n_r (n_l (n_r (n_l (n_l (n_r (n_r (n_l (n_r h)))))))))
    | 3, _ => exact (n_l (n_r (n_r (n_l (n_l (n_r (n_r (n_l (n_r h)))))))))
    | 4, _ => exact (n_l (n_r (n_r (n_r (n_l (n_l (n_r (n_r (n_l (n_r h))))))))))
    | 5, _ => exact (n_r (n_r (n_r (n_r (n_l (n_l (n_r (n_r (n_l (n_r h))))))))))
    | 6, _ => exact (n_l (n_l (n_l (n_r (n_l (n_r (n_r (n_l (n_r h)))))))))
    | n + 7, h => exact absurd h (by omega)
theorem sw_18 {A : Array Value} {s : State} (h : narrow_1.before A s = true) (ht : ∀ w ∈ lw_tbl, w.before A s = true) : SW A s 18 := by
  unfold narrow_1 at h
  refine ⟨(n_l (n_r (n_r (n_r (n_l (n_r (n_r (n_r (n_l (n_r h)))))))))), (n_r (n_r (n_r (n_r (n_l (n_r (n_r (n_r (n_l (n_r h)))))))))), (n_l (n_l (n_l (n_r (n_r (n_r (n_r (n_l (n_r h))))))))), (n_r (n_l (n_l (n_r (n_r (n_r (n_r (n_l (n_r h))))))))), ?_, ht _ (lt_8 83 rfl)⟩
  intro j hj
  replace hj : j < 5 := hj
  match j, hj with
    | 0, _ => exact (n_l (n_r (n_l (n_r (n_r (n_r (n_r (n_l (n_r h)))))))))
    | 1, _ => exact (n_l (n_r (n_r (n_l (n_r (n_r (n_r (n_r (n_l (n_r h))))))))))
    | 2, _ => exact (n_r (n_r (n_r (n_l (n_r (n_r (n_r (n_r (n_l (n_r h))))))))))
    | 3, _ => exact (n_l (n_l (n_r (n_r (n_r (n_r (n_r (n_l (n_r h)))))))))
    | 4, _ => exact (n_l (n_r (n_l (n_r (n_r (n_r (n_r (n_r (n_l (n_r h))))))))))
    | n + 5, h => exact absurd h (by omega)
theorem sw_19 {A : Array Value} {s : State} (h : narrow_1.before A s = true) (ht : ∀ w ∈ lw_tbl, w.before A s = true) : SW A s 19 := by
  unfold narrow_1 at h
  refine ⟨(n_r (n_r (n_r (n_l (n_r (n_l (n_l (n_l (n_r (n_r h)))))))))), (n_l (n_l (n_r (n_r (n_l (n_l (n_l (n_r (n_r h))))))))), (n_r (n_l (n_r (n_r (n_l (n_l (n_l (n_r (n_r h))))))))), (n_l (n_r (n_r (n_r (n_l (n_l (n_l (n_r (n_r h))))))))), ?_, ht _ (lt_8 84 rfl)⟩
  intro j hj
  replace hj : j < 3 := hj
  match j, hj with
    | 0, _ => exact (n_l (n_r (n_r (n_r (n_r (n_l (n_l (n_l (n_r (n_r h))))))))))
    | 1, _ => exact (n_r (n_r (n_r (n_r (n_r (n_l (n_l (n_l (n_r (n_r h))))))))))
    | 2, _ => exact (n_l (n_l (n_l (n_l (n_r (n_l (n_l (n_r (n_r h)))))))))
    | n + 3, h => exact absurd h (by omega)
theorem sw_20 {A : Array Value} {s : State} (h : narrow_1.before A s = true) (ht : ∀ w ∈ lw_tbl, w.before A s = true) : SW A s 20 := by
  unfold narrow_1 at h
  refine ⟨(n_l (n_l (n_l (n_l (n_l (n_r (n_l (n_r (n_r h))))))))), (n_r (n_l (n_l (n_l (n_l (n_r (n_l (n_r (n_r h))))))))), (n_l (n_r (n_l (n_l (n_l (n_r (n_l (n_r (n_r h))))))))), (n_l (n_r (n_r (n_l (n_l (n_l (n_r (n_l (n_r (n_r h)))))))))), ?_, ht _ (lt_8 121 rfl)⟩
  intro j hj
  replace hj : j < 5 := hj
  match j, hj with
    | 0, _ => exact (n_r (n_r (n_r (n_l (n_l (n_l (n_r (n_l (n_r (n_r h))))))))))
    | 1, _ => exact (n_l (n_l (n_r (n_l (n_l (n_r (n_l (n_r (n_r h)))))))))
    | 2, _ => exact (n_r (n_l (n_r (n_l (n_l (n_r (n_l (n_r (n_r h)))))))))
    | 3, _ => exact (n_l (n_r (n_r (n_l (n_l (n_r (n_l (n_r (n_r h)))))))))
    | 4, _ => exact (n_l (n_r (n_r (n_r (n_l (n_l (n_r (n_l (n_r (n_r h))))))))))
    | n + 5, h => exact absurd h (by omega)
theorem sw_21 {A : Array Value} {s : State} (h : narrow_1.before A s = true) (ht : ∀ w ∈ lw_tbl, w.before A s = true) : SW A s 21 := by
  unfold narrow_1 at h
  refine ⟨(n_r (n_r (n_r (n_r (n_l (n_r (n_r (n_l (n_r (n_r h)))))))))), (n_l (n_l (n_l (n_r (n_r (n_r (n_l (n_r (n_r h))))))))), (n_r (n_l (n_l (n_r (n_r (n_r (n_l (n_r (n_r h))))))))), (n_l (n_r (n_l (n_r (n_r (n_r (n_l (n_r (n_r h))))))))), ?_, ht _ (lt_8 122 rfl)⟩
  intro j hj
  replace hj : j < 4 := hj
  match j, hj with
    | 0, _ => exact (n_l (n_r (n_r (n_l (n_r (n_r (n_r (n_l (n_r (n_r h))))))))))
    | 1, _ => exact (n_r (n_r (n_r (n_l (n_r (n_r (n_r (n_l (n_r (n_r h))))))))))
    | 2, _ => exact (n_l (n_l (n_r (n_r (n_r (n_r (n_l (n_r (n_r h)))))))))
    | 3, _ => exact (n_l (n_r (n_l (n_r (n_r (n_r (n_r (n_l (n_r (n_r h))))))))))
    | n + 4, h => exact absurd h (by omega)
theorem sw_22 {A : Array Value} {s : State} (h : narrow_1.before A s = true) (ht : ∀ w ∈ lw_tbl, w.before A s = true) : SW A s 22 := by
  unfold narrow_1 at h
  refine ⟨(n_l (n_r (n_r (n_r (n_l (n_l (n_r (n_r (n_r h))))))))), (n_l (n_r (n_r (n_r (n_r (n_l (n_l (n_r (n_r (n_r h)))))))))), (n_r (n_r (n_r (n_r (n_r (n_l (n_l (n_r (n_r (n_r h)))))))))), (n_l (n_l (n_l (n_l (n_r (n_l (n_r (n_r (n_r h))))))))), ?_, ht _ (lt_8 123 rfl)⟩
  intro j hj
  replace hj : j < 5 := hj
  match j, hj with
    | 0, _ => exact (n_r (n_l (n_l (n_l (n_r (n_l (n_r (n_r (n_r h)))))))))
    | 1, _ => exact (n_l (n_r (n_l (n_l (n_r (n_l (n_r (n_r (n_r h)))))))))
    | 2, _ => exact (n_l (n_r (n_r (n_l (n_l (n_r (n_l (n_r (n_r (n_r h))))))))))
    | 3, _ => exact (n_r (n_r (n_r (n_l (n_l (n_r (n_l (n_r (n_r (n_r h))))))))))
    | 4, _ => exact (n_l (n_l (n_r (n_l (n_r (n_l (n_r (n_r (n_r h)))))))))
    | n + 5, h => exact absurd h (by omega)
theorem sw_23 {A : Array Value} {s : State} (h : narrow_1.before A s = true) (ht : ∀ w ∈ lw_tbl, w.before A s = true) : SW A s 23 := by
  unfold narrow_1 at h
  refine ⟨(n_l (n_r (n_r (n_r (n_l (n_l (n_r (n_r (n_r (n_r h)))))))))), (n_r (n_r (n_r (n_r (n_l (n_l (n_r (n_r (n_r (n_r h)))))))))), (n_l (n_l (n_l (n_r (n_l (n_r (n_r (n_r (n_r h))))))))), (n_r (n_l (n_l (n_r (n_l (n_r (n_r (n_r (n_r h))))))))), ?_, ht _ (lt_8 124 rfl)⟩
  intro j hj
  replace hj : j < 6 := hj
  match j, hj with
    | 0, _ => exact (n_l (n_r (n_l (n_r (n_l (n_r (n_r (n_r (n_r h)))))))))
    | 1, _ => exact (n_l (n_r (n_r (n_l (n_r (n_l (n_r (n_r (n_r (n_r h))))))))))
    | 2, _ => exact (n_r (n_r (n_r (n_l (n_r (n_l (n_r (n_r (n_r (n_r h))))))))))
    | 3, _ => exact (n_l (n_l (n_r (n_r (n_l (n_r (n_r (n_r (n_r h)))))))))
    | 4, _ => exact (n_r (n_l (n_r (n_r (n_l (n_r (n_r (n_r (n_r h)))))))))
    | 5, _ => exact (n_l (n_r (n_r (n_r (n_l (n_r (n_r (n_r (n_r h)))))))))
    | n + 6, h => exact absurd h (by omega)
theorem sw_all {A : Array Value} {s : State} (h : narrow_1.before A s = true) (ht : ∀ w ∈ lw_tbl, w.before A s = true) : ∀ i, i < nStr → SW A s i := by
  intro i hi
  match i, hi with
  | 0, _ => exact sw_0 h ht
  | 1, _ => exact sw_1 h ht
  | 2, _ => exact sw_2 h ht
  | 3, _ => exact sw_3 h ht
  | 4, _ => exact sw_4 h ht
  | 5, _ => exact sw_5 h ht
  | 6, _ => exact sw_6 h ht
  | 7, _ => exact sw_7 h ht
  | 8, _ => exact sw_8 h ht
  | 9, _ => exact sw_9 h ht
  | 10, _ => exact sw_10 h ht
  | 11, _ => exact sw_11 h ht
  | 12, _ => exact sw_12 h ht
  | 13, _ => exact sw_13 h ht
  | 14, _ => exact sw_14 h ht
  | 15, _ => exact sw_15 h ht
  | 16, _ => exact sw_16 h ht
  | 17, _ => exact sw_17 h ht
  | 18, _ => exact sw_18 h ht
  | 19, _ => exact sw_19 h ht
  | 20, _ => exact sw_20 h ht
  | 21, _ => exact sw_21 h ht
  | 22, _ => exact sw_22 h ht
  | 23, _ => exact sw_23 h ht
  | n + 24, h => exact absurd h (by show ¬ n + 24 < 24; omega)
theorem inst_all {A : Array Value} {s : State} (hts : ∀ w ∈ Tb, w.before A s = true) : ∀ ci, ci < 12 → (Cond.instantiable (cN ci) (nf ci)).before A s = true := by
  intro ci hci
  match ci, hci with
  | 0, _ => exact hts _ (tb_2 36 rfl rfl)
  | 1, _ => exact hts _ (tb_1 41 rfl rfl)
  | 2, _ => exact hts _ (tb_2 89 rfl rfl)
  | 3, _ => exact hts _ (tb_2 117 rfl rfl)
  | 4, _ => exact hts _ (tb_4 16 rfl rfl)
  | 5, _ => exact hts _ (tb_1 209 rfl rfl)
  | 6, _ => exact hts _ (tb_1 158 rfl rfl)
  | 7, _ => exact hts _ (tb_1 35 rfl rfl)
  | 8, _ => exact hts _ (tb_2 55 rfl rfl)
  | 9, _ => exact hts _ (tb_2 42 rfl rfl)
  | 10, _ => exact hts _ (tb_1 27 rfl rfl)
  | 11, _ => exact hts _ (tb_6 21 rfl rfl)
  | n + 12, h => exact absurd h (by omega)
theorem arr_of {A : Array Value} {s : State} {ty : FieldType} (h : (Cond.arrayClass ty).before A s = true) (hty : isRefT ty = false) : ∃ c, ArrOfT s c ty ∧ va_RA s c ty := by
  obtain ⟨c, k, comp, h1, h2, h3⟩ := Cond.arrayClass_spec h
  refine ⟨c, fun n z => ⟨fun k h => (by cases h), k, h2, comp, h3⟩, ?_⟩
  cases ty <;> first | exact h1 | (simp [isRefT] at hty)
theorem arr_ofO {A : Array Value} {s : State} {C : String} (h : (Cond.arrayOver (.object C)).before A s = true) : ∃ c, ArrOfT s c (.object C) ∧ va_RA s c (.object C) := by
  obtain ⟨comp, c, k, h1, _, h2, h3, h4⟩ := Cond.arrayOver_spec h
  exact ⟨c, fun n z => ⟨fun k h => (by cases h), k, h2, comp, h3⟩, k, comp, h2, h3, h1, h4⟩
/-- the world's fixed facts at the law's start -/
theorem Kw_start {A : Array Value} {s : State} (h : narrow_1.before A s = true) (ht : ∀ w ∈ lw_tbl, w.before A s = true) : ∃ G : GT, gB G = s.heap.size ∧ Kw G s s.heap := by
  have hts : ∀ w ∈ Tb, w.before A s = true := fun w hw => ht w (List.mem_filter.mp hw).1
  have hsw := sw_all h ht
  unfold narrow_1 at h
  have hA : ∀ a : Nat, a < s.heap.size → ¬ s.heap.size ≤ a := fun a ha => Nat.not_le.mpr ha
  have hk : ∀ ci, ∃ q : ClassId × (Nat → Nat), ci < 12 → u_Kn s (cN ci) (cT ci) (nf ci) q.1 q.2 := by
    intro ci
    by_cases hci : ci < 12
    · obtain ⟨cC, iS, hk⟩ := u_known (T := cT ci) (N := nf ci) hts (lay_in ci hci) (inst_all hts ci hci)
      exact ⟨(cC, iS), fun _ => hk⟩
    · obtain ⟨cC, iS, hk⟩ := u_known (T := cT 0) (N := nf 0) hts (lay_in 0 (by decide)) (inst_all hts 0 (by decide))
      exact ⟨(cC, iS), fun h => absurd h hci⟩
  obtain ⟨D, hD⟩ := Classical.axiomOfChoice hk
  obtain ⟨c12, h12⟩ := arr_of (ty := .int) (ht _ (lt_1 106 rfl)) rfl
  obtain ⟨c13, h13⟩ := arr_of (ty := .byte) (ht _ (lt_1 156 rfl)) rfl
  obtain ⟨c14, h14⟩ := arr_of (ty := .boolean) (ht _ (lt_6 141 rfl)) rfl
  obtain ⟨c15, h15⟩ := arr_of (ty := .long) (ht _ (lt_2 87 rfl)) rfl
  obtain ⟨c16, h16⟩ := arr_ofO (C := "SharedPurse$Election") (ht _ (lt_2 123 rfl))
  obtain ⟨c17, h17⟩ := arr_ofO (C := "SharedPurse$Outcome") (ht _ (lt_1 208 rfl))
  have hst : ∀ i, ∃ q : Nat × Nat, i < nStr → vk_R (strO i) (strI i) (strT i) q.1 s ∧ va_O "java/lang/String" q.1 (fun q => s.heap.size ≤ q) s s.heap ∧ va_OF "java/lang/String" "coder" "B" (.int 0) q.1 (fun q => s.heap.size ≤ q) s s.heap ∧ va_OF "java/lang/String" "value" "[B" (.ref q.2) q.1 (fun q => s.heap.size ≤ q) s s.heap ∧ va_T .byte q.2 (strL i) (fun j => .int (strB i j)) (fun q => s.heap.size ≤ q) s s.heap := by
    intro i
    by_cases hi : i < nStr
    · obtain ⟨hex, hco, har, hle, hel, hsr⟩ := hsw i hi
      obtain ⟨a, c, cA, kA, q1, q2, q3, q4, q5, q6, -⟩ := Cond.exactly_spec (args := A) (first := s) (o := none) (s := s) (idx := []) (t := tmS i) (cls := "java/lang/String") hex
      obtain ⟨t, ht1, hT⟩ := va_Tof (f := fun j => .int (strB i j)) (A := fun q => s.heap.size ≤ q) (strL_small i hi) har (va_eqt hle) (fun j hj => va_eqt (hel j hj)) hA
      exact ⟨(a, t), fun _ => ⟨vk_R.of hsr q1, ⟨cA, q3, q5, by rw [q6]; exact q2, hA a (Array.getElem?_eq_some_iff.mp q3).1⟩, vk_OFof q1 (va_eqt hco) hA, vk_OFof q1 ht1 hA, hT⟩⟩
    · exact ⟨(0, 0), fun h => absurd h hi⟩
  obtain ⟨ad, had⟩ := Classical.axiomOfChoice hst
  refine ⟨(fun c => (D c).1, fun c => (D c).2, fun k => if k = 12 then c12 else if k = 13 then c13 else if k = 14 then c14 else if k = 15 then c15 else if k = 16 then c16 else c17, s.heap.size, fun i => (ad i).1, fun i => (ad i).2), rfl, ⟨?_, ?_⟩, ?_, ?_⟩
  · intro c q hq
    have hc : c < 12 := (List.getElem?_eq_some_iff.mp hq).1
    rw [cls_at c hc] at hq
    cases hq
    exact hD c hc
  · intro k q hq
    have hk6 : k < 6 := (List.getElem?_eq_some_iff.mp hq).1
    match k, hk6, hq with
    | 0, _, hq => cases hq; exact h12
    | 1, _, hq => cases hq; exact h13
    | 2, _, hq => cases hq; exact h14
    | 3, _, hq => cases hq; exact h15
    | 4, _, hq => cases hq; exact h16
    | 5, _, hq => cases hq; exact h17
    | n + 6, h, _ => exact absurd h (by omega)
  · intro w hw
    have h1 := List.mem_filter.mp hw
    have h2 := ht w (List.mem_append_right _ h1.1)
    have h3 := h1.2
    cases w <;> first | exact va_Nw.of rfl h2 | (simp [isNest] at h3)
  · refine ⟨fun i hi => (had i hi).1, fun i hi => (had i hi).2, ⟨vx_Zqof (ht _ (lt_3 49 rfl)) (ht _ (lt_1 12 rfl)) (n_l (n_r (n_l (n_l (n_l (n_l (n_l (n_l (n_l h))))))))) hA, vx_Zqof (ht _ (lt_3 51 rfl)) (ht _ (lt_1 12 rfl)) (n_l (n_r (n_r (n_l (n_l (n_l (n_l (n_l (n_l (n_l h)))))))))) hA⟩, va_Zof (ht _ (lt_3 138 rfl)) (ht _ (lt_1 18 rfl)) (va_eqt (n_r (n_r (n_r (n_l (n_l (n_l (n_l (n_l (n_l (n_l h))))))))))) hA, va_Zqof (ht _ (lt_3 154 rfl)) (ht _ (lt_1 20 rfl)) (n_l (n_l (n_r (n_l (n_l (n_l (n_l (n_l (n_l h))))))))) hA, va_AO.of (ht _ (lt_2 123 rfl)), va_AO.of (ht _ (lt_1 208 rfl))⟩
theorem nc_start {A : Array Value} {s : State} (h : narrow_1.before A s = true) : va_Nc eI eN s := by
  unfold narrow_1 at h
  exact va_Nc.of (n_l (n_r (n_r (n_l (n_r (n_r (n_l (n_l (n_l (n_l h))))))))))
