/-! FEED: twenty bytes onto the tape. -/
/-- the k-th byte of a number -/
def bt (x : Int32) (k : Nat) : Nat := x.toBitVec.toNat / 2 ^ (24 - 8 * k) % 256
theorem bt_lt (x : Int32) (k : Nat) : bt x k < 256 := Nat.mod_lt _ (by decide)
theorem nI_self (x : Int32) : nI x.toBitVec.toNat = x := by
  apply Int32.toBitVec_inj.mp
  show BitVec.ofNat 32 x.toBitVec.toNat = x.toBitVec
  exact BitVec.ofNat_toNat 32 x.toBitVec |>.trans (by simp)
theorem i8_mod (a : Nat) : (nI a).toInt8 = (nI (a % 256)).toInt8 := by
  have e : ∀ m : Nat, (nI m).toInt8 = Int8.ofNat m := fun m => Int32.toInt8_ofNat'
  rw [e, e]
  apply Int8.toBitVec_inj.mp
  show BitVec.ofNat 8 a = BitVec.ofNat 8 (a % 256)
  apply BitVec.eq_of_toNat_eq
  rw [BitVec.toNat_ofNat, BitVec.toNat_ofNat]
  omega
def shf : Nat → Int32
  | 0 => 24
  | 1 => 16
  | 2 => 8
  | 3 => 0
  | _ => -8
theorem shf_c {x : Int32} {i : Nat} (hi : i < 4) : (Int32.toUInt32 x >>> (Int32.toUInt32 (shf i) &&& Int32.toUInt32 31)).toInt32 = nI (x.toBitVec.toNat / 2 ^ (24 - 8 * i)) := by
  have hx := nI_self x
  have lt : x.toBitVec.toNat < 2 ^ 32 := x.toBitVec.isLt
  have c4 : i = 0 ∨ i = 1 ∨ i = 2 ∨ i = 3 := by omega
  generalize x.toBitVec.toNat = m at *
  rw [← hx]
  rcases c4 with rfl | rfl | rfl | rfl
  · exact pk_ushrN lt _ 24 (by decide)
  · exact pk_ushrN lt _ 16 (by decide)
  · exact pk_ushrN lt _ 8 (by decide)
  · exact pk_ushrN lt _ 0 (by decide)
theorem sh8 {x : Int32} {s : Int32} {k : Nat} (hk : k ≤ 24) (hs : (s.toBitVec.smod 32).toNat = k) : (x >>> s) &&& 255 = nI (x.toBitVec.toNat / 2 ^ k % 256) := by
  apply Int32.toBitVec_inj.mp
  show (x.toBitVec.sshiftRight' (s.toBitVec.smod 32)) &&& 255#32 = BitVec.ofNat 32 (x.toBitVec.toNat / 2 ^ k % 256)
  rw [BitVec.sshiftRight', hs]
  apply BitVec.eq_of_getLsbD_eq
  intro i hi
  have m : (255#32).getLsbD i = decide (i < 8) := by
    have : ∀ i, i < 32 → (255#32).getLsbD i = decide (i < 8) := by decide
    exact this i hi
  rw [BitVec.getLsbD_and, m, BitVec.getLsbD_sshiftRight, BitVec.getLsbD_ofNat, show (256 : Nat) = 2 ^ 8 by decide, Nat.testBit_mod_two_pow, Nat.testBit_div_two_pow, decide_eq_true hi, decide_eq_false (show ¬ 32 ≤ i by omega)]
  by_cases c : i < 8
  · rw [decide_eq_true c, if_pos (by omega)]
    simp [BitVec.getLsbD, Nat.add_comm]
  · rw [decide_eq_false c]
    simp
/-- what a tape holds behind some more -/
theorem TpV.add {S T : PS} {tp : List Nat} {fp : Int32} {b : Nat} (h : TpV S tp fp) (hl : tp.length < 500) (hb : b < 256) (e3 : gi T 1 3 = nI (tp.length + 1)) (e6 : ∀ j, gi T 6 j = if j = tp.length then (nI b).toInt8.toInt32 else gi S 6 j) (e0 : gi T 0 1 = gi S 0 1) : TpV T (tp ++ [b]) fp := by
  obtain ⟨h1, h2, h3, h4⟩ := h
  refine ⟨?_, ?_, fun j hj => ?_, by rw [e0]; exact h4⟩
  · rw [e3, List.length_append]; rfl
  · rw [List.length_append]; exact hl
  · rw [List.length_append] at hj
    have hj' : j < tp.length + 1 := hj
    rw [e6]
    by_cases c : j = tp.length
    · subst c
      rw [if_pos rfl, List.getD_eq_getElem?_getD, List.getElem?_append_right (Nat.le_refl _), Nat.sub_self]
      exact ⟨rfl, hb⟩
    · rw [if_neg c, List.getD_eq_getElem?_getD, List.getElem?_append_left (by omega), ← List.getD_eq_getElem?_getD]
      exact h3 j (by omega)
def b4 (x : Int32) : List Nat := [bt x 0, bt x 1, bt x 2, bt x 3]
def b4i (x : Int32) : Nat → List Nat
  | 0 => []
  | i + 1 => b4i x i ++ [bt x i]
theorem b4i_len (x : Int32) : ∀ i, (b4i x i).length = i
  | 0 => rfl
  | i + 1 => by
    show (b4i x i ++ [bt x i]).length = _
    rw [List.length_append, b4i_len x i]
    rfl
theorem c_addBytes {Y : XS} {n : Nat} {S : PS} {tp : List Nat} {fp : Int32} {x : Int32} (hn : 100 ≤ n) (hC : CSt Y S) (h : TpV S tp fp) (hl : tp.length + 4 ≤ 500) :
    ok (fX7_addBytes Y n S 1 x) (fun T => Fr (fun b => b = 1 ∨ b = 6) S T ∧ TpV T (tp ++ b4 x) fp) := by
  have r2 := hC.2.2.2.2.2.2.2.2.2.2.2.2.1
  have l6 := hC.2.2.2.2.2.2.2.2.2.2.2.2.2.2.2.1
  unfold fX7_addBytes jX7_addBytes_46
  refine ok_kc (iter_ok (fun i t => t.1 = shf i ∧ Fr (fun b => b = 1 ∨ b = 6) S t.2 ∧ TpV t.2 (tp ++ b4i x i) fp) (Q := fun T => Fr (fun b => b = 1 ∨ b = 6) S T ∧ TpV T (tp ++ b4 x) fp) 4 (fun i t hi h1 => ?_) (fun t h1 => ?_) (by omega) ⟨rfl, Fr.rf, by show TpV S (tp ++ []) fp; rw [List.append_nil]; exact h⟩) (fun r h => ok_i h)
  · obtain ⟨t1, T⟩ := t
    obtain ⟨k1, k2, k3⟩ := h1
    simp only at k1 k2 k3
    subst k1
    have len : (tp ++ b4i x i).length = tp.length + i := by rw [List.length_append, b4i_len]
    have c4 : i = 0 ∨ i = 1 ∨ i = 2 ∨ i = 3 := by omega
    have n0 : ¬ shf i < 0 := by rcases c4 with rfl | rfl | rfl | rfl <;> decide
    have n8 : shf i + (-8 : Int32) = shf (i + 1) := by rcases c4 with rfl | rfl | rfl | rfl <;> decide
    unfold bX7_addBytes_3
    dsimp only
    rw [if_neg n0, kgi_n, k3.1, len, show (500 : Int32) = nI 500 from rfl, i_le (by omega) (by omega), if_neg (by omega), kgr_n (by rw [k2.gr]; exact r2), kgi_n, k3.1, len]
    unfold kwb
    rw [if_pos (inb_n (by omega) (by omega)), ncl (by omega)]
    dsimp only
    rw [kgi_n, Gn (by omega), k3.1, len, kpi_n, nI_1, n8, ok_some, so_l]
    refine ⟨rfl, (k2.si (Or.inr rfl)).si (Or.inl rfl), ?_⟩
    have es : tp ++ b4i x (i + 1) = (tp ++ b4i x i) ++ [bt x i] := by
      show tp ++ (b4i x i ++ [bt x i]) = _
      rw [List.append_assoc]
    rw [es]
    refine k3.add (by omega) (bt_lt x i) (by dsimp only; rw [Gp, len]) (fun j => ?_) (by dsimp only; rw [Gn (by omega), Gn (by omega)])
    dsimp only
    rw [Gn (by omega), len]
    by_cases c : j = tp.length + i
    · subst c
      rw [Gp, if_pos rfl, shf_c hi, Int8.toInt8_toInt32, i8_mod]
      rfl
    · rw [Gn (by omega), if_neg c]
  · obtain ⟨t1, T⟩ := t
    obtain ⟨k1, k2, k3⟩ := h1
    simp only at k1 k2 k3
    subst k1
    unfold bX7_addBytes_3
    dsimp only
    rw [if_pos (by decide), ok_some, so_r]
    exact ⟨k2, k3⟩
/-- what is fed, and the tape behind it -/
def aFeed (tp : List Nat) (a b c d e : Int32) : Int32 × List Nat := if tp.length + 20 ≤ 500 then (nI (tp.length + 20), tp ++ (b4 a ++ (b4 b ++ (b4 c ++ (b4 d ++ b4 e))))) else (m1, tp)
theorem CVs.tape {Y : XS} {S T : PS} {A : EL} {H : List EL} {K : Option EL} {tp tp' : List Nat} {fp : Int32} (h : CVs Y S A H K tp fp) (f : Fr (fun b => b = 1 ∨ b = 6) S T) (ht : TpV T tp' fp) : CVs Y T A H K tp' fp := by
  obtain ⟨v1, v2, v3, ⟨kn, v4, v5, v6⟩, v7, v8, v9⟩ := h
  refine ⟨v1.fr f (by omega) (by omega), v2.fr f (by omega) (by omega), v3.fr f (f.gi (by omega) _) (by omega) (by omega), ⟨kn, v4, by rw [f.gi (by omega)]; exact v5, fun r hr hb => (v6 r hr hb).fr f (by omega)⟩, v7.fr f (by omega), v8.fr f (by omega), ht⟩
theorem c_feed {Y : XS} {n : Nat} {S : PS} {A : EL} {H : List EL} {K : Option EL} {tp : List Nat} {fp : Int32} {a b c d e : Int32} (hn : 10000 ≤ n) (hC : CSt Y S) (hV : CVs Y S A H K tp fp) :
    ok (fX10_feed Y n S 0 a b c d e) (fun q => q.1 = (aFeed tp a b c d e).1 ∧ QC Y S q.2 A H K (aFeed tp a b c d e).2 fp) := by
  have hT := hV.2.2.2.2.2.2
  have tl := hT.2.1
  have r0 := hC.1.1
  unfold fX10_feed aFeed
  rw [kgr_n r0, kgi_n, hT.1, show (20 : Int32) = nI 20 from rfl, nI_add, show (500 : Int32) = nI 500 from rfl, i_le (by omega) (by omega)]
  by_cases cc : tp.length + 20 ≤ 500
  · rw [if_pos cc, if_pos cc, kgr_n r0]
    have l4 : ∀ x, (b4 x).length = 4 := fun x => rfl
    refine ok_kc (c_addBytes (x := a) (by omega) hC hT (by omega)) ?_
    rintro T1 ⟨f1, t1⟩
    rw [kgr_n (by rw [f1.gr]; exact r0)]
    refine ok_kc (c_addBytes (x := b) (by omega) (hC.fr f1.2.1) t1 (by rw [List.length_append, l4]; omega)) ?_
    rintro T2 ⟨f2, t2⟩
    rw [kgr_n (by rw [f2.gr, f1.gr]; exact r0)]
    refine ok_kc (c_addBytes (x := c) (by omega) ((hC.fr f1.2.1).fr f2.2.1) t2 (by rw [List.length_append, List.length_append, l4, l4]; omega)) ?_
    rintro T3 ⟨f3, t3⟩
    rw [kgr_n (by rw [f3.gr, f2.gr, f1.gr]; exact r0)]
    refine ok_kc (c_addBytes (x := d) (by omega) (((hC.fr f1.2.1).fr f2.2.1).fr f3.2.1) t3 (by rw [List.length_append, List.length_append, List.length_append, l4, l4, l4]; omega)) ?_
    rintro T4 ⟨f4, t4⟩
    rw [kgr_n (by rw [f4.gr, f3.gr, f2.gr, f1.gr]; exact r0)]
    refine ok_kc (c_addBytes (x := e) (by omega) ((((hC.fr f1.2.1).fr f2.2.1).fr f3.2.1).fr f4.2.1) t4 (by rw [List.length_append, List.length_append, List.length_append, List.length_append, l4, l4, l4, l4]; omega)) ?_
    rintro T5 ⟨f5, t5⟩
    have f : Fr (fun b => b = 1 ∨ b = 6) S T5 := (((f1.tr f2).tr f3).tr f4).tr f5
    rw [kgr_n (by rw [f.gr]; exact r0), kgi_n, t5.1]
    rw [List.append_assoc, List.append_assoc, List.append_assoc, List.append_assoc] at t5
    refine ok_i ⟨?_, hC.fr f.2.1, hV.tape f t5, CF.of f (by omega)⟩
    dsimp only
    congr 1
    simp only [List.length_append, l4]
  · rw [if_neg cc, if_neg cc]
    exact ok_i ⟨rfl, hC, hV, CF.rf⟩
def f20 (a b c d e : Int32) (i : Nat) : Nat := bt (if i < 4 then a else if i < 8 then b else if i < 12 then c else if i < 16 then d else e) (i % 4)
theorem f20_eq {a b c d e : Int32} : ∀ i, i < 20 → (b4 a ++ (b4 b ++ (b4 c ++ (b4 d ++ b4 e)))).getD i 0 = f20 a b c d e i := by
  intro i hi
  have c20 : i = 0 ∨ i = 1 ∨ i = 2 ∨ i = 3 ∨ i = 4 ∨ i = 5 ∨ i = 6 ∨ i = 7 ∨ i = 8 ∨ i = 9 ∨ i = 10 ∨ i = 11 ∨ i = 12 ∨ i = 13 ∨ i = 14 ∨ i = 15 ∨ i = 16 ∨ i = 17 ∨ i = 18 ∨ i = 19 := by omega
  rcases c20 with rfl | rfl | rfl | rfl | rfl | rfl | rfl | rfl | rfl | rfl | rfl | rfl | rfl | rfl | rfl | rfl | rfl | rfl | rfl | rfl <;> rfl
theorem m_feed {Y : XS} {n : Nat} {S : PS} {A : EL} {H : List EL} {K : Option EL} {tp : List Nat} {fp : Int32} {a b c d e : Int32} (hn : 10000 ≤ n) (hM : MSt Y S) (hV : MVs S A H K tp fp) :
    ok (fX11_feed Y n S 215 a b c d e) (fun q => q.1 = (aFeed tp a b c d e).1 ∧ QM Y S q.2 A H K (aFeed tp a b c d e).2 fp) := by
  have l7 := hM.2.2.2.2.2.2.2.2.2.2.2
  unfold fX11_feed
  rw [kpi_n]
  obtain ⟨q2, e7⟩ := m_start hM hV
  generalize si S 215 7 0 = S2 at *
  obtain ⟨v1, ⟨v2, v3, v4⟩, v5, v6, v7, v8, v9⟩ := q2.2.1
  unfold aFeed
  rw [kgi_n, v6, show (20 : Int32) = nI 20 from rfl, nI_add, show (500 : Int32) = nI 500 from rfl, i_le (by omega) (by omega)]
  by_cases cc : tp.length + 20 ≤ 500
  · rw [if_pos cc, if_pos cc]
    refine ok_kc (P := fun T => Fr (fun x => x = 215 ∨ x = 233) S2 T ∧ (∀ j, j ≠ 28 → gi T 215 j = gi S2 215 j) ∧ gi T 215 28 = nI (tp.length + 20) ∧ (∀ j, j < tp.length → gi T 233 j = gi S2 233 j) ∧ ∀ j, j < 20 → gi T 233 (tp.length + j) = nI (f20 a b c d e j)) (iter_ok (fun i t => t.1 = nI i ∧ Fr (fun x => x = 215 ∨ x = 233) S2 t.2 ∧ (∀ j, j ≠ 28 → gi t.2 215 j = gi S2 215 j) ∧ gi t.2 215 28 = nI (tp.length + i) ∧ (∀ j, j < tp.length → gi t.2 233 j = gi S2 233 j) ∧ ∀ j, j < i → gi t.2 233 (tp.length + j) = nI (f20 a b c d e j)) 20 (fun i t hi h1 => ?_) (fun t h1 => ?_) (by omega) ⟨rfl, Fr.rf, fun j _ => rfl, v6, fun j _ => rfl, fun j hj => absurd hj (Nat.not_lt_zero _)⟩) ?_
    · obtain ⟨t1, T⟩ := t
      obtain ⟨k1, k2, k3, k4, k5, k6⟩ := h1
      simp only at k1 k2 k3 k4 k5 k6
      subst k1
      have hMT : MSt Y T := q2.1.fr k2.2.1
      have sm : ∀ r, r < 4 → ((nI (24 - 8 * r) &&& 31).toBitVec.smod 32).toNat = 24 - 8 * r := fun r _ => sm31 _ (by omega)
      have step : ∀ w : Int32, w = (if i < 4 then a else if i < 8 then b else if i < 12 then c else if i < 16 then d else e) → ok (jX11_feed_76_23 Y n T 215 a b c d e (nI i) w) (so (fun t => t.1 = nI (i + 1) ∧ Fr (fun x => x = 215 ∨ x = 233) S2 t.2 ∧ (∀ j, j ≠ 28 → gi t.2 215 j = gi S2 215 j) ∧ gi t.2 215 28 = nI (tp.length + (i + 1)) ∧ (∀ j, j < tp.length → gi t.2 233 j = gi S2 233 j) ∧ ∀ j, j < i + 1 → gi t.2 233 (tp.length + j) = nI (f20 a b c d e j)) (fun T => Fr (fun x => x = 215 ∨ x = 233) S2 T ∧ (∀ j, j ≠ 28 → gi T 215 j = gi S2 215 j) ∧ gi T 215 28 = nI (tp.length + 20) ∧ (∀ j, j < tp.length → gi T 233 j = gi S2 233 j) ∧ ∀ j, j < 20 → gi T 233 (tp.length + j) = nI (f20 a b c d e j))) := by
        intro w hw
        have hm : i % 4 < 4 := Nat.mod_lt _ (by decide)
        unfold jX11_feed_76_23 kirem
        rw [kgr_n hMT.2.2.1.2.2.2.2.2.2, kgi_n, k4, if_neg (by decide), show (4 : Int32) = nI 4 from rfl, nmod (by omega) (by decide) (by decide)]
        dsimp only
        rw [show (8 : Int32) = nI 8 from rfl, show (24 : Int32) = nI 24 from rfl, nmul, nsub (by omega), sh8 (by omega) (sm _ hm), kwi_n (by omega) (by omega), kgi_n, Gn (by omega), k4, kpi_n, nI_1, nI_1, ok_some, so_l]
        refine ⟨rfl, (k2.si (Or.inr rfl)).si (Or.inl rfl), fun j hj => ?_, ?_, fun j hj => ?_, fun j hj => ?_⟩
        · dsimp only
          rw [Gn (by omega), Gn (by omega)]
          exact k3 j hj
        · dsimp only
          rw [Gp]
          rfl
        · dsimp only
          rw [Gn (by omega), Gn (by omega)]
          exact k5 j hj
        · dsimp only
          rw [Gn (by omega)]
          by_cases c : j = i
          · subst c
            rw [Gp]
            unfold f20 bt
            rw [← hw]
          · rw [Gn (by omega)]
            exact k6 j (by omega)
      unfold bX11_feed_23
      dsimp only
      rw [show (4 : Int32) = nI 4 from rfl, show (8 : Int32) = nI 8 from rfl, show (12 : Int32) = nI 12 from rfl, show (16 : Int32) = nI 16 from rfl, show (20 : Int32) = nI 20 from rfl, i_le (by omega) (by omega), i_le (by omega) (by omega), i_le (by omega) (by omega), i_le (by omega) (by omega), i_le (by omega) (by omega), if_neg (by omega)]
      by_cases c1 : 4 ≤ i
      · rw [if_pos c1]
        by_cases c2 : 8 ≤ i
        · rw [if_pos c2]
          by_cases c3 : 12 ≤ i
          · rw [if_pos c3]
            by_cases c4 : 16 ≤ i
            · rw [if_pos c4]
              exact step e (by rw [if_neg (by omega), if_neg (by omega), if_neg (by omega), if_neg (by omega)])
            · rw [if_neg c4]
              exact step d (by rw [if_neg (by omega), if_neg (by omega), if_neg (by omega), if_pos (by omega)])
          · rw [if_neg c3]
            exact step c (by rw [if_neg (by omega), if_neg (by omega), if_pos (by omega)])
        · rw [if_neg c2]
          exact step b (by rw [if_neg (by omega), if_pos (by omega)])
      · rw [if_neg c1]
        exact step a (by rw [if_pos (by omega)])
    · obtain ⟨t1, T⟩ := t
      obtain ⟨k1, k2⟩ := h1
      simp only at k1 k2
      subst k1
      unfold bX11_feed_23
      dsimp only
      rw [show (20 : Int32) = nI 20 from rfl, i_le (by omega) (by omega), if_pos (by omega), ok_some, so_r]
      exact k2
    · rintro T ⟨k2, k3, k4, k5, k6⟩
      rw [kgi_n, k4]
      have ll : (tp ++ (b4 a ++ (b4 b ++ (b4 c ++ (b4 d ++ b4 e))))).length = tp.length + 20 := by
        rw [List.length_append]
        rfl
      refine ok_i ⟨rfl, q2.1.fr k2.2.1, ⟨v1.fr k2 (by omega), ⟨v2, by rw [k3 6 (by decide)]; exact v3, fun k hk => (v4 k hk).mv (fun j _ => k2.gi (by omega) _)⟩, v5.fr k2 (k3 5 (by decide)) (by omega), by rw [k4, ll], by rw [ll]; exact cc, fun j hj => ?_, by rw [k3 36 (by decide)]; exact v9⟩, q2.2.2.tr (k2.mono (fun b hb => by unfold Mm; omega))⟩
      rw [ll] at hj
      by_cases c : j < tp.length
      · rw [List.getD_eq_getElem?_getD, List.getElem?_append_left c, ← List.getD_eq_getElem?_getD, k5 j c]
        exact v8 j c
      · rw [List.getD_eq_getElem?_getD, List.getElem?_append_right (by omega), ← List.getD_eq_getElem?_getD, f20_eq _ (by omega)]
        have := k6 (j - tp.length) (by omega)
        rw [show tp.length + (j - tp.length) = j by omega] at this
        exact ⟨this, bt_lt _ _⟩
  · rw [if_neg cc, if_neg cc]
    exact ok_i ⟨rfl, q2⟩
