/-! THE CLASS'S READER: a law's code, and what waits. -/
def CL (S : PS) (c ws : List Int32) (d : Nat) : Prop := gi S 1 11 = nI c.length ∧ (∀ j, j < c.length → gi S 7 j = c.getD j 0) ∧ gi S 1 13 = nI ws.length ∧ (∀ j, j < ws.length → gi S 8 j = ws.getD j 0) ∧ gi S 1 14 = nI d
theorem kln_n {α : Type} {Y : XS} {a N : Nat} {K : Int32 → Option α} (h : ln Y a = N) : kln Y a K = K (nI N) := by
  unfold kln
  rw [h]
  rfl
theorem CL.fr {S T : PS} {M : Nat → Prop} {c ws : List Int32} {d : Nat} (h : CL S c ws d) (f : Fr M S T) (h7 : ¬ M 7) (h8 : ¬ M 8) (e : ∀ j, j = 11 ∨ j = 13 ∨ j = 14 → gi T 1 j = gi S 1 j) : CL T c ws d := by
  obtain ⟨h1, h2, h3, h4, h5⟩ := h
  exact ⟨by rw [e 11 (by omega)]; exact h1, fun j hj => by rw [f.gi h7]; exact h2 j hj, by rw [e 13 (by omega)]; exact h3, fun j hj => by rw [f.gi h8]; exact h4 j hj, by rw [e 14 (by omega)]; exact h5⟩
theorem getD_app {c : List Int32} {x : Int32} {j : Nat} (hj : j < c.length) : (c ++ [x]).getD j 0 = c.getD j 0 := by
  rw [List.getD_eq_getElem?_getD, List.getElem?_append_left hj, ← List.getD_eq_getElem?_getD]
theorem getD_last {c : List Int32} {x : Int32} : (c ++ [x]).getD c.length 0 = x := by
  rw [List.getD_eq_getElem?_getD, List.getElem?_append_right (Nat.le_refl _), Nat.sub_self]
  rfl
theorem c_put {Y : XS} {n : Nat} {S : PS} {c ws : List Int32} {d : Nat} {x : Int32} (hR : RSt Y S) (h : CL S c ws d) (hc : c.length < 500) :
    ok (fX7_put Y n S 1 x) (fun T => Fr (fun b => b = 1 ∨ b = 7) S T ∧ CL T (c ++ [x]) ws d ∧ ∀ j, j ≠ 11 → gi T 1 j = gi S 1 j) := by
  obtain ⟨h1, h2, h3, h4, h5⟩ := h
  have l7 := hR.2.2.2.2.2.1
  unfold fX7_put jX7_put_32
  rw [kgi_n, h1, kgr_n hR.2.2.1, kln_n l7, i_le (by omega) (by omega), if_neg (by omega), kgr_n hR.2.2.1, kgi_n, h1, kwi_n (by omega) (by omega), kgi_n, Gn (by omega), h1, kpi_n, nI_1]
  refine ok_i ⟨(Fr.rf.si (Or.inr rfl)).si (Or.inl rfl), ⟨?_, fun j hj => ?_, ?_, fun j hj => ?_, ?_⟩, fun j hj => ?_⟩
  · rw [Gp, List.length_append]; rfl
  · rw [List.length_append] at hj
    have hj' : j < c.length + 1 := hj
    rw [Gn (by omega)]
    by_cases e : j = c.length
    · subst e
      rw [Gp, getD_last]
    · rw [Gn (by omega), getD_app (by omega)]
      exact h2 j (by omega)
  · rw [Gn (by omega), Gn (by omega)]; exact h3
  · rw [Gn (by omega), Gn (by omega)]; exact h4 j hj
  · rw [Gn (by omega), Gn (by omega)]; exact h5
  · rw [Gn (by omega), Gn (by omega)]
theorem c_holdBack {Y : XS} {n : Nat} {S : PS} {c ws : List Int32} {d : Nat} {x : Int32} (hR : RSt Y S) (h : CL S c ws d) (hc : ws.length < 500) :
    ok (fX7_holdBack Y n S 1 x) (fun T => Fr (fun b => b = 1 ∨ b = 8) S T ∧ CL T c (ws ++ [x]) d ∧ ∀ j, j ≠ 13 → gi T 1 j = gi S 1 j) := by
  obtain ⟨h1, h2, h3, h4, h5⟩ := h
  have l8 := hR.2.2.2.2.2.2.1
  unfold fX7_holdBack jX7_holdBack_32
  rw [kgi_n, h3, kgr_n hR.2.2.2.1, kln_n l8, i_le (by omega) (by omega), if_neg (by omega), kgr_n hR.2.2.2.1, kgi_n, h3, kwi_n (by omega) (by omega), kgi_n, Gn (by omega), h3, kpi_n, nI_1]
  refine ok_i ⟨(Fr.rf.si (Or.inr rfl)).si (Or.inl rfl), ⟨?_, fun j hj => ?_, ?_, fun j hj => ?_, ?_⟩, fun j hj => ?_⟩
  · rw [Gn (by omega), Gn (by omega)]; exact h1
  · rw [Gn (by omega), Gn (by omega)]; exact h2 j hj
  · rw [Gp, List.length_append]; rfl
  · rw [List.length_append] at hj
    have hj' : j < ws.length + 1 := hj
    rw [Gn (by omega)]
    by_cases e : j = ws.length
    · subst e
      rw [Gp, getD_last]
    · rw [Gn (by omega), getD_app (by omega)]
      exact h4 j (by omega)
  · rw [Gn (by omega), Gn (by omega)]; exact h5
  · rw [Gn (by omega), Gn (by omega)]
def stg (x : Int32) : Nat := if x = 0 then 0 else if x = -5 ∨ x = -6 then 1 else 2
theorem c_strength {Y : XS} {n : Nat} {S : PS} {x : Int32} : fX7_strength Y n S x = some (nI (stg x)) := by
  unfold fX7_strength jX7_strength_20 jX7_strength_25 stg
  by_cases h0 : x = 0
  · rw [if_pos h0, if_pos h0]; rfl
  · rw [if_neg h0, if_neg h0]
    by_cases h5 : x = -5
    · rw [if_pos h5, if_pos (Or.inl h5)]; rfl
    · rw [if_neg h5]
      by_cases h6 : x = -6
      · rw [if_pos h6, if_pos (Or.inr h6)]; rfl
      · rw [if_neg h6, if_neg (fun z => z.elim h5 h6)]; rfl
theorem stg_le (x : Int32) : stg x ≤ 2 := by
  unfold stg
  split
  · omega
  · split <;> omega
/-- what waits and binds no less goes ahead: ps, behind ws -/
theorem c_putWaiting {Y : XS} {n : Nat} {ws : List Int32} {d s : Nat} (hs : s ≤ 2) (hw : ws = [] ∨ ∃ w0 b, ws = w0 ++ [b] ∧ stg b < s) : ∀ (ps : List Int32) (c : List Int32) (S : PS), RSt Y S → CL S c (ws ++ ps) d → c.length + ps.length < 500 → ws.length + ps.length < 500 → (∀ x, x ∈ ps → s ≤ stg x) → ∀ n', 600 ≤ n' + (500 - (ws.length + ps.length)) →
    ok (iter (bX7_putWaiting_7 Y n 1 (nI s)) n' (nI (ws.length + ps.length) - 1, S)) (fun T => Fr (fun b => b = 1 ∨ b = 7) S T ∧ CL T (c ++ ps.reverse) ws d ∧ ∀ j, j ≠ 11 → j ≠ 13 → gi T 1 j = gi S 1 j) := by
  intro ps
  induction h : ps.length generalizing ps with
  | zero =>
    intro c S hR hC hc hws hp n' hn'
    have e := List.length_eq_zero_iff.mp h
    subst e
    rw [List.append_nil] at hC
    cases n' with
    | zero => omega
    | succ n' =>
      have fin : bX7_putWaiting_7 Y n 1 (nI s) (nI (ws.length + 0) - 1, S) = some (.inr S) := by
        unfold bX7_putWaiting_7
        dsimp only
        rcases hw with e | ⟨w0, b, e, hb⟩
        · subst e
          rw [if_pos (by decide)]
        · have el : ws.length = w0.length + 1 := by rw [e, List.length_append]; rfl
          rw [Nat.add_zero, el, nI_pred, if_neg (nI_pos (by omega)), kgr_n hR.2.2.2.1, kln_n hR.2.2.2.2.2.2.1, i_le (by omega) (by omega), if_neg (by omega), kgr_n hR.2.2.2.1, kai_n (by rw [hR.2.2.2.2.2.2.1]; omega) (by rw [hR.2.2.2.2.2.2.1]; omega), hC.2.2.2.1 _ (by omega), e, getD_last, c_strength, kc_s]
          have := stg_le b
          rw [i_lt (by omega) (by omega), if_pos hb]
      unfold iter
      rw [fin]
      refine ok_i ⟨Fr.rf, ?_, fun _ _ _ => rfl⟩
      rw [List.reverse_nil, List.append_nil]
      exact hC
  | succ m ih =>
    intro c S hR hC hc hws hp n' hn'
    have hne : ps ≠ [] := by
      intro e
      rw [e] at h
      cases h
    obtain ⟨qs, o, e⟩ : ∃ qs o, ps = qs ++ [o] := ⟨ps.dropLast, ps.getLast hne, (List.dropLast_concat_getLast hne).symm⟩
    subst e
    rw [List.length_append] at h
    have hq : qs.length = m := by
      have : qs.length + 1 = m + 1 := h
      omega
    cases n' with
    | zero => omega
    | succ n' =>
      have el : (ws ++ (qs ++ [o])).length = ws.length + m + 1 := by
        rw [List.length_append, List.length_append, hq]
        rfl
      have eo : (ws ++ (qs ++ [o])).getD (ws.length + m) 0 = o := by
        rw [← List.append_assoc, show ws.length + m = (ws ++ qs).length by rw [List.length_append, hq], getD_last]
      have so' := hp o (by rw [List.mem_append]; right; exact List.mem_singleton.mpr rfl)
      have s2 := stg_le o
      obtain ⟨T, t0, t1, t2, t3⟩ := c_put (n := n) (x := o) hR hC (by omega)
      have step : bX7_putWaiting_7 Y n 1 (nI s) (nI (ws.length + (m + 1)) - 1, S) = some (.inl (nI (ws.length + m) - 1, si T 1 13 (nI (ws.length + m)))) := by
        unfold bX7_putWaiting_7
        dsimp only
        rw [Int32.sub_eq_add_neg (nI (ws.length + m)) 1, ← Nat.add_assoc, nI_pred, if_neg (nI_pos (by omega)), kgr_n hR.2.2.2.1, kln_n hR.2.2.2.2.2.2.1, i_le (by omega) (by omega), if_neg (by omega), kgr_n hR.2.2.2.1, kai_n (by rw [hR.2.2.2.2.2.2.1]; omega) (by rw [hR.2.2.2.2.2.2.1]; omega), hC.2.2.2.1 _ (by omega), eo, c_strength, kc_s, i_lt (by omega) (by omega), if_neg (by omega), kgr_n hR.2.2.2.1, kai_n (by rw [hR.2.2.2.2.2.2.1]; omega) (by rw [hR.2.2.2.2.2.2.1]; omega), hC.2.2.2.1 _ (by omega), eo, t0, kc_s, kpi_n]
      have fT : Fr (fun b => b = 1 ∨ b = 7) S (si T 1 13 (nI (ws.length + m))) := t1.si (Or.inl rfl)
      have hCT : CL (si T 1 13 (nI (ws.length + m))) (c ++ [o]) (ws ++ qs) d := by
        obtain ⟨g1, g2, g3, g4, g5⟩ := t2
        refine ⟨by rw [Gn (by omega)]; exact g1, fun j hj => by rw [Gn (by omega)]; exact g2 j hj, by rw [Gp, List.length_append, hq], fun j hj => ?_, by rw [Gn (by omega)]; exact g5⟩
        rw [List.length_append, hq] at hj
        rw [Gn (by omega), g4 j (by omega), ← List.append_assoc, getD_app (by rw [List.length_append, hq]; omega)]
      unfold iter
      rw [step]
      have := ih qs hq (c ++ [o]) _ (hR.fr fT.2.1) hCT (by rw [List.length_append]; show c.length + 1 + m < 500; omega) (by omega) (fun x hx => hp x (by rw [List.mem_append]; exact Or.inl hx)) n' (by omega)
      refine ok_mono this ?_
      rintro U ⟨u1, u2, u3⟩
      refine ⟨fT.tr u1, ?_, fun j j1 j2 => by rw [u3 j j1 j2, Gn (by omega)]; exact t3 j j1⟩
      rw [List.reverse_append, List.reverse_singleton, ← List.append_assoc]
      exact u2
theorem c_putW {Y : XS} {n : Nat} {S : PS} {c ws ps : List Int32} {d s : Nat} (hn : 10000 ≤ n) (hR : RSt Y S) (hs : s ≤ 2) (hw : ws = [] ∨ ∃ w0 b, ws = w0 ++ [b] ∧ stg b < s) (hC : CL S c (ws ++ ps) d) (hl : c.length + (ws.length + ps.length) < 500) (hp : ∀ x, x ∈ ps → s ≤ stg x) :
    ok (fX7_putWaiting Y n S 1 (nI s)) (fun T => Fr (fun b => b = 1 ∨ b = 7) S T ∧ CL T (c ++ ps.reverse) ws d ∧ ∀ j, j ≠ 11 → j ≠ 13 → gi T 1 j = gi S 1 j) := by
  unfold fX7_putWaiting jX7_putWaiting_54
  rw [kgi_n, hC.2.2.1, List.length_append]
  exact ok_kc (c_putWaiting hs hw ps c S hR hC (by omega) (by omega) hp n (by omega)) (fun r h => ok_i h)
def opO (X : TX) (k : Nat) : Int32 := if tk X k = 3 then (if X.2 k = 42 then -7 else if X.2 k = 43 then -5 else if X.2 k = 45 then -6 else if X.2 k = 47 then -8 else 0) else 0
theorem c_operator {Y : XS} {n : Nat} {S : PS} {X : TX} {k : Nat} (hX : RX S X) (hL : LT S X k) : fX7_operator Y n S 1 = some (opO X k) := by
  have tl := tk_le X k
  unfold fX7_operator opO
  rw [kgi_n, hL.2.2.1, show (3 : Int32) = nI 3 from rfl, i_eq (by omega) (by decide)]
  by_cases c : tk X k = 3
  · have hk := (tk_3 c).1
    have h9 := hL.2.2.2.2.2 (by omega)
    unfold vl at h9
    rw [if_neg (by omega), if_neg (by omega)] at h9
    rw [if_pos c, if_pos c, kgi_n, h9]
    have hb := (hX.2.2 k hk).2
    simp only [show (42 : Int32) = nI 42 from rfl, show (43 : Int32) = nI 43 from rfl, show (45 : Int32) = nI 45 from rfl, show (47 : Int32) = nI 47 from rfl, sb_eq hb (show 42 < 128 by decide), sb_eq hb (show 43 < 128 by decide), sb_eq hb (show 45 < 128 by decide), sb_eq hb (show 47 < 128 by decide)]
    by_cases d1 : X.2 k = 42
    · rw [if_pos d1, if_pos d1]
    · rw [if_neg d1, if_neg d1]
      by_cases d2 : X.2 k = 43
      · rw [if_pos d2, if_pos d2]
      · rw [if_neg d2, if_neg d2]
        by_cases d3 : X.2 k = 45
        · rw [if_pos d3, if_pos d3]
        · rw [if_neg d3, if_neg d3]
          by_cases d4 : X.2 k = 47
          · rw [if_pos d4, if_pos d4]
          · rw [if_neg d4, if_neg d4]
  · rw [if_neg c, if_neg c]
