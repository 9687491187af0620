/-! THE CLASS READS A LAW: parts, sums, brackets. -/
def wlO : Option (LF × Int32) → List Int32
  | none => []
  | some a => [a.2]
def tlO (s co l vo : Int32) : Option (LF × Int32) → List Int32
  | none => []
  | some a => [a.1 s co l vo]
theorem run_op {s co l vo o a b : Int32} {rest st : List Int32} (ho : o ≤ -5) : runC s co l vo (o :: rest) (b :: a :: st) = runC s co l vo rest (jn o a b :: st) := by
  show (if o ≤ -5 then runC s co l vo rest (jn o a b :: st) else _) = _
  rw [if_pos ho]
theorem run_v {s co l vo c : Int32} {g : LF} {rest st : List Int32} (hv : VC c g) (hl : st.length < 15) : runC s co l vo (c :: rest) st = runC s co l vo rest (g s co l vo :: st) := by
  show (if c ≤ -5 then _ else if st.length < 15 then runC s co l vo rest (vOf c s co l vo :: st) else none) = _
  rw [if_neg hv.1, if_pos hl, hv.2]
/-- operators of a strength -/
def opS (t : Nat) : Option (LF × Int32) → Prop
  | none => True
  | some a => a.2 ≤ -5 ∧ stg a.2 = t
theorem run_wl {s co l vo : Int32} {acc : Option (LF × Int32)} {g : LF} {rest st : List Int32} {t : Nat} (h : opS t acc) : runC s co l vo (wlO acc ++ rest) (g s co l vo :: (tlO s co l vo acc ++ st)) = runC s co l vo rest (adF acc g s co l vo :: st) := by
  cases acc with
  | none => rfl
  | some a => exact run_op h.1
theorem wl_rev (acc : Option (LF × Int32)) : (wlO acc).reverse = wlO acc := by cases acc <;> rfl
theorem tl_len (s co l vo : Int32) (acc : Option (LF × Int32)) : (tlO s co l vo acc).length ≤ 1 := by
  cases acc with
  | none => exact Nat.zero_le _
  | some a => exact Nat.le_refl _
/-- code that pushes the value of f over any stack with this much room -/
def CP (r : Nat) (cs : List Int32) (f : LF) : Prop := ∀ s co l vo st rest, st.length + r ≤ 15 → runC s co l vo (cs ++ rest) st = runC s co l vo rest (f s co l vo :: st)
def PQ (Y : XS) (n : Nat) (X : TX) (A : EL) (S0 : PS) (c ws : List Int32) (d r : Nat) (Q : LQ) : PR → Prop
  | .inl e => BadQ Y S0 Q e
  | .inr g => ∀ T i cs, SM Y X A S0 T i g.2 (c ++ cs) ws d → CP r cs g.1 → Wq Y n Q 0 i T
def PartOK (Y : XS) (n : Nat) (X : TX) (A : EL) (S0 : PS) (j : Nat) : Prop := ∀ S i k c ws Q, SM Y X A S0 S i k c ws (6 - j) → PQ Y n X A S0 c ws (6 - j) (2 * j + 1) Q (sP X j k) → Wq Y n Q 1 i S
def VQ (Y : XS) (n : Nat) (X : TX) (A : EL) (S0 : PS) (c0 ws0 : List Int32) (d r : Nat) (Q : LQ) : PR → Prop
  | .inl e => BadQ Y S0 Q e
  | .inr g => ∀ T i cE ps, SM Y X A S0 T i g.2 (c0 ++ cE) (ws0 ++ ps) d → (∀ x, x ∈ ps → 1 ≤ stg x) → opO X g.2 = 0 → CP r (cE ++ ps.reverse) g.1 → Wq Y n Q 0 i T
theorem stg_mem {t : Nat} {acc : Option (LF × Int32)} (h : opS t acc) : ∀ x, x ∈ wlO acc → stg x = t := by
  intro x hx
  cases acc with
  | none => cases hx
  | some a =>
    rw [List.mem_singleton.mp hx]
    exact h.2
theorem level_ok {Y : XS} {n : Nat} {X : TX} {A : EL} {S0 : PS} {j : Nat} (hn : 10000 ≤ n) (hj : j ≤ 6) (hp : PartOK Y n X A S0 j) {c0 ws0 : List Int32} {Q : LQ} (hw : ws0 = [] ∨ ∃ w0, ws0 = w0 ++ [(0 : Int32)]) : ∀ f acc trm g k S i cE, X.1 - k < f → k ≤ X.1 → SM Y X A S0 S i k (c0 ++ cE) (ws0 ++ (wlO acc ++ wlO trm)) (6 - j) → opS 1 acc → opS 2 trm → (∀ s co l vo st rest, st.length + (2 * j + 3) ≤ 15 → runC s co l vo (cE ++ rest) st = runC s co l vo rest (g s co l vo :: (tlO s co l vo trm ++ (tlO s co l vo acc ++ st)))) → VQ Y n X A S0 c0 ws0 (6 - j) (2 * j + 3) Q (sV X (sP X j) f acc (adF trm g) k) → Wq Y n Q 0 i S
  | 0, acc, trm, g, k, S, i, cE, hf, _, _, _, _, _, _ => by omega
  | f + 1, acc, trm, g, k, S, i, cE, hf, hk, hS, ha, ht, hr, hq => by
    rw [sV_s] at hq
    by_cases co0 : opO X k = 0
    · rw [if_pos co0] at hq
      refine hq S i cE (wlO acc ++ wlO trm) hS (fun x hx => ?_) co0 ?_
      · rcases List.mem_append.mp hx with hx | hx
        · rw [stg_mem ha x hx]
          exact Nat.le_refl _
        · rw [stg_mem ht x hx]
          decide
      · intro s co l vo st rest hst
        rw [List.reverse_append, wl_rev, wl_rev, List.append_assoc, List.append_assoc, hr s co l vo st _ hst, run_wl ht, run_wl ha]
    · rw [if_neg co0] at hq
      have ho := opO_stg co0
      have hk' := (opO_3 co0).2.1
      have hnx := nx_gt hk'
      have hnl := nx_le hk
      rcases ho.1 with h1 | h2
      · /- a sum goes on -/
        refine b_op (ws := ws0) (ps := wlO acc ++ wlO trm) hn hS co0 ?_ ?_ ?_
        · rcases hw with e | ⟨w0, e⟩
          · exact Or.inl e
          · exact Or.inr ⟨w0, 0, e, by rw [h1]; decide⟩
        · intro x hx
          rw [h1]
          rcases List.mem_append.mp hx with hx | hx
          · rw [stg_mem ha x hx]
            exact Nat.le_refl _
          · rw [stg_mem ht x hx]
            decide
        · intro T hT
          refine hp T (i + 1) (nx X k) _ _ Q hT ?_
          cases hg : sP X j (nx X k) with
          | inl e =>
            rw [hg] at hq
            exact hq
          | inr g2 =>
            rw [hg] at hq
            dsimp only at hq
            rw [if_neg (by omega)] at hq
            have hg2 := sP_gt j _ g2 hnl hg
            intro U i' cs hU hcs
            refine level_ok hn hj hp hw f (some (adF acc (adF trm g), opO X k)) none g2.1 g2.2 U i' (cE ++ ((wlO acc ++ wlO trm).reverse ++ cs)) (by omega) hg2.2 ?_ ⟨ho.2, h1⟩ trivial ?_ hq
            · rw [List.append_assoc] at hU
              rw [List.append_assoc] at hU
              exact hU
            · intro s co l vo st rest hst
              rw [List.append_assoc, List.append_assoc, List.reverse_append, wl_rev, wl_rev, List.append_assoc, hr s co l vo st _ hst, run_wl ht, run_wl ha, hcs s co l vo _ rest (by show st.length + 1 + (2 * j + 1) ≤ 15; omega)]
              rfl
      · refine b_op (ws := ws0 ++ wlO acc) (ps := wlO trm) hn (by rw [List.append_assoc]; exact hS) co0 ?_ ?_ ?_
        · cases acc with
          | none =>
            rcases hw with e | ⟨w0, e⟩
            · left
              rw [e]
              rfl
            · right
              refine ⟨w0, 0, ?_, by rw [h2]; decide⟩
              show ws0 ++ [] = _
              rw [List.append_nil]
              exact e
          | some a =>
            right
            exact ⟨ws0, a.2, rfl, by rw [h2, ha.2]; decide⟩
        · intro x hx
          rw [h2, stg_mem ht x hx]
          exact Nat.le_refl _
        · intro T hT
          refine hp T (i + 1) (nx X k) _ _ Q hT ?_
          cases hg : sP X j (nx X k) with
          | inl e =>
            rw [hg] at hq
            exact hq
          | inr g2 =>
            rw [hg] at hq
            dsimp only at hq
            rw [if_pos h2] at hq
            have hg2 := sP_gt j _ g2 hnl hg
            intro U i' cs hU hcs
            refine level_ok hn hj hp hw f acc (some (adF trm g, opO X k)) g2.1 g2.2 U i' (cE ++ ((wlO trm).reverse ++ cs)) (by omega) hg2.2 ?_ ha ⟨ho.2, h2⟩ ?_ hq
            · rw [List.append_assoc, List.append_assoc] at hU
              rw [List.append_assoc] at hU
              exact hU
            · intro s co l vo st rest hst
              have tl := tl_len s co l vo acc
              rw [List.append_assoc, List.append_assoc, wl_rev, hr s co l vo st _ hst, run_wl ht, hcs s co l vo _ rest (by rw [List.length_cons, List.length_append]; omega)]
              rfl
theorem part_ok {Y : XS} {n : Nat} {X : TX} {A : EL} {S0 : PS} (hn : 10000 ≤ n) : ∀ j, j ≤ 6 → PartOK Y n X A S0 j
  | 0, _ => by
    intro S i k c ws Q hS hq
    rw [sP_0] at hq
    cases c40 : isS X k 40 with
    | true =>
      rw [c40, if_pos rfl] at hq
      exact b_open6 hn hS c40 hq
    | false =>
      rw [c40, if_neg (by decide)] at hq
      refine b_atom hn hS c40 ?_
      cases hs : sAtom X k with
      | inl e =>
        rw [hs] at hq
        exact hq
      | inr g =>
        rw [hs] at hq
        intro T cd hT hv
        refine hq T (i + 1) [cd] hT (fun s co l vo st rest hst => ?_)
        exact run_v hv (by omega)
  | j + 1, hj => by
    intro S i k c ws Q hS hq
    rw [sP_s] at hq
    cases c40 : isS X k 40 with
    | false =>
      rw [c40, if_neg (by decide)] at hq
      refine b_atom hn hS c40 ?_
      cases hs : sAtom X k with
      | inl e =>
        rw [hs] at hq
        exact hq
      | inr g =>
        rw [hs] at hq
        intro T cd hT hv
        refine hq T (i + 1) [cd] hT (fun s co l vo st rest hst => ?_)
        exact run_v hv (by omega)
    | true =>
      rw [c40, if_pos rfl] at hq
      have ih := part_ok (X := X) (A := A) (S0 := S0) (Y := Y) hn j (by omega)
      have hk' := (isS_lt c40).1
      refine b_open hn hS c40 (by omega) (fun T hT => ?_)
      rw [show 6 - (j + 1) + 1 = 6 - j by omega] at hT
      refine ih T (i + 1) (nx X k) c (ws ++ [0]) Q hT ?_
      unfold sSum at hq
      cases hg : sP X j (nx X k) with
      | inl e =>
        rw [hg] at hq
        exact hq
      | inr g =>
        rw [hg] at hq
        dsimp only at hq
        have hg2 := sP_gt j _ g (nx_le (by omega)) hg
        intro U i' cs hU hcs
        refine level_ok (c0 := c) (ws0 := ws ++ [0]) hn (by omega) ih (Or.inr ⟨ws, rfl⟩) (X.1 + 1) none none g.1 g.2 U i' cs (by omega) hg2.2 (by rw [show ws ++ [0] ++ (wlO none ++ wlO none) = ws ++ [0] from List.append_nil _]; exact hU) trivial trivial ?_ ?_
        · intro s co l vo st rest hst
          exact hcs s co l vo st rest (by omega)
        · cases hv : sV X (sP X j) (X.1 + 1) none g.1 g.2 with
          | inl e =>
            have hv' : sV X (sP X j) (X.1 + 1) none (adF none g.1) g.2 = .inl e := hv
            rw [hv'] 
            rw [hv] at hq
            exact hq
          | inr r =>
            have hv' : sV X (sP X j) (X.1 + 1) none (adF none g.1) g.2 = .inr r := hv
            rw [hv']
            rw [hv] at hq
            dsimp only at hq
            intro V i2 cE ps hV hps ho hcE
            rw [show 6 - j = (6 - (j + 1)) + 1 by omega] at hV
            cases c41 : isS X r.2 41 with
            | true =>
              rw [c41, if_pos rfl] at hq
              refine b_close hn hV (by omega) c41 hps (fun W hW => ?_)
              rw [List.append_assoc] at hW
              exact hq W (i2 + 1) _ hW (fun s co l vo st rest hst => hcE s co l vo st rest (by omega))
            | false =>
              rw [c41, if_neg (by decide)] at hq
              exact b_bad hn hV (by omega) ho (Or.inr (by omega)) (Or.inl c41) hq
