/-! THE CLASS READS A TEXT: the structure kept while there are more cells. -/
def EG (S T : PS) : Prop := ∀ b k, b < 235 → ¬ (b = 2 ∧ k = 3) → gr T b k = gr S b k
def ELn (Y Y' : XS) : Prop := ∀ b, b < 235 → ln Y' b = ln Y b
theorem SE.gy {Y Y' : XS} {S T : PS} {e : Nat} (h : SE Y S e) (he : e + 4 ≤ 235) (eg : EG S T) (el : ELn Y Y') : SE Y' T e := by
  obtain ⟨h1, h2, h3, h4, h5, h6⟩ := h
  exact ⟨by rw [eg _ _ (by omega) (by omega)]; exact h1, by rw [eg _ _ (by omega) (by omega)]; exact h2, by rw [eg _ _ (by omega) (by omega)]; exact h3, by rw [el _ (by omega)]; exact h4, by rw [el _ (by omega)]; exact h5, by rw [el _ (by omega)]; exact h6⟩
theorem SP.gy {Y Y' : XS} {S T : PS} {p : Nat} (h : SP Y S p) (hp : p + 11 ≤ 235) (h2 : 3 ≤ p) (eg : EG S T) (el : ELn Y Y') : SP Y' T p := by
  obtain ⟨h0, h1, h2', h3, h4, h5, h6, h7, l1, l2, l3, l4, l5, l6⟩ := h
  exact ⟨h0.gy (by omega) eg el, by rw [eg _ _ (by omega) (by omega)]; exact h1, by rw [eg _ _ (by omega) (by omega)]; exact h2', by rw [eg _ _ (by omega) (by omega)]; exact h3, by rw [eg _ _ (by omega) (by omega)]; exact h4, by rw [eg _ _ (by omega) (by omega)]; exact h5, by rw [eg _ _ (by omega) (by omega)]; exact h6, by rw [eg _ _ (by omega) (by omega)]; exact h7, by rw [el _ (by omega)]; exact l1, by rw [el _ (by omega)]; exact l2, by rw [el _ (by omega)]; exact l3, by rw [el _ (by omega)]; exact l4, by rw [el _ (by omega)]; exact l5, by rw [el _ (by omega)]; exact l6⟩
theorem SO.gy {Y Y' : XS} {S T : PS} {o : Nat} (h : SO Y S o) (ho : o + 8 ≤ 235) (h2 : 3 ≤ o) (eg : EG S T) (el : ELn Y Y') : SO Y' T o := by
  obtain ⟨h1, h2', h3, h4, h5, h6, h7, l1, l2, l3, l4, l5, l6, l7⟩ := h
  exact ⟨by rw [eg _ _ (by omega) (by omega)]; exact h1, by rw [eg _ _ (by omega) (by omega)]; exact h2', by rw [eg _ _ (by omega) (by omega)]; exact h3, by rw [eg _ _ (by omega) (by omega)]; exact h4, by rw [eg _ _ (by omega) (by omega)]; exact h5, by rw [eg _ _ (by omega) (by omega)]; exact h6, by rw [eg _ _ (by omega) (by omega)]; exact h7, by rw [el _ (by omega)]; exact l1, by rw [el _ (by omega)]; exact l2, by rw [el _ (by omega)]; exact l3, by rw [el _ (by omega)]; exact l4, by rw [el _ (by omega)]; exact l5, by rw [el _ (by omega)]; exact l6, by rw [el _ (by omega)]; exact l7⟩
theorem SCh.gy {Y Y' : XS} {S T : PS} {c : Nat} (h : SCh Y S c) (hc : c + 11 ≤ 235) (h2 : 3 ≤ c) (eg : EG S T) (el : ELn Y Y') : SCh Y' T c := by
  obtain ⟨a1, a2, a3, a4, ⟨b1, b2, b3, b4⟩, c1, c2, c3, c4, c5, d1, d2, d3, d4, d5⟩ := h
  refine ⟨by rw [eg _ _ (by omega) (by omega)]; exact a1, by rw [eg _ _ (by omega) (by omega)]; exact a2, by rw [eg _ _ (by omega) (by omega)]; exact a3, by rw [el _ (by omega)]; exact a4, ⟨by rw [eg _ _ (by omega) (by omega)]; exact b1, by rw [eg _ _ (by omega) (by omega)]; exact b2, by rw [el _ (by omega)]; exact b3, by rw [el _ (by omega)]; exact b4⟩, by rw [eg _ _ (by omega) (by omega)]; exact c1, by rw [eg _ _ (by omega) (by omega)]; exact c2, by rw [eg _ _ (by omega) (by omega)]; exact c3, by rw [eg _ _ (by omega) (by omega)]; exact c4, by rw [eg _ _ (by omega) (by omega)]; exact c5, by rw [el _ (by omega)]; exact d1, by rw [el _ (by omega)]; exact d2, by rw [el _ (by omega)]; exact d3, by rw [el _ (by omega)]; exact d4, by rw [el _ (by omega)]; exact d5⟩
theorem SG.gy {Y Y' : XS} {S T : PS} {c : Nat} (h : SG Y S c) (hc : c + 6 ≤ 235) (h2 : 3 ≤ c) (eg : EG S T) (el : ELn Y Y') : SG Y' T c := by
  obtain ⟨c1, c2, c3, c4, c5, d1, d2, d3, d4, d5⟩ := h
  exact ⟨by rw [eg _ _ (by omega) (by omega)]; exact c1, by rw [eg _ _ (by omega) (by omega)]; exact c2, by rw [eg _ _ (by omega) (by omega)]; exact c3, by rw [eg _ _ (by omega) (by omega)]; exact c4, by rw [eg _ _ (by omega) (by omega)]; exact c5, by rw [el _ (by omega)]; exact d1, by rw [el _ (by omega)]; exact d2, by rw [el _ (by omega)]; exact d3, by rw [el _ (by omega)]; exact d4, by rw [el _ (by omega)]; exact d5⟩
theorem CSt.gy {Y Y' : XS} {S T : PS} (h : CSt Y S) (g : GY Y Y') (eg : EG S T) : CSt Y' T := by
  obtain ⟨⟨a1, a2, a3, a4, a5, a6, a7, a8, a9⟩, p1, p2, o1, c1, g1, ⟨b1, b2, b3⟩, e1, e2, ⟨d1, d2⟩, hX, r1, r2, r3, r4, r5, r6, r7⟩ := h
  have el : ELn Y Y' := fun b hb => (g.2 b (by omega)).1
  refine ⟨⟨by rw [eg _ _ (by omega) (by omega)]; exact a1, by rw [eg _ _ (by omega) (by omega)]; exact a2, by rw [eg _ _ (by omega) (by omega)]; exact a3, by rw [eg _ _ (by omega) (by omega)]; exact a4, by rw [eg _ _ (by omega) (by omega)]; exact a5, by rw [eg _ _ (by omega) (by omega)]; exact a6, by rw [eg _ _ (by omega) (by omega)]; exact a7, by rw [eg _ _ (by omega) (by omega)]; exact a8, by rw [eg _ _ (by omega) (by omega)]; exact a9⟩, p1.gy (by omega) (by omega) eg el, p2.gy (by omega) (by omega) eg el, o1.gy (by omega) (by omega) eg el, c1.gy (by omega) (by omega) eg el, g1.gy (by omega) (by omega) eg el, ⟨by rw [eg _ _ (by omega) (by omega)]; exact b1, by rw [el _ (by omega)]; exact b2, fun i hi => ⟨by rw [eg _ _ (by omega) (by omega)]; exact (b3 i hi).1, (b3 i hi).2.gy (by omega) eg el⟩⟩, e1.gy (by omega) eg el, e2.gy (by omega) eg el, ⟨by rw [el _ (by omega)]; exact d1, fun r hr => ⟨by rw [eg _ _ (by omega) (by omega)]; exact (d2 r hr).1, (d2 r hr).2.1.gy (by omega) (by omega) eg el, by rw [(g.2 _ (by omega)).2]; exact (d2 r hr).2.2⟩⟩, Nat.le_trans hX g.1, by rw [eg _ _ (by omega) (by omega)]; exact r1, by rw [eg _ _ (by omega) (by omega)]; exact r2, by rw [eg _ _ (by omega) (by omega)]; exact r3, by rw [eg _ _ (by omega) (by omega)]; exact r4, by rw [el _ (by omega)]; exact r5, by rw [el _ (by omega)]; exact r6, by rw [el _ (by omega)]; exact r7⟩
theorem EV.gy {Y Y' : XS} {S T : PS} {e : Nat} {A : EL} (h : EV Y S e A) (hY : 235 ≤ nX Y) (g : GY Y Y') (f : FY Y S T) (he : 9 ≤ e) (he2 : e + 4 ≤ 235) : EV Y' T e A := by
  obtain ⟨a0, a1, a2, a3, a4, a5, a6, a7⟩ := h
  have ei : ∀ b, e ≤ b → b < e + 4 → ∀ j, gi T b j = gi S b j := fun b h1 h2 j => congrFun ((f b (by omega)).1 (by unfold Mr; omega)).1 j
  refine ⟨by rw [ei _ (by omega) (by omega)]; exact a0, by rw [ei _ (by omega) (by omega)]; exact a1, by rw [ei _ (by omega) (by omega)]; exact a2, fun p hp => by rw [ei _ (by omega) (by omega)]; exact a3 p hp, fun p k hp hk => by rw [ei _ (by omega) (by omega)]; exact a4 p k hp hk, fun p v hp hv => by rw [ei _ (by omega) (by omega)]; exact a5 p v hp hv, ?_, a7⟩
  rw [show gr T e 3 = gr S e 3 from (f e (by omega)).2 3 (by omega)]
  exact a6.gy g (fun b h1 h2 => ⟨((f b h2).1 (by unfold Mr; omega)).1, funext (fun k => (f b h2).2 k (by omega))⟩)
theorem CVs.gy {Y Y' : XS} {S T : PS} {A : EL} {H : List EL} {K : Option EL} {tp tp' : List Nat} {fp fp' : Int32} (h : CVs Y S A H K tp fp) (hY : 235 ≤ nX Y) (g : GY Y Y') (f : FY Y S T) (ht : TpV T tp' fp') : CVs Y' T A H K tp' fp' := by
  obtain ⟨⟨v1, v1b⟩, ⟨h1, en, h2, h3, h4, h5⟩, v3, ⟨kn, v4, v5, v6⟩, v7, v8, v9⟩ := h
  have ei : ∀ b, b < 235 → ¬ Mr b → ∀ j, gi T b j = gi S b j := fun b h1 h2 j => congrFun ((f b (by omega)).1 h2).1 j
  have f2 : Fr (fun b => Mr b ∨ nX Y ≤ b) S (T.1, T.2.1, S.2.2) := ⟨fun b hb => ((f b (by omega)).1 (fun z => hb (Or.inl z))).2, rfl, fun b hb => ((f b (by omega)).1 (fun z => hb (Or.inl z))).1⟩
  refine ⟨⟨v1.gy hY g f (by omega) (by omega), fun q hq => ?_⟩, ⟨h1, en, h2, ?_, ?_, fun k hk => (h5 k hk).gy hY g f (by omega) (by omega)⟩, ?_, ⟨kn, v4, ?_, fun r hr hb => ?_⟩, ?_, ?_, ht⟩
  · obtain ⟨t1, t2, t3, t4⟩ := v1b q hq
    exact ⟨by rw [ei _ (by omega) (by unfold Mr; omega)]; exact t1, by rw [ei _ (by omega) (by unfold Mr; omega)]; exact t2, by rw [ei _ (by omega) (by unfold Mr; omega)]; exact t3, fun v hv => by rw [ei _ (by omega) (by unfold Mr; omega)]; exact t4 v hv⟩
  · rw [ei _ (by omega) (by unfold Mr; omega)]; exact h3
  · rw [ei _ (by omega) (by unfold Mr; omega)]; exact h4
  · cases K with
    | none =>
      show gi T 0 11 = nI 0
      rw [ei _ (by omega) (by unfold Mr; omega)]
      exact v3
    | some B =>
      refine ⟨?_, v3.2.gy hY g f (by omega) (by omega)⟩
      rw [ei _ (by omega) (by unfold Mr; omega)]
      exact v3.1
  · rw [ei _ (by omega) (by unfold Mr; omega)]; exact v5
  · have := (v6 r hr hb).fr f2 (fun x x1 x2 => by unfold Mr; omega)
    exact this
  · have := v7.fr f2 (fun x x1 x2 => by unfold Mr; omega)
    exact this
  · have := v8.fr f2 (fun x x1 x2 => by unfold Mr; omega)
    exact this
def zA : EL := (0, 0, 0, fun _ => 0, fun _ _ => 0, fun _ _ => 0, none)
def tX (tp : List Nat) (m : Nat) : TX := (m, fun j => tp.getD j 0)
def sAll (X : TX) : (Nat × Nat) ⊕ EL := sLines X (X.1 + 1) zA (sk X isBk 0)
def TQ2 (Y : XS) (S : PS) (q : XS × PS) : (Nat × Nat) ⊕ EL → Prop
  | .inl e => FT q.2 e
  | .inr A => gi q.2 1 4 = nI 0 ∧ gi q.2 1 3 = nI 0 ∧ TD q.1 q.2 A
theorem c_readText {Y : XS} {n : Nat} {S : PS} {tp : List Nat} {fp : Int32} {m : Nat} (hn : 10000 ≤ n) (hC : CSt Y S) (hT : TpV S tp fp) (hm : m ≤ tp.length) :
    ok (fX7_readText Y n S 1 (nI m)) (fun q => q.1 = gi q.2.2 1 4 ∧ GY Y q.2.1 ∧ nX q.2.1 ≤ nX Y + 2 ∧ FY Y S q.2.2 ∧ TQ2 Y S q.2 (sAll (tX tp m))) := by
  have hR := hC.rst
  have hY : 235 ≤ nX Y := hC.2.2.2.2.2.2.2.2.2.2.1
  have tl := hT.2.1
  generalize hXX : tX tp m = X
  have x1 : X.1 = m := by rw [← hXX]; rfl
  have xb : ∀ j, j < X.1 → gi S 6 j = sb (X.2 j) ∧ X.2 j < 256 := fun j hj => by
    rw [← hXX]
    exact hT.2.2.1 j (by omega)
  unfold fX7_readText
  rw [kgr_n hR.1]
  refine ok_kc (s_clear (by omega) hR.2.2.2.2.2.2.2) ?_
  rintro S1 ⟨f1, z0, z1, z2, z3, z4, z5⟩
  have g1 : ∀ b, (b < 2 ∨ 6 ≤ b) → ∀ j, gi S1 b j = gi S b j := fun b hb j => f1.gi (by omega) j
  rw [kgi_n, g1 1 (by omega), hT.1, nmin (by omega) (by omega), Nat.min_eq_left hm, kpi_n, kpi_n, kpi_n, kpi_n]
  generalize hS5 : si (si (si (si S1 1 5 (nI m)) 1 3 0) 1 6 0) 1 4 0 = S5
  have f5 : Fr (fun b => b = 1) S1 S5 := by rw [← hS5]; exact (((show Fr (fun b => b = 1) S1 (si S1 1 5 (nI m)) from Fr.rf.si rfl).si rfl).si rfl).si rfl
  have k5 : gi S5 1 5 = nI m := by rw [← hS5, Gn (by omega), Gn (by omega), Gn (by omega), Gp]
  have k3 : gi S5 1 3 = nI 0 := by rw [← hS5, Gn (by omega), Gn (by omega), Gp]; rfl
  have k6 : gi S5 1 6 = nI 0 := by rw [← hS5, Gn (by omega), Gp]; rfl
  have k4 : gi S5 1 4 = nI 0 := by rw [← hS5, Gp]; rfl
  clear hS5
  have fy5 : FY Y S S5 := by
    intro b hb
    refine ⟨fun hm' => ⟨?_, ?_⟩, fun k hk => ?_⟩
    · have : b < 2 ∨ 6 ≤ b := by
        unfold Mr at hm'
        omega
      rw [f5.2.2 b (by unfold Mr at hm'; omega), f1.2.2 b (by omega)]
    · rw [f5.1 b (by unfold Mr at hm'; omega), f1.1]
    · show gr S5 b k = gr S b k
      rw [f5.gr, f1.gr, if_neg hk]
  have r5 : RSt Y S5 := by
    obtain ⟨r1, r2, r3, r4, r5, r6, r7, r8⟩ := hR
    have eg : ∀ b k, ¬ (b = 2 ∧ k = 3) → gr S5 b k = gr S b k := fun b k hk => by rw [f5.gr, f1.gr, if_neg hk]
    exact ⟨by rw [eg _ _ (by omega)]; exact r1, by rw [eg _ _ (by omega)]; exact r2, by rw [eg _ _ (by omega)]; exact r3, by rw [eg _ _ (by omega)]; exact r4, r5, r6, r7, r8.gy (by omega) (fun b k _ hk => eg b k hk) (fun _ _ => rfl)⟩
  have x5 : RX S5 X := ⟨by rw [k5, x1], ⟨by omega, k3⟩, fun j hj => by rw [f5.gi (by omega), g1 6 (by omega)]; exact xb j hj⟩
  have t5 : TD Y S5 zA := by
    refine ⟨by rw [f5.gi (by omega)]; exact z0, by rw [f5.gi (by omega)]; exact z1, by rw [f5.gi (by omega)]; exact z2, fun p hp => absurd hp (Nat.not_lt_zero _), fun p k hp => absurd hp (Nat.not_lt_zero _), fun p v hp hv => by rw [f5.gi (by omega)]; exact z5 _ (by omega), ?_, ⟨Nat.zero_le _, Nat.zero_le _, Nat.zero_le _, fun p hp => absurd hp (Nat.not_lt_zero _), fun p v hp => absurd hp (Nat.not_lt_zero _)⟩, fun _ _ _ => rfl⟩
    rw [f5.gr, f1.gr, if_pos ⟨rfl, rfl⟩]
    trivial
  have p5 : PT S5 X (sk X isBk 0) := ⟨0, k6, Nat.zero_le _, rfl⟩
  generalize hRR : sAll X = R
  refine ok_kc (P := fun r => GY Y r.1 ∧ nX r.1 ≤ nX Y + 2 ∧ FY Y S r.2 ∧ TQ2 Y S r R) (iter_ok (fun i s => s.1 = nI i ∧ ∃ A k f, GY Y s.2.1 ∧ nX s.2.1 = nX Y + (if (eL A).isSome = true then 2 else 0) ∧ FY Y S s.2.2 ∧ RSt s.2.1 s.2.2 ∧ RX s.2.2 X ∧ TD s.2.1 s.2.2 A ∧ PT s.2.2 X k ∧ gi s.2.2 1 4 = nI 0 ∧ i ≤ k ∧ k ≤ X.1 ∧ X.1 - k < f ∧ R = sLines X f A k) 501 (fun i s hi h1 => ?_) (fun s h1 => ?_) (by omega) ⟨rfl, zA, sk X isBk 0, X.1 + 1, GY.rf, rfl, fy5, r5, x5, t5, p5, k4, Nat.zero_le _, sk_le (Nat.zero_le _), by omega, hRR.symm⟩) ?_
  · obtain ⟨s1, Y1, U⟩ := s
    obtain ⟨e1, A, k, f, q1, q2, q3, q4, q5, q6, q7, q8, q9, q10, q11, q12⟩ := h1
    dsimp only at e1 q1 q2 q3 q4 q5 q6 q7 q8
    subst e1
    cases f with
    | zero => omega
    | succ f =>
      rw [sLines_s] at q12
      unfold bX7_readText
      dsimp only
      rw [show (500 : Int32) = nI 500 from rfl, i_lt (by decide) (by omega), if_neg (by omega)]
      refine ok_kc (c_next hn q4 q5 q7) ?_
      rintro V ⟨v1, v2, v3⟩
      have fV : FY Y S V := q3.tr (FY.of (Y := Y1) (v1.mono (fun b hb => by unfold Mr; omega))) q1
      have tV := q6.fr v1 (by omega)
      have rV := q4.fr v1.2.1
      have xV := q5.fr v1 (by omega) (fun j hj => v3 j (by omega))
      have v4 : gi V 1 4 = nI 0 := by rw [v3 4 (by omega)]; exact q8
      rw [kgi_n, v2.2.2.1]
      have tl' := tk_le X k
      by_cases c : tk X k = 0
      · rw [if_pos (by rw [c]; rfl), ok_some, so_r]
        rw [if_pos c] at q12
        refine ⟨q1, by dsimp only; rw [q2]; split <;> omega, fV, ?_⟩
        rw [q12]
        exact ⟨v4, xV.2.1.2, tV⟩
      · rw [if_neg (nI_ne0 (by omega) (by omega))]
        rw [if_neg c] at q12
        have hk : k < X.1 := by
          have := mt tk_0.mpr c
          omega
        refine ok_kc (c_readLine hn (Nat.le_trans hY q1.1) rV xV v2 tV) ?_
        rintro ⟨w1, Y2, W⟩ hw
        cases hs : sLine X A k with
        | inl e =>
          rw [hs] at hw q12
          obtain ⟨y1, y2, y3, y4⟩ := hw
          dsimp only at y1 y2 y3 y4 q12
          subst y2
          subst y1
          rw [if_pos (by dsimp only; rw [q2]; split <;> omega), if_pos rfl, ok_some, so_r]
          refine ⟨q1, by dsimp only; rw [q2]; split <;> omega, fV.tr y3 q1, ?_⟩
          rw [q12]
          exact y4
        | inr z =>
          have hz := sLine_gt hs hk
          rw [hs] at hw q12
          obtain ⟨y1, y2, y3, y4, y5, y6, y7, y8⟩ := hw
          dsimp only at y1 y2 y3 y4 y5 y6 y7 y8 q12
          subst y1
          have nx2 : nX Y2 = nX Y + (if (eL z.1).isSome = true then 2 else 0) := by
            rw [y3, q2]
            rcases hz.2.2 with e | ⟨e, f', e'⟩
            · rw [e]
              cases hl : (eL A).isSome <;> simp
            · rw [e, e']
              rfl
          rw [if_pos (by dsimp only; rw [nx2]; split <;> omega), if_neg (show ¬ (1 : Int32) = 0 by decide), nI_1, ok_some, so_l]
          exact ⟨rfl, z.1, z.2, f, q1.tr y2, nx2, fV.tr y4 q1, y5, ⟨by rw [y8 5 (by omega)]; exact xV.1, ⟨xV.2.1.1, by rw [y8 3 (by omega)]; exact xV.2.1.2⟩, fun j hj => by
            have := congrFun ((y4 6 (by have := q1.1; omega)).1 (by unfold Mr; omega)).1 j
            rw [show gi W 6 j = gi V 6 j from this]
            exact xV.2.2 j hj⟩, y6, y7, by dsimp only; rw [y8 4 (by omega)]; exact v4, by omega, hz.2.1, by omega, q12⟩
  · obtain ⟨s1, Y1, U⟩ := s
    obtain ⟨e1, A, k, f, q1, q2, q3, q4, q5, q6, q7, q8, q9, q10, q11, q12⟩ := h1
    omega
  · rintro ⟨Y1, U⟩ ⟨u1, u2, u3, u4⟩
    dsimp only at u1 u2 u3 u4 ⊢
    rw [kgi_n]
    exact ok_i ⟨rfl, u1, u2, u3, u4⟩
