/-! ELECTION: the model's answer. -/
theorem TR.rv {S : PS} {A : EL} (h : TR S A (eV A)) : RV S 217 0 A := by
  obtain ⟨h0, h1', h2, h3, h4, h5, h6, h7, h8⟩ := h
  have b1 := h7.2.1
  have b2 := h7.2.2.1
  exact ⟨h0, h1', h2, fun p hp => by rw [Nat.zero_add]; exact h3 p hp, fun p k hp hk => by rw [Nat.zero_add]; exact h4 p k hp hk, fun v p hv hp => by rw [Nat.zero_add]; exact h5 p v (by omega) (by omega), h6, h7⟩
theorem m_election {Y : XS} {n : Nat} {S : PS} {A : EL} {H : List EL} {K : Option EL} {tp : List Nat} {fp : Int32} {x : Int32} (hn : 10000 ≤ n) (hM : MSt Y S) (hV : MVs S A H K tp fp) :
    ok (fX11_election Y n S 215 x) (outM (fun T => QM Y S T (aElection A H tp fp x).2.1 (aElection A H tp fp x).2.2.1 K (aElection A H tp fp x).2.2.2.1 (aElection A H tp fp x).2.2.2.2) (as1 (aElection A H tp fp x).1)) := by
  obtain ⟨l1, l2, l3, l4, l5⟩ := hM.2.2.2.1
  unfold fX11_election jX11_election_17
  rw [kpi_n]
  obtain ⟨q2, e7⟩ := m_start hM hV
  generalize si S 215 7 0 = S2 at *
  obtain ⟨v1, ⟨v2, v3, v4⟩, v5, v6, v7, v8, v9⟩ := q2.2.1
  unfold aElection
  rw [kgi_n, v6]
  cases hx : ix x (tp.length + 1) with
  | none =>
    rcases ix_none hx with h1 | ⟨h1, h2⟩
    · rw [if_pos h1]
      exact m_fail1 q2
    · rw [if_neg h1, if_neg (le_ix (by omega) h2)]
      exact m_fail1 q2
  | some m =>
    obtain ⟨rfl, hm⟩ := ix_some (by omega) hx
    rw [if_neg (nI_pos (by omega)), i_le (by omega) (by omega), if_pos (by omega)]
    dsimp only
    generalize hXX : tX tp m = X
    have x1 : X.1 = m := by rw [← hXX]; rfl
    have xb : ∀ j, j < X.1 → gi S2 233 j = nI (X.2 j) ∧ X.2 j < 256 := fun j hj => by
      rw [← hXX]
      exact v8 j (by omega)
    refine ok_kc (P := fun T => Fr (fun x => x = 217) S2 T ∧ ∀ j, j < 877 → gi T 217 j = nI 0) (iter_ok (fun i t => t.1 = nI i ∧ Fr (fun x => x = 217) S2 t.2 ∧ ∀ j, j < i → gi t.2 217 j = nI 0) 877 (fun i t hi h1 => ?_) (fun t h1 => ?_) (by omega) ⟨rfl, Fr.rf, fun j hj => absurd hj (Nat.not_lt_zero _)⟩) ?_
    · obtain ⟨t1, T⟩ := t
      obtain ⟨k1, k2, k3⟩ := h1
      dsimp only at k1 k2 k3
      subst k1
      unfold bX11_election_25
      dsimp only
      rw [show (877 : Int32) = nI 877 from rfl, i_le (by omega) (by omega), if_neg (by omega), kgr_n (q2.1.fr k2.2.1).1.2.1, kwi_n (by omega) (by omega), nI_1, ok_some, so_l]
      refine ⟨rfl, k2.si rfl, fun j hj => ?_⟩
      dsimp only
      by_cases e : j = i
      · subst e
        rw [Gp]
        rfl
      · rw [Gn (by omega)]
        exact k3 j (by omega)
    · obtain ⟨t1, T⟩ := t
      obtain ⟨k1, k2, k3⟩ := h1
      dsimp only at k1 k2 k3
      subst k1
      unfold bX11_election_25
      dsimp only
      rw [show (877 : Int32) = nI 877 from rfl, i_le (by omega) (by omega), if_pos (by omega), ok_some, so_r]
      exact ⟨k2, k3⟩
    · rintro T ⟨k2, k3⟩
      rw [kpi_n, kpi_n, kpi_n, kpi_n]
      generalize hU : si (si (si (si T 215 29 (nI m)) 215 30 0) 215 34 0) 215 37 0 = U
      have fU : Fr (fun x => x = 215) T U := by rw [← hU]; exact (((show Fr (fun x => x = 215) T (si T 215 29 (nI m)) from Fr.rf.si rfl).si rfl).si rfl).si rfl
      have u29 : gi U 215 29 = nI m := by rw [← hU, Gn (by omega), Gn (by omega), Gn (by omega), Gp]
      have u30 : gi U 215 30 = nI 0 := by rw [← hU, Gn (by omega), Gn (by omega), Gp]; rfl
      have u34 : gi U 215 34 = nI 0 := by rw [← hU, Gn (by omega), Gp]; rfl
      have u37 : gi U 215 37 = nI 0 := by rw [← hU, Gp]; rfl
      have uj : ∀ j, (j < 29 ∨ j = 36) → gi U 215 j = gi S2 215 j := fun j hj => by rw [← hU, Gn (by omega), Gn (by omega), Gn (by omega), Gn (by omega), k2.gi (by omega)]
      clear hU
      have fSU : Fr M2 S2 U := (k2.mono (fun b hb => Or.inr hb)).tr (fU.mono toM2)
      have hMU := q2.1.fr fSU.2.1
      have hXU : MX U X := ⟨by rw [u29, x1], by omega, fun j hj => by rw [fSU.gi (by unfold M2; omega)]; exact xb j hj⟩
      have hTU : TR U zA (eV zA) := by
        have z : ∀ j, j < 877 → gi U 217 j = nI 0 := fun j hj => by rw [fU.gi (by omega)]; exact k3 j hj
        refine ⟨z _ (by omega), z _ (by omega), z _ (by omega), fun p hp => absurd hp (Nat.not_lt_zero _), fun p k hp => absurd hp (Nat.not_lt_zero _), fun p v hp hv => z _ (by omega), z _ (by omega), ⟨Nat.zero_le _, Nat.zero_le _, Nat.zero_le _, fun p hp => absurd hp (Nat.not_lt_zero _), fun p v hp => absurd hp (Nat.not_lt_zero _)⟩, fun _ _ _ => rfl⟩
      obtain ⟨V, w0, w1, w2, w3⟩ := m_next hn hMU hXU (Nat.zero_le _) u30
      rw [w0, kc_s]
      have fV : Fr M2 S2 V := fSU.tr (w1.mono toM2)
      have vj : ∀ j, (j < 29 ∨ j = 36) → gi V 215 j = gi S2 215 j := fun j hj => by rw [w3 j (by omega)]; exact uj j hj
      generalize hRR : sAll X = R
      have key : ok (iter (bX11_election_69 Y n 215) n V) (fun Z => Fr M2 S2 Z ∧ (∀ j, (j < 29 ∨ j = 36) → gi Z 215 j = gi S2 215 j) ∧ ((∃ e, R = .inl e ∧ BD Z e) ∨ ∃ B, R = .inr B ∧ GD Z ∧ TR Z B (eV B))) := by
        refine iter_ok (fun i Z => Fr M2 S2 Z ∧ (∀ j, (j < 29 ∨ j = 36) → gi Z 215 j = gi S2 215 j) ∧ ((∃ e, R = .inl e ∧ BD Z e) ∨ ∃ B k f, R = sLines X f B k ∧ X.1 - k < f ∧ i ≤ k ∧ GD Z ∧ ML Z X k ∧ TR Z B (eV B) ∧ gi Z 215 37 = nI 0 ∧ gi Z 215 29 = nI X.1)) 502 (fun i Z hi h1 => ?_) (fun Z h1 => ?_) (by omega) ⟨fV, vj, Or.inr ⟨zA, sk X isBk 0, X.1 + 1, hRR.symm, by omega, Nat.zero_le _, by unfold GD; rw [w3 34 (by omega)]; exact u34, w2, hTU.fr w1 (by omega), by rw [w3 37 (by omega)]; exact u37, by rw [w3 29 (by omega), x1]; exact u29⟩⟩
        · obtain ⟨h1, h2, h3⟩ := h1
          unfold bX11_election_69
          rcases h3 with ⟨e, e1, e2⟩ | ⟨B, k, f, a1, a2, a3, a4, a5, a6, a7, a8⟩
          · rw [kgi_n, if_neg e2.ne, ok_some, so_r]
            exact ⟨h1, h2, Or.inl ⟨e, e1, e2⟩⟩
          · have tl := tk_le X k
            rw [kgi_n, if_pos a4.e, kgi_n, a5.2.2.1]
            cases f with
            | zero => omega
            | succ f =>
              rw [sLines_s] at a1
              by_cases c : tk X k = 0
              · rw [if_pos (by rw [c]; rfl), ok_some, so_r]
                rw [if_pos c] at a1
                exact ⟨h1, h2, Or.inr ⟨B, a1, a4, a6⟩⟩
              · rw [if_neg (nI_ne0 (by omega) (by omega))]
                rw [if_neg c] at a1
                have hk : k < X.1 := by
                  have := mt tk_0.mpr c
                  omega
                have hXZ : MX Z X := ⟨a8, by omega, fun j hj => by rw [h1.gi (by unfold M2; omega)]; exact xb j hj⟩
                refine ok_kc (m_readLine hn (q2.1.fr h1.2.1) hXZ a4 a5 a6 a7) ?_
                intro W hW
                rw [ok_some, so_l]
                cases hs : sLine X B k with
                | inl e =>
                  rw [hs] at hW a1
                  exact ⟨h1.tr hW.1, fun j hj => by rw [hW.2.1 j (by omega)]; exact h2 j hj, Or.inl ⟨e, a1, hW.2.2⟩⟩
                | inr z =>
                  have hz := sLine_gt hs hk
                  rw [hs] at hW a1
                  obtain ⟨y1, y2, y3, y4, y5⟩ := hW
                  exact ⟨h1.tr y1, fun j hj => by rw [y2 j (by omega)]; exact h2 j hj, Or.inr ⟨z.1, z.2, f, a1, by omega, by omega, y3, y4, y5, by rw [y2 37 (by omega)]; exact a7, by rw [y2 29 (by omega)]; exact a8⟩⟩
        · obtain ⟨h1, h2, h3⟩ := h1
          unfold bX11_election_69
          rcases h3 with ⟨e, e1, e2⟩ | ⟨B, k, f, a1, a2, a3, a4, a5, _⟩
          · rw [kgi_n, if_neg e2.ne, ok_some, so_r]
            exact ⟨h1, h2, Or.inl ⟨e, e1, e2⟩⟩
          · have := a5.1
            omega
      obtain ⟨Z, z0, z1, z2, z3⟩ := key
      rw [z0, kc_s]
      unfold jX11_election_90 jX11_election_111
      rw [kpi_n]
      generalize hP : si Z 215 28 0 = P
      have fP : Fr (fun x => x = 215) Z P := by rw [← hP]; exact Fr.rf.si rfl
      have p28 : gi P 215 28 = nI 0 := by rw [← hP, Gp]; rfl
      have pj : ∀ j, j ≠ 28 → gi P 215 j = gi Z 215 j := fun j hj => by rw [← hP, Gn (by omega)]
      clear hP
      have fSP : Fr M2 S2 P := z1.tr (fP.mono toM2)
      rcases z3 with ⟨e, e1, e2⟩ | ⟨B, b1, b2, b3⟩
      · rw [e1]
        dsimp only
        have e34 : gi P 215 34 = nI e.1 := by rw [pj 34 (by decide)]; exact e2.1
        have e35 : gi P 215 35 = nI e.2 := by rw [pj 35 (by decide)]; exact e2.2.1
        have ne : ¬ gi P 215 34 = 0 := by rw [pj 34 (by decide)]; exact e2.ne
        rw [kgi_n, if_neg ne, kgi_n, e35, kpi_n, kgi_n, Gn (by omega), if_neg ne, kgi_n, Gn (by omega), e34]
        have f2 : Fr M2 S2 (si P 215 36 (nI e.2)) := fSP.si (Or.inl rfl)
        have g2 : ∀ j, (j < 28) → gi (si P 215 36 (nI e.2)) 215 j = gi S2 215 j := fun j hj => by rw [Gn (by omega), pj j (by omega)]; exact z2 j (by omega)
        refine ok_i ⟨rfl, by rw [g2 7 (by decide)]; exact e7, q2.1.fr f2.2.1, ⟨v1.fr f2 (by unfold M2; omega), ⟨v2, by rw [g2 6 (by decide)]; exact v3, fun k hk => (v4 k hk).mv (fun j _ => f2.gi (by unfold M2; omega) _)⟩, v5.fr f2 (g2 5 (by decide)) (by unfold M2; omega), by rw [Gn (by omega)]; exact p28, Nat.zero_le _, fun j hj => absurd hj (Nat.not_lt_zero _), Gp⟩, q2.2.2.tr (f2.mono (fun b hb => by unfold M2 at hb; unfold Mm; omega))⟩
      · rw [b1]
        dsimp only
        have e34 : gi P 215 34 = 0 := by rw [pj 34 (by decide)]; exact b2
        rw [kgi_n, if_pos e34, kpi_n, kgi_n, Gn (by omega), if_pos e34]
        have f2 : Fr (fun x => x = 215) P (si P 215 36 (-1)) := Fr.rf.si rfl
        have hM2 := (q2.1.fr fSP.2.1).fr f2.2.1
        rw [kgr_n hM2.1.1, kgr_n hM2.1.2.1]
        refine ok_kc (m_copy (by omega) (by decide) l1 l2) ?_
        rintro Q ⟨c1, c2⟩
        rw [kpi_n]
        have fQ : Fr (fun b => M2 b ∨ b = 216) S2 (si Q 215 6 0) := (((fSP.mono (fun b hb => Or.inl hb)).tr (f2.mono (fun b hb => Or.inl (Or.inl hb)))).tr (c1.mono (fun b hb => Or.inr hb))).si (Or.inl (Or.inl rfl))
        have g2 : ∀ j, (j < 28 ∧ j ≠ 6) → gi (si Q 215 6 0) 215 j = gi S2 215 j := fun j hj => by rw [Gn (by omega), c1.gi (by omega), Gn (by omega), pj j (by omega)]; exact z2 j (by omega)
        have hB : NV (si Q 215 6 0) B := by
          refine RV.mv ((b3.fr fP (by omega)).fr f2 (by omega)).rv (fun j hj => ?_)
          rw [Nat.zero_add, Gn (by omega)]
          exact c2 j hj
        rw [m_many (hM2.fr (c1.2.1)|>.fr (show (si Q 215 6 0).2.2 = Q.2.2 from rfl)) hB, kc_s]
        refine ok_i ⟨rfl, by dsimp only; rw [g2 7 (by decide)]; exact e7, q2.1.fr fQ.2.1, ⟨hB, ⟨Nat.zero_le _, Gp, fun k hk => absurd hk (Nat.not_lt_zero _)⟩, v5.fr fQ (g2 5 (by decide)) (by unfold M2; omega), ?_, Nat.zero_le _, fun j hj => absurd hj (Nat.not_lt_zero _), ?_⟩, q2.2.2.tr (fQ.mono (fun b hb => by unfold M2 at hb; unfold Mm; omega))⟩
        · dsimp only
          rw [Gn (by omega), c1.gi (by omega), Gn (by omega)]
          exact p28
        · dsimp only
          rw [Gn (by omega), c1.gi (by omega), Gp]
          rfl
