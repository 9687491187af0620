/-! THE MODEL'S READER: tokens. -/
def MX (S : PS) (X : TX) : Prop := gi S 215 29 = nI X.1 ∧ X.1 ≤ 500 ∧ ∀ j, j < X.1 → gi S 233 j = nI (X.2 j) ∧ X.2 j < 256
def ML (S : PS) (X : TX) (k : Nat) : Prop := k ≤ X.1 ∧ gi S 215 30 = nI (te X k) ∧ gi S 215 31 = nI (tk X k) ∧ gi S 215 32 = nI k ∧ gi S 215 33 = nI (te X k)
def GD (S : PS) : Prop := gi S 215 34 = nI 0
def BD (S : PS) (e : Nat × Nat) : Prop := gi S 215 34 = nI e.1 ∧ gi S 215 35 = nI e.2 ∧ 1 ≤ e.1 ∧ e.1 ≤ 5
def F30 (S T : PS) : Prop := ∀ j, (j < 30 ∨ 33 < j) → gi T 215 j = gi S 215 j
theorem F30.rf {S : PS} : F30 S S := fun _ _ => rfl
theorem F30.tr {S T U : PS} (h : F30 S T) (k : F30 T U) : F30 S U := fun j hj => (k j hj).trans (h j hj)
theorem MX.fr {S T : PS} {X : TX} {M : Nat → Prop} (h : MX S X) (f : Fr M S T) (h1 : ¬ M 233) (e : gi T 215 29 = gi S 215 29) : MX T X := ⟨e.trans h.1, h.2.1, fun j hj => by rw [f.gi h1]; exact h.2.2 j hj⟩
def byM (X : TX) (k : Nat) : Int32 := if k < X.1 then nI (X.2 k) else m1
theorem m_byteAt {Y : XS} {n : Nat} {S : PS} {X : TX} {k : Nat} (hM : MSt Y S) (hX : MX S X) (hk : k ≤ 1000) : fX11_byteAt Y n S 215 (nI k) = some (byM X k) := by
  have x5 := hX.2.1
  have l := hM.2.2.2.2.2.2.2.2.2.2.2
  unfold fX11_byteAt jX11_byteAt_18 byM
  rw [kgi_n, hX.1, i_le (by omega) (by omega)]
  by_cases c : k < X.1
  · rw [if_neg (by omega), kgr_n hM.2.2.1.2.2.2.2.2.2, kai_n (by omega) (by omega), (hX.2.2 k c).1, if_pos c]
  · rw [if_pos (by omega), if_neg c]
    rfl
theorem m_isSmall {Y : XS} {n : Nat} {S : PS} {b : Nat} (hb : b < 256) : fX11_isSmall Y n S (nI b) = some (if isLt b = true then 1 else 0) := by
  unfold fX11_isSmall jX11_isSmall_16 jX11_isSmall_17 isLt
  rw [kzr0, kzr1, show (97 : Int32) = nI 97 from rfl, show (122 : Int32) = nI 122 from rfl, i_lt (by omega) (by decide), i_lt (by decide) (by omega)]
  by_cases h1 : b < 97
  · rw [if_pos h1, if_neg (by rw [decide_eq_true_eq]; omega)]
  · rw [if_neg h1]
    by_cases h2 : 122 < b
    · rw [if_pos h2, if_neg (by rw [decide_eq_true_eq]; omega)]
    · rw [if_neg h2, if_pos (decide_eq_true ⟨by omega, by omega⟩)]
theorem m_isFigure {Y : XS} {n : Nat} {S : PS} {b : Nat} (hb : b < 256) : fX11_isFigure Y n S (nI b) = some (if isFg b = true then 1 else 0) := by
  unfold fX11_isFigure jX11_isFigure_16 jX11_isFigure_17 isFg
  rw [kzr0, kzr1, show (48 : Int32) = nI 48 from rfl, show (57 : Int32) = nI 57 from rfl, i_lt (by omega) (by decide), i_lt (by decide) (by omega)]
  by_cases h1 : b < 48
  · rw [if_pos h1, if_neg (by rw [decide_eq_true_eq]; omega)]
  · rw [if_neg h1]
    by_cases h2 : 57 < b
    · rw [if_pos h2, if_neg (by rw [decide_eq_true_eq]; omega)]
    · rw [if_neg h2, if_pos (decide_eq_true ⟨by omega, by omega⟩)]
theorem m_small1 {Y : XS} {n : Nat} {S : PS} : fX11_isSmall Y n S m1 = some 0 := by
  unfold fX11_isSmall jX11_isSmall_16 jX11_isSmall_17
  rw [kzr0, if_pos (by decide)]
theorem m_fig1 {Y : XS} {n : Nat} {S : PS} : fX11_isFigure Y n S m1 = some 0 := by
  unfold fX11_isFigure jX11_isFigure_16 jX11_isFigure_17
  rw [kzr0, if_pos (by decide)]
/-- a loop over letters, or figures -/
theorem m_run {Y : XS} {n : Nat} {S : PS} {X : TX} {k : Nat} {P : Nat → Bool} {f : PS → Option (PS ⊕ PS)} (hn : 10000 ≤ n) (hX : MX S X) (hk : k ≤ X.1) (h6 : gi S 215 30 = nI k) (hf : ∀ T a, a ≤ X.1 → Fr (fun x => x = 215) S T → gi T 215 30 = nI a → (∀ j, j ≠ 30 → gi T 215 j = gi S 215 j) → f T = some (if a < X.1 ∧ P (X.2 a) = true then .inl (si T 215 30 (nI (a + 1))) else .inr T)) :
    ok (iter f n S) (fun T => Fr (fun x => x = 215) S T ∧ gi T 215 30 = nI (sk X P k) ∧ ∀ j, j ≠ 30 → gi T 215 j = gi S 215 j) := by
  have x5 := hX.2.1
  have ge := sk_ge (X := X) (P := P) k
  have le := sk_le (X := X) (P := P) (k := k) hk
  refine iter_ok (fun i T => Fr (fun x => x = 215) S T ∧ gi T 215 30 = nI (k + i) ∧ ∀ j, j ≠ 30 → gi T 215 j = gi S 215 j) (sk X P k - k) (fun i T hi h1 => ?_) (fun T h1 => ?_) (by omega) ⟨Fr.rf, h6, fun _ _ => rfl⟩
  · obtain ⟨k1, k2, k3⟩ := h1
    have hin := sk_in (X := X) (P := P) (k := k) (j := k + i) (by omega) (by omega)
    rw [hf T (k + i) (by omega) k1 k2 k3, if_pos hin, ok_some, so_l]
    exact ⟨k1.si rfl, Gp, fun j hj => by rw [Gn (by omega)]; exact k3 j hj⟩
  · obtain ⟨k1, k2, k3⟩ := h1
    rw [show k + (sk X P k - k) = sk X P k by omega] at k2
    rw [hf T (sk X P k) le k1 k2 k3, if_neg, ok_some, so_r]
    · exact ⟨k1, k2, k3⟩
    · rintro ⟨z1, z2⟩
      rw [sk_at z1] at z2
      cases z2
theorem m_next {Y : XS} {n : Nat} {S : PS} {X : TX} {a : Nat} (hn : 10000 ≤ n) (hM : MSt Y S) (hX : MX S X) (ha : a ≤ X.1) (h6 : gi S 215 30 = nI a) :
    ok (fX11_next Y n S 215) (fun T => Fr (fun x => x = 215) S T ∧ ML T X (sk X isBk a) ∧ F30 S T) := by
  have x5 := hX.2.1
  have ge := sk_ge (X := X) (P := isBk) a
  have le := sk_le (X := X) (P := isBk) (k := a) ha
  unfold fX11_next
  generalize hk : sk X isBk a = k at *
  refine ok_kc (iter_ok (fun i T => Fr (fun x => x = 215) S T ∧ gi T 215 30 = nI (a + i) ∧ ∀ j, j ≠ 30 → gi T 215 j = gi S 215 j) (Q := fun T => Fr (fun x => x = 215) S T ∧ ML T X k ∧ F30 S T) (k - a) (fun i T hi h1 => ?_) (fun T h1 => ?_) (by omega) ⟨Fr.rf, h6, fun _ _ => rfl⟩) (fun r h => ok_i h)
  · obtain ⟨k1, k2, k3⟩ := h1
    have hin := sk_in (X := X) (P := isBk) (k := a) (j := a + i) (by omega) (by omega)
    have hMT := hM.fr k1.2.1
    have hXT := hX.fr k1 (by omega) (k3 29 (by decide))
    have hb := (hX.2.2 (a + i) hin.1).2
    have hbk := of_decide_eq_true hin.2
    unfold bX11_next_0 jX11_next_26_0
    have eb : byM X (a + i) = nI (X.2 (a + i)) := by unfold byM; rw [if_pos hin.1]
    have fin : Fr (fun x => x = 215) S (si T 215 30 (nI (a + i + 1))) ∧ gi (si T 215 30 (nI (a + i + 1))) 215 30 = nI (a + (i + 1)) ∧ ∀ j, j ≠ 30 → gi (si T 215 30 (nI (a + i + 1))) 215 j = gi S 215 j := ⟨k1.si rfl, Gp, fun j hj => by rw [Gn (by omega)]; exact k3 j hj⟩
    rw [kgi_n, k2, m_byteAt hMT hXT (by omega), kc_s, eb, show (32 : Int32) = nI 32 from rfl, i_eq (by omega) (by decide)]
    rcases hbk with e | e
    · rw [if_pos e, kgi_n, k2, kpi_n, nI_1, ok_some, so_l]
      exact fin
    · rw [if_neg (by omega), kgi_n, k2, m_byteAt hMT hXT (by omega), kc_s, eb, show (10 : Int32) = nI 10 from rfl, i_eq (by omega) (by decide), if_pos e, kgi_n, k2, kpi_n, nI_1, ok_some, so_l]
      exact fin
  · obtain ⟨k1, k2, k3⟩ := h1
    rw [show a + (k - a) = k by omega] at k2
    have hMT := hM.fr k1.2.1
    have hXT := hX.fr k1 (by omega) (k3 29 (by decide))
    have n1 : ∀ c : Nat, c < 256 → isBk c = true → ¬ byM X k = nI c := by
      intro c hc hbc e
      unfold byM at e
      by_cases d : k < X.1
      · rw [if_pos d, neq (by have := (hX.2.2 k d).2; omega) (by omega)] at e
        have := sk_at (X := X) (P := isBk) (k := a) (by rw [hk]; exact d)
        rw [hk, e, hbc] at this
        cases this
      · rw [if_neg d, m1n (by omega)] at e
        exact e
    unfold bX11_next_0
    rw [kgi_n, k2, m_byteAt hMT hXT (by omega), kc_s, if_neg (show ¬ byM X k = 32 from n1 32 (by decide) (by decide)), kgi_n, k2, m_byteAt hMT hXT (by omega), kc_s, if_neg (show ¬ byM X k = 10 from n1 10 (by decide) (by decide)), kgi_n, k2, kpi_n]
    generalize hU : si T 215 32 (nI k) = U
    have f1 : Fr (fun x => x = 215) T U := by rw [← hU]; exact Fr.rf.si rfl
    have g32 : gi U 215 32 = nI k := by rw [← hU, Gp]
    have g30 : gi U 215 30 = nI k := by rw [← hU, Gn (by omega)]; exact k2
    have gj : ∀ j, j ≠ 30 → j ≠ 32 → gi U 215 j = gi S 215 j := fun j j1 j2 => by rw [← hU, Gn (by omega)]; exact k3 j j1
    clear hU
    have fU := k1.tr f1
    have hMU := hM.fr fU.2.1
    have hXU := hX.fr fU (by omega) (gj 29 (by decide) (by decide))
    unfold jX11_next_168_0
    rw [kgi_n, g30, m_byteAt hMU hXU (by omega), kc_s]
    have fin : ∀ (V : PS) (t e : Nat), Fr (fun x => x = 215) S V → gi V 215 30 = nI e → gi V 215 32 = nI k → (∀ j, (j < 30 ∨ 33 < j) → gi V 215 j = gi S 215 j) → tk X k = t → te X k = e → ok (kgi (si V 215 31 (nI t)) 215 30 (fun x170 => kpi (si V 215 31 (nI t)) 215 33 x170 (fun S173 => (some (.inr S173) : Option (PS ⊕ PS))))) (so (fun _ => False) (fun T => Fr (fun x => x = 215) S T ∧ ML T X k ∧ F30 S T)) := by
      intro V t e fV v30 v32 vj ht he
      rw [kgi_n, Gn (by omega), v30, kpi_n, ok_some, so_r]
      refine ⟨(fV.si rfl).si rfl, ⟨le, ?_, ?_, ?_, ?_⟩, fun j hj => ?_⟩
      · rw [Gn (by omega), Gn (by omega), he]; exact v30
      · rw [Gn (by omega), Gp, ht]
      · rw [Gn (by omega), Gn (by omega)]; exact v32
      · rw [Gp, he]
      · rw [Gn (by omega), Gn (by omega)]; exact vj j hj
    by_cases c : k < X.1
    · have hb := (hX.2.2 k c).2
      have eb : byM X k = nI (X.2 k) := by unfold byM; rw [if_pos c]
      rw [eb, mm1, if_neg (by rw [nm1 (by omega)]; exact fun e => e), m_isSmall hb, kc_s, m_isFigure hb, kc_s]
      cases d : isLt (X.2 k) with
      | true =>
        rw [ifT rfl]
        have t1 : tk X k = 1 := by unfold tk; rw [if_neg (by omega), if_pos d]
        refine ok_kc (m_run (Y := Y) (P := isLt) hn hXU (by omega) g30 (fun V a' ha' fV v30 vj => ?_)) ?_
        · have hMV := hMU.fr fV.2.1
          have hXV := hXU.fr fV (by omega) (vj 29 (by decide))
          unfold bX11_next_76
          rw [kgi_n, v30, m_byteAt hMV hXV (by omega), kc_s, kgi_n, v30, kpi_n, nI_1]
          by_cases z : a' < X.1
          · rw [show byM X a' = nI (X.2 a') by unfold byM; rw [if_pos z], m_isSmall (hX.2.2 a' z).2, kc_s]
            cases y : isLt (X.2 a') with
            | true => rw [ifT rfl, if_pos ⟨z, rfl⟩]
            | false => rw [ifF rfl, if_neg (fun q => by cases q.2)]
          · rw [show byM X a' = m1 by unfold byM; rw [if_neg z], m_small1, kc_s, if_pos rfl, if_neg (fun q => z q.1)]
        · rintro V ⟨v1, v2, v3⟩
          rw [kpi_n]
          exact fin V 1 _ (fU.tr v1) v2 (by rw [v3 32 (by decide)]; exact g32) (fun j hj => by rw [v3 j (by omega)]; exact gj j (by omega) (by omega)) t1 (tk_1 t1).2.2
      | false =>
        rw [ifF rfl]
        cases e : isFg (X.2 k) with
        | true =>
          rw [ifT rfl]
          have t1 : tk X k = 2 := by unfold tk; rw [if_neg (by omega), if_neg (by rw [d]; decide), if_pos e]
          refine ok_kc (m_run (Y := Y) (P := isFg) hn hXU (by omega) g30 (fun V a' ha' fV v30 vj => ?_)) ?_
          · have hMV := hMU.fr fV.2.1
            have hXV := hXU.fr fV (by omega) (vj 29 (by decide))
            unfold bX11_next_118
            rw [kgi_n, v30, m_byteAt hMV hXV (by omega), kc_s, kgi_n, v30, kpi_n, nI_1]
            by_cases z : a' < X.1
            · rw [show byM X a' = nI (X.2 a') by unfold byM; rw [if_pos z], m_isFigure (hX.2.2 a' z).2, kc_s]
              cases y : isFg (X.2 a') with
              | true => rw [ifT rfl, if_pos ⟨z, rfl⟩]
              | false => rw [ifF rfl, if_neg (fun q => by cases q.2)]
            · rw [show byM X a' = m1 by unfold byM; rw [if_neg z], m_fig1, kc_s, if_pos rfl, if_neg (fun q => z q.1)]
          · rintro V ⟨v1, v2, v3⟩
            rw [kpi_n]
            exact fin V 2 _ (fU.tr v1) v2 (by rw [v3 32 (by decide)]; exact g32) (fun j hj => by rw [v3 j (by omega)]; exact gj j (by omega) (by omega)) t1 (tk_2 t1).2.2.2
        | false =>
          rw [ifF rfl]
          have t1 : tk X k = 3 := by unfold tk; rw [if_neg (by omega), if_neg (by rw [d]; decide), if_neg (by rw [e]; decide)]
          rw [kgi_n, g30, kpi_n, nI_1, kpi_n]
          exact fin (si U 215 30 (nI (k + 1))) 3 _ (fU.si rfl) Gp (by rw [Gn (by omega)]; exact g32) (fun j hj => by rw [Gn (by omega)]; exact gj j (by omega) (by omega)) t1 (tk_3 t1).2.2.2
    · have eb : byM X k = m1 := by unfold byM; rw [if_neg c]
      rw [eb, mm1, if_pos rfl, kpi_n]
      exact fin U 0 k fU g30 g32 (fun j hj => gj j (by omega) (by omega)) (tk_0.mpr (by omega)) (by unfold te; rw [if_pos (by omega)])
