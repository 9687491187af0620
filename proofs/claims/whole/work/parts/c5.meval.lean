/-! THE MODEL RECKONS A LAW. -/
def ET (S0 : PS) (X : TX) (a b : Nat) : Prop := a ≤ b ∧ b ≤ X.1 ∧ X.1 ≤ 500 ∧ (∀ j, j < X.1 → X.2 j < 256) ∧ gi S0 216 376 = nI (b - a) ∧ ∀ j, a ≤ j → j < b → gi S0 216 (377 + (j - a)) = nI (X.2 j)
/-- the place in the law's text -/
def AT (S0 : PS) (a p : Nat) (S : PS) : Prop := Fr (fun x => x = 215) S0 S ∧ (∀ j, j ≠ 8 → gi S 215 j = gi S0 215 j) ∧ gi S 215 8 = nI (p - a) ∧ a ≤ p
theorem AT.set {S0 S : PS} {a p q : Nat} (h : AT S0 a p S) (hq : a ≤ q) : AT S0 a q (si S 215 8 (nI (q - a))) := ⟨h.1.si rfl, fun j hj => by rw [Gn (by omega)]; exact h.2.1 j hj, Gp, hq⟩
theorem AT.inc {S0 S : PS} {a p : Nat} (h : AT S0 a p S) : AT S0 a (p + 1) (si S 215 8 (gi S 215 8 + 1)) := by
  have := h.set (q := p + 1) (by have := h.2.2.2; omega)
  rw [h.2.2.1, nI_1, show p - a + 1 = p + 1 - a by have := h.2.2.2; omega]
  exact this
def byE (X : TX) (b k : Nat) : Int32 := if k < b then nI (X.2 k) else m1
theorem m_lawByte {Y : XS} {n : Nat} {S0 S : PS} {X : TX} {a b p : Nat} (hn : 10000 ≤ n) (hM : MSt Y S0) (hT : ET S0 X a b) (h : AT S0 a p S) (hk : sk X isBk p ≤ b) :
    ok (fX11_lawByte Y n S 215) (fun q => q.1 = byE X b (sk X isBk p) ∧ AT S0 a (sk X isBk p) q.2) := by
  obtain ⟨t1, t2, t3, t4, t5, t6⟩ := hT
  have l := hM.2.2.2.1.1
  have ge := sk_ge (X := X) (P := isBk) p
  have ap := h.2.2.2
  generalize hkk : sk X isBk p = k at *
  unfold fX11_lawByte
  refine ok_kc (P := fun T => AT S0 a k T) (iter_ok (fun i T => AT S0 a (p + i) T) (k - p) (fun i T hi h1 => ?_) (fun T h1 => ?_) (by omega) h) ?_
  · have hin := sk_in (X := X) (P := isBk) (k := p) (j := p + i) (by omega) (by omega)
    have hb := t4 (p + i) hin.1
    have hbk := of_decide_eq_true hin.2
    have hMT := hM.fr h1.1.2.1
    have e6 : gi T 216 (377 + (p + i - a)) = nI (X.2 (p + i)) := by rw [h1.1.gi (by omega)]; exact t6 _ (by omega) (by omega)
    have e5 : gi T 216 376 = nI (b - a) := by rw [h1.1.gi (by omega)]; exact t5
    unfold bX11_lawByte_0 jX11_lawByte_51_0
    rw [kgi_n, h1.2.2.1, kgr_n hMT.1.1, show (376 : Int32) = nI 376 from rfl, kai_n (by omega) (by omega), e5, i_le (by omega) (by omega), if_neg (by omega), kgr_n hMT.1.1, kgi_n, h1.2.2.1, show (377 : Int32) = nI 377 from rfl, nI_add, kai_n (by omega) (by omega), e6, show (32 : Int32) = nI 32 from rfl, i_eq (by omega) (by decide)]
    have go : ok (kpi T 215 8 (nI (p + i - a) + 1) (fun S58 => (some (.inl S58) : Option (PS ⊕ PS)))) (so (fun T => AT S0 a (p + (i + 1)) T) (fun T => AT S0 a k T)) := by
      rw [kpi_n, ok_some, so_l]
      have := h1.inc
      rw [h1.2.2.1] at this
      exact this
    rcases hbk with e | e
    · rw [if_pos e, kgi_n, h1.2.2.1]
      exact go
    · rw [if_neg (by omega), kgr_n hMT.1.1, kgi_n, h1.2.2.1, nI_add, kai_n (by omega) (by omega), e6, show (10 : Int32) = nI 10 from rfl, i_eq (by omega) (by decide), if_pos e, kgi_n, h1.2.2.1]
      exact go
  · rw [show p + (k - p) = k by omega] at h1
    have hMT := hM.fr h1.1.2.1
    have e5 : gi T 216 376 = nI (b - a) := by rw [h1.1.gi (by omega)]; exact t5
    unfold bX11_lawByte_0
    rw [kgi_n, h1.2.2.1, kgr_n hMT.1.1, show (376 : Int32) = nI 376 from rfl, kai_n (by omega) (by omega), e5, i_le (by omega) (by omega)]
    by_cases c : b - a ≤ k - a
    · rw [if_pos c, ok_some, so_r]
      exact h1
    · have kb : k < b := by omega
      have hb := t4 k (by omega)
      have hat := sk_at (X := X) (P := isBk) (k := p) (by omega)
      rw [hkk] at hat
      have hnb := of_decide_eq_false hat
      have e6 : gi T 216 (377 + (k - a)) = nI (X.2 k) := by rw [h1.1.gi (by omega)]; exact t6 _ (by omega) kb
      rw [if_neg c, kgr_n hMT.1.1, kgi_n, h1.2.2.1, show (377 : Int32) = nI 377 from rfl, nI_add, kai_n (by omega) (by omega), e6, show (32 : Int32) = nI 32 from rfl, i_eq (by omega) (by decide), if_neg (by omega), kgr_n hMT.1.1, kgi_n, h1.2.2.1, nI_add, kai_n (by omega) (by omega), e6, show (10 : Int32) = nI 10 from rfl, i_eq (by omega) (by decide), if_neg (by omega), ok_some, so_r]
      exact h1
  · intro T h1
    have hMT := hM.fr h1.1.2.1
    have e5 : gi T 216 376 = nI (b - a) := by rw [h1.1.gi (by omega)]; exact t5
    unfold jX11_lawByte_64 jX11_lawByte_96 byE
    rw [kgi_n, h1.2.2.1, kgr_n hMT.1.1, show (376 : Int32) = nI 376 from rfl, kai_n (by omega) (by omega), e5, i_le (by omega) (by omega)]
    by_cases c : b - a ≤ k - a
    · rw [if_pos c, if_neg (by omega)]
      exact ok_i ⟨rfl, h1⟩
    · have kb : k < b := by omega
      have e6 : gi T 216 (377 + (k - a)) = nI (X.2 k) := by rw [h1.1.gi (by omega)]; exact t6 _ (by omega) kb
      rw [if_neg c, if_pos kb, kgr_n hMT.1.1, kgi_n, h1.2.2.1, show (377 : Int32) = nI 377 from rfl, nI_add, kai_n (by omega) (by omega), e6]
      exact ok_i ⟨rfl, h1⟩
theorem m_lawWordL {Y : XS} {n : Nat} {S0 S : PS} {X : TX} {a b k : Nat} {x : Int32} (hn : 10000 ≤ n) (hM : MSt Y S0) (hT : ET S0 X a b) (h : AT S0 a k S) (hk : sk X isLt k ≤ b) :
    ok (iter (bX11_lawWord_0 Y n 215 x) n S) (fun T => AT S0 a (sk X isLt k) T) := by
  obtain ⟨t1, t2, t3, t4, t5, t6⟩ := hT
  have l := hM.2.2.2.1.1
  have ge := sk_ge (X := X) (P := isLt) k
  have ap := h.2.2.2
  refine iter_ok (fun i T => AT S0 a (k + i) T) (sk X isLt k - k) (fun i T hi h1 => ?_) (fun T h1 => ?_) (by omega) h
  · have hin := sk_in (X := X) (P := isLt) (k := k) (j := k + i) (by omega) (by omega)
    have hb := t4 (k + i) hin.1
    have hMT := hM.fr h1.1.2.1
    have e6 : gi T 216 (377 + (k + i - a)) = nI (X.2 (k + i)) := by rw [h1.1.gi (by omega)]; exact t6 _ (by omega) (by omega)
    have e5 : gi T 216 376 = nI (b - a) := by rw [h1.1.gi (by omega)]; exact t5
    unfold bX11_lawWord_0
    rw [kgi_n, h1.2.2.1, kgr_n hMT.1.1, show (376 : Int32) = nI 376 from rfl, kai_n (by omega) (by omega), e5, i_le (by omega) (by omega), if_neg (by omega), kgr_n hMT.1.1, kgi_n, h1.2.2.1, show (377 : Int32) = nI 377 from rfl, nI_add, kai_n (by omega) (by omega), e6, m_isSmall hb, kc_s, ifT hin.2, kgi_n, kpi_n, ok_some, so_l]
    exact h1.inc
  · rw [show k + (sk X isLt k - k) = sk X isLt k by omega] at h1
    have hMT := hM.fr h1.1.2.1
    have e5 : gi T 216 376 = nI (b - a) := by rw [h1.1.gi (by omega)]; exact t5
    unfold bX11_lawWord_0
    rw [kgi_n, h1.2.2.1, kgr_n hMT.1.1, show (376 : Int32) = nI 376 from rfl, kai_n (by omega) (by omega), e5, i_le (by omega) (by omega)]
    by_cases c : b - a ≤ sk X isLt k - a
    · rw [if_pos c, ok_some, so_r]
      exact h1
    · have kb : sk X isLt k < b := by omega
      have hb := t4 _ (show sk X isLt k < X.1 by omega)
      have hat := sk_at (X := X) (P := isLt) (k := k) (by omega)
      have e6 : gi T 216 (377 + (sk X isLt k - a)) = nI (X.2 (sk X isLt k)) := by rw [h1.1.gi (by omega)]; exact t6 _ (by omega) kb
      rw [if_neg c, kgr_n hMT.1.1, kgi_n, h1.2.2.1, show (377 : Int32) = nI 377 from rfl, nI_add, kai_n (by omega) (by omega), e6, m_isSmall hb, kc_s, ifF hat, ok_some, so_r]
      exact h1
/-- the number, as the model reckons it -/
def nw (X : TX) (s : Nat) : Nat → Nat
  | 0 => 0
  | i + 1 => min 9999 (10 * nw X s i + (X.2 (s + i) - 48))
theorem nw_eq (X : TX) (s : Nat) : ∀ i, nw X s i = min 9999 (nvl X s i)
  | 0 => rfl
  | i + 1 => by
    show min 9999 (10 * nw X s i + (X.2 (s + i) - 48)) = min 9999 (min 1000000 (10 * nvl X s i + (X.2 (s + i) - 48)))
    rw [nw_eq X s i]
    omega
theorem m_lawNumber {Y : XS} {n : Nat} {S0 S : PS} {X : TX} {a b k : Nat} (hn : 10000 ≤ n) (hM : MSt Y S0) (hT : ET S0 X a b) (h : AT S0 a k S) (hk : sk X isFg k ≤ b) :
    ok (fX11_lawNumber Y n S 215) (fun q => q.1 = nI (nw X k (sk X isFg k - k)) ∧ AT S0 a (sk X isFg k) q.2) := by
  obtain ⟨t1, t2, t3, t4, t5, t6⟩ := hT
  have l := hM.2.2.2.1.1
  have ge := sk_ge (X := X) (P := isFg) k
  have ap := h.2.2.2
  unfold fX11_lawNumber jX11_lawNumber_77
  refine ok_kc (iter_ok (fun i t => t.1 = nI (nw X k i) ∧ AT S0 a (k + i) t.2) (Q := fun q => q.1 = nI (nw X k (sk X isFg k - k)) ∧ AT S0 a (sk X isFg k) q.2) (sk X isFg k - k) (fun i t hi h1 => ?_) (fun t h1 => ?_) (by omega) ⟨rfl, h⟩) (fun r h => ok_i h)
  · obtain ⟨s1, T⟩ := t
    obtain ⟨e1, h1⟩ := h1
    dsimp only at e1 h1
    subst e1
    have hin := sk_in (X := X) (P := isFg) (k := k) (j := k + i) (by omega) (by omega)
    have hb := t4 (k + i) hin.1
    have hf := of_decide_eq_true hin.2
    have nl : nw X k i ≤ 9999 := by rw [nw_eq]; omega
    have hMT := hM.fr h1.1.2.1
    have e6 : gi T 216 (377 + (k + i - a)) = nI (X.2 (k + i)) := by rw [h1.1.gi (by omega)]; exact t6 _ (by omega) (by omega)
    have e5 : gi T 216 376 = nI (b - a) := by rw [h1.1.gi (by omega)]; exact t5
    unfold bX11_lawNumber_2
    dsimp only
    rw [kgi_n, h1.2.2.1, kgr_n hMT.1.1, show (376 : Int32) = nI 376 from rfl, kai_n (by omega) (by omega), e5, i_le (by omega) (by omega), if_neg (by omega), kgr_n hMT.1.1, kgi_n, h1.2.2.1, show (377 : Int32) = nI 377 from rfl, nI_add, kai_n (by omega) (by omega), e6, m_isFigure hb, kc_s, ifT hin.2, kgr_n hMT.1.1, kgi_n, h1.2.2.1, nI_add, kai_n (by omega) (by omega), e6, kgi_n, kpi_n, show (10 : Int32) = nI 10 from rfl, nmul, nI_add, show (48 : Int32) = nI 48 from rfl, nsub (by omega), show (9999 : Int32) = nI 9999 from rfl, nmin (by omega) (by omega), ok_some, so_l]
    refine ⟨?_, h1.inc⟩
    dsimp only
    congr 1
    show _ = min 9999 (10 * nw X k i + (X.2 (k + i) - 48))
    omega
  · obtain ⟨s1, T⟩ := t
    obtain ⟨e1, h1⟩ := h1
    dsimp only at e1 h1
    subst e1
    rw [show k + (sk X isFg k - k) = sk X isFg k by omega] at h1
    have hMT := hM.fr h1.1.2.1
    have e5 : gi T 216 376 = nI (b - a) := by rw [h1.1.gi (by omega)]; exact t5
    unfold bX11_lawNumber_2
    dsimp only
    rw [kgi_n, h1.2.2.1, kgr_n hMT.1.1, show (376 : Int32) = nI 376 from rfl, kai_n (by omega) (by omega), e5, i_le (by omega) (by omega)]
    by_cases c : b - a ≤ sk X isFg k - a
    · rw [if_pos c, ok_some, so_r]
      exact ⟨rfl, h1⟩
    · have kb : sk X isFg k < b := by omega
      have hb := t4 _ (show sk X isFg k < X.1 by omega)
      have hat := sk_at (X := X) (P := isFg) (k := k) (by omega)
      have e6 : gi T 216 (377 + (sk X isFg k - a)) = nI (X.2 (sk X isFg k)) := by rw [h1.1.gi (by omega)]; exact t6 _ (by omega) kb
      rw [if_neg c, kgr_n hMT.1.1, kgi_n, h1.2.2.1, show (377 : Int32) = nI 377 from rfl, nI_add, kai_n (by omega) (by omega), e6, m_isFigure hb, kc_s, ifF hat, ok_some, so_r]
      exact ⟨rfl, h1⟩
