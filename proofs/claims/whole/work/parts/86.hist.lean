/-! HISTORY; acts, undone; images. -/
theorem FE.num {e : Nat} {r : Option Nat} {S S' : PS} (h : FE e r S S') : Fr (fun x => e ≤ x ∧ x < e + 4) S (S'.1, S'.2.1, S.2.2) := ⟨fun b _ => by show S'.2.1 b = _; rw [h.1], rfl, fun b hb => h.2.2 b (by omega)⟩
theorem PV.fe {Y : XS} {S S' : PS} {p e : Nat} {r : Option Nat} {A : EL} (h : PV Y S p A) (hf : FE e r S S') (hd : p + 11 ≤ e ∨ e + 4 ≤ p) (he : e + 4 ≤ 235) : PV Y S' p A := by
  refine ⟨h.1.fe hf (by omega) he, fun q hq => ?_⟩
  obtain ⟨c1, c2, c3, c4⟩ := h.2 q hq
  exact ⟨by rw [hf.gi (by omega)]; exact c1, by rw [hf.gi (by omega)]; exact c2, by rw [hf.gi (by omega)]; exact c3, fun v hv => by rw [hf.gi (by omega)]; exact c4 v hv⟩
theorem KnV.fe {S S' : PS} {e : Nat} {r : Option Nat} {A : EL} (h : KnV S A) (hf : FE e r S S') (h0 : 0 < e) (he : e + 4 ≤ 143) : KnV S' A := by
  obtain ⟨kn, w1, w2, w3⟩ := h
  exact ⟨kn, w1, by rw [hf.gi (by omega)]; exact w2, fun r hr hb => (show ORr (S'.1, S'.2.1, S.2.2) (143 + 8 * r) A r from (w3 r hr hb).fr hf.num (by omega))⟩
theorem nmod {a b : Nat} (ha : a < 2147483648) (hb : b < 2147483648) (h0 : 0 < b) : nI a - nI a / nI b * nI b = nI (a % b) := by
  have h1 := Nat.div_add_mod a b
  rw [ndiv ha hb, nmul, nsub (by rw [Nat.mul_comm]; omega)]
  congr 1
  rw [Nat.mul_comm] at h1
  omega
theorem HsV.dflt {Y : XS} {S : PS} {A B : EL} {H : List EL} (h : HsV Y S A H) : HsV Y S B H := by
  obtain ⟨h1, en, h2, h3, h4, h5⟩ := h
  refine ⟨h1, en, h2, h3, h4, fun k hk => ?_⟩
  have := h5 k hk
  rw [List.getD_eq_getElem?_getD, List.getElem?_eq_getElem hk, Option.getD_some] at *
  exact this
theorem s_keep {Y : XS} {n : Nat} {S : PS} {A : EL} {H : List EL} {K : Option EL} {tp : List Nat} {fp : Int32} (hC : CSt Y S) (hV : CVs Y S A H K tp fp) :
    ok (fX3_keep Y n S 57 10) (fun S' => QC Y S S' A ((A :: H).take 20) K tp fp) := by
  obtain ⟨a1, ⟨h1, en, h2, h3, h4, h5⟩, a3, a4, a5, a6, a7⟩ := hV
  have hi := hC.2.2.2.2.2.2.1
  have r1 := hi.2.2 en h2
  unfold fX3_keep
  rw [kgr_n hi.1, kgi_n, h3, kar_n (by have := hi.2.1; omega) (by have := hi.2.1; omega) r1.1]
  refine ok_kc (s_copyV (e := 59 + 4 * en) (e' := 10) r1.2 hC.2.1.1 (by omega) (by omega) a1.1) ?_
  rintro T ⟨f1, e1⟩
  have hCT : CSt Y T := hC.fe f1 (by omega)
  have g1 : gi T 57 1 = nI en := by rw [f1.gi (by omega)]; exact h3
  have g2 : gi T 57 2 = nI H.length := by rw [f1.gi (by omega)]; exact h4
  rw [kgi_n, g1, show (1 : Int32) = nI 1 from rfl, nI_add]
  unfold kirem
  rw [if_neg (by decide), show (20 : Int32) = nI 20 from rfl, nmod (by omega) (by decide) (by decide)]
  dsimp only
  rw [kpi_n, kgi_n, Gi_si, if_neg (by decide), g2, nI_add, nmin (by omega) (by omega), kpi_n]
  generalize hU : si (si T 57 1 (nI ((en + 1) % 20))) 57 2 (nI (min 20 (H.length + 1))) = U
  have f2 : Fr (fun x => x = 57) T U := by rw [← hU]; exact ((Fr.rf (M := fun x => x = 57)).si rfl).si rfl
  have hlen : ((A :: H).take 20).length = min 20 (H.length + 1) := by rw [List.length_take, List.length_cons]
  refine ok_i ⟨hCT.fr f2.2.1, ⟨(a1.fe f1 (by omega) (by omega)).fr f2 (by omega) (by omega), ⟨by omega, (en + 1) % 20, Nat.mod_lt _ (by decide), ?_, ?_, fun k hk => ?_⟩, ?_, ?_, ?_, ?_, ?_⟩, (CF.fe f1 (by omega)).tr (CF.of f2 (by omega))⟩
  · rw [← hU, Gi_si, if_neg (by decide), Gi_si, if_pos ⟨rfl, rfl⟩]
  · rw [← hU, Gi_si, if_pos ⟨rfl, rfl⟩, hlen]
  · rw [hlen] at hk
    have hget : ((A :: H).take 20).getD k A = (A :: H).getD k A := by
      rw [List.getD_eq_getElem?_getD, List.getD_eq_getElem?_getD, List.getElem?_take_of_lt (by omega)]
    rw [hget]
    cases k with
    | zero =>
      have e0 : ((en + 1) % 20 + 19 - 0) % 20 = en := by omega
      rw [e0]
      exact e1.fr f2 (by omega) (by omega)
    | succ k =>
      have e0 : ((en + 1) % 20 + 19 - (k + 1)) % 20 = (en + 19 - k) % 20 := by omega
      rw [e0]
      have hk' : k < H.length := by omega
      have ev := h5 k hk'
      have hm := Nat.mod_lt (en + 19 - k) (show 0 < 20 by decide)
      have hne : (en + 19 - k) % 20 ≠ en := by omega
      have : (A :: H).getD (k + 1) A = H.getD k A := rfl
      rw [this]
      exact (ev.fe f1 (by omega) (by omega)).fr f2 (by omega) (by omega)
  · cases K with
    | none =>
      show gi U 0 11 = nI 0
      rw [f2.gi (by omega), f1.gi (by omega)]; exact a3
    | some B => exact ⟨by rw [f2.gi (by omega), f1.gi (by omega)]; exact a3.1, (a3.2.fe f1 (by omega) (by omega)).fr f2 (by omega) (by omega)⟩
  · obtain ⟨kn, w1, w2, w3⟩ := a4.fe f1 (by omega) (by omega)
    exact ⟨kn, w1, by rw [f2.gi (by omega)]; exact w2, fun r hr hb => (w3 r hr hb).fr f2 (by omega)⟩
  · exact (show ZS T 44 from (show ZS (T.1, T.2.1, S.2.2) 44 from a5.fr f1.num (by omega))).fr f2 (by omega)
  · exact (show ZG T 51 from (show ZG (T.1, T.2.1, S.2.2) 51 from a6.fr f1.num (by omega))).fr f2 (by omega)
  · exact (show TpV T tp fp from (show TpV (T.1, T.2.1, S.2.2) tp fp from a7.fr f1.num (by omega) (by omega) (f1.gi (by omega) 1))).fr f2 (by omega) (by omega) (f2.gi (by omega) 1)
theorem KnV.zero {S : PS} {A : EL} (h : gi S 0 4 = nI 0) : KnV S A := ⟨0, by decide, h, fun r _ hb => by simp at hb⟩
theorem s_refresh {Y : XS} {n : Nat} {S : PS} {A : EL} {H : List EL} {K : Option EL} {tp : List Nat} {fp : Int32} (hn : 10000 ≤ n) (hC : CSt Y S) (hE : EV Y S 10 A) (hH : HsV Y S A H) (hK : KpV Y S K) (hZ : ZS S 44) (hG : ZG S 51) (hT : TpV S tp fp) :
    ok (fX10_refresh Y n S 0) (fun S' => QC Y S S' A H K tp fp) := by
  unfold fX10_refresh
  rw [kgr_n hC.1.2.1]
  refine ok_kc (s_tally (p := 9) (by omega) (by omega) hC.2.1 hE) ?_
  rintro T ⟨t1, t2⟩
  rw [kpi_n]
  have f2 : Fr (fun x => x = 0) T (si T 0 4 0) := Fr.rf.si rfl
  have f3 : Fr (fun x => x = 0 ∨ (14 ≤ x ∧ x < 20)) S (si T 0 4 0) := (t1.mono (by omega)).si (Or.inl rfl)
  have g0 : ∀ j, j ≠ 4 → gi (si T 0 4 0) 0 j = gi S 0 j := fun j hj => by rw [Gi_si, if_neg (fun z => hj z.2), t1.gi (by omega)]
  refine ok_i ⟨hC.fr f3.2.1, ⟨t2.fr f2 (by omega) (by omega), hH.fr f3 (by omega) (by omega), hK.fr f3 (g0 11 (by decide)) (by omega) (by omega), KnV.zero (by rw [Gi_si, if_pos ⟨rfl, rfl⟩]; rfl), hZ.fr f3 (by omega), hG.fr f3 (by omega), hT.fr f3 (by omega) (by omega) (g0 1 (by decide))⟩, CF.of f3 (by omega)⟩
/-- an act: what is kept, then a change of the election's cells, then all is made anew -/
theorem s_act {Y : XS} {n : Nat} {S S1 : PS} {A A' : EL} {H : List EL} {K : Option EL} {tp : List Nat} {fp : Int32} (hn : 10000 ≤ n) (hC : CSt Y S) (hV : CVs Y S A H K tp fp) (hf : Fr (fun x => 10 ≤ x ∧ x < 14) S S1) (hE : EV Y S1 10 A') :
    ok (fX10_refresh Y n S1 0) (fun S' => QC Y S S' A' H K tp fp) := by
  obtain ⟨a1, a2, a3, a4, a5, a6, a7⟩ := hV
  refine ok_mono (s_refresh hn (hC.fr hf.2.1) hE (a2.dflt.fr hf (by omega) (by omega)) (a3.fr hf (hf.gi (by omega) 11) (by omega) (by omega)) (a5.fr hf (by omega)) (a6.fr hf (by omega)) (a7.fr hf (by omega) (by omega) (hf.gi (by omega) 1))) ?_
  rintro S' ⟨h1, h2, h3⟩
  exact ⟨h1, h2, (CF.of hf (by omega)).tr h3⟩
def hadd (A : EL) (H : List EL) : List EL := (A :: H).take 20
/-- an act's answer, and the election and its history behind it -/
def aBudget (A : EL) (H : List EL) (x : Int32) : AN × EL × List EL := match ix x 100000 with
  | none => (.inr 2, A, H)
  | some m => (.inl (nI (eM A)), aM A m, hadd A H)
theorem c_budget {Y : XS} {n : Nat} {S : PS} {A : EL} {H : List EL} {K : Option EL} {tp : List Nat} {fp : Int32} {x : Int32} (hn : 10000 ≤ n) (hC : CSt Y S) (hV : CVs Y S A H K tp fp) :
    ok (fX10_budget Y n S 0 x) (outC (fun S' => QC Y S S' (aBudget A H x).2.1 (aBudget A H x).2.2 K tp fp) (aBudget A H x).1) := by
  unfold fX10_budget aBudget
  rw [show (99999 : Int32) = nI 99999 from rfl, s_allow (by decide), kc_s]
  cases h : ix x (99999 + 1) with
  | none => exact ok_i ⟨rfl, hC, hV, CF.rf⟩
  | some m =>
    obtain ⟨rfl, hm⟩ := ix_some (by decide) h
    show ok (kgr S 0 9 _) _
    rw [kgr_n hC.1.2.2.2.2.2.2.2.1, kgr_n hC.1.2.1, kgr_n hC.2.1.2.1]
    refine ok_kc (s_keep hC hV) ?_
    rintro T ⟨hCT, hVT, fT⟩
    simp only [kgr_n hCT.1.2.1, kgr_n hCT.2.1.2.1, kgi, kpi, hVT.1.1.1]
    refine ok_kc (s_act hn hCT hVT (Fr.rf.si (a := 10) (by omega)) (hVT.1.1.setM (m := m) (by omega) (by omega))) ?_
    rintro U ⟨u1, u2, u3⟩
    exact ok_i ⟨rfl, u1, u2, fT.tr u3⟩
