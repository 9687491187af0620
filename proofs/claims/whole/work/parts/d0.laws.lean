/-! THE LAW'S CASES: what holds between them. -/
theorem CVs.frm {Y : XS} {S S' : PS} {M : Nat → Prop} {A : EL} {H : List EL} {K : Option EL} {tp : List Nat} {fp : Int32} (h : CVs Y S A H K tp fp) (hf : Fr M S S') (h1 : ∀ b, b < 215 → ¬ M b) (h2 : ∀ b, 235 ≤ b → ¬ M b) : CVs Y S' A H K tp fp := by
  obtain ⟨a1, a2, a3, ⟨kn, b1, b2, b3⟩, a5, a6, a7⟩ := h
  refine ⟨a1.fr hf (fun b _ _ => h1 b (by omega)) h2, a2.fr hf (fun b _ _ => h1 b (by omega)) h2, a3.fr hf (hf.gi (h1 0 (by omega)) 11) (fun b _ _ => h1 b (by omega)) h2, ⟨kn, b1, (hf.gi (h1 0 (by omega)) 4).trans b2, fun r hr hb => (b3 r hr hb).fr hf (fun x _ _ => h1 x (by omega))⟩, a5.fr hf (fun b _ _ => h1 b (by omega)), a6.fr hf (fun b _ _ => h1 b (by omega)), a7.fr hf (h1 1 (by omega)) (h1 6 (by omega)) (hf.gi (h1 0 (by omega)) 1)⟩
theorem MSt.mv {Y Y' : XS} {S S' : PS} (h : MSt Y S) (hr : S'.2.2 215 = S.2.2 215) (hl : ∀ b, 215 ≤ b → b < 235 → ln Y' b = ln Y b) : MSt Y' S' := by
  have hg : ∀ k, gr S' 215 k = gr S 215 k := fun k => congrFun hr k
  unfold MSt
  rw [hg, hg, hg, hg, hg, hg, hg, hg, hg, hg, hg, hg, hg, hg, hg, hg, hg, hg, hl 216 (by omega) (by omega), hl 217 (by omega) (by omega), hl 218 (by omega) (by omega), hl 219 (by omega) (by omega), hl 220 (by omega) (by omega), hl 221 (by omega) (by omega), hl 222 (by omega) (by omega), hl 223 (by omega) (by omega), hl 224 (by omega) (by omega), hl 225 (by omega) (by omega), hl 226 (by omega) (by omega), hl 227 (by omega) (by omega), hl 228 (by omega) (by omega), hl 229 (by omega) (by omega), hl 230 (by omega) (by omega), hl 231 (by omega) (by omega), hl 232 (by omega) (by omega), hl 233 (by omega) (by omega)]
  exact h
theorem MVs.mv {S S' : PS} {A : EL} {H : List EL} {K : Option EL} {tp : List Nat} {fp : Int32} (h : MVs S A H K tp fp) (e : ∀ b, 215 ≤ b → b < 234 → S'.1 b = S.1 b) : MVs S' A H K tp fp := by
  have hg : ∀ b k, 215 ≤ b → b < 234 → gi S' b k = gi S b k := fun b k h1 h2 => congrFun (e b h1 h2) k
  obtain ⟨a1, ⟨b1, b2, b3⟩, a3, ⟨c1, c2, c3, c4⟩⟩ := h
  refine ⟨RV.mv a1 (fun j _ => hg _ _ (by omega) (by omega)), ⟨b1, (hg _ _ (by omega) (by omega)).trans b2, fun k hk => (b3 k hk).mv (fun j _ => hg _ _ (by omega) (by omega))⟩, ?_, ⟨(hg _ _ (by omega) (by omega)).trans c1, c2, fun j hj => ⟨(hg _ _ (by omega) (by omega)).trans (c3 j hj).1, (c3 j hj).2⟩, (hg _ _ (by omega) (by omega)).trans c4⟩⟩
  cases K with
  | none => exact (hg _ _ (by omega) (by omega)).trans a3
  | some B => exact ⟨(hg _ _ (by omega) (by omega)).trans a3.1, a3.2.mv (fun j _ => hg _ _ (by omega) (by omega))⟩
/-- the class and the model hold the same -/
def Gd (Y : XS) (S : PS) (A : EL) (H : List EL) (K : Option EL) (tp : List Nat) (fp : Int32) : Prop := CSt Y S ∧ CVs Y S A H K tp fp ∧ MSt Y S ∧ MVs S A H K tp fp ∧ ln Y 234 = 1
def GG (Y : XS) (S : PS) : Prop := ∃ A H K tp fp, Gd Y S A H K tp fp
theorem QM.gd {Y : XS} {S T : PS} {A : EL} {H : List EL} {K : Option EL} {tp : List Nat} {fp : Int32} (hC : CSt Y S) (hV : CVs Y S A H K tp fp) (hl : ln Y 234 = 1) (q : QM Y S T A H K tp fp) : Gd Y T A H K tp fp :=
  ⟨hC.fr q.2.2.2.1, hV.frm q.2.2 (by unfold Mm; omega) (by unfold Mm; omega), q.1, q.2.1, hl⟩
/-- behind a call of the class, with the out cell written or not -/
theorem CF.ms {Y : XS} {S S' : PS} {A : EL} {H : List EL} {K : Option EL} {tp : List Nat} {fp : Int32} (h : CF S S') (hM : MSt Y S) (hV : MVs S A H K tp fp) : MSt Y S' ∧ MVs S' A H K tp fp :=
  ⟨hM.mv (h 215 (by omega)).2.2 (fun _ _ _ => rfl), hV.mv (fun b hb _ => (h b hb).1)⟩
theorem sj_ms {Y : XS} {S : PS} {A : EL} {H : List EL} {K : Option EL} {tp : List Nat} {fp : Int32} {x : Int64} (hM : MSt Y S) (hV : MVs S A H K tp fp) : MSt Y (sj S 234 0 x) ∧ MVs (sj S 234 0 x) A H K tp fp := ⟨hM.mv rfl (fun _ _ _ => rfl), hV.mv (fun _ _ _ => rfl)⟩
theorem sj_cs {Y : XS} {S : PS} {A : EL} {H : List EL} {K : Option EL} {tp : List Nat} {fp : Int32} {x : Int64} (hC : CSt Y S) (hV : CVs Y S A H K tp fp) : CSt Y (sj S 234 0 x) ∧ CVs Y (sj S 234 0 x) A H K tp fp :=
  ⟨hC.fr rfl, hV.frm (M := fun b => b = 234) (Fr.rf.sj rfl) (by omega) (by omega)⟩
theorem law_tail {Y : XS} {n : Nat} {S : PS} {c : Int32} {a : AN} {A : EL} {H : List EL} {K : Option EL} {tp : List Nat} {fp : Int32} {f : Int32 → Int64} {m : Option (Int32 × PS)} (hC : CSt Y S) (hV : CVs Y S A H K tp fp) (hl : ln Y 234 = 1) (hm : ok m (outM (fun T => QM Y S T A H K tp fp) a)) (h0 : ∀ x, a = .inl x → c = 0 ∧ gl S 234 0 = f x) (h1 : ∀ k, a = .inr k → c = nI k ∧ ¬ c = 0) :
    ok (kc m (fun t => kc (fX11_thrown Y n t.2 215) (fun u => if u = c then (if c = 0 then kal Y t.2 234 (0 : Int32) (fun w => if lg_cmp w (f t.1) = 0 then some (Y, t.2) else none) else some (Y, t.2)) else none))) (fun r => Gd r.1 r.2 A H K tp fp) := by
  refine ok_kc hm ?_
  rintro ⟨t1, t2⟩ ht
  unfold fX11_thrown
  rw [kgi_n, kc_s]
  cases a with
  | inl x =>
    obtain ⟨e1, e2, q⟩ := ht
    obtain ⟨e3, e4⟩ := h0 x rfl
    dsimp only at e1 e2 q ⊢
    have e5 : gl t2 234 0 = f t1 := by rw [q.2.2.gl (by unfold Mm; omega), e1]; exact e4
    have e6 : kal Y t2 234 (0 : Int32) (fun w => if lg_cmp w (f t1) = 0 then some (Y, t2) else none) = some (Y, t2) := by
      show kal Y t2 234 (nI 0) _ = _
      rw [kal_n (by omega) (by omega), e5]
      exact if_pos ((lg_cmp_eq _ _).mpr rfl)
    rw [e2, e3, if_pos (show nI 0 = (0 : Int32) from rfl), if_pos rfl, e6]
    exact ok_i (q.gd hC hV hl)
  | inr k =>
    obtain ⟨e2, q⟩ := ht
    obtain ⟨e3, e4⟩ := h1 k rfl
    dsimp only at e2 q ⊢
    rw [e2, if_pos e3.symm, if_neg e4]
    exact ok_i (q.gd hC hV hl)
theorem ks_inl {α β γ : Type} {q : α} {f : α → Option γ} {g : β → Option γ} : ks (Sum.inl q) f g = f q := rfl
theorem ks_inr {α β γ : Type} {q : β} {f : α → Option γ} {g : β → Option γ} : ks (Sum.inr q) f g = g q := rfl
theorem law1 {Y : XS} {n : Nat} {S : PS} {A A' : EL} {H H' : List EL} {K : Option EL} {tp : List Nat} {fp : Int32} {m : Option ((Int32 × PS) ⊕ (Nat × PS))} (mm : XS → PS → Option (Int32 × PS)) (f : Int32 → Int64) {a : AN} (a' : AN) {eh : Nat × PS → Option (Int32 × XS × PS)} (hG : Gd Y S A H K tp fp) (hc : ok m (outC (fun S' => QC Y S S' A' H' K tp fp) a)) (ha : ∀ x, a = .inl x → a' = .inl x) (he : ∀ k, a = .inr k → ∃ c, c < 10 ∧ c ≠ 0 ∧ a' = .inr c ∧ ∀ T, eh (k, T) = some (nI c, Y, T)) (hm : ∀ S2, MSt Y S2 → MVs S2 A H K tp fp → ok (mm Y S2) (outM (fun T => QM Y S2 T A' H' K tp fp) a')) :
    ok (kc (kc m (fun r => ks r (fun q => kwl Y q.2 234 0 (f q.1) (fun S2 => some ((0 : Int32), Y, S2))) eh)) (fun q => kc (mm q.2.1 q.2.2) (fun t => kc (fX11_thrown q.2.1 n t.2 215) (fun u => if u = q.1 then (if q.1 = 0 then kal q.2.1 t.2 234 (0 : Int32) (fun w => if lg_cmp w (f t.1) = 0 then some (q.2.1, t.2) else none) else some (q.2.1, t.2)) else none)))) (fun r => Gd r.1 r.2 A' H' K tp fp) := by
  obtain ⟨g1, g2, g3, g4, g5⟩ := hG
  obtain ⟨r, hr, hq⟩ := hc
  rw [hr, kc_s]
  cases r with
  | inl q =>
    obtain ⟨e1, c1, c2, c3⟩ := hq
    have e2 : kwl Y q.2 234 (0 : Int32) (f q.1) (fun S2 => some ((0 : Int32), Y, S2)) = some ((0 : Int32), Y, sj q.2 234 0 (f q.1)) := kwl_n (k := 0) (by omega) (by omega)
    rw [ks_inl, e2, kc_s]
    obtain ⟨d1, d2⟩ := sj_cs (x := f q.1) c1 c2
    obtain ⟨d3, d4⟩ := c3.ms g3 g4
    obtain ⟨d5, d6⟩ := sj_ms (x := f q.1) d3 d4
    refine law_tail (a := a') d1 d2 g5 (hm _ d5 d6) (fun x hx => ?_) (fun k hk => ?_)
    · have := ha _ e1
      rw [this] at hx
      cases hx
      exact ⟨rfl, by rw [gl_sj, if_pos ⟨rfl, rfl⟩]⟩
    · rw [ha _ e1] at hk
      cases hk
  | inr q =>
    obtain ⟨e1, c1, c2, c3⟩ := hq
    obtain ⟨c, k1, k2, k3, k4⟩ := he _ e1
    rw [ks_inr, k4 q.2, kc_s]
    obtain ⟨d3, d4⟩ := c3.ms g3 g4
    refine law_tail (a := a') c1 c2 g5 (hm _ d3 d4) (fun x hx => ?_) (fun k hk => ?_)
    · rw [k3] at hx
      cases hx
    · rw [k3] at hk
      cases hk
      exact ⟨rfl, fun z => k2 (by have := congrArg Int32.toInt z; rw [nI_toInt (by omega)] at this; have h0 : (0 : Int32).toInt = 0 := rfl; rw [h0] at this; omega)⟩
/-- the codes that a call may throw -/
def An1 (a : AN) : Prop := ∀ k, a = .inr k → k = 1
def An2 (a : AN) : Prop := ∀ k, a = .inr k → k = 1 ∨ k = 2
theorem eh1 {Y : XS} {a : AN} (h : An1 a) : ∀ k, a = .inr k → ∃ c, c < 10 ∧ c ≠ 0 ∧ a = .inr c ∧ ∀ T : PS, (fun e : Nat × PS => if e.1 = 1 then some ((1 : Int32), Y, e.2) else none) (k, T) = some (nI c, Y, T) := by
  intro k hk
  have := h k hk
  subst this
  exact ⟨1, by decide, by decide, hk, fun T => rfl⟩
theorem eh2 {Y : XS} {a : AN} (h : An2 a) : ∀ k, a = .inr k → ∃ c, c < 10 ∧ c ≠ 0 ∧ a = .inr c ∧ ∀ T : PS, (fun e : Nat × PS => if e.1 = 1 then some ((1 : Int32), Y, e.2) else if e.1 = 2 then some ((2 : Int32), Y, e.2) else none) (k, T) = some (nI c, Y, T) := by
  intro k hk
  rcases h k hk with rfl | rfl
  · exact ⟨1, by decide, by decide, hk, fun T => rfl⟩
  · exact ⟨2, by decide, by decide, hk, fun T => rfl⟩
theorem ksc_n {α : Type} {xs : Nat → Int32} {L : Nat} {i : Int32} {K : Int32 → Option α} (h : inb i L = true) : ksc xs L i K = K (xs i.toNatClampNeg) := if_pos h
theorem bz_01 (y : Int32) : bz y = 0 ∨ bz y = 1 := by
  unfold bz
  split
  · exact Or.inl rfl
  · exact Or.inr rfl
theorem QR.c {Y : XS} {S S' : PS} {A : EL} {H : List EL} {K : Option EL} {tp : List Nat} {fp : Int32} (h : QR Y S S' A H K tp fp) : QC Y S S' A H K tp fp := ⟨h.1, h.2.1, CF.q h.2.2⟩
theorem QT.c {Y : XS} {S S' : PS} {A : EL} {H : List EL} {K : Option EL} {tp : List Nat} {fp : Int32} (h : QT Y S S' A H K tp fp) : QC Y S S' A H K tp fp := ⟨h.1, h.2.1, CF.trf h.2.2⟩
theorem outC.mono {P Q : PS → Prop} {a : AN} {r : (Int32 × PS) ⊕ (Nat × PS)} (h : outC P a r) (k : ∀ T, P T → Q T) : outC Q a r := by
  cases r with
  | inl q => exact ⟨h.1, k _ h.2⟩
  | inr q => exact ⟨h.1, k _ h.2⟩
theorem okR {Y : XS} {S : PS} {A : EL} {H : List EL} {K : Option EL} {tp : List Nat} {fp : Int32} {m : Option ((Int32 × PS) ⊕ (Nat × PS))} {a : AN} (h : ok m (outC (fun S' => QR Y S S' A H K tp fp) a)) : ok m (outC (fun S' => QC Y S S' A H K tp fp) a) := ok_mono h (fun _ q => q.mono (fun _ w => w.c))
theorem okT {Y : XS} {S : PS} {A : EL} {H : List EL} {K : Option EL} {tp : List Nat} {fp : Int32} {m : Option ((Int32 × PS) ⊕ (Nat × PS))} {a : AN} (h : ok m (outC (fun S' => QT Y S S' A H K tp fp) a)) : ok m (outC (fun S' => QC Y S S' A H K tp fp) a) := ok_mono h (fun _ q => q.mono (fun _ w => w.c))
theorem Gd.gg {Y : XS} {S : PS} {A : EL} {H : List EL} {K : Option EL} {tp : List Nat} {fp : Int32} (h : Gd Y S A H K tp fp) : GG Y S := ⟨A, H, K, tp, fp, h⟩
