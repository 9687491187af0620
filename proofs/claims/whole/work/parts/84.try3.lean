/-! TRIES: ride, push, discount. -/
theorem QT.of {Y : XS} {S S' : PS} {A : EL} {H : List EL} {K : Option EL} {tp : List Nat} {fp : Int32} (h : QT Y S S' A H K tp fp) : CSt Y S' ∧ CVs Y S' A H K tp fp := ⟨h.1, h.2.1⟩
/-- what the model's cells and the laws see of a call of the class: nothing -/
def CF (S S' : PS) : Prop := ∀ b, 215 ≤ b → S'.1 b = S.1 b ∧ S'.2.1 b = S.2.1 b ∧ S'.2.2 b = S.2.2 b
theorem CF.rf {S : PS} : CF S S := fun _ _ => ⟨rfl, rfl, rfl⟩
theorem CF.tr {S S' S'' : PS} (h : CF S S') (k : CF S' S'') : CF S S'' := fun b hb => ⟨(k b hb).1.trans (h b hb).1, (k b hb).2.1.trans (h b hb).2.1, (k b hb).2.2.trans (h b hb).2.2⟩
theorem CF.of {M : Nat → Prop} {S S' : PS} (h : Fr M S S') (hM : ∀ b, M b → b < 215) : CF S S' := fun b hb => ⟨h.2.2 b (fun q => by have := hM b q; omega), h.1 b (fun q => by have := hM b q; omega), by rw [h.2.1]⟩
theorem CF.trf {S S' : PS} (h : TrF S S') : CF S S' := fun b hb => ⟨(h.1 b (by omega)).1, (h.1 b (by omega)).2, funext (fun k => h.2 b k (by omega))⟩
theorem CF.q {S S' : PS} (h : Fr Mq S S') : CF S S' := CF.of h (by unfold Mq; omega)
theorem CF.fe {e : Nat} {r : Option Nat} {S S' : PS} (h : FE e r S S') (he : e + 4 ≤ 215) : CF S S' := fun b hb => ⟨h.2.2 b (by omega), by rw [h.1], by
  funext k
  show gr S' b k = gr S b k
  rw [h.gr, if_neg (by omega)]⟩
/-- between calls, and what a call of the class leaves of the rest -/
def QC (Y : XS) (S S' : PS) (A : EL) (H : List EL) (K : Option EL) (tp : List Nat) (fp : Int32) : Prop := CSt Y S' ∧ CVs Y S' A H K tp fp ∧ CF S S'
theorem nsub_le {a b c : Nat} (ha : a < 1000000000) (hb : b < 1000000000) (hc : c < 1000000000) : (nI a - nI b ≤ nI c) = (a ≤ b + c) := by
  apply propext
  have e : (nI a - nI b).toInt = (a : Int) - b := by
    rw [Int32.toInt_sub, nI_toInt (by omega), nI_toInt (by omega)]
    apply Int.bmod_eq_of_le
    · omega
    · omega
  rw [Int32.le_iff_toInt_le, e, nI_toInt (by omega)]
  omega
noncomputable def rdf (A : EL) (r v : Nat) : Nat → Nat × Option Nat
  | 0 => (0, none)
  | p + 1 => if 0 < eS A p v ∧ wt A v (chB A r) + (rdf A r v p).1 < wt A v (chB (aS A v p 0) r) then (wt A v (chB (aS A v p 0) r) - wt A v (chB A r), some p) else rdf A r v p
theorem rdf_s (A : EL) (r v p : Nat) : rdf A r v (p + 1) = if 0 < eS A p v ∧ wt A v (chB A r) + (rdf A r v p).1 < wt A v (chB (aS A v p 0) r) then (wt A v (chB (aS A v p 0) r) - wt A v (chB A r), some p) else rdf A r v p := rfl
theorem rdf_le {A : EL} (h : EW A) (r v : Nat) : ∀ p, (rdf A r v p).1 ≤ 119988 ∧ ∀ q, (rdf A r v p).2 = some q → q < p
  | 0 => ⟨Nat.zero_le _, fun q hq => by cases hq⟩
  | p + 1 => by
    obtain ⟨i1, i2⟩ := rdf_le h r v p
    rw [rdf_s]
    split
    · refine ⟨?_, fun q hq => by cases hq; omega⟩
      have := wt_le h v (chB (aS A v p 0) r)
      dsimp only
      omega
    · exact ⟨i1, fun q hq => by have := i2 q hq; omega⟩
noncomputable def aRide (A : EL) (x y z : Int32) : AN := match ix x 9, ix y (eV A), ix z 2 with
  | some r, some v, some w => .inl (if w = 0 then nI (rdf A r v (eP A)).1 else oI (rdf A r v (eP A)).2)
  | _, _, _ => .inr 1
theorem c_ride {Y : XS} {n : Nat} {S : PS} {A : EL} {H : List EL} {K : Option EL} {tp : List Nat} {fp : Int32} {x y z : Int32} (hn : 10000 ≤ n) (hC : CSt Y S) (hV : CVs Y S A H K tp fp) :
    ok (fX10_ride Y n S 0 x y z) (outC (fun S' => QC Y S S' A H K tp fp) (aRide A x y z)) := by
  have hQ : QC Y S S A H K tp fp := ⟨hC, hV, CF.rf⟩
  have a7 := hV.1.1.ew
  have b1 := a7.2.1
  have b2 := a7.2.2.1
  unfold fX10_ride aRide jX10_ride_131
  rw [s_needRule, kc_s]
  cases h : ix x 9 with
  | none => exact ok_i ⟨rfl, hQ⟩
  | some r =>
    obtain ⟨rfl, hr⟩ := ix_some (by decide) h
    show ok (kc (fX10_needVoter Y n S 0 y) _) _
    rw [s_needVoter hC hV.1.1, kc_s]
    cases h2 : ix y (eV A) with
    | none => exact ok_i ⟨rfl, hQ⟩
    | some v =>
      obtain ⟨rfl, hv⟩ := ix_some (by omega) h2
      show ok (kc (fX10_needWhat Y n S z 1) _) _
      rw [show (1 : Int32) = nI 1 from rfl, s_needWhat (by decide), kc_s]
      cases h3 : ix z (1 + 1) with
      | none => exact ok_i ⟨rfl, hQ⟩
      | some w =>
        obtain ⟨rfl, hw⟩ := ix_some (by decide) h3
        show ok (kgr S 0 2 _) _
        rw [kgr_n hC.1.2.1]
        refine ok_kc (s_result hn hC hV hr) ?_
        rintro ⟨q1, T⟩ ⟨rfl, ⟨hCT, hVT, fT⟩, oT⟩
        have hlt := oT.gl a7
        dsimp only at hCT hVT fT oT hlt ⊢
        rw [kty_o hCT hr, kgi_n, oT.1.2.1, s_worthTo (by omega) hCT.2.1 hVT.1 hv (by omega), kc_s]
        have hbase := wt_le a7 v (chB A r)
        refine ok_kc (iter_ok (fun i t => t.2.2.1 = nI i ∧ t.1 = nI (rdf A r v i).1 ∧ t.2.1 = oI (rdf A r v i).2 ∧ QT Y T t.2.2.2 A H K tp fp) (Q := fun t => t.1 = nI (rdf A r v (eP A)).1 ∧ t.2.1 = oI (rdf A r v (eP A)).2 ∧ QT Y T t.2.2 A H K tp fp) (eP A) (fun i t hi h => ?_) (fun t h => ?_) (by omega) ⟨rfl, rfl, rfl, hCT, hVT, TrF.rf⟩) ?_
        · obtain ⟨t1, t2, t3, U⟩ := t
          obtain ⟨k1, k2, k3, hCU, hVU, fU⟩ := h
          simp only at k1 k2 k3 hCU hVU fU
          subst k1 k2 k3
          have a5 := hVU.1.1.2.2.2.2.2.1 i v hi hv
          have hs9 := a7.2.2.2.2 i v hi hv
          have l6 := hCU.2.1.1.2.2.2.2.2
          obtain ⟨m1', m2⟩ := rdf_le a7 r v i
          unfold bX10_ride_41 jX10_ride_114_41
          simp (discharger := omega) only [kgr_n hCU.1.2.1, kgr_n hCU.2.1.2.1, kgr_n hCU.2.1.1.2.2.1, kgi, hVU.1.1.2.1, nle, if_neg, show (24 : Int32) = nI 24 from rfl, show (0 : Int32) = nI 0 from rfl, nmul, nI_add, kai_n, a5, nI_1]
          by_cases hs : 0 < eS A i v
          · rw [if_neg (by omega)]
            refine ok_kc (s_triedScore hn hCU hVU hr hv hi (Nat.zero_le _)) ?_
            rintro ⟨z1, W⟩ ⟨x1, x2, hCW, hVW, fW⟩
            simp only at x1 hCW hVW fW
            subst x1
            have hwl := wt_le a7 v (chB (aS A v i 0) r)
            dsimp only
            rw [s_worthTo (by omega) hCW.2.1 hVW.1 hv (by omega), kc_s]
            simp (discharger := omega) only [show lb (RLs A r) = chB A r from rfl, nsub_le]
            by_cases hc : wt A v (chB (aS A v i 0) r) ≤ wt A v (chB A r) + (rdf A r v i).1
            · rw [if_pos hc, ok_some, so_l]
              refine ⟨rfl, ?_, ?_, hCW, hVW, fU.tr fW⟩
              · rw [rdf_s, if_neg (by omega)]
              · rw [rdf_s, if_neg (by omega)]
            · rw [if_neg hc, nsub (by omega), ok_some, so_l]
              refine ⟨rfl, ?_, ?_, hCW, hVW, fU.tr fW⟩
              · rw [rdf_s, if_pos (by omega)]
              · rw [rdf_s, if_pos (by omega)]; rfl
          · rw [if_pos (by omega), ok_some, so_l]
            refine ⟨rfl, ?_, ?_, hCU, hVU, fU⟩
            · rw [rdf_s, if_neg (fun y => hs y.1)]
            · rw [rdf_s, if_neg (fun y => hs y.1)]
        · obtain ⟨t1, t2, t3, U⟩ := t
          obtain ⟨k1, k2, k3, hCU, hVU, fU⟩ := h
          simp only at k1 k2 k3 hCU hVU fU
          subst k1 k2 k3
          unfold bX10_ride_41
          simp (discharger := omega) only [kgr_n hCU.1.2.1, kgr_n hCU.2.1.2.1, kgi, hVU.1.1.2.1, nle, if_pos, ok_some, so_r]
          exact ⟨trivial, trivial, hCU, hVU, fU⟩
        · rintro ⟨t1, t2, U⟩ ⟨k2, k3, hCU, hVU, fU⟩
          simp only at k2 k3 hCU hVU fU
          subst k2 k3
          have hq : QC Y S U A H K tp fp := ⟨hCU, hVU, (CF.q fT).tr (CF.trf fU)⟩
          have c2 : w = 0 ∨ w = 1 := by omega
          rcases c2 with rfl | rfl
          · rw [if_pos (by decide)]; exact ok_i ⟨rfl, hq⟩
          · rw [if_neg (by decide)]; exact ok_i ⟨rfl, hq⟩
/-- the election with the first k voters pushing -/
def pA (A : EL) (q k : Nat) : EL := (eM A, eP A, eV A, eC A, eNm A, fun p u => if p = q ∧ u < k ∧ eS A q u = 0 then 9 else eS A p u, eL A)
theorem pA_0 (A : EL) (q : Nat) : pA A q 0 = A := by
  have : (fun p u => if p = q ∧ u < 0 ∧ eS A q u = 0 then 9 else eS A p u) = eS A := by
    funext p u
    rw [if_neg (by omega)]
  unfold pA
  rw [this]
  rfl
theorem pA_keep {A : EL} {q k : Nat} (h : eS A q k ≠ 0) : pA A q (k + 1) = pA A q k := by
  have : (fun p u => if p = q ∧ u < k + 1 ∧ eS A q u = 0 then 9 else eS A p u) = (fun p u => if p = q ∧ u < k ∧ eS A q u = 0 then 9 else eS A p u) := by
    funext p u
    by_cases c : p = q ∧ u < k ∧ eS A q u = 0
    · rw [if_pos c, if_pos ⟨c.1, by omega, c.2.2⟩]
    · rw [if_neg c, if_neg]
      rintro ⟨c1, c2, c3⟩
      apply c
      refine ⟨c1, ?_, c3⟩
      by_cases e : u = k
      · subst e; exact absurd c3 h
      · omega
  unfold pA
  rw [this]
theorem pA_set {A : EL} {q k : Nat} (h : eS A q k = 0) : pA A q (k + 1) = aS (pA A q k) k q 9 := by
  have : (fun p u => if p = q ∧ u < k + 1 ∧ eS A q u = 0 then 9 else eS A p u) = (fun p u => if p = q ∧ u = k then 9 else (if p = q ∧ u < k ∧ eS A q u = 0 then 9 else eS A p u)) := by
    funext p u
    by_cases c : p = q ∧ u = k
    · rw [if_pos c, if_pos ⟨c.1, by omega, by rw [c.2]; exact h⟩]
    · rw [if_neg c]
      by_cases c2 : p = q ∧ u < k ∧ eS A q u = 0
      · rw [if_pos c2, if_pos ⟨c2.1, by omega, c2.2.2⟩]
      · rw [if_neg c2, if_neg]
        rintro ⟨d1, d2, d3⟩
        apply c2
        exact ⟨d1, by omega, d3⟩
  unfold pA aS
  rw [this]
  rfl
def pz (A : EL) (q : Nat) : Nat → Nat := sm (fun u => if eS A q u = 0 then 1 else 0)
noncomputable def psh (A : EL) (r q : Nat) : Option Nat := if (chB A r).testBit q = true then some 0 else (fsf (fun v => decide (eS A q v = 0 ∧ (chB (pA A q (v + 1)) r).testBit q = true)) (eV A)).map (fun v => pz A q (v + 1))
noncomputable def aPush (A : EL) (x y : Int32) : AN := match ix x 9, ix y (eP A) with
  | some r, some q => .inl (oI (psh A r q))
  | _, _ => .inr 1
theorem fsf_none {f : Nat → Bool} : ∀ {n : Nat}, (∀ i, i < n → f i = false) → fsf f n = none
  | 0, _ => rfl
  | n + 1, h => by rw [fsf_s, fsf_none (n := n) (fun i hi => h i (by omega)), h n (by omega)]; rfl
theorem fsf_first {f : Nat → Bool} {i : Nat} (h0 : ∀ j, j < i → f j = false) (h1 : f i = true) : ∀ d, fsf f (i + 1 + d) = some i
  | 0 => by
    show fsf f (i + 1) = some i
    rw [fsf_s, fsf_none h0, h1]; rfl
  | d + 1 => by rw [← Nat.add_assoc, fsf_s, fsf_first h0 h1 d]
