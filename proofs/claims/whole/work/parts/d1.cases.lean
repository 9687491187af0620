/-! THE LAW'S CASES. -/
theorem ehb {Y : XS} {A : EL} {H : List EL} {x : Int32} : ∀ k, (aBudget A H x).1 = .inr k → ∃ c, c < 10 ∧ c ≠ 0 ∧ as1 (aBudget A H x).1 = .inr c ∧ ∀ T : PS, (fun e : Nat × PS => if e.1 = 2 then some ((1 : Int32), Y, e.2) else none) (k, T) = some (nI c, Y, T) := by
  intro k hk
  have h2 : k = 2 := by
    unfold aBudget at hk
    split at hk
    · cases hk; rfl
    · cases hk
  rw [hk]
  subst h2
  exact ⟨1, by decide, by decide, rfl, fun T => rfl⟩
theorem an_count (A : EL) (H : List EL) (tp : List Nat) (x : Int32) : An1 ((aCount A H tp x)) := by
  intro k hk
  unfold aCount at hk
  repeat' split at hk
  all_goals cases hk
  all_goals rfl
theorem lg_3 {xs : Nat → Int32} {L n : Nat} {i : Int32} {Y : XS} {S : PS} {A : EL} {H : List EL} {K : Option EL} {tp : List Nat} {fp : Int32} (hn : 100000 ≤ n) (h1 : inb (i + 1) L = true) (hG : Gd Y S A H K tp fp) : ok (g3 xs L n 0 215 234 i Y S) (fun r => GG r.1 r.2) := by
  have g1 := hG.1
  have g2 := hG.2.1
  unfold g3 fL_count
  simp only [ksc_n h1]
  exact ok_mono (law1 (fun Y S2 => fX11_count Y n S2 215 (xs (i + 1).toNatClampNeg)) Int32.toInt64 ((aCount A H tp (xs (i + 1).toNatClampNeg))) hG (okR (c_count (by omega) g1 g2)) (fun _ h => h) (eh1 (an_count _ _ _ _)) (fun S2 h h2 => m_count (by omega) h h2)) (fun r h => h.gg)
theorem an_project (A : EL) (x y : Int32) : An1 ((aProject A x y)) := by
  intro k hk
  unfold aProject at hk
  repeat' split at hk
  all_goals cases hk
  all_goals rfl
theorem lg_4 {xs : Nat → Int32} {L n : Nat} {i : Int32} {Y : XS} {S : PS} {A : EL} {H : List EL} {K : Option EL} {tp : List Nat} {fp : Int32} (hn : 100000 ≤ n) (h1 : inb (i + 1) L = true) (h2 : inb (i + 2) L = true) (hG : Gd Y S A H K tp fp) : ok (g4 xs L n 0 215 234 i Y S) (fun r => GG r.1 r.2) := by
  have g1 := hG.1
  have g2 := hG.2.1
  unfold g4 fL_project
  simp only [ksc_n h1, ksc_n h2]
  exact ok_mono (law1 (fun Y S2 => fX11_project Y n S2 215 (xs (i + 1).toNatClampNeg) (xs (i + 2).toNatClampNeg)) Int32.toInt64 ((aProject A (xs (i + 1).toNatClampNeg) (xs (i + 2).toNatClampNeg))) hG (okR (c_project g1 g2)) (fun _ h => h) (eh1 (an_project _ _ _)) (fun S2 h h2 => m_project (by omega) h h2)) (fun r h => h.gg)
theorem an_vote (A : EL) (x y z : Int32) : An1 ((aVote A x y z)) := by
  intro k hk
  unfold aVote at hk
  repeat' split at hk
  all_goals cases hk
  all_goals rfl
theorem lg_5 {xs : Nat → Int32} {L n : Nat} {i : Int32} {Y : XS} {S : PS} {A : EL} {H : List EL} {K : Option EL} {tp : List Nat} {fp : Int32} (hn : 100000 ≤ n) (h1 : inb (i + 1) L = true) (h2 : inb (i + 2) L = true) (h3 : inb (i + 3) L = true) (hG : Gd Y S A H K tp fp) : ok (g5 xs L n 0 215 234 i Y S) (fun r => GG r.1 r.2) := by
  have g1 := hG.1
  have g2 := hG.2.1
  unfold g5 fL_vote
  simp only [ksc_n h1, ksc_n h2, ksc_n h3]
  exact ok_mono (law1 (fun Y S2 => fX11_vote Y n S2 215 (xs (i + 1).toNatClampNeg) (xs (i + 2).toNatClampNeg) (bz (xs (i + 3).toNatClampNeg))) Int32.toInt64 ((aVote A (xs (i + 1).toNatClampNeg) (xs (i + 2).toNatClampNeg) (bz (xs (i + 3).toNatClampNeg)))) hG (okR (c_vote g1 g2)) (fun _ h => h) (eh1 (an_vote _ _ _ _)) (fun S2 h h2 => m_vote (by omega) h h2)) (fun r h => h.gg)
theorem an_outcome (A : EL) (x y : Int32) : An1 ((aOutcome A x y)) := by
  intro k hk
  unfold aOutcome at hk
  repeat' split at hk
  all_goals cases hk
  all_goals rfl
theorem lg_6 {xs : Nat → Int32} {L n : Nat} {i : Int32} {Y : XS} {S : PS} {A : EL} {H : List EL} {K : Option EL} {tp : List Nat} {fp : Int32} (hn : 100000 ≤ n) (h1 : inb (i + 1) L = true) (h2 : inb (i + 2) L = true) (hG : Gd Y S A H K tp fp) : ok (g6 xs L n 0 215 234 i Y S) (fun r => GG r.1 r.2) := by
  have g1 := hG.1
  have g2 := hG.2.1
  unfold g6 fL_outcome
  simp only [ksc_n h1, ksc_n h2]
  exact ok_mono (law1 (fun Y S2 => fX11_outcome Y n S2 215 (xs (i + 1).toNatClampNeg) (xs (i + 2).toNatClampNeg)) Int32.toInt64 ((aOutcome A (xs (i + 1).toNatClampNeg) (xs (i + 2).toNatClampNeg))) hG (okR (c_outcome (by omega) g1 g2)) (fun _ h => h) (eh1 (an_outcome _ _ _)) (fun S2 h h2 => m_outcome (by omega) h h2)) (fun r h => h.gg)
theorem an_chosen (A : EL) (x y : Int32) : An1 ((aChosen A x y)) := by
  intro k hk
  unfold aChosen at hk
  repeat' split at hk
  all_goals cases hk
  all_goals rfl
theorem lg_7 {xs : Nat → Int32} {L n : Nat} {i : Int32} {Y : XS} {S : PS} {A : EL} {H : List EL} {K : Option EL} {tp : List Nat} {fp : Int32} (hn : 100000 ≤ n) (h1 : inb (i + 1) L = true) (h2 : inb (i + 2) L = true) (hG : Gd Y S A H K tp fp) : ok (g7 xs L n 0 215 234 i Y S) (fun r => GG r.1 r.2) := by
  have g1 := hG.1
  have g2 := hG.2.1
  unfold g7 fL_chosen
  simp only [ksc_n h1, ksc_n h2]
  exact ok_mono (law1 (fun Y S2 => fX11_chosen Y n S2 215 (xs (i + 1).toNatClampNeg) (xs (i + 2).toNatClampNeg)) Int32.toInt64 ((aChosen A (xs (i + 1).toNatClampNeg) (xs (i + 2).toNatClampNeg))) hG (okR (c_chosen (by omega) g1 g2)) (fun _ h => h) (eh1 (an_chosen _ _ _)) (fun S2 h h2 => m_chosen (by omega) h h2)) (fun r h => h.gg)
theorem an_served (A : EL) (x y : Int32) : An1 ((aServed A x y)) := by
  intro k hk
  unfold aServed at hk
  repeat' split at hk
  all_goals cases hk
  all_goals rfl
theorem lg_8 {xs : Nat → Int32} {L n : Nat} {i : Int32} {Y : XS} {S : PS} {A : EL} {H : List EL} {K : Option EL} {tp : List Nat} {fp : Int32} (hn : 100000 ≤ n) (h1 : inb (i + 1) L = true) (h2 : inb (i + 2) L = true) (hG : Gd Y S A H K tp fp) : ok (g8 xs L n 0 215 234 i Y S) (fun r => GG r.1 r.2) := by
  have g1 := hG.1
  have g2 := hG.2.1
  unfold g8 fL_served
  simp only [ksc_n h1, ksc_n h2]
  exact ok_mono (law1 (fun Y S2 => fX11_served Y n S2 215 (xs (i + 1).toNatClampNeg) (xs (i + 2).toNatClampNeg)) Int32.toInt64 ((aServed A (xs (i + 1).toNatClampNeg) (xs (i + 2).toNatClampNeg))) hG (okR (c_served (by omega) g1 g2)) (fun _ h => h) (eh1 (an_served _ _ _)) (fun S2 h h2 => m_served (by omega) h h2)) (fun r h => h.gg)
theorem an_paid (A : EL) (x y z : Int32) : An1 ((aPaid A x y z)) := by
  intro k hk
  unfold aPaid at hk
  repeat' split at hk
  all_goals cases hk
  all_goals rfl
theorem lg_9 {xs : Nat → Int32} {L n : Nat} {i : Int32} {Y : XS} {S : PS} {A : EL} {H : List EL} {K : Option EL} {tp : List Nat} {fp : Int32} (hn : 100000 ≤ n) (h1 : inb (i + 1) L = true) (h2 : inb (i + 2) L = true) (h3 : inb (i + 3) L = true) (hG : Gd Y S A H K tp fp) : ok (g9 xs L n 0 215 234 i Y S) (fun r => GG r.1 r.2) := by
  have g1 := hG.1
  have g2 := hG.2.1
  unfold g9 fL_paid
  simp only [ksc_n h1, ksc_n h2, ksc_n h3]
  exact ok_mono (law1 (fun Y S2 => fX11_paid Y n S2 215 (xs (i + 1).toNatClampNeg) (xs (i + 2).toNatClampNeg) (xs (i + 3).toNatClampNeg)) Int32.toInt64 ((aPaid A (xs (i + 1).toNatClampNeg) (xs (i + 2).toNatClampNeg) (xs (i + 3).toNatClampNeg))) hG (okR (c_paid (by omega) g1 g2)) (fun _ h => h) (eh1 (an_paid _ _ _ _)) (fun S2 h h2 => m_paid (by omega) h h2)) (fun r h => h.gg)
theorem an_left (A : EL) (x y : Int32) : An1 ((aLeft A x y)) := by
  intro k hk
  unfold aLeft at hk
  repeat' split at hk
  all_goals cases hk
  all_goals rfl
theorem lg_10 {xs : Nat → Int32} {L n : Nat} {i : Int32} {Y : XS} {S : PS} {A : EL} {H : List EL} {K : Option EL} {tp : List Nat} {fp : Int32} (hn : 100000 ≤ n) (h1 : inb (i + 1) L = true) (h2 : inb (i + 2) L = true) (hG : Gd Y S A H K tp fp) : ok (g10 xs L n 0 215 234 i Y S) (fun r => GG r.1 r.2) := by
  have g1 := hG.1
  have g2 := hG.2.1
  unfold g10 fL_left
  simp only [ksc_n h1, ksc_n h2]
  exact ok_mono (law1 (fun Y S2 => fX11_left Y n S2 215 (xs (i + 1).toNatClampNeg) (xs (i + 2).toNatClampNeg)) Int32.toInt64 ((aLeft A (xs (i + 1).toNatClampNeg) (xs (i + 2).toNatClampNeg))) hG (okR (c_left (by omega) g1 g2)) (fun _ h => h) (eh1 (an_left _ _ _)) (fun S2 h h2 => m_left (by omega) h h2)) (fun r h => h.gg)
theorem an_step (A : EL) (x y : Int32) : An1 ((aStep A x y)) := by
  intro k hk
  unfold aStep at hk
  repeat' split at hk
  all_goals cases hk
  all_goals rfl
theorem lg_11 {xs : Nat → Int32} {L n : Nat} {i : Int32} {Y : XS} {S : PS} {A : EL} {H : List EL} {K : Option EL} {tp : List Nat} {fp : Int32} (hn : 100000 ≤ n) (h1 : inb (i + 1) L = true) (h2 : inb (i + 2) L = true) (hG : Gd Y S A H K tp fp) : ok (g11 xs L n 0 215 234 i Y S) (fun r => GG r.1 r.2) := by
  have g1 := hG.1
  have g2 := hG.2.1
  unfold g11 fL_step
  simp only [ksc_n h1, ksc_n h2]
  exact ok_mono (law1 (fun Y S2 => fX11_step Y n S2 215 (xs (i + 1).toNatClampNeg) (xs (i + 2).toNatClampNeg)) Int32.toInt64 ((aStep A (xs (i + 1).toNatClampNeg) (xs (i + 2).toNatClampNeg))) hG (okR (c_step (by omega) g1 g2)) (fun _ h => h) (eh1 (an_step _ _ _)) (fun S2 h h2 => m_step (by omega) h h2)) (fun r h => h.gg)
theorem an_price (A : EL) (x y : Int32) : An1 ((aPrice A x y)) := by
  intro k hk
  unfold aPrice at hk
  repeat' split at hk
  all_goals cases hk
  all_goals rfl
theorem lg_12 {xs : Nat → Int32} {L n : Nat} {i : Int32} {Y : XS} {S : PS} {A : EL} {H : List EL} {K : Option EL} {tp : List Nat} {fp : Int32} (hn : 100000 ≤ n) (h1 : inb (i + 1) L = true) (h2 : inb (i + 2) L = true) (hG : Gd Y S A H K tp fp) : ok (g12 xs L n 0 215 234 i Y S) (fun r => GG r.1 r.2) := by
  have g1 := hG.1
  have g2 := hG.2.1
  unfold g12 fL_price
  simp only [ksc_n h1, ksc_n h2]
  exact ok_mono (law1 (fun Y S2 => fX11_price Y n S2 215 (xs (i + 1).toNatClampNeg) (xs (i + 2).toNatClampNeg)) Int32.toInt64 ((aPrice A (xs (i + 1).toNatClampNeg) (xs (i + 2).toNatClampNeg))) hG (okR (c_price (by omega) g1 g2)) (fun _ h => h) (eh1 (an_price _ _ _)) (fun S2 h h2 => m_price (by omega) h h2)) (fun r h => h.gg)
theorem an_group (A : EL) (x y : Int32) : An1 ((aGroup A x y)) := by
  intro k hk
  unfold aGroup at hk
  repeat' split at hk
  all_goals cases hk
  all_goals rfl
theorem lg_13 {xs : Nat → Int32} {L n : Nat} {i : Int32} {Y : XS} {S : PS} {A : EL} {H : List EL} {K : Option EL} {tp : List Nat} {fp : Int32} (hn : 100000 ≤ n) (h1 : inb (i + 1) L = true) (h2 : inb (i + 2) L = true) (hG : Gd Y S A H K tp fp) : ok (g13 xs L n 0 215 234 i Y S) (fun r => GG r.1 r.2) := by
  have g1 := hG.1
  have g2 := hG.2.1
  unfold g13 fL_group
  simp only [ksc_n h1, ksc_n h2]
  exact ok_mono (law1 (fun Y S2 => fX11_group Y n S2 215 (xs (i + 1).toNatClampNeg) (xs (i + 2).toNatClampNeg)) Int32.toInt64 ((aGroup A (xs (i + 1).toNatClampNeg) (xs (i + 2).toNatClampNeg))) hG (okR (c_group (by omega) g1 g2)) (fun _ h => h) (eh1 (an_group _ _ _)) (fun S2 h h2 => m_group (by omega) h h2)) (fun r h => h.gg)
theorem an_isServed (A : EL) (x y z : Int32) : An1 ((aIsServed A x y z)) := by
  intro k hk
  unfold aIsServed at hk
  repeat' split at hk
  all_goals cases hk
  all_goals rfl
theorem lg_14 {xs : Nat → Int32} {L n : Nat} {i : Int32} {Y : XS} {S : PS} {A : EL} {H : List EL} {K : Option EL} {tp : List Nat} {fp : Int32} (hn : 100000 ≤ n) (h1 : inb (i + 1) L = true) (h2 : inb (i + 2) L = true) (h3 : inb (i + 3) L = true) (hG : Gd Y S A H K tp fp) : ok (g14 xs L n 0 215 234 i Y S) (fun r => GG r.1 r.2) := by
  have g1 := hG.1
  have g2 := hG.2.1
  unfold g14 fL_isServed
  simp only [ksc_n h1, ksc_n h2, ksc_n h3]
  exact ok_mono (law1 (fun Y S2 => fX11_isServed Y n S2 215 (xs (i + 1).toNatClampNeg) (xs (i + 2).toNatClampNeg) (bz (xs (i + 3).toNatClampNeg))) bzl ((aIsServed A (xs (i + 1).toNatClampNeg) (xs (i + 2).toNatClampNeg) (bz (xs (i + 3).toNatClampNeg)))) hG (okR (c_isServed (by omega) (bz_01 _) g1 g2)) (fun _ h => h) (eh1 (an_isServed _ _ _ _)) (fun S2 h h2 => m_isServed (by omega) (bz_01 _) h h2)) (fun r h => h.gg)
theorem an_groups (A : EL) (x y : Int32) : An1 ((aGroups A x y)) := by
  intro k hk
  unfold aGroups at hk
  repeat' split at hk
  all_goals cases hk
  all_goals rfl
theorem lg_15 {xs : Nat → Int32} {L n : Nat} {i : Int32} {Y : XS} {S : PS} {A : EL} {H : List EL} {K : Option EL} {tp : List Nat} {fp : Int32} (hn : 100000 ≤ n) (h1 : inb (i + 1) L = true) (h2 : inb (i + 2) L = true) (hG : Gd Y S A H K tp fp) : ok (g15 xs L n 0 215 234 i Y S) (fun r => GG r.1 r.2) := by
  have g1 := hG.1
  have g2 := hG.2.1
  unfold g15 fL_groups
  simp only [ksc_n h1, ksc_n h2]
  exact ok_mono (law1 (fun Y S2 => fX11_groups Y n S2 215 (xs (i + 1).toNatClampNeg) (xs (i + 2).toNatClampNeg)) Int32.toInt64 ((aGroups A (xs (i + 1).toNatClampNeg) (xs (i + 2).toNatClampNeg))) hG (okR (c_groups (by omega) g1 g2)) (fun _ h => h) (eh1 (an_groups _ _ _)) (fun S2 h h2 => m_groups (by omega) h h2)) (fun r h => h.gg)
theorem an_away (A : EL) (x y : Int32) : An1 ((aAway A x y)) := by
  intro k hk
  unfold aAway at hk
  repeat' split at hk
  all_goals cases hk
  all_goals rfl
theorem lg_16 {xs : Nat → Int32} {L n : Nat} {i : Int32} {Y : XS} {S : PS} {A : EL} {H : List EL} {K : Option EL} {tp : List Nat} {fp : Int32} (hn : 100000 ≤ n) (h1 : inb (i + 1) L = true) (h2 : inb (i + 2) L = true) (hG : Gd Y S A H K tp fp) : ok (g16 xs L n 0 215 234 i Y S) (fun r => GG r.1 r.2) := by
  have g1 := hG.1
  have g2 := hG.2.1
  unfold g16 fL_away
  simp only [ksc_n h1, ksc_n h2]
  exact ok_mono (law1 (fun Y S2 => fX11_away Y n S2 215 (xs (i + 1).toNatClampNeg) (xs (i + 2).toNatClampNeg)) Int32.toInt64 ((aAway A (xs (i + 1).toNatClampNeg) (xs (i + 2).toNatClampNeg))) hG (okT (c_away (by omega) g1 g2)) (fun _ h => h) (eh1 (an_away _ _ _)) (fun S2 h h2 => m_away (by omega) h h2)) (fun r h => h.gg)
theorem an_with (A : EL) (x y : Int32) : An2 ((aWith A x y)) := by
  intro k hk
  unfold aWith at hk
  repeat' split at hk
  all_goals cases hk
  all_goals first | exact Or.inl rfl | exact Or.inr rfl
theorem lg_17 {xs : Nat → Int32} {L n : Nat} {i : Int32} {Y : XS} {S : PS} {A : EL} {H : List EL} {K : Option EL} {tp : List Nat} {fp : Int32} (hn : 100000 ≤ n) (h1 : inb (i + 1) L = true) (h2 : inb (i + 2) L = true) (hG : Gd Y S A H K tp fp) : ok (g17 xs L n 0 215 234 i Y S) (fun r => GG r.1 r.2) := by
  have g1 := hG.1
  have g2 := hG.2.1
  unfold g17 fL_with
  simp only [ksc_n h1, ksc_n h2]
  exact ok_mono (law1 (fun Y S2 => fX11_with Y n S2 215 (xs (i + 1).toNatClampNeg) (xs (i + 2).toNatClampNeg)) Int32.toInt64 ((aWith A (xs (i + 1).toNatClampNeg) (xs (i + 2).toNatClampNeg))) hG (okT (c_with (by omega) g1 g2)) (fun _ h => h) (eh2 (an_with _ _ _)) (fun S2 h h2 => m_with (by omega) h h2)) (fun r h => h.gg)
theorem an_voting (A : EL) (x y z w : Int32) : An2 ((aVoting A x y z w)) := by
  intro k hk
  unfold aVoting at hk
  repeat' split at hk
  all_goals cases hk
  all_goals first | exact Or.inl rfl | exact Or.inr rfl
theorem lg_18 {xs : Nat → Int32} {L n : Nat} {i : Int32} {Y : XS} {S : PS} {A : EL} {H : List EL} {K : Option EL} {tp : List Nat} {fp : Int32} (hn : 100000 ≤ n) (h1 : inb (i + 1) L = true) (h2 : inb (i + 2) L = true) (h3 : inb (i + 3) L = true) (h4 : inb (i + 4) L = true) (hG : Gd Y S A H K tp fp) : ok (g18 xs L n 0 215 234 i Y S) (fun r => GG r.1 r.2) := by
  have g1 := hG.1
  have g2 := hG.2.1
  unfold g18 fL_voting
  simp only [ksc_n h1, ksc_n h2, ksc_n h3, ksc_n h4]
  exact ok_mono (law1 (fun Y S2 => fX11_voting Y n S2 215 (xs (i + 1).toNatClampNeg) (xs (i + 2).toNatClampNeg) (xs (i + 3).toNatClampNeg) (xs (i + 4).toNatClampNeg)) Int32.toInt64 ((aVoting A (xs (i + 1).toNatClampNeg) (xs (i + 2).toNatClampNeg) (xs (i + 3).toNatClampNeg) (xs (i + 4).toNatClampNeg))) hG (okT (c_voting (by omega) g1 g2)) (fun _ h => h) (eh2 (an_voting _ _ _ _ _)) (fun S2 h h2 => m_voting (by omega) h h2)) (fun r h => h.gg)
theorem an_ride (A : EL) (x y z : Int32) : An1 ((aRide A x y z)) := by
  intro k hk
  unfold aRide at hk
  repeat' split at hk
  all_goals cases hk
  all_goals rfl
theorem lg_19 {xs : Nat → Int32} {L n : Nat} {i : Int32} {Y : XS} {S : PS} {A : EL} {H : List EL} {K : Option EL} {tp : List Nat} {fp : Int32} (hn : 100000 ≤ n) (h1 : inb (i + 1) L = true) (h2 : inb (i + 2) L = true) (h3 : inb (i + 3) L = true) (hG : Gd Y S A H K tp fp) : ok (g19 xs L n 0 215 234 i Y S) (fun r => GG r.1 r.2) := by
  have g1 := hG.1
  have g2 := hG.2.1
  unfold g19 fL_ride
  simp only [ksc_n h1, ksc_n h2, ksc_n h3]
  exact ok_mono (law1 (fun Y S2 => fX11_ride Y n S2 215 (xs (i + 1).toNatClampNeg) (xs (i + 2).toNatClampNeg) (xs (i + 3).toNatClampNeg)) Int32.toInt64 ((aRide A (xs (i + 1).toNatClampNeg) (xs (i + 2).toNatClampNeg) (xs (i + 3).toNatClampNeg))) hG (c_ride (by omega) g1 g2) (fun _ h => h) (eh1 (an_ride _ _ _ _)) (fun S2 h h2 => m_ride (by omega) h h2)) (fun r h => h.gg)
theorem an_push (A : EL) (x y : Int32) : An1 ((aPush A x y)) := by
  intro k hk
  unfold aPush at hk
  repeat' split at hk
  all_goals cases hk
  all_goals rfl
theorem lg_20 {xs : Nat → Int32} {L n : Nat} {i : Int32} {Y : XS} {S : PS} {A : EL} {H : List EL} {K : Option EL} {tp : List Nat} {fp : Int32} (hn : 100000 ≤ n) (h1 : inb (i + 1) L = true) (h2 : inb (i + 2) L = true) (hG : Gd Y S A H K tp fp) : ok (g20 xs L n 0 215 234 i Y S) (fun r => GG r.1 r.2) := by
  have g1 := hG.1
  have g2 := hG.2.1
  unfold g20 fL_push
  simp only [ksc_n h1, ksc_n h2]
  exact ok_mono (law1 (fun Y S2 => fX11_push Y n S2 215 (xs (i + 1).toNatClampNeg) (xs (i + 2).toNatClampNeg)) Int32.toInt64 ((aPush A (xs (i + 1).toNatClampNeg) (xs (i + 2).toNatClampNeg))) hG (c_push (by omega) g1 g2) (fun _ h => h) (eh1 (an_push _ _ _)) (fun S2 h h2 => m_push (by omega) h h2)) (fun r h => h.gg)
theorem an_discount (A : EL) (x y : Int32) : An1 ((aDiscount A x y)) := by
  intro k hk
  unfold aDiscount at hk
  repeat' split at hk
  all_goals cases hk
  all_goals rfl
theorem lg_21 {xs : Nat → Int32} {L n : Nat} {i : Int32} {Y : XS} {S : PS} {A : EL} {H : List EL} {K : Option EL} {tp : List Nat} {fp : Int32} (hn : 100000 ≤ n) (h1 : inb (i + 1) L = true) (h2 : inb (i + 2) L = true) (hG : Gd Y S A H K tp fp) : ok (g21 xs L n 0 215 234 i Y S) (fun r => GG r.1 r.2) := by
  have g1 := hG.1
  have g2 := hG.2.1
  unfold g21 fL_discount
  simp only [ksc_n h1, ksc_n h2]
  exact ok_mono (law1 (fun Y S2 => fX11_discount Y n S2 215 (xs (i + 1).toNatClampNeg) (xs (i + 2).toNatClampNeg)) Int32.toInt64 ((aDiscount A (xs (i + 1).toNatClampNeg) (xs (i + 2).toNatClampNeg))) hG (c_discount (by omega) g1 g2) (fun _ h => h) (eh1 (an_discount _ _ _)) (fun S2 h h2 => m_discount (by omega) h h2)) (fun r h => h.gg)
theorem lg_22 {xs : Nat → Int32} {L n : Nat} {i : Int32} {Y : XS} {S : PS} {A : EL} {H : List EL} {K : Option EL} {tp : List Nat} {fp : Int32} (hn : 100000 ≤ n) (h1 : inb (i + 1) L = true) (hG : Gd Y S A H K tp fp) : ok (g22 xs L n 0 215 234 i Y S) (fun r => GG r.1 r.2) := by
  have g1 := hG.1
  have g2 := hG.2.1
  unfold g22 fL_budget
  simp only [ksc_n h1]
  exact ok_mono (law1 (fun Y S2 => fX11_budget Y n S2 215 (xs (i + 1).toNatClampNeg)) Int32.toInt64 (as1 (aBudget A H (xs (i + 1).toNatClampNeg)).1) hG (c_budget (by omega) g1 g2) (fun x hx => by rw [hx]; rfl) (ehb) (fun S2 h h2 => m_budget (by omega) h h2)) (fun r h => h.gg)
theorem an_cost (A : EL) (H : List EL) (x y : Int32) : An2 ((aCost A H x y).1) := by
  intro k hk
  unfold aCost at hk
  repeat' split at hk
  all_goals cases hk
  all_goals first | exact Or.inl rfl | exact Or.inr rfl
theorem lg_23 {xs : Nat → Int32} {L n : Nat} {i : Int32} {Y : XS} {S : PS} {A : EL} {H : List EL} {K : Option EL} {tp : List Nat} {fp : Int32} (hn : 100000 ≤ n) (h1 : inb (i + 1) L = true) (h2 : inb (i + 2) L = true) (hG : Gd Y S A H K tp fp) : ok (g23 xs L n 0 215 234 i Y S) (fun r => GG r.1 r.2) := by
  have g1 := hG.1
  have g2 := hG.2.1
  unfold g23 fL_cost
  simp only [ksc_n h1, ksc_n h2]
  exact ok_mono (law1 (fun Y S2 => fX11_cost Y n S2 215 (xs (i + 1).toNatClampNeg) (xs (i + 2).toNatClampNeg)) Int32.toInt64 ((aCost A H (xs (i + 1).toNatClampNeg) (xs (i + 2).toNatClampNeg)).1) hG (c_cost (by omega) g1 g2) (fun _ h => h) (eh2 (an_cost _ _ _ _)) (fun S2 h h2 => m_cost (by omega) h h2)) (fun r h => h.gg)
theorem an_score (A : EL) (H : List EL) (x y z : Int32) : An2 ((aScore A H x y z).1) := by
  intro k hk
  unfold aScore at hk
  repeat' split at hk
  all_goals cases hk
  all_goals first | exact Or.inl rfl | exact Or.inr rfl
theorem lg_24 {xs : Nat → Int32} {L n : Nat} {i : Int32} {Y : XS} {S : PS} {A : EL} {H : List EL} {K : Option EL} {tp : List Nat} {fp : Int32} (hn : 100000 ≤ n) (h1 : inb (i + 1) L = true) (h2 : inb (i + 2) L = true) (h3 : inb (i + 3) L = true) (hG : Gd Y S A H K tp fp) : ok (g24 xs L n 0 215 234 i Y S) (fun r => GG r.1 r.2) := by
  have g1 := hG.1
  have g2 := hG.2.1
  unfold g24 fL_score
  simp only [ksc_n h1, ksc_n h2, ksc_n h3]
  exact ok_mono (law1 (fun Y S2 => fX11_score Y n S2 215 (xs (i + 1).toNatClampNeg) (xs (i + 2).toNatClampNeg) (xs (i + 3).toNatClampNeg)) Int32.toInt64 ((aScore A H (xs (i + 1).toNatClampNeg) (xs (i + 2).toNatClampNeg) (xs (i + 3).toNatClampNeg)).1) hG (c_score (by omega) g1 g2) (fun _ h => h) (eh2 (an_score _ _ _ _ _)) (fun S2 h h2 => m_score (by omega) h h2)) (fun r h => h.gg)
theorem an_go (A : EL) (H : List EL) (x y : Int32) : An1 ((aGo A H x y).1) := by
  intro k hk
  unfold aGo at hk
  repeat' split at hk
  all_goals cases hk
  all_goals rfl
theorem lg_25 {xs : Nat → Int32} {L n : Nat} {i : Int32} {Y : XS} {S : PS} {A : EL} {H : List EL} {K : Option EL} {tp : List Nat} {fp : Int32} (hn : 100000 ≤ n) (h1 : inb (i + 1) L = true) (h2 : inb (i + 2) L = true) (hG : Gd Y S A H K tp fp) : ok (g25 xs L n 0 215 234 i Y S) (fun r => GG r.1 r.2) := by
  have g1 := hG.1
  have g2 := hG.2.1
  unfold g25 fL_go
  simp only [ksc_n h1, ksc_n h2]
  exact ok_mono (law1 (fun Y S2 => fX11_go Y n S2 215 (bz (xs (i + 1).toNatClampNeg)) (xs (i + 2).toNatClampNeg)) Int32.toInt64 ((aGo A H (bz (xs (i + 1).toNatClampNeg)) (xs (i + 2).toNatClampNeg)).1) hG (c_go (by omega) g1 g2) (fun _ h => h) (eh1 (an_go _ _ _ _)) (fun S2 h h2 => m_go (by omega) h h2)) (fun r h => h.gg)
