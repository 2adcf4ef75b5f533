/-! ===== what stays true between two calls ===== -/
def GI (sc : Nat → Int32) (len : Int32) (I : xm_I) (L : xm_L) (n : Nat) : Prop := (IvP I ∧ IvF I ∧ IvW I ∧ IvC I ∧ IvS I n ∧ IvL I ∧ IvG I ∧ IvD I) ∧ (86 ≤ n ∧ n ≤ 118) ∧ (∀ a, n ≤ a → a < 1000 → ∀ k, I a k = 0) ∧ (∀ a, n ≤ a → a < 1000 → ∀ k, L a k = 0) ∧ I 1000000 = sc ∧ I 1000001 0 = len
theorem cd_hi {a k : Nat} (h : 86 ≤ a) : cd a k = a := by
  unfold cd
  refine if_neg fun hh => ?_
  have hm := List.contains_iff_mem.mp hh
  have all : ∀ x ∈ [0, 1, 6, 14, 15, 17, 21, 25, 30, 38, 39, 49], x < 86 := by decide
  have := all a hm
  omega
theorem GI.re {sc : Nat → Int32} {len : Int32} {I J : xm_I} {L M : xm_L} {n : Nat} {W V : List Nat} (h : GI sc len I L n) (f : Fr W I J) (hw : ∀ x ∈ W, x < 86 ∨ (1000 ≤ x ∧ x < 1000000)) (fl : Fr V L M) (hv : ∀ x ∈ V, x < 86 ∨ 1000 ≤ x) (iv : IvP J ∧ IvF J ∧ IvW J ∧ IvC J ∧ IvS J n ∧ IvL J ∧ IvG J ∧ IvD J) : GI sc len J M n := by
  obtain ⟨_, h1, h2, h3, h4, h5⟩ := h
  refine ⟨iv, h1, fun a ha h9 k => ?_, fun a ha h9 k => ?_, ?_, ?_⟩
  · rw [f a k (fun hm => by rw [cd_hi (by omega)] at hm; have := hw a hm; omega)]
    exact h2 a ha h9 k
  · rw [fl a k (fun hm => by rw [cd_hi (by omega)] at hm; have := hv a hm; omega)]
    exact h3 a ha h9 k
  · rw [← h4]
    exact funext fun k => f 1000000 k (fun hm => by rw [cd_hi (by omega)] at hm; have := hw _ hm; omega)
  · rw [← h5]
    exact f 1000001 0 (fun hm => by rw [cd_hi (by omega)] at hm; have := hw _ hm; omega)
set_option maxRecDepth 100000 in
theorem g_0 {sc : Nat → Int32} {len : Int32} {I : xm_I} {L : xm_L} {n : Nat} {i : Int32} (h : GI sc len I L n) : sp_0 I L n i (GI sc len) := by
  obtain ⟨⟨hP, hF, hW, hC, hS, hL, hG, hD⟩, hr⟩ := id h
  unfold sp_0
  refine ok_mono (c_point hP) (fun p hp => ⟨hp.1, ok_mono hp.2 (fun q hq => ⟨hq.1, ?_⟩)⟩)
  obtain ⟨_, f, le, hP'⟩ := hq
  exact h.re f (by decide) (Fr.refl [] _) (by decide) ⟨hP', hF.ag le (f.ag _ (by decide)), hW.ag (f.ag _ (by decide)), (f 0 9 (by decide)).trans (hC.trans (f 49 38 (by decide)).symm), hS.ag le (f.ag _ (by decide)), hL.ag (Int.le_of_eq (congrArg Int32.toInt (f 6 9 (by decide))).symm) (f.ag _ (by decide)), hG.ag (Int.le_of_eq (congrArg Int32.toInt (f 6 9 (by decide))).symm) (f.ag _ (by decide)), hD.ag (f.ag _ (by decide))⟩
set_option maxRecDepth 100000 in
theorem g_1 {sc : Nat → Int32} {len : Int32} {I : xm_I} {L : xm_L} {n : Nat} {i : Int32} (h : GI sc len I L n) : sp_1 I L n i (GI sc len) := by
  obtain ⟨⟨hP, hF, hW, hC, hS, hL, hG, hD⟩, hr⟩ := id h
  unfold sp_1
  refine ok_mono (c_move hP) (fun p hp => ⟨hp.1, ok_mono hp.2 (fun q hq => ⟨hq.1, ?_⟩)⟩)
  obtain ⟨_, f, hP'⟩ := hq
  exact h.re f (by decide) (Fr.refl [] _) (by decide) ⟨hP', hF.ag (Int.le_of_eq (congrArg Int32.toInt (f 1 4 (by decide))).symm) (f.ag _ (by decide)), hW.ag (f.ag _ (by decide)), (f 0 9 (by decide)).trans (hC.trans (f 49 38 (by decide)).symm), hS.ag (Int.le_of_eq (congrArg Int32.toInt (f 1 4 (by decide))).symm) (f.ag _ (by decide)), hL.ag (Int.le_of_eq (congrArg Int32.toInt (f 6 9 (by decide))).symm) (f.ag _ (by decide)), hG.ag (Int.le_of_eq (congrArg Int32.toInt (f 6 9 (by decide))).symm) (f.ag _ (by decide)), hD.ag (f.ag _ (by decide))⟩
set_option maxRecDepth 100000 in
theorem g_2 {sc : Nat → Int32} {len : Int32} {I : xm_I} {L : xm_L} {n : Nat} {i : Int32} (h : GI sc len I L n) : sp_2 I L n i (GI sc len) := by
  obtain ⟨⟨hP, hF, hW, hC, hS, hL, hG, hD⟩, hr⟩ := id h
  unfold sp_2
  refine ok_mono (c_tick hP) (fun p hp => ⟨hp.1, ok_mono hp.2 (fun q hq => ⟨hq.1, ?_⟩)⟩)
  obtain ⟨_, f, hP'⟩ := hq
  exact h.re f (by decide) (Fr.refl [] _) (by decide) ⟨hP', hF.ag (Int.le_of_eq (congrArg Int32.toInt (f 1 4 (by decide))).symm) (f.ag _ (by decide)), hW.ag (f.ag _ (by decide)), (f 0 9 (by decide)).trans (hC.trans (f 49 38 (by decide)).symm), hS.ag (Int.le_of_eq (congrArg Int32.toInt (f 1 4 (by decide))).symm) (f.ag _ (by decide)), hL.ag (Int.le_of_eq (congrArg Int32.toInt (f 6 9 (by decide))).symm) (f.ag _ (by decide)), hG.ag (Int.le_of_eq (congrArg Int32.toInt (f 6 9 (by decide))).symm) (f.ag _ (by decide)), hD.ag (f.ag _ (by decide))⟩
set_option maxRecDepth 100000 in
theorem g_3 {sc : Nat → Int32} {len : Int32} {I : xm_I} {L : xm_L} {n : Nat} {i : Int32} (h : GI sc len I L n) : sp_3 I L n i (GI sc len) := by
  obtain ⟨⟨hP, hF, hW, hC, hS, hL, hG, hD⟩, hr⟩ := id h
  unfold sp_3
  exact ok_mono (c_at hP) (fun p hp => ok_mono hp (fun q hq => ⟨hq, h⟩))
set_option maxRecDepth 100000 in
theorem g_4 {sc : Nat → Int32} {len : Int32} {I : xm_I} {L : xm_L} {n : Nat} {i : Int32} (h : GI sc len I L n) : sp_4 I L n i (GI sc len) := by
  obtain ⟨⟨hP, hF, hW, hC, hS, hL, hG, hD⟩, hr⟩ := id h
  unfold sp_4
  refine ok_mono (c_object hP hF) (fun p hp => ⟨hp.1, ok_mono hp.2 (fun q hq => ⟨hq.1, ?_⟩)⟩)
  obtain ⟨_, f, le, hF'⟩ := hq
  exact h.re f (by decide) (Fr.refl [] _) (by decide) ⟨hP.ag (f.ag _ (by decide)), hF', hW.ag (f.ag _ (by decide)), (f 0 9 (by decide)).trans (hC.trans (f 49 38 (by decide)).symm), hS.ag (Int.le_of_eq (congrArg Int32.toInt (f 1 4 (by decide))).symm) (f.ag _ (by decide)), hL.ag le (f.ag _ (by decide)), hG.ag le (f.ag _ (by decide)), hD.ag (f.ag _ (by decide))⟩
set_option maxRecDepth 100000 in
theorem g_5 {sc : Nat → Int32} {len : Int32} {I : xm_I} {L : xm_L} {n : Nat} {i : Int32} (h : GI sc len I L n) : sp_5 I L n i (GI sc len) := by
  obtain ⟨⟨hP, hF, hW, hC, hS, hL, hG, hD⟩, hr⟩ := id h
  unfold sp_5
  refine ok_mono (c_corner hP hF) (fun p hp => ⟨hp.1, ok_mono hp.2 (fun q hq => ⟨hq.1, ?_⟩)⟩)
  obtain ⟨_, f, hF'⟩ := hq
  exact h.re f (by decide) (Fr.refl [] _) (by decide) ⟨hP.ag (f.ag _ (by decide)), hF', hW.ag (f.ag _ (by decide)), (f 0 9 (by decide)).trans (hC.trans (f 49 38 (by decide)).symm), hS.ag (Int.le_of_eq (congrArg Int32.toInt (f 1 4 (by decide))).symm) (f.ag _ (by decide)), hL.ag (Int.le_of_eq (congrArg Int32.toInt (f 6 9 (by decide))).symm) (f.ag _ (by decide)), hG.ag (Int.le_of_eq (congrArg Int32.toInt (f 6 9 (by decide))).symm) (f.ag _ (by decide)), hD.ag (f.ag _ (by decide))⟩
set_option maxRecDepth 100000 in
theorem g_6 {sc : Nat → Int32} {len : Int32} {I : xm_I} {L : xm_L} {n : Nat} {i : Int32} (h : GI sc len I L n) : sp_6 I L n i (GI sc len) := by
  obtain ⟨⟨hP, hF, hW, hC, hS, hL, hG, hD⟩, hr⟩ := id h
  unfold sp_6
  refine ok_mono (c_area hP hF) (fun p hp => ⟨hp.1, ok_mono hp.2 (fun q hq => ⟨hq.1, ?_⟩)⟩)
  obtain ⟨_, f, le, hF'⟩ := hq
  exact h.re f (by decide) (Fr.refl [] _) (by decide) ⟨hP.ag (f.ag _ (by decide)), hF', hW.ag (f.ag _ (by decide)), (f 0 9 (by decide)).trans (hC.trans (f 49 38 (by decide)).symm), hS.ag (Int.le_of_eq (congrArg Int32.toInt (f 1 4 (by decide))).symm) (f.ag _ (by decide)), hL.ag le (f.ag _ (by decide)), hG.ag le (f.ag _ (by decide)), hD.ag (f.ag _ (by decide))⟩
set_option maxRecDepth 100000 in
theorem g_7 {sc : Nat → Int32} {len : Int32} {I : xm_I} {L : xm_L} {n : Nat} {i : Int32} (h : GI sc len I L n) : sp_7 I L n i (GI sc len) := by
  obtain ⟨⟨hP, hF, hW, hC, hS, hL, hG, hD⟩, hr⟩ := id h
  unfold sp_7
  refine ok_mono (c_style hP hF) (fun p hp => ⟨hp.1, ok_mono hp.2 (fun q hq => ⟨hq.1, ?_⟩)⟩)
  obtain ⟨_, f, hF'⟩ := hq
  exact h.re f (by decide) (Fr.refl [] _) (by decide) ⟨hP.ag (f.ag _ (by decide)), hF', hW.ag (f.ag _ (by decide)), (f 0 9 (by decide)).trans (hC.trans (f 49 38 (by decide)).symm), hS.ag (Int.le_of_eq (congrArg Int32.toInt (f 1 4 (by decide))).symm) (f.ag _ (by decide)), hL.ag (Int.le_of_eq (congrArg Int32.toInt (f 6 9 (by decide))).symm) (f.ag _ (by decide)), hG.ag (Int.le_of_eq (congrArg Int32.toInt (f 6 9 (by decide))).symm) (f.ag _ (by decide)), hD.ag (f.ag _ (by decide))⟩
set_option maxRecDepth 100000 in
theorem g_8 {sc : Nat → Int32} {len : Int32} {I : xm_I} {L : xm_L} {n : Nat} {i : Int32} (h : GI sc len I L n) : sp_8 I L n i (GI sc len) := by
  obtain ⟨⟨hP, hF, hW, hC, hS, hL, hG, hD⟩, hr⟩ := id h
  unfold sp_8
  refine ok_mono (c_hide hP hF) (fun p hp => ⟨hp.1, ok_mono hp.2 (fun q hq => ⟨hq.1, ?_⟩)⟩)
  obtain ⟨_, f, hF'⟩ := hq
  exact h.re f (by decide) (Fr.refl [] _) (by decide) ⟨hP.ag (f.ag _ (by decide)), hF', hW.ag (f.ag _ (by decide)), (f 0 9 (by decide)).trans (hC.trans (f 49 38 (by decide)).symm), hS.ag (Int.le_of_eq (congrArg Int32.toInt (f 1 4 (by decide))).symm) (f.ag _ (by decide)), hL.ag (Int.le_of_eq (congrArg Int32.toInt (f 6 9 (by decide))).symm) (f.ag _ (by decide)), hG.ag (Int.le_of_eq (congrArg Int32.toInt (f 6 9 (by decide))).symm) (f.ag _ (by decide)), hD.ag (f.ag _ (by decide))⟩
set_option maxRecDepth 100000 in
theorem g_9 {sc : Nat → Int32} {len : Int32} {I : xm_I} {L : xm_L} {n : Nat} {i : Int32} (h : GI sc len I L n) : sp_9 I L n i (GI sc len) := by
  obtain ⟨⟨hP, hF, hW, hC, hS, hL, hG, hD⟩, hr⟩ := id h
  unfold sp_9
  exact ok_mono (c_fallen hP hF) (fun p hp => ok_mono hp (fun q hq => ⟨hq, h⟩))
set_option maxRecDepth 100000 in
theorem g_10 {sc : Nat → Int32} {len : Int32} {I : xm_I} {L : xm_L} {n : Nat} {i : Int32} (h : GI sc len I L n) : sp_10 I L n i (GI sc len) := by
  obtain ⟨⟨hP, hF, hW, hC, hS, hL, hG, hD⟩, hr⟩ := id h
  unfold sp_10
  exact ok_mono (c_measure hP hF) (fun p hp => ok_mono hp (fun q hq => ⟨hq, h⟩))
set_option maxRecDepth 100000 in
theorem g_11 {sc : Nat → Int32} {len : Int32} {I : xm_I} {L : xm_L} {n : Nat} {i : Int32} (h : GI sc len I L n) : sp_11 I L n i (GI sc len) := by
  obtain ⟨⟨hP, hF, hW, hC, hS, hL, hG, hD⟩, hr⟩ := id h
  unfold sp_11
  refine ok_mono (c_window hW) (fun p hp => ⟨hp.1, ok_mono hp.2 (fun q hq => ⟨hq.1, ?_⟩)⟩)
  obtain ⟨_, f, hW'⟩ := hq
  exact h.re f (by decide) (Fr.refl [] _) (by decide) ⟨hP.ag (f.ag _ (by decide)), hF.ag (Int.le_of_eq (congrArg Int32.toInt (f 1 4 (by decide))).symm) (f.ag _ (by decide)), hW', (f 0 9 (by decide)).trans (hC.trans (f 49 38 (by decide)).symm), hS.ag (Int.le_of_eq (congrArg Int32.toInt (f 1 4 (by decide))).symm) (f.ag _ (by decide)), hL.ag (Int.le_of_eq (congrArg Int32.toInt (f 6 9 (by decide))).symm) (f.ag _ (by decide)), hG.ag (Int.le_of_eq (congrArg Int32.toInt (f 6 9 (by decide))).symm) (f.ag _ (by decide)), hD.ag (f.ag _ (by decide))⟩
set_option maxRecDepth 100000 in
theorem g_12 {sc : Nat → Int32} {len : Int32} {I : xm_I} {L : xm_L} {n : Nat} {i : Int32} (h : GI sc len I L n) : sp_12 I L n i (GI sc len) := by
  obtain ⟨⟨hP, hF, hW, hC, hS, hL, hG, hD⟩, hr⟩ := id h
  unfold sp_12
  refine ok_mono (c_fit hP hF hW) (fun p hp => ⟨hp.1, ok_mono hp.2 (fun q hq => ⟨hq.1, ?_⟩)⟩)
  obtain ⟨_, f, hW'⟩ := hq
  exact h.re f (by decide) (Fr.refl [] _) (by decide) ⟨hP.ag (f.ag _ (by decide)), hF.ag (Int.le_of_eq (congrArg Int32.toInt (f 1 4 (by decide))).symm) (f.ag _ (by decide)), hW', (f 0 9 (by decide)).trans (hC.trans (f 49 38 (by decide)).symm), hS.ag (Int.le_of_eq (congrArg Int32.toInt (f 1 4 (by decide))).symm) (f.ag _ (by decide)), hL.ag (Int.le_of_eq (congrArg Int32.toInt (f 6 9 (by decide))).symm) (f.ag _ (by decide)), hG.ag (Int.le_of_eq (congrArg Int32.toInt (f 6 9 (by decide))).symm) (f.ag _ (by decide)), hD.ag (f.ag _ (by decide))⟩
set_option maxRecDepth 100000 in
theorem g_13 {sc : Nat → Int32} {len : Int32} {I : xm_I} {L : xm_L} {n : Nat} {i : Int32} (h : GI sc len I L n) : sp_13 I L n i (GI sc len) := by
  obtain ⟨⟨hP, hF, hW, hC, hS, hL, hG, hD⟩, hr⟩ := id h
  unfold sp_13
  exact ok_mono (c_side hW) (fun p hp => ok_mono hp (fun q hq => ⟨hq, h⟩))
set_option maxRecDepth 100000 in
theorem g_14 {sc : Nat → Int32} {len : Int32} {I : xm_I} {L : xm_L} {n : Nat} {i : Int32} (h : GI sc len I L n) : sp_14 I L n i (GI sc len) := by
  obtain ⟨⟨hP, hF, hW, hC, hS, hL, hG, hD⟩, hr⟩ := id h
  unfold sp_14
  refine ok_mono (c_sheet hW) (fun p hp => ⟨hp.1, ok_mono hp.2 (fun q hq => ⟨hq.1, ?_⟩)⟩)
  obtain ⟨_, f, hW'⟩ := hq
  exact h.re f (by decide) (Fr.refl [] _) (by decide) ⟨hP.ag (f.ag _ (by decide)), hF.ag (Int.le_of_eq (congrArg Int32.toInt (f 1 4 (by decide))).symm) (f.ag _ (by decide)), hW', (f 0 9 (by decide)).trans (hC.trans (f 49 38 (by decide)).symm), hS.ag (Int.le_of_eq (congrArg Int32.toInt (f 1 4 (by decide))).symm) (f.ag _ (by decide)), hL.ag (Int.le_of_eq (congrArg Int32.toInt (f 6 9 (by decide))).symm) (f.ag _ (by decide)), hG.ag (Int.le_of_eq (congrArg Int32.toInt (f 6 9 (by decide))).symm) (f.ag _ (by decide)), hD.ag (f.ag _ (by decide))⟩
set_option maxRecDepth 100000 in
theorem g_15 {sc : Nat → Int32} {len : Int32} {I : xm_I} {L : xm_L} {n : Nat} {i : Int32} (h : GI sc len I L n) : sp_15 I L n i (GI sc len) := by
  obtain ⟨⟨hP, hF, hW, hC, hS, hL, hG, hD⟩, hr⟩ := id h
  unfold sp_15
  refine ok_mono (c_grid hW) (fun p hp => ⟨hp.1, ok_mono hp.2 (fun q hq => ⟨hq.1, ?_⟩)⟩)
  obtain ⟨_, f, hW'⟩ := hq
  exact h.re f (by decide) (Fr.refl [] _) (by decide) ⟨hP.ag (f.ag _ (by decide)), hF.ag (Int.le_of_eq (congrArg Int32.toInt (f 1 4 (by decide))).symm) (f.ag _ (by decide)), hW', (f 0 9 (by decide)).trans (hC.trans (f 49 38 (by decide)).symm), hS.ag (Int.le_of_eq (congrArg Int32.toInt (f 1 4 (by decide))).symm) (f.ag _ (by decide)), hL.ag (Int.le_of_eq (congrArg Int32.toInt (f 6 9 (by decide))).symm) (f.ag _ (by decide)), hG.ag (Int.le_of_eq (congrArg Int32.toInt (f 6 9 (by decide))).symm) (f.ag _ (by decide)), hD.ag (f.ag _ (by decide))⟩
set_option maxRecDepth 100000 in
theorem g_16 {sc : Nat → Int32} {len : Int32} {I : xm_I} {L : xm_L} {n : Nat} {i : Int32} (h : GI sc len I L n) : sp_16 I L n i (GI sc len) := by
  obtain ⟨⟨hP, hF, hW, hC, hS, hL, hG, hD⟩, hr⟩ := id h
  unfold sp_16
  refine ok_mono (c_hatch hW) (fun p hp => ⟨hp.1, ok_mono hp.2 (fun q hq => ⟨hq.1, ?_⟩)⟩)
  obtain ⟨_, f, hW'⟩ := hq
  exact h.re f (by decide) (Fr.refl [] _) (by decide) ⟨hP.ag (f.ag _ (by decide)), hF.ag (Int.le_of_eq (congrArg Int32.toInt (f 1 4 (by decide))).symm) (f.ag _ (by decide)), hW', (f 0 9 (by decide)).trans (hC.trans (f 49 38 (by decide)).symm), hS.ag (Int.le_of_eq (congrArg Int32.toInt (f 1 4 (by decide))).symm) (f.ag _ (by decide)), hL.ag (Int.le_of_eq (congrArg Int32.toInt (f 6 9 (by decide))).symm) (f.ag _ (by decide)), hG.ag (Int.le_of_eq (congrArg Int32.toInt (f 6 9 (by decide))).symm) (f.ag _ (by decide)), hD.ag (f.ag _ (by decide))⟩
set_option maxRecDepth 100000 in
theorem g_17 {sc : Nat → Int32} {len : Int32} {I : xm_I} {L : xm_L} {n : Nat} {i : Int32} (h : GI sc len I L n) : sp_17 I L n i (GI sc len) := by
  obtain ⟨⟨hP, hF, hW, hC, hS, hL, hG, hD⟩, hr⟩ := id h
  unfold sp_17
  refine ok_mono (c_scale (L := L) hW) (fun p hp => ⟨hp.1, ok_mono hp.2 (fun q hq => ⟨hq.1, ?_⟩)⟩)
  obtain ⟨_, hC', f, fl⟩ := hq
  exact h.re f (by decide) fl (by decide) ⟨hP.ag (f.ag _ (by decide)), hF.ag (Int.le_of_eq (congrArg Int32.toInt (f 1 4 (by decide))).symm) (f.ag _ (by decide)), hW.ag (f.ag _ (by decide)), hC', hS.ag (Int.le_of_eq (congrArg Int32.toInt (f 1 4 (by decide))).symm) (f.ag _ (by decide)), hL.ag (Int.le_of_eq (congrArg Int32.toInt (f 6 9 (by decide))).symm) (f.ag _ (by decide)), hG.ag (Int.le_of_eq (congrArg Int32.toInt (f 6 9 (by decide))).symm) (f.ag _ (by decide)), hD.ag (f.ag _ (by decide))⟩
set_option maxRecDepth 100000 in
theorem g_18 {sc : Nat → Int32} {len : Int32} {I : xm_I} {L : xm_L} {n : Nat} {i : Int32} (h : GI sc len I L n) : sp_18 I L n i (GI sc len) := by
  obtain ⟨⟨hP, hF, hW, hC, hS, hL, hG, hD⟩, hr⟩ := id h
  unfold sp_18
  refine ok_mono (c_single (L := L) hP hW) (fun p hp => ⟨hp.1, ok_mono hp.2 (fun q hq => ⟨hq.1, ?_⟩)⟩)
  obtain ⟨_, hC', f, fl⟩ := hq
  exact h.re f (by decide) fl (by decide) ⟨hP.ag (f.ag _ (by decide)), hF.ag (Int.le_of_eq (congrArg Int32.toInt (f 1 4 (by decide))).symm) (f.ag _ (by decide)), hW.ag (f.ag _ (by decide)), hC' hC, hS.ag (Int.le_of_eq (congrArg Int32.toInt (f 1 4 (by decide))).symm) (f.ag _ (by decide)), hL.ag (Int.le_of_eq (congrArg Int32.toInt (f 6 9 (by decide))).symm) (f.ag _ (by decide)), hG.ag (Int.le_of_eq (congrArg Int32.toInt (f 6 9 (by decide))).symm) (f.ag _ (by decide)), hD.ag (f.ag _ (by decide))⟩
set_option maxRecDepth 100000 in
theorem g_19 {sc : Nat → Int32} {len : Int32} {I : xm_I} {L : xm_L} {n : Nat} {i : Int32} (h : GI sc len I L n) : sp_19 I L n i (GI sc len) := by
  obtain ⟨⟨hP, hF, hW, hC, hS, hL, hG, hD⟩, hr⟩ := id h
  unfold sp_19
  refine ok_mono (c_solid (L := L) hP hS hr.2.1) (fun p hp => ⟨hp.1, hp.2.1, ok_mono hp.2.2 (fun q hq => ⟨hq.1, ?_⟩)⟩)
  obtain ⟨_, n1, n2, f, hS', _, hz⟩ := hq
  obtain ⟨hr1, hr2, hr3, hr4, hr5⟩ := hr
  have hrr : 86 ≤ n ∧ n + 8 ≤ 1000 := by omega
  refine ⟨⟨hP.ag (f.ag hrr _ (by decide)), hF.ag (Int.le_of_eq (congrArg Int32.toInt (f 1 4 (by decide) (by omega))).symm) (f.ag hrr _ (by decide)), hW.ag (f.ag hrr _ (by decide)), (f 0 9 (by decide) (by omega)).trans (hC.trans (f 49 38 (by decide) (by omega)).symm), hS', hL.ag (Int.le_of_eq (congrArg Int32.toInt (f 6 9 (by decide) (by omega))).symm) (f.ag hrr _ (by decide)), hG.ag (Int.le_of_eq (congrArg Int32.toInt (f 6 9 (by decide) (by omega))).symm) (f.ag hrr _ (by decide)), hD.ag (f.ag hrr _ (by decide))⟩, ⟨by omega, n2⟩, hz, fun a ha h9 k => hr3 a (by omega) h9 k, ?_, ?_⟩
  · rw [← hr4]
    exact f.row 1000000 rfl (by decide) (by omega)
  · rw [← hr5]
    exact f 1000001 0 (by decide) (by omega)
set_option maxRecDepth 100000 in
theorem g_20 {sc : Nat → Int32} {len : Int32} {I : xm_I} {L : xm_L} {n : Nat} {i : Int32} (h : GI sc len I L n) : sp_20 I L n i (GI sc len) := by
  obtain ⟨⟨hP, hF, hW, hC, hS, hL, hG, hD⟩, hr⟩ := id h
  unfold sp_20
  refine ok_mono (c_vertex hS) (fun p hp => ⟨hp.1, ok_mono hp.2 (fun q hq => ⟨hq.1, ?_⟩)⟩)
  obtain ⟨_, hor, hS'⟩ := hq
  rcases hor with e | ⟨r, r1, r2, f⟩
  · rw [e]
    exact h
  · obtain ⟨hr1, hr2, hr3, hr4, hr5⟩ := hr
    have hrr : 86 ≤ r ∧ r + 8 ≤ 1000 := by omega
    refine ⟨⟨hP.ag (f.ag hrr _ (by decide)), hF.ag (Int.le_of_eq (congrArg Int32.toInt (f 1 4 (by decide) (by omega))).symm) (f.ag hrr _ (by decide)), hW.ag (f.ag hrr _ (by decide)), (f 0 9 (by decide) (by omega)).trans (hC.trans (f 49 38 (by decide) (by omega)).symm), hS', hL.ag (Int.le_of_eq (congrArg Int32.toInt (f 6 9 (by decide) (by omega))).symm) (f.ag hrr _ (by decide)), hG.ag (Int.le_of_eq (congrArg Int32.toInt (f 6 9 (by decide) (by omega))).symm) (f.ag hrr _ (by decide)), hD.ag (f.ag hrr _ (by decide))⟩, hr1, fun a ha h9 k => ?_, hr3, ?_, ?_⟩
    · rw [f a k (fun hm => by rw [cd_hi (by omega)] at hm; simp only [List.mem_cons, List.not_mem_nil, or_false] at hm; omega) (by omega)]
      exact hr2 a ha h9 k
    · rw [← hr4]
      exact f.row 1000000 rfl (by decide) (by omega)
    · rw [← hr5]
      exact f 1000001 0 (by decide) (by omega)
set_option maxRecDepth 100000 in
theorem g_21 {sc : Nat → Int32} {len : Int32} {I : xm_I} {L : xm_L} {n : Nat} {i : Int32} (h : GI sc len I L n) : sp_21 I L n i (GI sc len) := by
  obtain ⟨⟨hP, hF, hW, hC, hS, hL, hG, hD⟩, hr⟩ := id h
  unfold sp_21
  refine ok_mono (c_face hS) (fun p hp => ⟨hp.1, ok_mono hp.2 (fun q hq => ⟨hq.1, ?_⟩)⟩)
  obtain ⟨_, hor, hS'⟩ := hq
  rcases hor with e | ⟨r, r1, r2, f⟩
  · rw [e]
    exact h
  · obtain ⟨hr1, hr2, hr3, hr4, hr5⟩ := hr
    have hrr : 86 ≤ r ∧ r + 8 ≤ 1000 := by omega
    refine ⟨⟨hP.ag (f.ag hrr _ (by decide)), hF.ag (Int.le_of_eq (congrArg Int32.toInt (f 1 4 (by decide) (by omega))).symm) (f.ag hrr _ (by decide)), hW.ag (f.ag hrr _ (by decide)), (f 0 9 (by decide) (by omega)).trans (hC.trans (f 49 38 (by decide) (by omega)).symm), hS', hL.ag (Int.le_of_eq (congrArg Int32.toInt (f 6 9 (by decide) (by omega))).symm) (f.ag hrr _ (by decide)), hG.ag (Int.le_of_eq (congrArg Int32.toInt (f 6 9 (by decide) (by omega))).symm) (f.ag hrr _ (by decide)), hD.ag (f.ag hrr _ (by decide))⟩, hr1, fun a ha h9 k => ?_, hr3, ?_, ?_⟩
    · rw [f a k (fun hm => by rw [cd_hi (by omega)] at hm; simp only [List.mem_cons, List.not_mem_nil, or_false] at hm; omega) (by omega)]
      exact hr2 a ha h9 k
    · rw [← hr4]
      exact f.row 1000000 rfl (by decide) (by omega)
    · rw [← hr5]
      exact f 1000001 0 (by decide) (by omega)
set_option maxRecDepth 100000 in
theorem g_22 {sc : Nat → Int32} {len : Int32} {I : xm_I} {L : xm_L} {n : Nat} {i : Int32} (h : GI sc len I L n) : sp_22 I L n i (GI sc len) := by
  obtain ⟨⟨hP, hF, hW, hC, hS, hL, hG, hD⟩, hr⟩ := id h
  unfold sp_22
  refine ok_mono (c_view hS) (fun p hp => ⟨hp.1, ok_mono hp.2 (fun q hq => ⟨hq.1, ?_⟩)⟩)
  obtain ⟨_, f, hS'⟩ := hq
  exact h.re f (by decide) (Fr.refl [] _) (by decide) ⟨hP.ag (f.ag _ (by decide)), hF.ag (Int.le_of_eq (congrArg Int32.toInt (f 1 4 (by decide))).symm) (f.ag _ (by decide)), hW.ag (f.ag _ (by decide)), (f 0 9 (by decide)).trans (hC.trans (f 49 38 (by decide)).symm), hS', hL.ag (Int.le_of_eq (congrArg Int32.toInt (f 6 9 (by decide))).symm) (f.ag _ (by decide)), hG.ag (Int.le_of_eq (congrArg Int32.toInt (f 6 9 (by decide))).symm) (f.ag _ (by decide)), hD.ag (f.ag _ (by decide))⟩
set_option maxRecDepth 100000 in
theorem g_23 {sc : Nat → Int32} {len : Int32} {I : xm_I} {L : xm_L} {n : Nat} {i : Int32} (h : GI sc len I L n) : sp_23 I L n i (GI sc len) := by
  obtain ⟨⟨hP, hF, hW, hC, hS, hL, hG, hD⟩, hr⟩ := id h
  unfold sp_23
  refine ok_mono (c_edge hS) (fun p hp => ok_mono hp (fun q hq => ⟨hq.1, ?_⟩))
  obtain ⟨_, f⟩ := hq
  exact h.re f (by decide) (Fr.refl [] _) (by decide) ⟨hP.ag (f.ag _ (by decide)), hF.ag (Int.le_of_eq (congrArg Int32.toInt (f 1 4 (by decide))).symm) (f.ag _ (by decide)), hW.ag (f.ag _ (by decide)), (f 0 9 (by decide)).trans (hC.trans (f 49 38 (by decide)).symm), hS.ag (Int.le_of_eq (congrArg Int32.toInt (f 1 4 (by decide))).symm) (f.ag _ (by decide)), hL.ag (Int.le_of_eq (congrArg Int32.toInt (f 6 9 (by decide))).symm) (f.ag _ (by decide)), hG.ag (Int.le_of_eq (congrArg Int32.toInt (f 6 9 (by decide))).symm) (f.ag _ (by decide)), hD.ag (f.ag _ (by decide))⟩
set_option maxRecDepth 100000 in
theorem g_24 {sc : Nat → Int32} {len : Int32} {I : xm_I} {L : xm_L} {n : Nat} {i : Int32} (h : GI sc len I L n) : sp_24 I L n i (GI sc len) := by
  obtain ⟨⟨hP, hF, hW, hC, hS, hL, hG, hD⟩, hr⟩ := id h
  unfold sp_24
  refine ok_mono (c_label hF hL) (fun p hp => ⟨hp.1, ok_mono hp.2 (fun q hq => ⟨hq.1, ?_⟩)⟩)
  obtain ⟨_, f, le, hL'⟩ := hq
  exact h.re f (by decide) (Fr.refl [] _) (by decide) ⟨hP.ag (f.ag _ (by decide)), hF.ag (Int.le_of_eq (congrArg Int32.toInt (f 1 4 (by decide))).symm) (f.ag _ (by decide)), hW.ag (f.ag _ (by decide)), (f 0 9 (by decide)).trans (hC.trans (f 49 38 (by decide)).symm), hS.ag (Int.le_of_eq (congrArg Int32.toInt (f 1 4 (by decide))).symm) (f.ag _ (by decide)), hL', hG.ag (Int.le_of_eq (congrArg Int32.toInt (f 6 9 (by decide))).symm) (f.ag _ (by decide)), hD.ag (f.ag _ (by decide))⟩
set_option maxRecDepth 100000 in
theorem g_25 {sc : Nat → Int32} {len : Int32} {I : xm_I} {L : xm_L} {n : Nat} {i : Int32} (h : GI sc len I L n) : sp_25 I L n i (GI sc len) := by
  obtain ⟨⟨hP, hF, hW, hC, hS, hL, hG, hD⟩, hr⟩ := id h
  unfold sp_25
  have hst : Sta n I I := ⟨⟨hP, hF, hW, hS, hL⟩, fun _ _ _ => rfl⟩
  refine ok_mono (c_draw (L := L) hst) (fun p hp => ⟨⟨hp.1.row 1000000 rfl (by decide), hp.1.row 1000001 rfl (by decide)⟩, ok_mono hp.2 (fun q hq => ⟨hq.1, ?_⟩)⟩)
  obtain ⟨_, hs', f2, hC', hD', fl⟩ := hq
  have f : Fr (WDC ++ WM) I q.2.1 := (hp.1.mono (fun x hx => List.mem_append_left _ hx)).trans (f2.mono (fun x hx => List.mem_append_right _ hx))
  exact h.re f (by decide) fl (by decide) ⟨hs'.1.1, hs'.1.2.1, hs'.1.2.2.1, hC', hs'.1.2.2.2.1, hs'.1.2.2.2.2, hG.ag (Int.le_of_eq (congrArg Int32.toInt (f 6 9 (by decide))).symm) (f.ag _ (by decide)), hD'⟩
set_option maxRecDepth 100000 in
theorem g_26 {sc : Nat → Int32} {len : Int32} {I : xm_I} {L : xm_L} {n : Nat} {i : Int32} (h : GI sc len I L n) : sp_26 I L n i (GI sc len) := by
  obtain ⟨⟨hP, hF, hW, hC, hS, hL, hG, hD⟩, hr⟩ := id h
  unfold sp_26
  exact ok_mono (c_mark hD) (fun p hp => ok_mono hp (fun q hq => ⟨hq, h⟩))
set_option maxRecDepth 100000 in
theorem g_27 {sc : Nat → Int32} {len : Int32} {I : xm_I} {L : xm_L} {n : Nat} {i : Int32} (h : GI sc len I L n) : sp_27 I L n i (GI sc len) := by
  obtain ⟨⟨hP, hF, hW, hC, hS, hL, hG, hD⟩, hr⟩ := id h
  unfold sp_27
  exact ok_mono (c_placed hL hD) (fun p hp => ok_mono hp (fun q hq => ⟨hq, h⟩))
set_option maxRecDepth 100000 in
theorem g_28 {sc : Nat → Int32} {len : Int32} {I : xm_I} {L : xm_L} {n : Nat} {i : Int32} (h : GI sc len I L n) : sp_28 I L n i (GI sc len) := by
  obtain ⟨⟨hP, hF, hW, hC, hS, hL, hG, hD⟩, hr⟩ := id h
  unfold sp_28
  refine ok_mono (c_octet hD) (fun p hp => ⟨hp.1, ok_mono hp.2 (fun q hq => ⟨hq.1, ?_⟩)⟩)
  obtain ⟨_, f⟩ := hq
  exact h.re f (by decide) (Fr.refl [] _) (by decide) ⟨hP.ag (f.ag _ (by decide)), hF.ag (Int.le_of_eq (congrArg Int32.toInt (f 1 4 (by decide))).symm) (f.ag _ (by decide)), hW.ag (f.ag _ (by decide)), (f 0 9 (by decide)).trans (hC.trans (f 49 38 (by decide)).symm), hS.ag (Int.le_of_eq (congrArg Int32.toInt (f 1 4 (by decide))).symm) (f.ag _ (by decide)), hL.ag (Int.le_of_eq (congrArg Int32.toInt (f 6 9 (by decide))).symm) (f.ag _ (by decide)), hG.ag (Int.le_of_eq (congrArg Int32.toInt (f 6 9 (by decide))).symm) (f.ag _ (by decide)), hD.ag (f.ag _ (by decide))⟩
set_option maxRecDepth 100000 in
theorem g_29 {sc : Nat → Int32} {len : Int32} {I : xm_I} {L : xm_L} {n : Nat} {i : Int32} (h : GI sc len I L n) : sp_29 I L n i (GI sc len) := by
  obtain ⟨⟨hP, hF, hW, hC, hS, hL, hG, hD⟩, hr⟩ := id h
  unfold sp_29
  exact ok_mono (c_digest hD) (fun p hp => ok_mono hp (fun q hq => ⟨hq, h⟩))
set_option maxRecDepth 100000 in
theorem g_30 {sc : Nat → Int32} {len : Int32} {I : xm_I} {L : xm_L} {n : Nat} {i : Int32} (h : GI sc len I L n) : sp_30 I L n i (GI sc len) := by
  obtain ⟨⟨hP, hF, hW, hC, hS, hL, hG, hD⟩, hr⟩ := id h
  unfold sp_30
  exact ok_mono (c_count hP hF hS hL hD) (fun p hp => ok_mono hp (fun q hq => ⟨hq, h⟩))
set_option maxRecDepth 100000 in
theorem g_31 {sc : Nat → Int32} {len : Int32} {I : xm_I} {L : xm_L} {n : Nat} {i : Int32} (h : GI sc len I L n) : sp_31 I L n i (GI sc len) := by
  obtain ⟨⟨hP, hF, hW, hC, hS, hL, hG, hD⟩, hr⟩ := id h
  unfold sp_31
  exact ok_mono (c_code hC) (fun p hp => ok_mono hp (fun q hq => ⟨hq, h⟩))
set_option maxRecDepth 100000 in
theorem g_32 {sc : Nat → Int32} {len : Int32} {I : xm_I} {L : xm_L} {n : Nat} {i : Int32} (h : GI sc len I L n) : sp_32 I L n i (GI sc len) := by
  obtain ⟨⟨hP, hF, hW, hC, hS, hL, hG, hD⟩, hr⟩ := id h
  unfold sp_32
  refine ok_mono (c_group hG hC) (fun p hp => ⟨hp.1, ok_mono hp.2 (fun q hq => ⟨hq.1, ?_⟩)⟩)
  obtain ⟨_, f, hC', hG'⟩ := hq
  exact h.re f (by decide) (Fr.refl [] _) (by decide) ⟨hP.ag (f.ag _ (by decide)), hF.ag (Int.le_of_eq (congrArg Int32.toInt (f 1 4 (by decide))).symm) (f.ag _ (by decide)), hW.ag (f.ag _ (by decide)), hC', hS.ag (Int.le_of_eq (congrArg Int32.toInt (f 1 4 (by decide))).symm) (f.ag _ (by decide)), hL.ag (Int.le_of_eq (congrArg Int32.toInt (f 6 9 (by decide))).symm) (f.ag _ (by decide)), hG', hD.ag (f.ag _ (by decide))⟩
set_option maxRecDepth 100000 in
theorem g_33 {sc : Nat → Int32} {len : Int32} {I : xm_I} {L : xm_L} {n : Nat} {i : Int32} (h : GI sc len I L n) : sp_33 I L n i (GI sc len) := by
  obtain ⟨⟨hP, hF, hW, hC, hS, hL, hG, hD⟩, hr⟩ := id h
  unfold sp_33
  refine ok_mono (c_put hF hG hC) (fun p hp => ⟨hp.1, ok_mono hp.2 (fun q hq => ⟨hq.1, ?_⟩)⟩)
  obtain ⟨_, f, hC', hG'⟩ := hq
  exact h.re f (by decide) (Fr.refl [] _) (by decide) ⟨hP.ag (f.ag _ (by decide)), hF.ag (Int.le_of_eq (congrArg Int32.toInt (f 1 4 (by decide))).symm) (f.ag _ (by decide)), hW.ag (f.ag _ (by decide)), hC', hS.ag (Int.le_of_eq (congrArg Int32.toInt (f 1 4 (by decide))).symm) (f.ag _ (by decide)), hL.ag (Int.le_of_eq (congrArg Int32.toInt (f 6 9 (by decide))).symm) (f.ag _ (by decide)), hG', hD.ag (f.ag _ (by decide))⟩
set_option maxRecDepth 100000 in
theorem g_34 {sc : Nat → Int32} {len : Int32} {I : xm_I} {L : xm_L} {n : Nat} {i : Int32} (h : GI sc len I L n) : sp_34 I L n i (GI sc len) := by
  obtain ⟨⟨hP, hF, hW, hC, hS, hL, hG, hD⟩, hr⟩ := id h
  unfold sp_34
  refine ok_mono (c_member hG hC) (fun p hp => ⟨hp.1, ok_mono hp.2 (fun q hq => ⟨hq.1, ?_⟩)⟩)
  obtain ⟨_, f, hC'⟩ := hq
  exact h.re f (by decide) (Fr.refl [] _) (by decide) ⟨hP.ag (f.ag _ (by decide)), hF.ag (Int.le_of_eq (congrArg Int32.toInt (f 1 4 (by decide))).symm) (f.ag _ (by decide)), hW.ag (f.ag _ (by decide)), hC', hS.ag (Int.le_of_eq (congrArg Int32.toInt (f 1 4 (by decide))).symm) (f.ag _ (by decide)), hL.ag (Int.le_of_eq (congrArg Int32.toInt (f 6 9 (by decide))).symm) (f.ag _ (by decide)), hG.ag (Int.le_of_eq (congrArg Int32.toInt (f 6 9 (by decide))).symm) (f.ag _ (by decide)), hD.ag (f.ag _ (by decide))⟩
set_option maxRecDepth 100000 in
theorem g_35 {sc : Nat → Int32} {len : Int32} {I : xm_I} {L : xm_L} {n : Nat} {i : Int32} (h : GI sc len I L n) : sp_35 I L n i (GI sc len) := by
  obtain ⟨⟨hP, hF, hW, hC, hS, hL, hG, hD⟩, hr⟩ := id h
  unfold sp_35
  refine ok_mono (c_paint hF hG hC) (fun p hp => ⟨hp.1, ok_mono hp.2 (fun q hq => ⟨hq.1, ?_⟩)⟩)
  obtain ⟨_, f, hC', hF'⟩ := hq
  exact h.re f (by decide) (Fr.refl [] _) (by decide) ⟨hP.ag (f.ag _ (by decide)), hF', hW.ag (f.ag _ (by decide)), hC', hS.ag (Int.le_of_eq (congrArg Int32.toInt (f 1 4 (by decide))).symm) (f.ag _ (by decide)), hL.ag (Int.le_of_eq (congrArg Int32.toInt (f 6 9 (by decide))).symm) (f.ag _ (by decide)), hG.ag (Int.le_of_eq (congrArg Int32.toInt (f 6 9 (by decide))).symm) (f.ag _ (by decide)), hD.ag (f.ag _ (by decide))⟩
set_option maxRecDepth 100000 in
theorem g_36 {sc : Nat → Int32} {len : Int32} {I : xm_I} {L : xm_L} {n : Nat} {i : Int32} (h : GI sc len I L n) : sp_36 I L n i (GI sc len) := by
  obtain ⟨⟨hP, hF, hW, hC, hS, hL, hG, hD⟩, hr⟩ := id h
  unfold sp_36
  refine ok_mono (c_reach hP hF hC) (fun p hp => ⟨hp.1, ok_mono hp.2 (fun q hq => ⟨hq.1, ?_⟩)⟩)
  obtain ⟨_, f, hC'⟩ := hq
  exact h.re f (by decide) (Fr.refl [] _) (by decide) ⟨hP.ag (f.ag _ (by decide)), hF.ag (Int.le_of_eq (congrArg Int32.toInt (f 1 4 (by decide))).symm) (f.ag _ (by decide)), hW.ag (f.ag _ (by decide)), hC', hS.ag (Int.le_of_eq (congrArg Int32.toInt (f 1 4 (by decide))).symm) (f.ag _ (by decide)), hL.ag (Int.le_of_eq (congrArg Int32.toInt (f 6 9 (by decide))).symm) (f.ag _ (by decide)), hG.ag (Int.le_of_eq (congrArg Int32.toInt (f 6 9 (by decide))).symm) (f.ag _ (by decide)), hD.ag (f.ag _ (by decide))⟩
theorem g_all {sc : Nat → Int32} {len : Int32} {I : xm_I} {L : xm_L} {n : Nat} {i : Int32} (h : GI sc len I L n) : xl_all I L n i (GI sc len) := by
  unfold xl_all
  exact ⟨g_0 h, g_1 h, g_2 h, g_3 h, g_4 h, g_5 h, g_6 h, g_7 h, g_8 h, g_9 h, g_10 h, g_11 h, g_12 h, g_13 h, g_14 h, g_15 h, g_16 h, g_17 h, g_18 h, g_19 h, g_20 h, g_21 h, g_22 h, g_23 h, g_24 h, g_25 h, g_26 h, g_27 h, g_28 h, g_29 h, g_30 h, g_31 h, g_32 h, g_33 h, g_34 h, g_35 h, g_36 h⟩
theorem GI.ok {sc : Nat → Int32} {len : Int32} (I : xm_I) (L : xm_L) (n : Nat) (h : GI sc len I L n) : 86 ≤ n ∧ n ≤ 900 ∧ Fz I L (RC n) n ∧ I 1000001 0 = len := by
  obtain ⟨_, h1, h2, h3, h4, h5⟩ := h
  exact ⟨h1.1, by omega, RC_Fz h1.1 h2 h3, h5⟩
