/-! ===== turned: Pl_leastCostOf Pl_keepAsBest Pl_search Pl_findBest Lb_has Lb_lettersOf Lb_objectOf Pn_hasDrawn Pl_gatherGuests Lb_place Mk_isFull Mk_lose Mk_add Pl_markGuest Pl_leftFromAnchor Pn_anchorXOf Pn_anchorYOf Pl_setBoxes Pl_placeAll Mk_clear Pn_begin Fg_isDrawn Jm_floorDiv_I D_multipleFrom Jm_floorDiv_J D_roundedDown D_rounded Fr_sheetX Fr_sheetY Pn_anchor Pn_anchorArea D_multiplesWithin Pn_hatchStrokes ===== -/
noncomputable def f_Pl_leastCostOf_b38 (x1 : Int32) (x2 : Int32) (x3 : Int32) (I : xm_I) : Option ((Int32 × Int32) ⊕ (Int32)) :=
  let x3_1 : Int32 := x3 + 1
  some (.inl (x2, x3_1))
noncomputable def f_Pl_leastCostOf_b35 (x1 : Int32) (x3 : Int32) (x4 : Int32) (I : xm_I) : Option ((Int32 × Int32) ⊕ (Int32)) :=
  f_Pl_leastCostOf_b38 x1 x4 x3 I
noncomputable def f_Pl_leastCostOf_s4 (x1 : Int32) (I : xm_I) (s : Int32 × Int32) : Option ((Int32 × Int32) ⊕ (Int32)) :=
  if 8 ≤ s.2 then (
    some (.inr (s.1)))
  else (
  (f_Pl_costOf x1 s.2 I).bind fun p_1 =>
  if p_1 = ((-1)) then (
    f_Pl_leastCostOf_b38 x1 s.1 s.2 I)
  else (
  if s.1 = ((-1)) then (
    f_Pl_leastCostOf_b35 x1 s.2 p_1 I)
  else (
  if s.1 ≤ p_1 then (
    f_Pl_leastCostOf_b38 x1 s.1 s.2 I)
  else (
  f_Pl_leastCostOf_b35 x1 s.2 p_1 I))))
noncomputable def f_Pl_leastCostOf_b4 (x1 : Int32) (I : xm_I) (s : Int32 × Int32) : Option (Int32) := lp (f_Pl_leastCostOf_s4 x1 I) s
noncomputable def f_Pl_leastCostOf_b0 (x1 : Int32) (I : xm_I) : Option (Int32) :=
  f_Pl_leastCostOf_b4 x1 I ((-1), 0)
noncomputable def f_Pl_leastCostOf (x1 : Int32) (I : xm_I) : Option (Int32) := f_Pl_leastCostOf_b0 x1 I
set_option maxHeartbeats 4000000 in
set_option maxRecDepth 100000 in
theorem t_Pl_leastCostOf_b38 {x1 : Int32} {x2 : Int32} {x3 : Int32} {n : Nat} {I : xm_I} {L : xm_L} {K : (Int32 × Int32) ⊕ (Int32) → Prop} {Q : Option Value → xm_H → Prop} (hn : 86 ≤ n) (hq : ∀ p : Int32, K (.inr p) → Q (some (.int p)) (I, L, RC n, n)) (hg0 : ∀ s : Int32 × Int32, K (.inl s) → xm_J 1 mt_Pl_leastCostOf 4 [(0, .ref 39), (1, .int x1), (2, .int s.1), (3, .int s.2)] [] (I, L, RC n, n) 0 0 Q) (hF : ok (f_Pl_leastCostOf_b38 x1 x2 x3 I) K) : xm_J 1 mt_Pl_leastCostOf 38 [(0, .ref 39), (1, .int x1), (2, .int x2), (3, .int x3)] [] (I, L, RC n, n) 0 0 Q := by
  unfold f_Pl_leastCostOf_b38 at hF
  refine q_iinc (i := 23) (k0 := 3) (Ls' := [(3, _), (0, _), (1, _), (2, _)]) rfl ki_1 rfl (Nat.le_of_ble_eq_true rfl) rfl ?_
  refine r_goto (i := 24) (tgt := 4) rfl (by decide) ?_
  refine xm_sub (Ls' := [(0, _), (1, _), (2, _), (3, _)]) [1, 2, 3, 0] rfl ?_
  have hJ := hg0 _ (ok_some hF)
  exact hJ
set_option maxHeartbeats 4000000 in
set_option maxRecDepth 100000 in
theorem t_Pl_leastCostOf_b35 {x1 : Int32} {x3 : Int32} {x4 : Int32} {n : Nat} {I : xm_I} {L : xm_L} {K : (Int32 × Int32) ⊕ (Int32) → Prop} {Q : Option Value → xm_H → Prop} (hn : 86 ≤ n) (hq : ∀ p : Int32, K (.inr p) → Q (some (.int p)) (I, L, RC n, n)) (hg0 : ∀ s : Int32 × Int32, K (.inl s) → xm_J 1 mt_Pl_leastCostOf 4 [(0, .ref 39), (1, .int x1), (2, .int s.1), (3, .int s.2)] [] (I, L, RC n, n) 0 0 Q) (hF : ok (f_Pl_leastCostOf_b35 x1 x3 x4 I) K) : xm_J 1 mt_Pl_leastCostOf 35 [(0, .ref 39), (1, .int x1), (3, .int x3), (4, .int x4)] [] (I, L, RC n, n) 0 0 Q := by
  unfold f_Pl_leastCostOf_b35 at hF
  refine r_iload (i := 21) (k0 := 3) rfl rfl ?_
  refine r_istore_n (i := 22) (Ls' := [(2, _), (0, _), (1, _), (3, _), (4, _)]) rfl rfl (Nat.le_of_ble_eq_true rfl) rfl ?_
  refine xm_sub (Ls' := [(0, _), (1, _), (2, _), (3, _)]) [1, 2, 0, 3] rfl ?_
  exact t_Pl_leastCostOf_b38 hn (fun p h => hq p h) (fun z h => hg0 z h) hF
set_option maxHeartbeats 4000000 in
set_option maxRecDepth 100000 in
theorem t_Pl_leastCostOf_s4 {x1 : Int32} {s : Int32 × Int32} {n : Nat} {I : xm_I} {L : xm_L} {K : (Int32 × Int32) ⊕ (Int32) → Prop} {Q : Option Value → xm_H → Prop} (hn : 86 ≤ n) (hq : ∀ p : Int32, K (.inr p) → Q (some (.int p)) (I, L, RC n, n)) (hg0 : ∀ s : Int32 × Int32, K (.inl s) → xm_J 1 mt_Pl_leastCostOf 4 [(0, .ref 39), (1, .int x1), (2, .int s.1), (3, .int s.2)] [] (I, L, RC n, n) 0 0 Q) (hF : ok (f_Pl_leastCostOf_s4 x1 I s) K) : xm_J 1 mt_Pl_leastCostOf 4 [(0, .ref 39), (1, .int x1), (2, .int s.1), (3, .int s.2)] [] (I, L, RC n, n) 0 0 Q := by
  unfold f_Pl_leastCostOf_s4 at hF
  refine r_iload_n (i := 4) (k0 := 3) rfl rfl rfl ?_
  refine r_bipush (v := 8) (i := 5) rfl kb_8 ?_
  refine r_icmpge (i := 6) (tgt := 44) rfl (by decide) (fun hc => ?_) (fun hc => ?_)
  · have hF := ok_it hc hF
    refine r_iload_n (i := 25) (k0 := 2) rfl rfl rfl ?_
    have hQ := hq _ (ok_some hF)
    exact r_ireturn (i := 26) rfl rfl rfl hQ
  have hF := ok_if hc hF
  refine r_aload_n (i := 7) (k0 := 0) rfl rfl rfl ?_
  refine r_iload_n (i := 8) (k0 := 1) rfl rfl rfl ?_
  refine r_iload_n (i := 9) (k0 := 3) rfl rfl rfl ?_
  refine c_V2I (i := 10) rfl vm_Pl_costOf lk_Pl_141 (t_Pl_costOf hn (ok_bind hF)) (Nat.le_of_ble_eq_true rfl) (xm_in rfl hn) rfl rfl (Nat.le_of_ble_eq_true rfl) (fun p_1 hF => ?_)
  refine r_istore (i := 11) (Ls' := [(4, _), (0, _), (1, _), (2, _), (3, _)]) rfl (Nat.le_of_ble_eq_true rfl) rfl ?_
  refine r_iload (i := 12) (k0 := 0) rfl rfl ?_
  refine r_iconst (v := (-1)) (i := 13) rfl ki_m1 ?_
  refine r_icmpeq (i := 14) (tgt := 38) rfl (by decide) (fun hc => ?_) (fun hc => ?_)
  · have hF := ok_it hc hF
    refine xm_sub (Ls' := [(0, _), (1, _), (2, _), (3, _)]) [1, 2, 3, 4] rfl ?_
    exact t_Pl_leastCostOf_b38 hn (fun p h => hq p h) (fun z h => hg0 z h) hF
  have hF := ok_if hc hF
  refine r_iload_n (i := 15) (k0 := 3) rfl rfl rfl ?_
  refine r_iconst (v := (-1)) (i := 16) rfl ki_m1 ?_
  refine r_icmpeq (i := 17) (tgt := 35) rfl (by decide) (fun hc => ?_) (fun hc => ?_)
  · have hF := ok_it hc hF
    refine xm_sub (Ls' := [(0, _), (1, _), (3, _), (4, _)]) [1, 2, 4, 0] rfl ?_
    exact t_Pl_leastCostOf_b35 hn (fun p h => hq p h) (fun z h => hg0 z h) hF
  have hF := ok_if hc hF
  refine r_iload (i := 18) (k0 := 0) rfl rfl ?_
  refine r_iload_n (i := 19) (k0 := 3) rfl rfl rfl ?_
  refine r_icmpge (i := 20) (tgt := 38) rfl (by decide) (fun hc => ?_) (fun hc => ?_)
  · have hF := ok_it hc hF
    refine xm_sub (Ls' := [(0, _), (1, _), (2, _), (3, _)]) [1, 2, 3, 4] rfl ?_
    exact t_Pl_leastCostOf_b38 hn (fun p h => hq p h) (fun z h => hg0 z h) hF
  have hF := ok_if hc hF
  refine xm_sub (Ls' := [(0, _), (1, _), (3, _), (4, _)]) [1, 2, 4, 0] rfl ?_
  exact t_Pl_leastCostOf_b35 hn (fun p h => hq p h) (fun z h => hg0 z h) hF
set_option maxHeartbeats 4000000 in
set_option maxRecDepth 100000 in
theorem t_Pl_leastCostOf_b4 {x1 : Int32} {s : Int32 × Int32} {n : Nat} {I : xm_I} {L : xm_L} {K : Int32 → Prop} {Q : Option Value → xm_H → Prop} (hn : 86 ≤ n) (hq : ∀ p : Int32, K p → Q (some (.int p)) (I, L, RC n, n)) (hF : ok (f_Pl_leastCostOf_b4 x1 I s) K) : xm_J 1 mt_Pl_leastCostOf 4 [(0, .ref 39), (1, .int x1), (2, .int s.1), (3, .int s.2)] [] (I, L, RC n, n) 0 0 Q :=
  lp_J (G := fun z => xm_J 1 mt_Pl_leastCostOf 4 [(0, .ref 39), (1, .int x1), (2, .int z.1), (3, .int z.2)] [] (I, L, RC n, n) 0 0 Q) (fun z hF => t_Pl_leastCostOf_s4 hn (fun p h => hq p h) (fun z h => h) hF) s hF
set_option maxHeartbeats 4000000 in
set_option maxRecDepth 100000 in
theorem t_Pl_leastCostOf_b0 {x1 : Int32} {n : Nat} {I : xm_I} {L : xm_L} {K : Int32 → Prop} {Q : Option Value → xm_H → Prop} (hn : 86 ≤ n) (hq : ∀ p : Int32, K p → Q (some (.int p)) (I, L, RC n, n)) (hF : ok (f_Pl_leastCostOf_b0 x1 I) K) : xm_J 1 mt_Pl_leastCostOf 0 [(0, .ref 39), (1, .int x1)] [] (I, L, RC n, n) 0 0 Q := by
  unfold f_Pl_leastCostOf_b0 at hF
  refine r_iconst (v := (-1)) (i := 0) rfl ki_m1 ?_
  refine r_istore_n (i := 1) (Ls' := [(2, _), (0, _), (1, _)]) rfl rfl (Nat.le_of_ble_eq_true rfl) rfl ?_
  refine r_iconst (v := 0) (i := 2) rfl ki_0 ?_
  refine r_istore_n (i := 3) (Ls' := [(3, _), (2, _), (0, _), (1, _)]) rfl rfl (Nat.le_of_ble_eq_true rfl) rfl ?_
  refine xm_sub (Ls' := [(0, _), (1, _), (2, _), (3, _)]) [2, 3, 1, 0] rfl ?_
  exact t_Pl_leastCostOf_b4 hn (fun p h => hq p h) hF
set_option maxHeartbeats 4000000 in
set_option maxRecDepth 100000 in
theorem t_Pl_leastCostOf {x1 : Int32} {n : Nat} {I : xm_I} {L : xm_L} {K : Int32 → Prop} (hn : 86 ≤ n) (hF : ok (f_Pl_leastCostOf x1 I) K) : xm_C 1 mt_Pl_leastCostOf [.ref 39, .int x1] (I, L, RC n, n) 0 0 (pI (fun p : Int32 => p) (fun p : Int32 => (I, L, RC n, n)) K) := by
  unfold f_Pl_leastCostOf at hF
  refine xm_enter (by decide +kernel) dv_Pl_leastCostOf (Nat.le_of_ble_eq_true rfl) ?_
  exact t_Pl_leastCostOf_b0 hn (fun p hp => ⟨p, rfl, rfl, hp⟩) hF

noncomputable def f_Pl_keepAsBest_s12 (s : Int32 × xm_I) : Option ((Int32 × xm_I) ⊕ (xm_I)) :=
  if (s.2 39 13) ≤ s.1 then (
    some (.inr (s.2)))
  else (
  if 6 ≤ s.1 then (
    some (.inr (s.2)))
  else (
  gd (0 ≤ (s.1).toInt ∧ (s.1).toInt < 20) <|
  gd (0 ≤ (s.1).toInt ∧ (s.1).toInt < 6) <|
  let I_1 : xm_I := up2 s.2 46 (Int32.toNatClampNeg s.1) (s.2 42 (Int32.toNatClampNeg s.1))
  let x3_2 : Int32 := s.1 + 1
  some (.inl (x3_2, I_1))))
noncomputable def f_Pl_keepAsBest_b12 (s : Int32 × xm_I) : Option (xm_I) := lp (f_Pl_keepAsBest_s12) s
noncomputable def f_Pl_keepAsBest_b0 (x1 : Int32) (x2 : Int32) (I : xm_I) : Option (xm_I) :=
  let I_1 : xm_I := up2 I 39 14 x1
  let I_2 : xm_I := up2 I_1 39 15 x2
  f_Pl_keepAsBest_b12 (0, I_2)
noncomputable def f_Pl_keepAsBest (x1 : Int32) (x2 : Int32) (I : xm_I) : Option (xm_I) := f_Pl_keepAsBest_b0 x1 x2 I
set_option maxHeartbeats 4000000 in
set_option maxRecDepth 100000 in
theorem t_Pl_keepAsBest_s12 {s : Int32 × xm_I} {n : Nat} {L : xm_L} {K : (Int32 × xm_I) ⊕ (xm_I) → Prop} {Q : Option Value → xm_H → Prop} (hn : 86 ≤ n) (hq : ∀ p : xm_I, K (.inr p) → Q none (p, L, RC n, n)) (hg0 : ∀ s : Int32 × xm_I, K (.inl s) → xm_J 0 mt_Pl_keepAsBest 12 [(0, .ref 39), (3, .int s.1)] [] (s.2, L, RC n, n) 0 0 Q) (hF : ok (f_Pl_keepAsBest_s12 s) K) : xm_J 0 mt_Pl_keepAsBest 12 [(0, .ref 39), (3, .int s.1)] [] (s.2, L, RC n, n) 0 0 Q := by
  unfold f_Pl_keepAsBest_s12 at hF
  refine r_iload_n (i := 8) (k0 := 1) rfl rfl rfl ?_
  refine r_aload_n (i := 9) (k0 := 0) rfl rfl rfl ?_
  refine q_geti (i := 10) rfl fl_Pl_61 (xm_in rfl hn) rfl ?_
  refine r_icmpge (i := 11) (tgt := 44) rfl (by decide) (fun hc => ?_) (fun hc => ?_)
  · have hF := ok_it hc hF
    have hQ := hq _ (ok_some hF)
    exact r_return (i := 25) rfl rfl hQ
  have hF := ok_if hc hF
  refine r_iload_n (i := 12) (k0 := 1) rfl rfl rfl ?_
  refine r_bipush (v := 6) (i := 13) rfl kb_6 ?_
  refine r_icmpge (i := 14) (tgt := 44) rfl (by decide) (fun hc => ?_) (fun hc => ?_)
  · have hF := ok_it hc hF
    have hQ := hq _ (ok_some hF)
    exact r_return (i := 25) rfl rfl hQ
  have hF := ok_if hc hF
  refine r_aload_n (i := 15) (k0 := 0) rfl rfl rfl ?_
  refine q_getr (b := 46) (i := 16) rfl fl_Pl_30 rfl (xm_in rfl hn) rfl rfl ?_
  refine r_iload_n (i := 17) (k0 := 1) rfl rfl rfl ?_
  refine r_aload_n (i := 18) (k0 := 0) rfl rfl rfl ?_
  refine q_getr (b := 42) (i := 19) rfl fl_Pl_18 rfl (xm_in rfl hn) rfl rfl ?_
  refine r_iload_n (i := 20) (k0 := 1) rfl rfl rfl ?_
  obtain ⟨hi, hF⟩ := ok_gd hF
  refine q_iaload (i := 21) rfl (xm_in rfl hn) rfl hi ?_
  obtain ⟨hi, hF⟩ := ok_gd hF
  refine q_iastore (i := 22) rfl (xm_in rfl hn) rfl hi ?_
  refine q_iinc (i := 23) (k0 := 1) (Ls' := [(3, _), (0, _)]) rfl ki_1 rfl (Nat.le_of_ble_eq_true rfl) rfl ?_
  refine r_goto (i := 24) (tgt := 12) rfl (by decide) ?_
  refine xm_sub (Ls' := [(0, _), (3, _)]) [1, 0] rfl ?_
  have hJ := hg0 _ (ok_some hF)
  exact hJ
set_option maxHeartbeats 4000000 in
set_option maxRecDepth 100000 in
theorem t_Pl_keepAsBest_b12 {s : Int32 × xm_I} {n : Nat} {L : xm_L} {K : xm_I → Prop} {Q : Option Value → xm_H → Prop} (hn : 86 ≤ n) (hq : ∀ p : xm_I, K p → Q none (p, L, RC n, n)) (hF : ok (f_Pl_keepAsBest_b12 s) K) : xm_J 0 mt_Pl_keepAsBest 12 [(0, .ref 39), (3, .int s.1)] [] (s.2, L, RC n, n) 0 0 Q :=
  lp_J (G := fun z => xm_J 0 mt_Pl_keepAsBest 12 [(0, .ref 39), (3, .int z.1)] [] (z.2, L, RC n, n) 0 0 Q) (fun z hF => t_Pl_keepAsBest_s12 hn (fun p h => hq p h) (fun z h => h) hF) s hF
set_option maxHeartbeats 4000000 in
set_option maxRecDepth 100000 in
theorem t_Pl_keepAsBest_b0 {x1 : Int32} {x2 : Int32} {n : Nat} {I : xm_I} {L : xm_L} {K : xm_I → Prop} {Q : Option Value → xm_H → Prop} (hn : 86 ≤ n) (hq : ∀ p : xm_I, K p → Q none (p, L, RC n, n)) (hF : ok (f_Pl_keepAsBest_b0 x1 x2 I) K) : xm_J 0 mt_Pl_keepAsBest 0 [(0, .ref 39), (1, .int x1), (2, .int x2)] [] (I, L, RC n, n) 0 0 Q := by
  unfold f_Pl_keepAsBest_b0 at hF
  refine r_aload_n (i := 0) (k0 := 0) rfl rfl rfl ?_
  refine r_iload_n (i := 1) (k0 := 1) rfl rfl rfl ?_
  refine q_puti (i := 2) rfl fl_Pl_158 (fun h => Bool.noConfusion h) (xm_in rfl hn) rfl ?_
  refine r_aload_n (i := 3) (k0 := 0) rfl rfl rfl ?_
  refine r_iload_n (i := 4) (k0 := 2) rfl rfl rfl ?_
  refine q_puti (i := 5) rfl fl_Pl_161 (fun h => Bool.noConfusion h) (xm_in rfl hn) rfl ?_
  refine r_iconst (v := 0) (i := 6) rfl ki_0 ?_
  refine r_istore_n (i := 7) (Ls' := [(3, _), (0, _), (1, _), (2, _)]) rfl rfl (Nat.le_of_ble_eq_true rfl) rfl ?_
  refine xm_sub (Ls' := [(0, _), (3, _)]) [1, 0] rfl ?_
  exact t_Pl_keepAsBest_b12 hn (fun p h => hq p h) hF
set_option maxHeartbeats 4000000 in
set_option maxRecDepth 100000 in
theorem t_Pl_keepAsBest {x1 : Int32} {x2 : Int32} {n : Nat} {I : xm_I} {L : xm_L} {K : xm_I → Prop} (hn : 86 ≤ n) (hF : ok (f_Pl_keepAsBest x1 x2 I) K) : xm_C 0 mt_Pl_keepAsBest [.ref 39, .int x1, .int x2] (I, L, RC n, n) 0 0 (pV (fun p : xm_I => (p, L, RC n, n)) K) := by
  unfold f_Pl_keepAsBest at hF
  refine xm_enter (by decide +kernel) dv_Pl_keepAsBest (Nat.le_of_ble_eq_true rfl) ?_
  exact t_Pl_keepAsBest_b0 hn (fun p hp => ⟨p, rfl, rfl, hp⟩) hF

noncomputable def f_Pl_search_b124 (x1 : Int32) (x2 : Int32) (x3 : Int32) (x5 : Int32) (I : xm_I) (rc : Int32 → Int32 → Int32 → xm_I → Option xm_I) : Option ((Int32 × xm_I) ⊕ (xm_I)) :=
  let x5_1 : Int32 := x5 + 1
  some (.inl (x5_1, I))
noncomputable def f_Pl_search_s81 (x1 : Int32) (x2 : Int32) (x3 : Int32) (rc : Int32 → Int32 → Int32 → xm_I → Option xm_I) (s : Int32 × xm_I) : Option ((Int32 × xm_I) ⊕ (xm_I)) :=
  if 8 ≤ s.1 then (
    gd (0 ≤ (x1).toInt ∧ (x1).toInt < 20) <|
    let I_1 : xm_I := up2 s.2 42 (Int32.toNatClampNeg x1) 8
    (rc (x1 + 1) (x2 + 1) x3 I_1).bind fun p_2 =>
    some (.inr (p_2)))
  else (
  (f_Pl_isFree x1 s.1 x1 s.2).bind fun p_3 =>
  if p_3 = 0 then (
    f_Pl_search_b124 x1 x2 x3 s.1 s.2 rc)
  else (
  gd (0 ≤ (x1).toInt ∧ (x1).toInt < 20) <|
  let I_4 : xm_I := up2 s.2 42 (Int32.toNatClampNeg x1) s.1
  (f_Pl_costOf x1 s.1 I_4).bind fun p_5 =>
  (rc (x1 + 1) x2 (x3 + p_5) I_4).bind fun p_6 =>
  f_Pl_search_b124 x1 x2 x3 s.1 p_6 rc))
noncomputable def f_Pl_search_b81 (x1 : Int32) (x2 : Int32) (x3 : Int32) (rc : Int32 → Int32 → Int32 → xm_I → Option xm_I) (s : Int32 × xm_I) : Option (xm_I) := lp (f_Pl_search_s81 x1 x2 x3 rc) s
noncomputable def f_Pl_search_b63 (x1 : Int32) (x2 : Int32) (x3 : Int32) (I : xm_I) (rc : Int32 → Int32 → Int32 → xm_I → Option xm_I) : Option (xm_I) :=
  if x1 = (I 39 13) then (
    (f_Pl_keepAsBest x2 x3 I).bind fun p_1 =>
    some (p_1))
  else (
    f_Pl_search_b81 x1 x2 x3 rc (0, I))
noncomputable def f_Pl_search_b0 (x1 : Int32) (x2 : Int32) (x3 : Int32) (I : xm_I) (rc : Int32 → Int32 → Int32 → xm_I → Option xm_I) : Option (xm_I) :=
  if x1 < 0 then (
    some (I))
  else (
  if (I 39 13) < x1 then (
    some (I))
  else (
  if x1 ≤ 6 then (
    gd (0 ≤ (x1).toInt ∧ (x1).toInt < 7) <|
    let x4_1 : Int32 := x2 + (I 48 (Int32.toNatClampNeg x1))
    if (I 39 14) < x4_1 then (
      some (I))
    else (
    if x4_1 = (I 39 14) then (
      gd (0 ≤ (x1).toInt ∧ (x1).toInt < 7) <|
      if (x3 + (I 47 (Int32.toNatClampNeg x1))) < (I 39 15) then (
        f_Pl_search_b63 x1 x2 x3 I rc)
      else (
      some (I)))
    else (
      f_Pl_search_b63 x1 x2 x3 I rc)))
  else (
  some (I))))
noncomputable def f_Pl_search_o (x1 : Int32) (x2 : Int32) (x3 : Int32) (I : xm_I) (rc : Int32 → Int32 → Int32 → xm_I → Option xm_I) : Option (xm_I) := f_Pl_search_b0 x1 x2 x3 I rc
set_option maxHeartbeats 4000000 in
set_option maxRecDepth 100000 in
theorem t_Pl_search_b124 {x1 : Int32} {x2 : Int32} {x3 : Int32} {x5 : Int32} {dd dr : Nat} {rc : Int32 → Int32 → Int32 → xm_I → Option xm_I} {n : Nat} {I : xm_I} {L : xm_L} {K : (Int32 × xm_I) ⊕ (xm_I) → Prop} {Q : Option Value → xm_H → Prop} (hn : 86 ≤ n) (hdr : dr + 1 ≤ dd) (hd2 : 2 ≤ dd) (hrc : ∀ (x1 x2 x3 : Int32) (I : xm_I) (L : xm_L) (n : Nat) (K : xm_I → Prop), 86 ≤ n → ok (rc x1 x2 x3 I) K → xm_C dr mt_Pl_search [.ref 39, .int x1, .int x2, .int x3] (I, L, RC n, n) 0 0 (pV (fun p => (p, L, RC n, n)) K)) (hq : ∀ p : xm_I, K (.inr p) → Q none (p, L, RC n, n)) (hg0 : ∀ s : Int32 × xm_I, K (.inl s) → xm_J dd mt_Pl_search 81 [(0, .ref 39), (1, .int x1), (2, .int x2), (3, .int x3), (5, .int s.1)] [] (s.2, L, RC n, n) 0 0 Q) (hF : ok (f_Pl_search_b124 x1 x2 x3 x5 I rc) K) : xm_J dd mt_Pl_search 124 [(0, .ref 39), (1, .int x1), (2, .int x2), (3, .int x3), (5, .int x5)] [] (I, L, RC n, n) 0 0 Q := by
  unfold f_Pl_search_b124 at hF
  refine q_iinc (i := 72) (k0 := 4) (Ls' := [(5, _), (0, _), (1, _), (2, _), (3, _)]) rfl ki_1 rfl (Nat.le_of_ble_eq_true rfl) rfl ?_
  refine r_goto (i := 73) (tgt := 81) rfl (by decide) ?_
  refine xm_sub (Ls' := [(0, _), (1, _), (2, _), (3, _), (5, _)]) [1, 2, 3, 4, 0] rfl ?_
  have hJ := hg0 _ (ok_some hF)
  exact hJ
set_option maxHeartbeats 4000000 in
set_option maxRecDepth 100000 in
theorem t_Pl_search_s81 {x1 : Int32} {x2 : Int32} {x3 : Int32} {dd dr : Nat} {rc : Int32 → Int32 → Int32 → xm_I → Option xm_I} {s : Int32 × xm_I} {n : Nat} {L : xm_L} {K : (Int32 × xm_I) ⊕ (xm_I) → Prop} {Q : Option Value → xm_H → Prop} (hn : 86 ≤ n) (hdr : dr + 1 ≤ dd) (hd2 : 2 ≤ dd) (hrc : ∀ (x1 x2 x3 : Int32) (I : xm_I) (L : xm_L) (n : Nat) (K : xm_I → Prop), 86 ≤ n → ok (rc x1 x2 x3 I) K → xm_C dr mt_Pl_search [.ref 39, .int x1, .int x2, .int x3] (I, L, RC n, n) 0 0 (pV (fun p => (p, L, RC n, n)) K)) (hq : ∀ p : xm_I, K (.inr p) → Q none (p, L, RC n, n)) (hg0 : ∀ s : Int32 × xm_I, K (.inl s) → xm_J dd mt_Pl_search 81 [(0, .ref 39), (1, .int x1), (2, .int x2), (3, .int x3), (5, .int s.1)] [] (s.2, L, RC n, n) 0 0 Q) (hF : ok (f_Pl_search_s81 x1 x2 x3 rc s) K) : xm_J dd mt_Pl_search 81 [(0, .ref 39), (1, .int x1), (2, .int x2), (3, .int x3), (5, .int s.1)] [] (s.2, L, RC n, n) 0 0 Q := by
  unfold f_Pl_search_s81 at hF
  refine r_iload (i := 46) (k0 := 4) rfl rfl ?_
  refine r_bipush (v := 8) (i := 47) rfl kb_8 ?_
  refine r_icmpge (i := 48) (tgt := 130) rfl (by decide) (fun hc => ?_) (fun hc => ?_)
  · have hF := ok_it hc hF
    refine r_aload_n (i := 74) (k0 := 0) rfl rfl rfl ?_
    refine q_getr (b := 42) (i := 75) rfl fl_Pl_18 rfl (xm_in rfl hn) rfl rfl ?_
    refine r_iload_n (i := 76) (k0 := 1) rfl rfl rfl ?_
    refine r_bipush (v := 8) (i := 77) rfl kb_8 ?_
    obtain ⟨hi, hF⟩ := ok_gd hF
    refine q_iastore (i := 78) rfl (xm_in rfl hn) rfl hi ?_
    refine r_aload_n (i := 79) (k0 := 0) rfl rfl rfl ?_
    refine r_iload_n (i := 80) (k0 := 1) rfl rfl rfl ?_
    refine r_iconst (v := 1) (i := 81) rfl ki_1 ?_
    refine r_iadd (i := 82) rfl ?_
    refine r_iload_n (i := 83) (k0 := 2) rfl rfl rfl ?_
    refine r_iconst (v := 1) (i := 84) rfl ki_1 ?_
    refine r_iadd (i := 85) rfl ?_
    refine r_iload_n (i := 86) (k0 := 3) rfl rfl rfl ?_
    refine c_V3V (i := 87) rfl vm_Pl_search lk_Pl_154 (hrc _ _ _ _ _ _ _ hn (ok_bind hF)) hdr (xm_in rfl hn) rfl rfl (Nat.le_of_ble_eq_true rfl) (fun p_2 hF => ?_)
    have hQ := hq _ (ok_some hF)
    exact r_return (i := 88) rfl rfl hQ
  have hF := ok_if hc hF
  refine r_aload_n (i := 49) (k0 := 0) rfl rfl rfl ?_
  refine r_iload_n (i := 50) (k0 := 1) rfl rfl rfl ?_
  refine r_iload (i := 51) (k0 := 4) rfl rfl ?_
  refine r_iload_n (i := 52) (k0 := 1) rfl rfl rfl ?_
  refine c_V3I (i := 53) rfl vm_Pl_isFree lk_Pl_168 (t_Pl_isFree hn (ok_bind hF)) (by omega) (xm_in rfl hn) rfl rfl (Nat.le_of_ble_eq_true rfl) (fun p_3 hF => ?_)
  refine r_ifeq (i := 54) (tgt := 124) rfl (by decide) (fun hc => ?_) (fun hc => ?_)
  · have hF := ok_it hc hF
    exact t_Pl_search_b124 hn hdr hd2 hrc (fun p h => hq p h) (fun z h => hg0 z h) hF
  have hF := ok_if hc hF
  refine r_aload_n (i := 55) (k0 := 0) rfl rfl rfl ?_
  refine q_getr (b := 42) (i := 56) rfl fl_Pl_18 rfl (xm_in rfl hn) rfl rfl ?_
  refine r_iload_n (i := 57) (k0 := 1) rfl rfl rfl ?_
  refine r_iload (i := 58) (k0 := 4) rfl rfl ?_
  obtain ⟨hi, hF⟩ := ok_gd hF
  refine q_iastore (i := 59) rfl (xm_in rfl hn) rfl hi ?_
  refine r_aload_n (i := 60) (k0 := 0) rfl rfl rfl ?_
  refine r_iload_n (i := 61) (k0 := 1) rfl rfl rfl ?_
  refine r_iconst (v := 1) (i := 62) rfl ki_1 ?_
  refine r_iadd (i := 63) rfl ?_
  refine r_iload_n (i := 64) (k0 := 2) rfl rfl rfl ?_
  refine r_iload_n (i := 65) (k0 := 3) rfl rfl rfl ?_
  refine r_aload_n (i := 66) (k0 := 0) rfl rfl rfl ?_
  refine r_iload_n (i := 67) (k0 := 1) rfl rfl rfl ?_
  refine r_iload (i := 68) (k0 := 4) rfl rfl ?_
  refine c_V2I (i := 69) rfl vm_Pl_costOf lk_Pl_141 (t_Pl_costOf hn (ok_bind hF)) (by omega) (xm_in rfl hn) rfl rfl (Nat.le_of_ble_eq_true rfl) (fun p_5 hF => ?_)
  refine r_iadd (i := 70) rfl ?_
  refine c_V3V (i := 71) rfl vm_Pl_search lk_Pl_154 (hrc _ _ _ _ _ _ _ hn (ok_bind hF)) hdr (xm_in rfl hn) rfl rfl (Nat.le_of_ble_eq_true rfl) (fun p_6 hF => ?_)
  exact t_Pl_search_b124 hn hdr hd2 hrc (fun p h => hq p h) (fun z h => hg0 z h) hF
set_option maxHeartbeats 4000000 in
set_option maxRecDepth 100000 in
theorem t_Pl_search_b81 {x1 : Int32} {x2 : Int32} {x3 : Int32} {dd dr : Nat} {rc : Int32 → Int32 → Int32 → xm_I → Option xm_I} {s : Int32 × xm_I} {n : Nat} {L : xm_L} {K : xm_I → Prop} {Q : Option Value → xm_H → Prop} (hn : 86 ≤ n) (hdr : dr + 1 ≤ dd) (hd2 : 2 ≤ dd) (hrc : ∀ (x1 x2 x3 : Int32) (I : xm_I) (L : xm_L) (n : Nat) (K : xm_I → Prop), 86 ≤ n → ok (rc x1 x2 x3 I) K → xm_C dr mt_Pl_search [.ref 39, .int x1, .int x2, .int x3] (I, L, RC n, n) 0 0 (pV (fun p => (p, L, RC n, n)) K)) (hq : ∀ p : xm_I, K p → Q none (p, L, RC n, n)) (hF : ok (f_Pl_search_b81 x1 x2 x3 rc s) K) : xm_J dd mt_Pl_search 81 [(0, .ref 39), (1, .int x1), (2, .int x2), (3, .int x3), (5, .int s.1)] [] (s.2, L, RC n, n) 0 0 Q :=
  lp_J (G := fun z => xm_J dd mt_Pl_search 81 [(0, .ref 39), (1, .int x1), (2, .int x2), (3, .int x3), (5, .int z.1)] [] (z.2, L, RC n, n) 0 0 Q) (fun z hF => t_Pl_search_s81 hn hdr hd2 hrc (fun p h => hq p h) (fun z h => h) hF) s hF
set_option maxHeartbeats 4000000 in
set_option maxRecDepth 100000 in
theorem t_Pl_search_b63 {x1 : Int32} {x2 : Int32} {x3 : Int32} {dd dr : Nat} {rc : Int32 → Int32 → Int32 → xm_I → Option xm_I} {n : Nat} {I : xm_I} {L : xm_L} {K : xm_I → Prop} {Q : Option Value → xm_H → Prop} (hn : 86 ≤ n) (hdr : dr + 1 ≤ dd) (hd2 : 2 ≤ dd) (hrc : ∀ (x1 x2 x3 : Int32) (I : xm_I) (L : xm_L) (n : Nat) (K : xm_I → Prop), 86 ≤ n → ok (rc x1 x2 x3 I) K → xm_C dr mt_Pl_search [.ref 39, .int x1, .int x2, .int x3] (I, L, RC n, n) 0 0 (pV (fun p => (p, L, RC n, n)) K)) (hq : ∀ p : xm_I, K p → Q none (p, L, RC n, n)) (hF : ok (f_Pl_search_b63 x1 x2 x3 I rc) K) : xm_J dd mt_Pl_search 63 [(0, .ref 39), (1, .int x1), (2, .int x2), (3, .int x3)] [] (I, L, RC n, n) 0 0 Q := by
  unfold f_Pl_search_b63 at hF
  refine r_iload_n (i := 35) (k0 := 1) rfl rfl rfl ?_
  refine r_aload_n (i := 36) (k0 := 0) rfl rfl rfl ?_
  refine q_geti (i := 37) rfl fl_Pl_61 (xm_in rfl hn) rfl ?_
  refine r_icmpne (i := 38) (tgt := 78) rfl (by decide) (fun hc => ?_) (fun hc => ?_)
  · have hF := ok_if hc hF
    refine r_iconst (v := 0) (i := 44) rfl ki_0 ?_
    refine r_istore (i := 45) (Ls' := [(5, _), (0, _), (1, _), (2, _), (3, _)]) rfl (Nat.le_of_ble_eq_true rfl) rfl ?_
    refine xm_sub (Ls' := [(0, _), (1, _), (2, _), (3, _), (5, _)]) [1, 2, 3, 4, 0] rfl ?_
    exact t_Pl_search_b81 hn hdr hd2 hrc (fun p h => hq p h) hF
  have hF := ok_it hc hF
  refine r_aload_n (i := 39) (k0 := 0) rfl rfl rfl ?_
  refine r_iload_n (i := 40) (k0 := 2) rfl rfl rfl ?_
  refine r_iload_n (i := 41) (k0 := 3) rfl rfl rfl ?_
  refine c_V2V (i := 42) rfl vm_Pl_keepAsBest lk_Pl_164 (t_Pl_keepAsBest hn (ok_bind hF)) (by omega) (xm_in rfl hn) rfl rfl (Nat.le_of_ble_eq_true rfl) (fun p_1 hF => ?_)
  have hQ := hq _ (ok_some hF)
  exact r_return (i := 43) rfl rfl hQ
set_option maxHeartbeats 4000000 in
set_option maxRecDepth 100000 in
theorem t_Pl_search_b0 {x1 : Int32} {x2 : Int32} {x3 : Int32} {dd dr : Nat} {rc : Int32 → Int32 → Int32 → xm_I → Option xm_I} {n : Nat} {I : xm_I} {L : xm_L} {K : xm_I → Prop} {Q : Option Value → xm_H → Prop} (hn : 86 ≤ n) (hdr : dr + 1 ≤ dd) (hd2 : 2 ≤ dd) (hrc : ∀ (x1 x2 x3 : Int32) (I : xm_I) (L : xm_L) (n : Nat) (K : xm_I → Prop), 86 ≤ n → ok (rc x1 x2 x3 I) K → xm_C dr mt_Pl_search [.ref 39, .int x1, .int x2, .int x3] (I, L, RC n, n) 0 0 (pV (fun p => (p, L, RC n, n)) K)) (hq : ∀ p : xm_I, K p → Q none (p, L, RC n, n)) (hF : ok (f_Pl_search_b0 x1 x2 x3 I rc) K) : xm_J dd mt_Pl_search 0 [(0, .ref 39), (1, .int x1), (2, .int x2), (3, .int x3)] [] (I, L, RC n, n) 0 0 Q := by
  unfold f_Pl_search_b0 at hF
  refine r_iload_n (i := 0) (k0 := 1) rfl rfl rfl ?_
  refine r_iflt (i := 1) (tgt := 18) rfl (by decide) (fun hc => ?_) (fun hc => ?_)
  · have hF := ok_it hc hF
    have hQ := hq _ (ok_some hF)
    exact r_return (i := 9) rfl rfl hQ
  have hF := ok_if hc hF
  refine r_iload_n (i := 2) (k0 := 1) rfl rfl rfl ?_
  refine r_aload_n (i := 3) (k0 := 0) rfl rfl rfl ?_
  refine q_geti (i := 4) rfl fl_Pl_61 (xm_in rfl hn) rfl ?_
  refine r_icmpgt (i := 5) (tgt := 18) rfl (by decide) (fun hc => ?_) (fun hc => ?_)
  · have hF := ok_it hc hF
    have hQ := hq _ (ok_some hF)
    exact r_return (i := 9) rfl rfl hQ
  have hF := ok_if hc hF
  refine r_iload_n (i := 6) (k0 := 1) rfl rfl rfl ?_
  refine r_bipush (v := 6) (i := 7) rfl kb_6 ?_
  refine r_icmple (i := 8) (tgt := 19) rfl (by decide) (fun hc => ?_) (fun hc => ?_)
  · have hF := ok_it hc hF
    refine r_iload_n (i := 10) (k0 := 2) rfl rfl rfl ?_
    refine r_aload_n (i := 11) (k0 := 0) rfl rfl rfl ?_
    refine q_getr (b := 48) (i := 12) rfl fl_Pl_36 rfl (xm_in rfl hn) rfl rfl ?_
    refine r_iload_n (i := 13) (k0 := 1) rfl rfl rfl ?_
    obtain ⟨hi, hF⟩ := ok_gd hF
    refine q_iaload (i := 14) rfl (xm_in rfl hn) rfl hi ?_
    refine r_iadd (i := 15) rfl ?_
    refine r_istore (i := 16) (Ls' := [(4, _), (0, _), (1, _), (2, _), (3, _)]) rfl (Nat.le_of_ble_eq_true rfl) rfl ?_
    refine r_iload (i := 17) (k0 := 0) rfl rfl ?_
    refine r_aload_n (i := 18) (k0 := 1) rfl rfl rfl ?_
    refine q_geti (i := 19) rfl fl_Pl_158 (xm_in rfl hn) rfl ?_
    refine r_icmpgt (i := 20) (tgt := 62) rfl (by decide) (fun hc => ?_) (fun hc => ?_)
    · have hF := ok_it hc hF
      have hQ := hq _ (ok_some hF)
      exact r_return (i := 34) rfl rfl hQ
    have hF := ok_if hc hF
    refine r_iload (i := 21) (k0 := 0) rfl rfl ?_
    refine r_aload_n (i := 22) (k0 := 1) rfl rfl rfl ?_
    refine q_geti (i := 23) rfl fl_Pl_158 (xm_in rfl hn) rfl ?_
    refine r_icmpne (i := 24) (tgt := 63) rfl (by decide) (fun hc => ?_) (fun hc => ?_)
    · have hF := ok_if hc hF
      refine xm_sub (Ls' := [(0, _), (1, _), (2, _), (3, _)]) [1, 2, 3, 4] rfl ?_
      exact t_Pl_search_b63 hn hdr hd2 hrc (fun p h => hq p h) hF
    have hF := ok_it hc hF
    refine r_iload_n (i := 25) (k0 := 4) rfl rfl rfl ?_
    refine r_aload_n (i := 26) (k0 := 1) rfl rfl rfl ?_
    refine q_getr (b := 47) (i := 27) rfl fl_Pl_33 rfl (xm_in rfl hn) rfl rfl ?_
    refine r_iload_n (i := 28) (k0 := 2) rfl rfl rfl ?_
    obtain ⟨hi, hF⟩ := ok_gd hF
    refine q_iaload (i := 29) rfl (xm_in rfl hn) rfl hi ?_
    refine r_iadd (i := 30) rfl ?_
    refine r_aload_n (i := 31) (k0 := 1) rfl rfl rfl ?_
    refine q_geti (i := 32) rfl fl_Pl_161 (xm_in rfl hn) rfl ?_
    refine r_icmplt (i := 33) (tgt := 63) rfl (by decide) (fun hc => ?_) (fun hc => ?_)
    · have hF := ok_it hc hF
      refine xm_sub (Ls' := [(0, _), (1, _), (2, _), (3, _)]) [1, 2, 3, 4] rfl ?_
      exact t_Pl_search_b63 hn hdr hd2 hrc (fun p h => hq p h) hF
    have hF := ok_if hc hF
    have hQ := hq _ (ok_some hF)
    exact r_return (i := 34) rfl rfl hQ
  have hF := ok_if hc hF
  have hQ := hq _ (ok_some hF)
  exact r_return (i := 9) rfl rfl hQ
set_option maxHeartbeats 4000000 in
noncomputable def f_Pl_search : Nat → Int32 → Int32 → Int32 → xm_I → Option xm_I
  | 0, _, _, _, _ => none
  | k + 1, x1, x2, x3, I => f_Pl_search_o x1 x2 x3 I (f_Pl_search k)
theorem t_Pl_search_k : ∀ (k : Nat) (x1 x2 x3 : Int32) (I : xm_I) (L : xm_L) (n : Nat) (K : xm_I → Prop), 86 ≤ n → ok (f_Pl_search k x1 x2 x3 I) K → xm_C (k + 2) mt_Pl_search [.ref 39, .int x1, .int x2, .int x3] (I, L, RC n, n) 0 0 (pV (fun p => (p, L, RC n, n)) K)
  | 0, x1, x2, x3, I, L, n, K, hn, hF => by
    obtain ⟨_, hb, -⟩ := hF
    cases hb
  | k + 1, x1, x2, x3, I, L, n, K, hn, hF => by
    unfold f_Pl_search at hF
    unfold f_Pl_search_o at hF
    refine xm_enter (by decide +kernel) dv_Pl_search (Nat.le_of_ble_eq_true rfl) ?_
    exact t_Pl_search_b0 hn (dr := k + 2) (by omega) (by omega) (t_Pl_search_k k) (fun p hp => ⟨p, rfl, rfl, hp⟩) hF
theorem t_Pl_search {x1 x2 x3 : Int32} {n : Nat} {I : xm_I} {L : xm_L} {K : xm_I → Prop} (hn : 86 ≤ n) (hF : ok (f_Pl_search 8 x1 x2 x3 I) K) : xm_C 10 mt_Pl_search [.ref 39, .int x1, .int x2, .int x3] (I, L, RC n, n) 0 0 (pV (fun p => (p, L, RC n, n)) K) := t_Pl_search_k 8 x1 x2 x3 I L n K hn hF

noncomputable def f_Pl_findBest_s106 (s : Int32 × xm_I) : Option ((Int32 × xm_I) ⊕ (xm_I)) :=
  if (s.2 39 13) ≤ s.1 then (
    some (.inr (s.2)))
  else (
  gd (0 ≤ (s.1).toInt ∧ (s.1).toInt < 6) <|
  gd (0 ≤ (s.1).toInt ∧ (s.1).toInt < 20) <|
  let I_1 : xm_I := up2 s.2 42 (Int32.toNatClampNeg s.1) (s.2 46 (Int32.toNatClampNeg s.1))
  let x1_2 : Int32 := s.1 + 1
  some (.inl (x1_2, I_1)))
noncomputable def f_Pl_findBest_b106 (s : Int32 × xm_I) : Option (xm_I) := lp (f_Pl_findBest_s106) s
noncomputable def f_Pl_findBest_b85 (x1 : Int32) (y1 : Int32) (y2 : Int32) (y3 : Int32) (I : xm_I) : Option ((Int32 × xm_I) ⊕ (xm_I)) :=
  gd (0 ≤ (y1).toInt ∧ (y1).toInt < 7) <|
  let I_1 : xm_I := up2 I 48 (Int32.toNatClampNeg y1) (y2 + y3)
  let x1_2 : Int32 := x1 + (-1)
  some (.inl (x1_2, I_1))
noncomputable def f_Pl_findBest_b60 (x1 : Int32) (x2 : Int32) (y1 : Int32) (y2 : Int32) (y3 : Int32) (I : xm_I) : Option ((Int32 × xm_I) ⊕ (xm_I)) :=
  gd (0 ≤ (y1).toInt ∧ (y1).toInt < 7) <|
  let I_1 : xm_I := up2 I 47 (Int32.toNatClampNeg y1) (y2 + y3)
  gd (0 ≤ (x1 + 1).toInt ∧ (x1 + 1).toInt < 7) <|
  if x2 = ((-1)) then (
    f_Pl_findBest_b85 x1 x1 (I_1 48 (Int32.toNatClampNeg (x1 + 1))) 1 I_1)
  else (
    f_Pl_findBest_b85 x1 x1 (I_1 48 (Int32.toNatClampNeg (x1 + 1))) 0 I_1)
noncomputable def f_Pl_findBest_s27 (s : Int32 × xm_I) : Option ((Int32 × xm_I) ⊕ (xm_I)) :=
  if s.1 < 0 then (
    (f_Pl_boundByRounds s.2).bind fun p_1 =>
    (f_Pl_search 8 0 0 0 p_1).bind fun p_2 =>
    (f_Pl_findBest_b106 (0, p_2)).map .inr)
  else (
  (f_Pl_leastCostOf s.1 s.2).bind fun p_3 =>
  gd (0 ≤ (s.1 + 1).toInt ∧ (s.1 + 1).toInt < 7) <|
  if p_3 = ((-1)) then (
    f_Pl_findBest_b60 s.1 p_3 s.1 (s.2 47 (Int32.toNatClampNeg (s.1 + 1))) 0 s.2)
  else (
    f_Pl_findBest_b60 s.1 p_3 s.1 (s.2 47 (Int32.toNatClampNeg (s.1 + 1))) p_3 s.2))
noncomputable def f_Pl_findBest_b27 (s : Int32 × xm_I) : Option (xm_I) := lp (f_Pl_findBest_s27) s
noncomputable def f_Pl_findBest_b0 (I : xm_I) : Option (xm_I) :=
  gd (0 ≤ (I 39 13).toInt ∧ (I 39 13).toInt < 7) <|
  let I_1 : xm_I := up2 I 47 (Int32.toNatClampNeg (I 39 13)) 0
  gd (0 ≤ (I_1 39 13).toInt ∧ (I_1 39 13).toInt < 7) <|
  let I_2 : xm_I := up2 I_1 48 (Int32.toNatClampNeg (I_1 39 13)) 0
  let x1_3 : Int32 := (I_2 39 13) - 1
  f_Pl_findBest_b27 (x1_3, I_2)
noncomputable def f_Pl_findBest (I : xm_I) : Option (xm_I) := f_Pl_findBest_b0 I
set_option maxHeartbeats 4000000 in
set_option maxRecDepth 100000 in
theorem t_Pl_findBest_s106 {s : Int32 × xm_I} {n : Nat} {L : xm_L} {K : (Int32 × xm_I) ⊕ (xm_I) → Prop} {Q : Option Value → xm_H → Prop} (hn : 86 ≤ n) (hq : ∀ p : xm_I, K (.inr p) → Q none (p, L, RC n, n)) (hg0 : ∀ s : Int32 × xm_I, K (.inl s) → xm_J 11 mt_Pl_findBest 106 [(0, .ref 39), (1, .int s.1)] [] (s.2, L, RC n, n) 0 0 Q) (hF : ok (f_Pl_findBest_s106 s) K) : xm_J 11 mt_Pl_findBest 106 [(0, .ref 39), (1, .int s.1)] [] (s.2, L, RC n, n) 0 0 Q := by
  unfold f_Pl_findBest_s106 at hF
  refine r_iload_n (i := 68) (k0 := 1) rfl rfl rfl ?_
  refine r_aload_n (i := 69) (k0 := 0) rfl rfl rfl ?_
  refine q_geti (i := 70) rfl fl_Pl_61 (xm_in rfl hn) rfl ?_
  refine r_icmpge (i := 71) (tgt := 132) rfl (by decide) (fun hc => ?_) (fun hc => ?_)
  · have hF := ok_it hc hF
    have hQ := hq _ (ok_some hF)
    exact r_return (i := 82) rfl rfl hQ
  have hF := ok_if hc hF
  refine r_aload_n (i := 72) (k0 := 0) rfl rfl rfl ?_
  refine q_getr (b := 42) (i := 73) rfl fl_Pl_18 rfl (xm_in rfl hn) rfl rfl ?_
  refine r_iload_n (i := 74) (k0 := 1) rfl rfl rfl ?_
  refine r_aload_n (i := 75) (k0 := 0) rfl rfl rfl ?_
  refine q_getr (b := 46) (i := 76) rfl fl_Pl_30 rfl (xm_in rfl hn) rfl rfl ?_
  refine r_iload_n (i := 77) (k0 := 1) rfl rfl rfl ?_
  obtain ⟨hi, hF⟩ := ok_gd hF
  refine q_iaload (i := 78) rfl (xm_in rfl hn) rfl hi ?_
  obtain ⟨hi, hF⟩ := ok_gd hF
  refine q_iastore (i := 79) rfl (xm_in rfl hn) rfl hi ?_
  refine q_iinc (i := 80) (k0 := 1) (Ls' := [(1, _), (0, _)]) rfl ki_1 rfl (Nat.le_of_ble_eq_true rfl) rfl ?_
  refine r_goto (i := 81) (tgt := 106) rfl (by decide) ?_
  refine xm_sub (Ls' := [(0, _), (1, _)]) [1, 0] rfl ?_
  have hJ := hg0 _ (ok_some hF)
  exact hJ
set_option maxHeartbeats 4000000 in
set_option maxRecDepth 100000 in
theorem t_Pl_findBest_b106 {s : Int32 × xm_I} {n : Nat} {L : xm_L} {K : xm_I → Prop} {Q : Option Value → xm_H → Prop} (hn : 86 ≤ n) (hq : ∀ p : xm_I, K p → Q none (p, L, RC n, n)) (hF : ok (f_Pl_findBest_b106 s) K) : xm_J 11 mt_Pl_findBest 106 [(0, .ref 39), (1, .int s.1)] [] (s.2, L, RC n, n) 0 0 Q :=
  lp_J (G := fun z => xm_J 11 mt_Pl_findBest 106 [(0, .ref 39), (1, .int z.1)] [] (z.2, L, RC n, n) 0 0 Q) (fun z hF => t_Pl_findBest_s106 hn (fun p h => hq p h) (fun z h => h) hF) s hF
set_option maxHeartbeats 4000000 in
set_option maxRecDepth 100000 in
theorem t_Pl_findBest_b85 {x1 : Int32} {y1 : Int32} {y2 : Int32} {y3 : Int32} {n : Nat} {I : xm_I} {L : xm_L} {K : (Int32 × xm_I) ⊕ (xm_I) → Prop} {Q : Option Value → xm_H → Prop} (hn : 86 ≤ n) (hq : ∀ p : xm_I, K (.inr p) → Q none (p, L, RC n, n)) (hg0 : ∀ s : Int32 × xm_I, K (.inl s) → xm_J 11 mt_Pl_findBest 27 [(0, .ref 39), (1, .int s.1)] [] (s.2, L, RC n, n) 0 0 Q) (hF : ok (f_Pl_findBest_b85 x1 y1 y2 y3 I) K) : xm_J 11 mt_Pl_findBest 85 [(0, .ref 39), (1, .int x1)] [.int y3, .int y2, .int y1, .ref 48] (I, L, RC n, n) 0 0 Q := by
  unfold f_Pl_findBest_b85 at hF
  refine r_iadd (i := 55) rfl ?_
  obtain ⟨hi, hF⟩ := ok_gd hF
  refine q_iastore (i := 56) rfl (xm_in rfl hn) rfl hi ?_
  refine q_iinc (i := 57) (k0 := 1) (Ls' := [(1, _), (0, _)]) rfl ki_m1 rfl (Nat.le_of_ble_eq_true rfl) rfl ?_
  refine r_goto (i := 58) (tgt := 27) rfl (by decide) ?_
  refine xm_sub (Ls' := [(0, _), (1, _)]) [1, 0] rfl ?_
  have hJ := hg0 _ (ok_some hF)
  exact hJ
set_option maxHeartbeats 4000000 in
set_option maxRecDepth 100000 in
theorem t_Pl_findBest_b60 {x1 : Int32} {x2 : Int32} {y1 : Int32} {y2 : Int32} {y3 : Int32} {n : Nat} {I : xm_I} {L : xm_L} {K : (Int32 × xm_I) ⊕ (xm_I) → Prop} {Q : Option Value → xm_H → Prop} (hn : 86 ≤ n) (hq : ∀ p : xm_I, K (.inr p) → Q none (p, L, RC n, n)) (hg0 : ∀ s : Int32 × xm_I, K (.inl s) → xm_J 11 mt_Pl_findBest 27 [(0, .ref 39), (1, .int s.1)] [] (s.2, L, RC n, n) 0 0 Q) (hF : ok (f_Pl_findBest_b60 x1 x2 y1 y2 y3 I) K) : xm_J 11 mt_Pl_findBest 60 [(0, .ref 39), (1, .int x1), (2, .int x2)] [.int y3, .int y2, .int y1, .ref 47] (I, L, RC n, n) 0 0 Q := by
  unfold f_Pl_findBest_b60 at hF
  refine r_iadd (i := 38) rfl ?_
  obtain ⟨hi, hF⟩ := ok_gd hF
  refine q_iastore (i := 39) rfl (xm_in rfl hn) rfl hi ?_
  refine r_aload_n (i := 40) (k0 := 0) rfl rfl rfl ?_
  refine q_getr (b := 48) (i := 41) rfl fl_Pl_36 rfl (xm_in rfl hn) rfl rfl ?_
  refine r_iload_n (i := 42) (k0 := 1) rfl rfl rfl ?_
  refine r_aload_n (i := 43) (k0 := 0) rfl rfl rfl ?_
  refine q_getr (b := 48) (i := 44) rfl fl_Pl_36 rfl (xm_in rfl hn) rfl rfl ?_
  refine r_iload_n (i := 45) (k0 := 1) rfl rfl rfl ?_
  refine r_iconst (v := 1) (i := 46) rfl ki_1 ?_
  refine r_iadd (i := 47) rfl ?_
  obtain ⟨hi, hF⟩ := ok_gd hF
  refine q_iaload (i := 48) rfl (xm_in rfl hn) rfl hi ?_
  refine r_iload_n (i := 49) (k0 := 2) rfl rfl rfl ?_
  refine r_iconst (v := (-1)) (i := 50) rfl ki_m1 ?_
  refine r_icmpne (i := 51) (tgt := 84) rfl (by decide) (fun hc => ?_) (fun hc => ?_)
  · have hF := ok_if hc hF
    refine r_iconst (v := 0) (i := 54) rfl ki_0 ?_
    refine xm_sub (Ls' := [(0, _), (1, _)]) [0, 1] rfl ?_
    exact t_Pl_findBest_b85 hn (fun p h => hq p h) (fun z h => hg0 z h) hF
  have hF := ok_it hc hF
  refine r_iconst (v := 1) (i := 52) rfl ki_1 ?_
  refine r_goto (i := 53) (tgt := 85) rfl (by decide) ?_
  refine xm_sub (Ls' := [(0, _), (1, _)]) [0, 1] rfl ?_
  exact t_Pl_findBest_b85 hn (fun p h => hq p h) (fun z h => hg0 z h) hF
set_option maxHeartbeats 4000000 in
set_option maxRecDepth 100000 in
theorem t_Pl_findBest_s27 {s : Int32 × xm_I} {n : Nat} {L : xm_L} {K : (Int32 × xm_I) ⊕ (xm_I) → Prop} {Q : Option Value → xm_H → Prop} (hn : 86 ≤ n) (hq : ∀ p : xm_I, K (.inr p) → Q none (p, L, RC n, n)) (hg0 : ∀ s : Int32 × xm_I, K (.inl s) → xm_J 11 mt_Pl_findBest 27 [(0, .ref 39), (1, .int s.1)] [] (s.2, L, RC n, n) 0 0 Q) (hF : ok (f_Pl_findBest_s27 s) K) : xm_J 11 mt_Pl_findBest 27 [(0, .ref 39), (1, .int s.1)] [] (s.2, L, RC n, n) 0 0 Q := by
  unfold f_Pl_findBest_s27 at hF
  refine r_iload_n (i := 17) (k0 := 1) rfl rfl rfl ?_
  refine r_iflt (i := 18) (tgt := 93) rfl (by decide) (fun hc => ?_) (fun hc => ?_)
  · have hF := ok_it hc hF
    refine r_aload_n (i := 59) (k0 := 0) rfl rfl rfl ?_
    refine c_V0V (i := 60) rfl vm_Pl_boundByRounds lk_Pl_151 (t_Pl_boundByRounds hn (ok_bind hF)) (Nat.le_of_ble_eq_true rfl) (xm_in rfl hn) rfl rfl (Nat.le_of_ble_eq_true rfl) (fun p_1 hF => ?_)
    refine r_aload_n (i := 61) (k0 := 0) rfl rfl rfl ?_
    refine r_iconst (v := 0) (i := 62) rfl ki_0 ?_
    refine r_iconst (v := 0) (i := 63) rfl ki_0 ?_
    refine r_iconst (v := 0) (i := 64) rfl ki_0 ?_
    refine c_V3V (i := 65) rfl vm_Pl_search lk_Pl_154 (t_Pl_search hn (ok_bind hF)) (Nat.le_of_ble_eq_true rfl) (xm_in rfl hn) rfl rfl (Nat.le_of_ble_eq_true rfl) (fun p_2 hF => ?_)
    refine r_iconst (v := 0) (i := 66) rfl ki_0 ?_
    refine r_istore_n (i := 67) (Ls' := [(1, _), (0, _)]) rfl rfl (Nat.le_of_ble_eq_true rfl) rfl ?_
    refine xm_sub (Ls' := [(0, _), (1, _)]) [1, 0] rfl ?_
    exact t_Pl_findBest_b106 hn (fun p h => hq p h) (ok_map hF)
  have hF := ok_if hc hF
  refine r_aload_n (i := 19) (k0 := 0) rfl rfl rfl ?_
  refine r_iload_n (i := 20) (k0 := 1) rfl rfl rfl ?_
  refine c_V1I (i := 21) rfl vm_Pl_leastCostOf lk_Pl_148 (t_Pl_leastCostOf hn (ok_bind hF)) (Nat.le_of_ble_eq_true rfl) (xm_in rfl hn) rfl rfl (Nat.le_of_ble_eq_true rfl) (fun p_3 hF => ?_)
  refine r_istore_n (i := 22) (Ls' := [(2, _), (0, _), (1, _)]) rfl rfl (Nat.le_of_ble_eq_true rfl) rfl ?_
  refine r_aload_n (i := 23) (k0 := 1) rfl rfl rfl ?_
  refine q_getr (b := 47) (i := 24) rfl fl_Pl_33 rfl (xm_in rfl hn) rfl rfl ?_
  refine r_iload_n (i := 25) (k0 := 2) rfl rfl rfl ?_
  refine r_aload_n (i := 26) (k0 := 1) rfl rfl rfl ?_
  refine q_getr (b := 47) (i := 27) rfl fl_Pl_33 rfl (xm_in rfl hn) rfl rfl ?_
  refine r_iload_n (i := 28) (k0 := 2) rfl rfl rfl ?_
  refine r_iconst (v := 1) (i := 29) rfl ki_1 ?_
  refine r_iadd (i := 30) rfl ?_
  obtain ⟨hi, hF⟩ := ok_gd hF
  refine q_iaload (i := 31) rfl (xm_in rfl hn) rfl hi ?_
  refine r_iload_n (i := 32) (k0 := 0) rfl rfl rfl ?_
  refine r_iconst (v := (-1)) (i := 33) rfl ki_m1 ?_
  refine r_icmpne (i := 34) (tgt := 59) rfl (by decide) (fun hc => ?_) (fun hc => ?_)
  · have hF := ok_if hc hF
    refine r_iload_n (i := 37) (k0 := 0) rfl rfl rfl ?_
    refine xm_sub (Ls' := [(0, _), (1, _), (2, _)]) [1, 2, 0] rfl ?_
    exact t_Pl_findBest_b60 hn (fun p h => hq p h) (fun z h => hg0 z h) hF
  have hF := ok_it hc hF
  refine r_iconst (v := 0) (i := 35) rfl ki_0 ?_
  refine r_goto (i := 36) (tgt := 60) rfl (by decide) ?_
  refine xm_sub (Ls' := [(0, _), (1, _), (2, _)]) [1, 2, 0] rfl ?_
  exact t_Pl_findBest_b60 hn (fun p h => hq p h) (fun z h => hg0 z h) hF
set_option maxHeartbeats 4000000 in
set_option maxRecDepth 100000 in
theorem t_Pl_findBest_b27 {s : Int32 × xm_I} {n : Nat} {L : xm_L} {K : xm_I → Prop} {Q : Option Value → xm_H → Prop} (hn : 86 ≤ n) (hq : ∀ p : xm_I, K p → Q none (p, L, RC n, n)) (hF : ok (f_Pl_findBest_b27 s) K) : xm_J 11 mt_Pl_findBest 27 [(0, .ref 39), (1, .int s.1)] [] (s.2, L, RC n, n) 0 0 Q :=
  lp_J (G := fun z => xm_J 11 mt_Pl_findBest 27 [(0, .ref 39), (1, .int z.1)] [] (z.2, L, RC n, n) 0 0 Q) (fun z hF => t_Pl_findBest_s27 hn (fun p h => hq p h) (fun z h => h) hF) s hF
set_option maxHeartbeats 4000000 in
set_option maxRecDepth 100000 in
theorem t_Pl_findBest_b0 {n : Nat} {I : xm_I} {L : xm_L} {K : xm_I → Prop} {Q : Option Value → xm_H → Prop} (hn : 86 ≤ n) (hq : ∀ p : xm_I, K p → Q none (p, L, RC n, n)) (hF : ok (f_Pl_findBest_b0 I) K) : xm_J 11 mt_Pl_findBest 0 [(0, .ref 39)] [] (I, L, RC n, n) 0 0 Q := by
  unfold f_Pl_findBest_b0 at hF
  refine r_aload_n (i := 0) (k0 := 0) rfl rfl rfl ?_
  refine q_getr (b := 47) (i := 1) rfl fl_Pl_33 rfl (xm_in rfl hn) rfl rfl ?_
  refine r_aload_n (i := 2) (k0 := 0) rfl rfl rfl ?_
  refine q_geti (i := 3) rfl fl_Pl_61 (xm_in rfl hn) rfl ?_
  refine r_iconst (v := 0) (i := 4) rfl ki_0 ?_
  obtain ⟨hi, hF⟩ := ok_gd hF
  refine q_iastore (i := 5) rfl (xm_in rfl hn) rfl hi ?_
  refine r_aload_n (i := 6) (k0 := 0) rfl rfl rfl ?_
  refine q_getr (b := 48) (i := 7) rfl fl_Pl_36 rfl (xm_in rfl hn) rfl rfl ?_
  refine r_aload_n (i := 8) (k0 := 0) rfl rfl rfl ?_
  refine q_geti (i := 9) rfl fl_Pl_61 (xm_in rfl hn) rfl ?_
  refine r_iconst (v := 0) (i := 10) rfl ki_0 ?_
  obtain ⟨hi, hF⟩ := ok_gd hF
  refine q_iastore (i := 11) rfl (xm_in rfl hn) rfl hi ?_
  refine r_aload_n (i := 12) (k0 := 0) rfl rfl rfl ?_
  refine q_geti (i := 13) rfl fl_Pl_61 (xm_in rfl hn) rfl ?_
  refine r_iconst (v := 1) (i := 14) rfl ki_1 ?_
  refine r_isub (i := 15) rfl ?_
  refine r_istore_n (i := 16) (Ls' := [(1, _), (0, _)]) rfl rfl (Nat.le_of_ble_eq_true rfl) rfl ?_
  refine xm_sub (Ls' := [(0, _), (1, _)]) [1, 0] rfl ?_
  exact t_Pl_findBest_b27 hn (fun p h => hq p h) hF
set_option maxHeartbeats 4000000 in
set_option maxRecDepth 100000 in
theorem t_Pl_findBest {n : Nat} {I : xm_I} {L : xm_L} {K : xm_I → Prop} (hn : 86 ≤ n) (hF : ok (f_Pl_findBest I) K) : xm_C 11 mt_Pl_findBest [.ref 39] (I, L, RC n, n) 0 0 (pV (fun p : xm_I => (p, L, RC n, n)) K) := by
  unfold f_Pl_findBest at hF
  refine xm_enter (by decide +kernel) dv_Pl_findBest (Nat.le_of_ble_eq_true rfl) ?_
  exact t_Pl_findBest_b0 hn (fun p hp => ⟨p, rfl, rfl, hp⟩) hF

noncomputable def f_Lb_has_b0 (x1 : Int32) (I : xm_I) : Option (Int32) :=
  if x1 < 0 then (
    some (0))
  else (
  if (I 21 3) ≤ x1 then (
    some (0))
  else (
  if 20 ≤ x1 then (
    some (0))
  else (
  some (1))))
noncomputable def f_Lb_has (x1 : Int32) (I : xm_I) : Option (Int32) := f_Lb_has_b0 x1 I
set_option maxHeartbeats 4000000 in
set_option maxRecDepth 100000 in
theorem t_Lb_has_b0 {x1 : Int32} {n : Nat} {I : xm_I} {L : xm_L} {K : Int32 → Prop} {Q : Option Value → xm_H → Prop} (hn : 86 ≤ n) (hq : ∀ p : Int32, K p → Q (some (.int p)) (I, L, RC n, n)) (hF : ok (f_Lb_has_b0 x1 I) K) : xm_J 0 mt_Lb_has 0 [(0, .ref 21), (1, .int x1)] [] (I, L, RC n, n) 0 0 Q := by
  unfold f_Lb_has_b0 at hF
  refine r_iload_n (i := 0) (k0 := 1) rfl rfl rfl ?_
  refine r_iflt (i := 1) (tgt := 22) rfl (by decide) (fun hc => ?_) (fun hc => ?_)
  · have hF := ok_it hc hF
    refine r_iconst (v := 0) (i := 11) rfl ki_0 ?_
    have hQ := hq _ (ok_some hF)
    exact r_ireturn (i := 12) rfl rfl rfl hQ
  have hF := ok_if hc hF
  refine r_iload_n (i := 2) (k0 := 1) rfl rfl rfl ?_
  refine r_aload_n (i := 3) (k0 := 0) rfl rfl rfl ?_
  refine q_geti (i := 4) rfl fl_Lb_21 (xm_in rfl hn) rfl ?_
  refine r_icmpge (i := 5) (tgt := 22) rfl (by decide) (fun hc => ?_) (fun hc => ?_)
  · have hF := ok_it hc hF
    refine r_iconst (v := 0) (i := 11) rfl ki_0 ?_
    have hQ := hq _ (ok_some hF)
    exact r_ireturn (i := 12) rfl rfl rfl hQ
  have hF := ok_if hc hF
  refine r_iload_n (i := 6) (k0 := 1) rfl rfl rfl ?_
  refine r_bipush (v := 20) (i := 7) rfl kb_20 ?_
  refine r_icmpge (i := 8) (tgt := 22) rfl (by decide) (fun hc => ?_) (fun hc => ?_)
  · have hF := ok_it hc hF
    refine r_iconst (v := 0) (i := 11) rfl ki_0 ?_
    have hQ := hq _ (ok_some hF)
    exact r_ireturn (i := 12) rfl rfl rfl hQ
  have hF := ok_if hc hF
  refine r_iconst (v := 1) (i := 9) rfl ki_1 ?_
  refine r_goto (i := 10) (tgt := 23) rfl (by decide) ?_
  have hQ := hq _ (ok_some hF)
  exact r_ireturn (i := 12) rfl rfl rfl hQ
set_option maxHeartbeats 4000000 in
set_option maxRecDepth 100000 in
theorem t_Lb_has {x1 : Int32} {n : Nat} {I : xm_I} {L : xm_L} {K : Int32 → Prop} (hn : 86 ≤ n) (hF : ok (f_Lb_has x1 I) K) : xm_C 0 mt_Lb_has [.ref 21, .int x1] (I, L, RC n, n) 0 0 (pI (fun p : Int32 => p) (fun p : Int32 => (I, L, RC n, n)) K) := by
  unfold f_Lb_has at hF
  refine xm_enter (by decide +kernel) dv_Lb_has (Nat.le_of_ble_eq_true rfl) ?_
  exact t_Lb_has_b0 hn (fun p hp => ⟨p, rfl, rfl, hp⟩) hF

noncomputable def f_Lb_lettersOf_b0 (x1 : Int32) (I : xm_I) : Option (Int32) :=
  (f_Lb_has x1 I).bind fun p_1 =>
  if p_1 = 0 then (
    some (0))
  else (
  gd (0 ≤ (x1).toInt ∧ (x1).toInt < 20) <|
  some (I 23 (Int32.toNatClampNeg x1)))
noncomputable def f_Lb_lettersOf (x1 : Int32) (I : xm_I) : Option (Int32) := f_Lb_lettersOf_b0 x1 I
set_option maxHeartbeats 4000000 in
set_option maxRecDepth 100000 in
theorem t_Lb_lettersOf_b0 {x1 : Int32} {n : Nat} {I : xm_I} {L : xm_L} {K : Int32 → Prop} {Q : Option Value → xm_H → Prop} (hn : 86 ≤ n) (hq : ∀ p : Int32, K p → Q (some (.int p)) (I, L, RC n, n)) (hF : ok (f_Lb_lettersOf_b0 x1 I) K) : xm_J 1 mt_Lb_lettersOf 0 [(0, .ref 21), (1, .int x1)] [] (I, L, RC n, n) 0 0 Q := by
  unfold f_Lb_lettersOf_b0 at hF
  refine r_aload_n (i := 0) (k0 := 0) rfl rfl rfl ?_
  refine r_iload_n (i := 1) (k0 := 1) rfl rfl rfl ?_
  refine c_V1I (i := 2) rfl vm_Lb_has lk_Lb_30 (t_Lb_has hn (ok_bind hF)) (Nat.le_of_ble_eq_true rfl) (xm_in rfl hn) rfl rfl (Nat.le_of_ble_eq_true rfl) (fun p_1 hF => ?_)
  refine r_ifeq (i := 3) (tgt := 17) rfl (by decide) (fun hc => ?_) (fun hc => ?_)
  · have hF := ok_it hc hF
    refine r_iconst (v := 0) (i := 9) rfl ki_0 ?_
    have hQ := hq _ (ok_some hF)
    exact r_ireturn (i := 10) rfl rfl rfl hQ
  have hF := ok_if hc hF
  refine r_aload_n (i := 4) (k0 := 0) rfl rfl rfl ?_
  refine q_getr (b := 23) (i := 5) rfl fl_Lb_15 rfl (xm_in rfl hn) rfl rfl ?_
  refine r_iload_n (i := 6) (k0 := 1) rfl rfl rfl ?_
  obtain ⟨hi, hF⟩ := ok_gd hF
  refine q_iaload (i := 7) rfl (xm_in rfl hn) rfl hi ?_
  refine r_goto (i := 8) (tgt := 18) rfl (by decide) ?_
  have hQ := hq _ (ok_some hF)
  exact r_ireturn (i := 10) rfl rfl rfl hQ
set_option maxHeartbeats 4000000 in
set_option maxRecDepth 100000 in
theorem t_Lb_lettersOf {x1 : Int32} {n : Nat} {I : xm_I} {L : xm_L} {K : Int32 → Prop} (hn : 86 ≤ n) (hF : ok (f_Lb_lettersOf x1 I) K) : xm_C 1 mt_Lb_lettersOf [.ref 21, .int x1] (I, L, RC n, n) 0 0 (pI (fun p : Int32 => p) (fun p : Int32 => (I, L, RC n, n)) K) := by
  unfold f_Lb_lettersOf at hF
  refine xm_enter (by decide +kernel) dv_Lb_lettersOf (Nat.le_of_ble_eq_true rfl) ?_
  exact t_Lb_lettersOf_b0 hn (fun p hp => ⟨p, rfl, rfl, hp⟩) hF

noncomputable def f_Lb_objectOf_b0 (x1 : Int32) (I : xm_I) : Option (Int32) :=
  (f_Lb_has x1 I).bind fun p_1 =>
  if p_1 = 0 then (
    some ((-1)))
  else (
  gd (0 ≤ (x1).toInt ∧ (x1).toInt < 20) <|
  some (I 22 (Int32.toNatClampNeg x1)))
noncomputable def f_Lb_objectOf (x1 : Int32) (I : xm_I) : Option (Int32) := f_Lb_objectOf_b0 x1 I
set_option maxHeartbeats 4000000 in
set_option maxRecDepth 100000 in
theorem t_Lb_objectOf_b0 {x1 : Int32} {n : Nat} {I : xm_I} {L : xm_L} {K : Int32 → Prop} {Q : Option Value → xm_H → Prop} (hn : 86 ≤ n) (hq : ∀ p : Int32, K p → Q (some (.int p)) (I, L, RC n, n)) (hF : ok (f_Lb_objectOf_b0 x1 I) K) : xm_J 1 mt_Lb_objectOf 0 [(0, .ref 21), (1, .int x1)] [] (I, L, RC n, n) 0 0 Q := by
  unfold f_Lb_objectOf_b0 at hF
  refine r_aload_n (i := 0) (k0 := 0) rfl rfl rfl ?_
  refine r_iload_n (i := 1) (k0 := 1) rfl rfl rfl ?_
  refine c_V1I (i := 2) rfl vm_Lb_has lk_Lb_30 (t_Lb_has hn (ok_bind hF)) (Nat.le_of_ble_eq_true rfl) (xm_in rfl hn) rfl rfl (Nat.le_of_ble_eq_true rfl) (fun p_1 hF => ?_)
  refine r_ifeq (i := 3) (tgt := 17) rfl (by decide) (fun hc => ?_) (fun hc => ?_)
  · have hF := ok_it hc hF
    refine r_iconst (v := (-1)) (i := 9) rfl ki_m1 ?_
    have hQ := hq _ (ok_some hF)
    exact r_ireturn (i := 10) rfl rfl rfl hQ
  have hF := ok_if hc hF
  refine r_aload_n (i := 4) (k0 := 0) rfl rfl rfl ?_
  refine q_getr (b := 22) (i := 5) rfl fl_Lb_11 rfl (xm_in rfl hn) rfl rfl ?_
  refine r_iload_n (i := 6) (k0 := 1) rfl rfl rfl ?_
  obtain ⟨hi, hF⟩ := ok_gd hF
  refine q_iaload (i := 7) rfl (xm_in rfl hn) rfl hi ?_
  refine r_goto (i := 8) (tgt := 18) rfl (by decide) ?_
  have hQ := hq _ (ok_some hF)
  exact r_ireturn (i := 10) rfl rfl rfl hQ
set_option maxHeartbeats 4000000 in
set_option maxRecDepth 100000 in
theorem t_Lb_objectOf {x1 : Int32} {n : Nat} {I : xm_I} {L : xm_L} {K : Int32 → Prop} (hn : 86 ≤ n) (hF : ok (f_Lb_objectOf x1 I) K) : xm_C 1 mt_Lb_objectOf [.ref 21, .int x1] (I, L, RC n, n) 0 0 (pI (fun p : Int32 => p) (fun p : Int32 => (I, L, RC n, n)) K) := by
  unfold f_Lb_objectOf at hF
  refine xm_enter (by decide +kernel) dv_Lb_objectOf (Nat.le_of_ble_eq_true rfl) ?_
  exact t_Lb_objectOf_b0 hn (fun p hp => ⟨p, rfl, rfl, hp⟩) hF

noncomputable def f_Pn_hasDrawn_b0 (x1 : Int32) (I : xm_I) : Option (Int32) :=
  if x1 < 0 then (
    some (0))
  else (
  if 40 ≤ x1 then (
    some (0))
  else (
  gd (0 ≤ (x1).toInt ∧ (x1).toInt < 40) <|
  if (I 31 (Int32.toNatClampNeg x1)) = 0 then (
    some (0))
  else (
  some (1))))
noncomputable def f_Pn_hasDrawn (x1 : Int32) (I : xm_I) : Option (Int32) := f_Pn_hasDrawn_b0 x1 I
set_option maxHeartbeats 4000000 in
set_option maxRecDepth 100000 in
theorem t_Pn_hasDrawn_b0 {x1 : Int32} {n : Nat} {I : xm_I} {L : xm_L} {K : Int32 → Prop} {Q : Option Value → xm_H → Prop} (hn : 86 ≤ n) (hq : ∀ p : Int32, K p → Q (some (.int p)) (I, L, RC n, n)) (hF : ok (f_Pn_hasDrawn_b0 x1 I) K) : xm_J 0 mt_Pn_hasDrawn 0 [(0, .ref 30), (1, .int x1)] [] (I, L, RC n, n) 0 0 Q := by
  unfold f_Pn_hasDrawn_b0 at hF
  refine r_iload_n (i := 0) (k0 := 1) rfl rfl rfl ?_
  refine r_iflt (i := 1) (tgt := 23) rfl (by decide) (fun hc => ?_) (fun hc => ?_)
  · have hF := ok_it hc hF
    refine r_iconst (v := 0) (i := 12) rfl ki_0 ?_
    have hQ := hq _ (ok_some hF)
    exact r_ireturn (i := 13) rfl rfl rfl hQ
  have hF := ok_if hc hF
  refine r_iload_n (i := 2) (k0 := 1) rfl rfl rfl ?_
  refine r_bipush (v := 40) (i := 3) rfl kb_40 ?_
  refine r_icmpge (i := 4) (tgt := 23) rfl (by decide) (fun hc => ?_) (fun hc => ?_)
  · have hF := ok_it hc hF
    refine r_iconst (v := 0) (i := 12) rfl ki_0 ?_
    have hQ := hq _ (ok_some hF)
    exact r_ireturn (i := 13) rfl rfl rfl hQ
  have hF := ok_if hc hF
  refine r_aload_n (i := 5) (k0 := 0) rfl rfl rfl ?_
  refine q_getr (b := 31) (i := 6) rfl fl_Pn_9 rfl (xm_in rfl hn) rfl rfl ?_
  refine r_iload_n (i := 7) (k0 := 1) rfl rfl rfl ?_
  obtain ⟨hi, hF⟩ := ok_gd hF
  refine q_baload (i := 8) rfl (xm_in rfl hn) rfl hi ?_
  refine r_ifeq (i := 9) (tgt := 23) rfl (by decide) (fun hc => ?_) (fun hc => ?_)
  · have hF := ok_it hc hF
    refine r_iconst (v := 0) (i := 12) rfl ki_0 ?_
    have hQ := hq _ (ok_some hF)
    exact r_ireturn (i := 13) rfl rfl rfl hQ
  have hF := ok_if hc hF
  refine r_iconst (v := 1) (i := 10) rfl ki_1 ?_
  refine r_goto (i := 11) (tgt := 24) rfl (by decide) ?_
  have hQ := hq _ (ok_some hF)
  exact r_ireturn (i := 13) rfl rfl rfl hQ
set_option maxHeartbeats 4000000 in
set_option maxRecDepth 100000 in
theorem t_Pn_hasDrawn {x1 : Int32} {n : Nat} {I : xm_I} {L : xm_L} {K : Int32 → Prop} (hn : 86 ≤ n) (hF : ok (f_Pn_hasDrawn x1 I) K) : xm_C 0 mt_Pn_hasDrawn [.ref 30, .int x1] (I, L, RC n, n) 0 0 (pI (fun p : Int32 => p) (fun p : Int32 => (I, L, RC n, n)) K) := by
  unfold f_Pn_hasDrawn at hF
  refine xm_enter (by decide +kernel) dv_Pn_hasDrawn (Nat.le_of_ble_eq_true rfl) ?_
  exact t_Pn_hasDrawn_b0 hn (fun p hp => ⟨p, rfl, rfl, hp⟩) hF

noncomputable def f_Pl_gatherGuests_b96 (x1 : Int32) (I : xm_I) : Option ((Int32 × xm_I) ⊕ (xm_I)) :=
  let x1_1 : Int32 := x1 + 1
  some (.inl (x1_1, I))
noncomputable def f_Pl_gatherGuests_s7 (s : Int32 × xm_I) : Option ((Int32 × xm_I) ⊕ (xm_I)) :=
  if (s.2 21 3) ≤ s.1 then (
    some (.inr (s.2)))
  else (
  (f_Lb_objectOf s.1 s.2).bind fun p_1 =>
  (f_Pn_hasDrawn p_1 s.2).bind fun p_2 =>
  if p_2 = 0 then (
    f_Pl_gatherGuests_b96 s.1 s.2)
  else (
  if 20 ≤ (s.2 39 13) then (
    f_Pl_gatherGuests_b96 s.1 s.2)
  else (
  gd (0 ≤ (s.2 39 13).toInt ∧ (s.2 39 13).toInt < 20) <|
  let I_3 : xm_I := up2 s.2 40 (Int32.toNatClampNeg (s.2 39 13)) s.1
  (f_Lb_lettersOf s.1 I_3).bind fun p_4 =>
  gd (0 ≤ (I_3 39 13).toInt ∧ (I_3 39 13).toInt < 20) <|
  let I_5 : xm_I := up2 I_3 41 (Int32.toNatClampNeg (I_3 39 13)) (6 * p_4)
  gd (0 ≤ (I_5 39 13).toInt ∧ (I_5 39 13).toInt < 20) <|
  let I_6 : xm_I := up2 I_5 42 (Int32.toNatClampNeg (I_5 39 13)) 8
  let I_7 : xm_I := up2 I_6 39 13 ((I_6 39 13) + 1)
  f_Pl_gatherGuests_b96 s.1 I_7)))
noncomputable def f_Pl_gatherGuests_b7 (s : Int32 × xm_I) : Option (xm_I) := lp (f_Pl_gatherGuests_s7) s
noncomputable def f_Pl_gatherGuests_b0 (I : xm_I) : Option (xm_I) :=
  let I_1 : xm_I := up2 I 39 13 0
  f_Pl_gatherGuests_b7 (0, I_1)
noncomputable def f_Pl_gatherGuests (I : xm_I) : Option (xm_I) := f_Pl_gatherGuests_b0 I
set_option maxHeartbeats 4000000 in
set_option maxRecDepth 100000 in
theorem t_Pl_gatherGuests_b96 {x1 : Int32} {n : Nat} {I : xm_I} {L : xm_L} {K : (Int32 × xm_I) ⊕ (xm_I) → Prop} {Q : Option Value → xm_H → Prop} (hn : 86 ≤ n) (hq : ∀ p : xm_I, K (.inr p) → Q none (p, L, RC n, n)) (hg0 : ∀ s : Int32 × xm_I, K (.inl s) → xm_J 2 mt_Pl_gatherGuests 7 [(0, .ref 39), (1, .int s.1)] [] (s.2, L, RC n, n) 0 0 Q) (hF : ok (f_Pl_gatherGuests_b96 x1 I) K) : xm_J 2 mt_Pl_gatherGuests 96 [(0, .ref 39), (1, .int x1)] [] (I, L, RC n, n) 0 0 Q := by
  unfold f_Pl_gatherGuests_b96 at hF
  refine q_iinc (i := 51) (k0 := 1) (Ls' := [(1, _), (0, _)]) rfl ki_1 rfl (Nat.le_of_ble_eq_true rfl) rfl ?_
  refine r_goto (i := 52) (tgt := 7) rfl (by decide) ?_
  refine xm_sub (Ls' := [(0, _), (1, _)]) [1, 0] rfl ?_
  have hJ := hg0 _ (ok_some hF)
  exact hJ
set_option maxHeartbeats 4000000 in
set_option maxRecDepth 100000 in
theorem t_Pl_gatherGuests_s7 {s : Int32 × xm_I} {n : Nat} {L : xm_L} {K : (Int32 × xm_I) ⊕ (xm_I) → Prop} {Q : Option Value → xm_H → Prop} (hn : 86 ≤ n) (hq : ∀ p : xm_I, K (.inr p) → Q none (p, L, RC n, n)) (hg0 : ∀ s : Int32 × xm_I, K (.inl s) → xm_J 2 mt_Pl_gatherGuests 7 [(0, .ref 39), (1, .int s.1)] [] (s.2, L, RC n, n) 0 0 Q) (hF : ok (f_Pl_gatherGuests_s7 s) K) : xm_J 2 mt_Pl_gatherGuests 7 [(0, .ref 39), (1, .int s.1)] [] (s.2, L, RC n, n) 0 0 Q := by
  unfold f_Pl_gatherGuests_s7 at hF
  refine r_iload_n (i := 5) (k0 := 1) rfl rfl rfl ?_
  refine r_aload_n (i := 6) (k0 := 0) rfl rfl rfl ?_
  refine q_getr (b := 21) (i := 7) rfl fl_Pl_39 rfl (xm_in rfl hn) rfl rfl ?_
  refine q_geti (i := 8) rfl fl_Pl_85 (xm_in rfl hn) rfl ?_
  refine r_icmpge (i := 9) (tgt := 102) rfl (by decide) (fun hc => ?_) (fun hc => ?_)
  · have hF := ok_it hc hF
    have hQ := hq _ (ok_some hF)
    exact r_return (i := 53) rfl rfl hQ
  have hF := ok_if hc hF
  refine r_aload_n (i := 10) (k0 := 0) rfl rfl rfl ?_
  refine q_getr (b := 30) (i := 11) rfl fl_Pl_43 rfl (xm_in rfl hn) rfl rfl ?_
  refine r_aload_n (i := 12) (k0 := 0) rfl rfl rfl ?_
  refine q_getr (b := 21) (i := 13) rfl fl_Pl_39 rfl (xm_in rfl hn) rfl rfl ?_
  refine r_iload_n (i := 14) (k0 := 1) rfl rfl rfl ?_
  refine c_V1I (i := 15) rfl vm_Lb_objectOf lk_Pl_86 (t_Lb_objectOf hn (ok_bind hF)) (Nat.le_of_ble_eq_true rfl) (xm_in rfl hn) rfl rfl (Nat.le_of_ble_eq_true rfl) (fun p_1 hF => ?_)
  refine c_V1I (i := 16) rfl vm_Pn_hasDrawn lk_Pl_90 (t_Pn_hasDrawn hn (ok_bind hF)) (Nat.le_of_ble_eq_true rfl) (xm_in rfl hn) rfl rfl (Nat.le_of_ble_eq_true rfl) (fun p_2 hF => ?_)
  refine r_ifeq (i := 17) (tgt := 96) rfl (by decide) (fun hc => ?_) (fun hc => ?_)
  · have hF := ok_it hc hF
    exact t_Pl_gatherGuests_b96 hn (fun p h => hq p h) (fun z h => hg0 z h) hF
  have hF := ok_if hc hF
  refine r_aload_n (i := 18) (k0 := 0) rfl rfl rfl ?_
  refine q_geti (i := 19) rfl fl_Pl_61 (xm_in rfl hn) rfl ?_
  refine r_bipush (v := 20) (i := 20) rfl kb_20 ?_
  refine r_icmpge (i := 21) (tgt := 96) rfl (by decide) (fun hc => ?_) (fun hc => ?_)
  · have hF := ok_it hc hF
    exact t_Pl_gatherGuests_b96 hn (fun p h => hq p h) (fun z h => hg0 z h) hF
  have hF := ok_if hc hF
  refine r_aload_n (i := 22) (k0 := 0) rfl rfl rfl ?_
  refine q_getr (b := 40) (i := 23) rfl fl_Pl_11 rfl (xm_in rfl hn) rfl rfl ?_
  refine r_aload_n (i := 24) (k0 := 0) rfl rfl rfl ?_
  refine q_geti (i := 25) rfl fl_Pl_61 (xm_in rfl hn) rfl ?_
  refine r_iload_n (i := 26) (k0 := 1) rfl rfl rfl ?_
  obtain ⟨hi, hF⟩ := ok_gd hF
  refine q_iastore (i := 27) rfl (xm_in rfl hn) rfl hi ?_
  refine r_aload_n (i := 28) (k0 := 0) rfl rfl rfl ?_
  refine q_getr (b := 41) (i := 29) rfl fl_Pl_15 rfl (xm_in rfl hn) rfl rfl ?_
  refine r_aload_n (i := 30) (k0 := 0) rfl rfl rfl ?_
  refine q_geti (i := 31) rfl fl_Pl_61 (xm_in rfl hn) rfl ?_
  refine r_bipush (v := 6) (i := 32) rfl kb_6 ?_
  refine r_aload_n (i := 33) (k0 := 0) rfl rfl rfl ?_
  refine q_getr (b := 21) (i := 34) rfl fl_Pl_39 rfl (xm_in rfl hn) rfl rfl ?_
  refine r_iload_n (i := 35) (k0 := 1) rfl rfl rfl ?_
  refine c_V1I (i := 36) rfl vm_Lb_lettersOf lk_Pl_96 (t_Lb_lettersOf hn (ok_bind hF)) (Nat.le_of_ble_eq_true rfl) (xm_in rfl hn) rfl rfl (Nat.le_of_ble_eq_true rfl) (fun p_4 hF => ?_)
  refine r_imul (i := 37) rfl ?_
  obtain ⟨hi, hF⟩ := ok_gd hF
  refine q_iastore (i := 38) rfl (xm_in rfl hn) rfl hi ?_
  refine r_aload_n (i := 39) (k0 := 0) rfl rfl rfl ?_
  refine q_getr (b := 42) (i := 40) rfl fl_Pl_18 rfl (xm_in rfl hn) rfl rfl ?_
  refine r_aload_n (i := 41) (k0 := 0) rfl rfl rfl ?_
  refine q_geti (i := 42) rfl fl_Pl_61 (xm_in rfl hn) rfl ?_
  refine r_bipush (v := 8) (i := 43) rfl kb_8 ?_
  obtain ⟨hi, hF⟩ := ok_gd hF
  refine q_iastore (i := 44) rfl (xm_in rfl hn) rfl hi ?_
  refine r_aload_n (i := 45) (k0 := 0) rfl rfl rfl ?_
  refine r_dup (i := 46) rfl rfl ?_
  refine q_geti (i := 47) rfl fl_Pl_61 (xm_in rfl hn) rfl ?_
  refine r_iconst (v := 1) (i := 48) rfl ki_1 ?_
  refine r_iadd (i := 49) rfl ?_
  refine q_puti (i := 50) rfl fl_Pl_61 (fun h => Bool.noConfusion h) (xm_in rfl hn) rfl ?_
  exact t_Pl_gatherGuests_b96 hn (fun p h => hq p h) (fun z h => hg0 z h) hF
set_option maxHeartbeats 4000000 in
set_option maxRecDepth 100000 in
theorem t_Pl_gatherGuests_b7 {s : Int32 × xm_I} {n : Nat} {L : xm_L} {K : xm_I → Prop} {Q : Option Value → xm_H → Prop} (hn : 86 ≤ n) (hq : ∀ p : xm_I, K p → Q none (p, L, RC n, n)) (hF : ok (f_Pl_gatherGuests_b7 s) K) : xm_J 2 mt_Pl_gatherGuests 7 [(0, .ref 39), (1, .int s.1)] [] (s.2, L, RC n, n) 0 0 Q :=
  lp_J (G := fun z => xm_J 2 mt_Pl_gatherGuests 7 [(0, .ref 39), (1, .int z.1)] [] (z.2, L, RC n, n) 0 0 Q) (fun z hF => t_Pl_gatherGuests_s7 hn (fun p h => hq p h) (fun z h => h) hF) s hF
set_option maxHeartbeats 4000000 in
set_option maxRecDepth 100000 in
theorem t_Pl_gatherGuests_b0 {n : Nat} {I : xm_I} {L : xm_L} {K : xm_I → Prop} {Q : Option Value → xm_H → Prop} (hn : 86 ≤ n) (hq : ∀ p : xm_I, K p → Q none (p, L, RC n, n)) (hF : ok (f_Pl_gatherGuests_b0 I) K) : xm_J 2 mt_Pl_gatherGuests 0 [(0, .ref 39)] [] (I, L, RC n, n) 0 0 Q := by
  unfold f_Pl_gatherGuests_b0 at hF
  refine r_aload_n (i := 0) (k0 := 0) rfl rfl rfl ?_
  refine r_iconst (v := 0) (i := 1) rfl ki_0 ?_
  refine q_puti (i := 2) rfl fl_Pl_61 (fun h => Bool.noConfusion h) (xm_in rfl hn) rfl ?_
  refine r_iconst (v := 0) (i := 3) rfl ki_0 ?_
  refine r_istore_n (i := 4) (Ls' := [(1, _), (0, _)]) rfl rfl (Nat.le_of_ble_eq_true rfl) rfl ?_
  refine xm_sub (Ls' := [(0, _), (1, _)]) [1, 0] rfl ?_
  exact t_Pl_gatherGuests_b7 hn (fun p h => hq p h) hF
set_option maxHeartbeats 4000000 in
set_option maxRecDepth 100000 in
theorem t_Pl_gatherGuests {n : Nat} {I : xm_I} {L : xm_L} {K : xm_I → Prop} (hn : 86 ≤ n) (hF : ok (f_Pl_gatherGuests I) K) : xm_C 2 mt_Pl_gatherGuests [.ref 39] (I, L, RC n, n) 0 0 (pV (fun p : xm_I => (p, L, RC n, n)) K) := by
  unfold f_Pl_gatherGuests at hF
  refine xm_enter (by decide +kernel) dv_Pl_gatherGuests (Nat.le_of_ble_eq_true rfl) ?_
  exact t_Pl_gatherGuests_b0 hn (fun p hp => ⟨p, rfl, rfl, hp⟩) hF

noncomputable def f_Lb_place_b0 (x1 : Int32) (x2 : Int32) (x3 : Int32) (I : xm_I) : Option (xm_I) :=
  (f_Lb_has x1 I).bind fun p_1 =>
  if p_1 = 0 then (
    some (I))
  else (
  gd (0 ≤ (x1).toInt ∧ (x1).toInt < 20) <|
  let I_2 : xm_I := up2 I 24 (Int32.toNatClampNeg x1) x2
  let I_3 : xm_I := up2 I_2 21 5 ((I_2 21 5) - 1)
  let I_4 : xm_I := up2 I_3 21 6 ((I_3 21 6) + x3)
  some (I_4))
noncomputable def f_Lb_place (x1 : Int32) (x2 : Int32) (x3 : Int32) (I : xm_I) : Option (xm_I) := f_Lb_place_b0 x1 x2 x3 I
set_option maxHeartbeats 4000000 in
set_option maxRecDepth 100000 in
theorem t_Lb_place_b0 {x1 : Int32} {x2 : Int32} {x3 : Int32} {n : Nat} {I : xm_I} {L : xm_L} {K : xm_I → Prop} {Q : Option Value → xm_H → Prop} (hn : 86 ≤ n) (hq : ∀ p : xm_I, K p → Q none (p, L, RC n, n)) (hF : ok (f_Lb_place_b0 x1 x2 x3 I) K) : xm_J 1 mt_Lb_place 0 [(0, .ref 21), (1, .int x1), (2, .int x2), (3, .int x3)] [] (I, L, RC n, n) 0 0 Q := by
  unfold f_Lb_place_b0 at hF
  refine r_aload_n (i := 0) (k0 := 0) rfl rfl rfl ?_
  refine r_iload_n (i := 1) (k0 := 1) rfl rfl rfl ?_
  refine c_V1I (i := 2) rfl vm_Lb_has lk_Lb_30 (t_Lb_has hn (ok_bind hF)) (Nat.le_of_ble_eq_true rfl) (xm_in rfl hn) rfl rfl (Nat.le_of_ble_eq_true rfl) (fun p_1 hF => ?_)
  refine r_ifeq (i := 3) (tgt := 35) rfl (by decide) (fun hc => ?_) (fun hc => ?_)
  · have hF := ok_it hc hF
    have hQ := hq _ (ok_some hF)
    exact r_return (i := 21) rfl rfl hQ
  have hF := ok_if hc hF
  refine r_aload_n (i := 4) (k0 := 0) rfl rfl rfl ?_
  refine q_getr (b := 24) (i := 5) rfl fl_Lb_18 rfl (xm_in rfl hn) rfl rfl ?_
  refine r_iload_n (i := 6) (k0 := 1) rfl rfl rfl ?_
  refine r_iload_n (i := 7) (k0 := 2) rfl rfl rfl ?_
  obtain ⟨hi, hF⟩ := ok_gd hF
  refine q_iastore (i := 8) rfl (xm_in rfl hn) rfl hi ?_
  refine r_aload_n (i := 9) (k0 := 0) rfl rfl rfl ?_
  refine r_dup (i := 10) rfl rfl ?_
  refine q_geti (i := 11) rfl fl_Lb_37 (xm_in rfl hn) rfl ?_
  refine r_iconst (v := 1) (i := 12) rfl ki_1 ?_
  refine r_isub (i := 13) rfl ?_
  refine q_puti (i := 14) rfl fl_Lb_37 (fun h => Bool.noConfusion h) (xm_in rfl hn) rfl ?_
  refine r_aload_n (i := 15) (k0 := 0) rfl rfl rfl ?_
  refine r_dup (i := 16) rfl rfl ?_
  refine q_geti (i := 17) rfl fl_Lb_40 (xm_in rfl hn) rfl ?_
  refine r_iload_n (i := 18) (k0 := 3) rfl rfl rfl ?_
  refine r_iadd (i := 19) rfl ?_
  refine q_puti (i := 20) rfl fl_Lb_40 (fun h => Bool.noConfusion h) (xm_in rfl hn) rfl ?_
  have hQ := hq _ (ok_some hF)
  exact r_return (i := 21) rfl rfl hQ
set_option maxHeartbeats 4000000 in
set_option maxRecDepth 100000 in
theorem t_Lb_place {x1 : Int32} {x2 : Int32} {x3 : Int32} {n : Nat} {I : xm_I} {L : xm_L} {K : xm_I → Prop} (hn : 86 ≤ n) (hF : ok (f_Lb_place x1 x2 x3 I) K) : xm_C 1 mt_Lb_place [.ref 21, .int x1, .int x2, .int x3] (I, L, RC n, n) 0 0 (pV (fun p : xm_I => (p, L, RC n, n)) K) := by
  unfold f_Lb_place at hF
  refine xm_enter (by decide +kernel) dv_Lb_place (Nat.le_of_ble_eq_true rfl) ?_
  exact t_Lb_place_b0 hn (fun p hp => ⟨p, rfl, rfl, hp⟩) hF

noncomputable def f_Mk_isFull_b0 (I : xm_I) : Option (Int32) :=
  if (I 17 4) < 600 then (
    some (0))
  else (
  some (1))
noncomputable def f_Mk_isFull (I : xm_I) : Option (Int32) := f_Mk_isFull_b0 I
set_option maxHeartbeats 4000000 in
set_option maxRecDepth 100000 in
theorem t_Mk_isFull_b0 {n : Nat} {I : xm_I} {L : xm_L} {K : Int32 → Prop} {Q : Option Value → xm_H → Prop} (hn : 86 ≤ n) (hq : ∀ p : Int32, K p → Q (some (.int p)) (I, L, RC n, n)) (hF : ok (f_Mk_isFull_b0 I) K) : xm_J 0 mt_Mk_isFull 0 [(0, .ref 17)] [] (I, L, RC n, n) 0 0 Q := by
  unfold f_Mk_isFull_b0 at hF
  refine r_aload_n (i := 0) (k0 := 0) rfl rfl rfl ?_
  refine q_geti (i := 1) rfl fl_Mk_25 (xm_in rfl hn) rfl ?_
  refine r_sipush (v := 600) (i := 2) rfl ks_600 ?_
  refine r_icmplt (i := 3) (tgt := 14) rfl (by decide) (fun hc => ?_) (fun hc => ?_)
  · have hF := ok_it hc hF
    refine r_iconst (v := 0) (i := 6) rfl ki_0 ?_
    have hQ := hq _ (ok_some hF)
    exact r_ireturn (i := 7) rfl rfl rfl hQ
  have hF := ok_if hc hF
  refine r_iconst (v := 1) (i := 4) rfl ki_1 ?_
  refine r_goto (i := 5) (tgt := 15) rfl (by decide) ?_
  have hQ := hq _ (ok_some hF)
  exact r_ireturn (i := 7) rfl rfl rfl hQ
set_option maxHeartbeats 4000000 in
set_option maxRecDepth 100000 in
theorem t_Mk_isFull {n : Nat} {I : xm_I} {L : xm_L} {K : Int32 → Prop} (hn : 86 ≤ n) (hF : ok (f_Mk_isFull I) K) : xm_C 0 mt_Mk_isFull [.ref 17] (I, L, RC n, n) 0 0 (pI (fun p : Int32 => p) (fun p : Int32 => (I, L, RC n, n)) K) := by
  unfold f_Mk_isFull at hF
  refine xm_enter (by decide +kernel) dv_Mk_isFull (Nat.le_of_ble_eq_true rfl) ?_
  exact t_Mk_isFull_b0 hn (fun p hp => ⟨p, rfl, rfl, hp⟩) hF

noncomputable def f_Mk_lose_b0 (x1 : Int32) (I : xm_I) : Option (xm_I) :=
  let I_1 : xm_I := up2 I 17 5 ((I 17 5) + x1)
  some (I_1)
noncomputable def f_Mk_lose (x1 : Int32) (I : xm_I) : Option (xm_I) := f_Mk_lose_b0 x1 I
set_option maxHeartbeats 4000000 in
set_option maxRecDepth 100000 in
theorem t_Mk_lose_b0 {x1 : Int32} {n : Nat} {I : xm_I} {L : xm_L} {K : xm_I → Prop} {Q : Option Value → xm_H → Prop} (hn : 86 ≤ n) (hq : ∀ p : xm_I, K p → Q none (p, L, RC n, n)) (hF : ok (f_Mk_lose_b0 x1 I) K) : xm_J 0 mt_Mk_lose 0 [(0, .ref 17), (1, .int x1)] [] (I, L, RC n, n) 0 0 Q := by
  unfold f_Mk_lose_b0 at hF
  refine r_aload_n (i := 0) (k0 := 0) rfl rfl rfl ?_
  refine r_dup (i := 1) rfl rfl ?_
  refine q_geti (i := 2) rfl fl_Mk_28 (xm_in rfl hn) rfl ?_
  refine r_iload_n (i := 3) (k0 := 1) rfl rfl rfl ?_
  refine r_iadd (i := 4) rfl ?_
  refine q_puti (i := 5) rfl fl_Mk_28 (fun h => Bool.noConfusion h) (xm_in rfl hn) rfl ?_
  have hQ := hq _ (ok_some hF)
  exact r_return (i := 6) rfl rfl hQ
set_option maxHeartbeats 4000000 in
set_option maxRecDepth 100000 in
theorem t_Mk_lose {x1 : Int32} {n : Nat} {I : xm_I} {L : xm_L} {K : xm_I → Prop} (hn : 86 ≤ n) (hF : ok (f_Mk_lose x1 I) K) : xm_C 0 mt_Mk_lose [.ref 17, .int x1] (I, L, RC n, n) 0 0 (pV (fun p : xm_I => (p, L, RC n, n)) K) := by
  unfold f_Mk_lose at hF
  refine xm_enter (by decide +kernel) dv_Mk_lose (Nat.le_of_ble_eq_true rfl) ?_
  exact t_Mk_lose_b0 hn (fun p hp => ⟨p, rfl, rfl, hp⟩) hF

noncomputable def f_Mk_add_b0 (x1 : Int32) (x2 : Int32) (x3 : Int32) (x4 : Int32) (x5 : Int32) (x6 : Int32) (I : xm_I) : Option (xm_I) :=
  (f_Mk_isFull I).bind fun p_1 =>
  if p_1 = 0 then (
    let x7_2 : Int32 := (I 17 4) * 6
    gd (0 ≤ (x7_2).toInt ∧ (x7_2).toInt < 3600) <|
    let I_3 : xm_I := up2 I 18 (Int32.toNatClampNeg x7_2) x1
    gd (0 ≤ (x7_2 + 1).toInt ∧ (x7_2 + 1).toInt < 3600) <|
    let I_4 : xm_I := up2 I_3 18 (Int32.toNatClampNeg (x7_2 + 1)) x2
    gd (0 ≤ (x7_2 + 2).toInt ∧ (x7_2 + 2).toInt < 3600) <|
    let I_5 : xm_I := up2 I_4 18 (Int32.toNatClampNeg (x7_2 + 2)) x3
    gd (0 ≤ (x7_2 + 3).toInt ∧ (x7_2 + 3).toInt < 3600) <|
    let I_6 : xm_I := up2 I_5 18 (Int32.toNatClampNeg (x7_2 + 3)) x4
    gd (0 ≤ (x7_2 + 4).toInt ∧ (x7_2 + 4).toInt < 3600) <|
    let I_7 : xm_I := up2 I_6 18 (Int32.toNatClampNeg (x7_2 + 4)) x5
    gd (0 ≤ (x7_2 + 5).toInt ∧ (x7_2 + 5).toInt < 3600) <|
    let I_8 : xm_I := up2 I_7 18 (Int32.toNatClampNeg (x7_2 + 5)) x6
    let I_9 : xm_I := up2 I_8 17 4 ((I_8 17 4) + 1)
    some (I_9))
  else (
  (f_Mk_lose 1 I).bind fun p_10 =>
  some (p_10))
noncomputable def f_Mk_add (x1 : Int32) (x2 : Int32) (x3 : Int32) (x4 : Int32) (x5 : Int32) (x6 : Int32) (I : xm_I) : Option (xm_I) := f_Mk_add_b0 x1 x2 x3 x4 x5 x6 I
set_option maxHeartbeats 4000000 in
set_option maxRecDepth 100000 in
theorem t_Mk_add_b0 {x1 : Int32} {x2 : Int32} {x3 : Int32} {x4 : Int32} {x5 : Int32} {x6 : Int32} {n : Nat} {I : xm_I} {L : xm_L} {K : xm_I → Prop} {Q : Option Value → xm_H → Prop} (hn : 86 ≤ n) (hq : ∀ p : xm_I, K p → Q none (p, L, RC n, n)) (hF : ok (f_Mk_add_b0 x1 x2 x3 x4 x5 x6 I) K) : xm_J 1 mt_Mk_add 0 [(0, .ref 17), (1, .int x1), (2, .int x2), (3, .int x3), (4, .int x4), (5, .int x5), (6, .int x6)] [] (I, L, RC n, n) 0 0 Q := by
  unfold f_Mk_add_b0 at hF
  refine r_aload_n (i := 0) (k0 := 0) rfl rfl rfl ?_
  refine c_V0I (i := 1) rfl vm_Mk_isFull lk_Mk_31 (t_Mk_isFull hn (ok_bind hF)) (Nat.le_of_ble_eq_true rfl) (xm_in rfl hn) rfl rfl (Nat.le_of_ble_eq_true rfl) (fun p_1 hF => ?_)
  refine r_ifeq (i := 2) (tgt := 13) rfl (by decide) (fun hc => ?_) (fun hc => ?_)
  · have hF := ok_it hc hF
    refine r_aload_n (i := 7) (k0 := 0) rfl rfl rfl ?_
    refine q_geti (i := 8) rfl fl_Mk_25 (xm_in rfl hn) rfl ?_
    refine r_bipush (v := 6) (i := 9) rfl kb_6 ?_
    refine r_imul (i := 10) rfl ?_
    refine r_istore (i := 11) (Ls' := [(7, _), (0, _), (1, _), (2, _), (3, _), (4, _), (5, _), (6, _)]) rfl (Nat.le_of_ble_eq_true rfl) rfl ?_
    refine r_aload_n (i := 12) (k0 := 1) rfl rfl rfl ?_
    refine q_getr (b := 18) (i := 13) rfl fl_Mk_11 rfl (xm_in rfl hn) rfl rfl ?_
    refine r_iload (i := 14) (k0 := 0) rfl rfl ?_
    refine r_iload_n (i := 15) (k0 := 2) rfl rfl rfl ?_
    obtain ⟨hi, hF⟩ := ok_gd hF
    refine q_iastore (i := 16) rfl (xm_in rfl hn) rfl hi ?_
    refine r_aload_n (i := 17) (k0 := 1) rfl rfl rfl ?_
    refine q_getr (b := 18) (i := 18) rfl fl_Mk_11 rfl (xm_in rfl hn) rfl rfl ?_
    refine r_iload (i := 19) (k0 := 0) rfl rfl ?_
    refine r_iconst (v := 1) (i := 20) rfl ki_1 ?_
    refine r_iadd (i := 21) rfl ?_
    refine r_iload_n (i := 22) (k0 := 3) rfl rfl rfl ?_
    obtain ⟨hi, hF⟩ := ok_gd hF
    refine q_iastore (i := 23) rfl (xm_in rfl hn) rfl hi ?_
    refine r_aload_n (i := 24) (k0 := 1) rfl rfl rfl ?_
    refine q_getr (b := 18) (i := 25) rfl fl_Mk_11 rfl (xm_in rfl hn) rfl rfl ?_
    refine r_iload (i := 26) (k0 := 0) rfl rfl ?_
    refine r_iconst (v := 2) (i := 27) rfl ki_2 ?_
    refine r_iadd (i := 28) rfl ?_
    refine r_iload_n (i := 29) (k0 := 4) rfl rfl rfl ?_
    obtain ⟨hi, hF⟩ := ok_gd hF
    refine q_iastore (i := 30) rfl (xm_in rfl hn) rfl hi ?_
    refine r_aload_n (i := 31) (k0 := 1) rfl rfl rfl ?_
    refine q_getr (b := 18) (i := 32) rfl fl_Mk_11 rfl (xm_in rfl hn) rfl rfl ?_
    refine r_iload (i := 33) (k0 := 0) rfl rfl ?_
    refine r_iconst (v := 3) (i := 34) rfl ki_3 ?_
    refine r_iadd (i := 35) rfl ?_
    refine r_iload (i := 36) (k0 := 5) rfl rfl ?_
    obtain ⟨hi, hF⟩ := ok_gd hF
    refine q_iastore (i := 37) rfl (xm_in rfl hn) rfl hi ?_
    refine r_aload_n (i := 38) (k0 := 1) rfl rfl rfl ?_
    refine q_getr (b := 18) (i := 39) rfl fl_Mk_11 rfl (xm_in rfl hn) rfl rfl ?_
    refine r_iload (i := 40) (k0 := 0) rfl rfl ?_
    refine r_iconst (v := 4) (i := 41) rfl ki_4 ?_
    refine r_iadd (i := 42) rfl ?_
    refine r_iload (i := 43) (k0 := 6) rfl rfl ?_
    obtain ⟨hi, hF⟩ := ok_gd hF
    refine q_iastore (i := 44) rfl (xm_in rfl hn) rfl hi ?_
    refine r_aload_n (i := 45) (k0 := 1) rfl rfl rfl ?_
    refine q_getr (b := 18) (i := 46) rfl fl_Mk_11 rfl (xm_in rfl hn) rfl rfl ?_
    refine r_iload (i := 47) (k0 := 0) rfl rfl ?_
    refine r_iconst (v := 5) (i := 48) rfl ki_5 ?_
    refine r_iadd (i := 49) rfl ?_
    refine r_iload (i := 50) (k0 := 7) rfl rfl ?_
    obtain ⟨hi, hF⟩ := ok_gd hF
    refine q_iastore (i := 51) rfl (xm_in rfl hn) rfl hi ?_
    refine r_aload_n (i := 52) (k0 := 1) rfl rfl rfl ?_
    refine r_dup (i := 53) rfl rfl ?_
    refine q_geti (i := 54) rfl fl_Mk_25 (xm_in rfl hn) rfl ?_
    refine r_iconst (v := 1) (i := 55) rfl ki_1 ?_
    refine r_iadd (i := 56) rfl ?_
    refine q_puti (i := 57) rfl fl_Mk_25 (fun h => Bool.noConfusion h) (xm_in rfl hn) rfl ?_
    have hQ := hq _ (ok_some hF)
    exact r_return (i := 58) rfl rfl hQ
  have hF := ok_if hc hF
  refine r_aload_n (i := 3) (k0 := 0) rfl rfl rfl ?_
  refine r_iconst (v := 1) (i := 4) rfl ki_1 ?_
  refine c_V1V (i := 5) rfl vm_Mk_lose lk_Mk_35 (t_Mk_lose hn (ok_bind hF)) (Nat.le_of_ble_eq_true rfl) (xm_in rfl hn) rfl rfl (Nat.le_of_ble_eq_true rfl) (fun p_10 hF => ?_)
  have hQ := hq _ (ok_some hF)
  exact r_return (i := 6) rfl rfl hQ
set_option maxHeartbeats 4000000 in
set_option maxRecDepth 100000 in
theorem t_Mk_add {x1 : Int32} {x2 : Int32} {x3 : Int32} {x4 : Int32} {x5 : Int32} {x6 : Int32} {n : Nat} {I : xm_I} {L : xm_L} {K : xm_I → Prop} (hn : 86 ≤ n) (hF : ok (f_Mk_add x1 x2 x3 x4 x5 x6 I) K) : xm_C 1 mt_Mk_add [.ref 17, .int x1, .int x2, .int x3, .int x4, .int x5, .int x6] (I, L, RC n, n) 0 0 (pV (fun p : xm_I => (p, L, RC n, n)) K) := by
  unfold f_Mk_add at hF
  refine xm_enter (by decide +kernel) dv_Mk_add (Nat.le_of_ble_eq_true rfl) ?_
  exact t_Mk_add_b0 hn (fun p hp => ⟨p, rfl, rfl, hp⟩) hF

noncomputable def f_Pl_markGuest_b0 (x1 : Int32) (I : xm_I) : Option (xm_I) :=
  gd (0 ≤ (x1).toInt ∧ (x1).toInt < 20) <|
  let x2_1 : Int32 := I 42 (Int32.toNatClampNeg x1)
  if x2_1 < 0 then (
    some (I))
  else (
  if x2_1 < 8 then (
    gd (0 ≤ (x1).toInt ∧ (x1).toInt < 20) <|
    let x3_2 : Int32 := I 40 (Int32.toNatClampNeg x1)
    let x4_3 : Int32 := (x1 * 8) + x2_1
    gd (0 ≤ (x4_3).toInt ∧ (x4_3).toInt < 160) <|
    (f_Lb_place x3_2 x2_1 (I 45 (Int32.toNatClampNeg x4_3)) I).bind fun p_4 =>
    gd (0 ≤ (x4_3).toInt ∧ (x4_3).toInt < 160) <|
    gd (0 ≤ (x4_3).toInt ∧ (x4_3).toInt < 160) <|
    (f_Lb_lettersOf x3_2 p_4).bind fun p_5 =>
    (f_Mk_add 87 (p_4 43 (Int32.toNatClampNeg x4_3)) (p_4 44 (Int32.toNatClampNeg x4_3)) p_5 x3_2 0 p_4).bind fun p_6 =>
    some (p_6))
  else (
  some (I)))
noncomputable def f_Pl_markGuest (x1 : Int32) (I : xm_I) : Option (xm_I) := f_Pl_markGuest_b0 x1 I
set_option maxHeartbeats 4000000 in
set_option maxRecDepth 100000 in
theorem t_Pl_markGuest_b0 {x1 : Int32} {n : Nat} {I : xm_I} {L : xm_L} {K : xm_I → Prop} {Q : Option Value → xm_H → Prop} (hn : 86 ≤ n) (hq : ∀ p : xm_I, K p → Q none (p, L, RC n, n)) (hF : ok (f_Pl_markGuest_b0 x1 I) K) : xm_J 2 mt_Pl_markGuest 0 [(0, .ref 39), (1, .int x1)] [] (I, L, RC n, n) 0 0 Q := by
  unfold f_Pl_markGuest_b0 at hF
  refine r_aload_n (i := 0) (k0 := 0) rfl rfl rfl ?_
  refine q_getr (b := 42) (i := 1) rfl fl_Pl_18 rfl (xm_in rfl hn) rfl rfl ?_
  refine r_iload_n (i := 2) (k0 := 1) rfl rfl rfl ?_
  obtain ⟨hi, hF⟩ := ok_gd hF
  refine q_iaload (i := 3) rfl (xm_in rfl hn) rfl hi ?_
  refine r_istore_n (i := 4) (Ls' := [(2, _), (0, _), (1, _)]) rfl rfl (Nat.le_of_ble_eq_true rfl) rfl ?_
  refine r_iload_n (i := 5) (k0 := 0) rfl rfl rfl ?_
  refine r_iflt (i := 6) (tgt := 17) rfl (by decide) (fun hc => ?_) (fun hc => ?_)
  · have hF := ok_it hc hF
    have hQ := hq _ (ok_some hF)
    exact r_return (i := 10) rfl rfl hQ
  have hF := ok_if hc hF
  refine r_iload_n (i := 7) (k0 := 0) rfl rfl rfl ?_
  refine r_bipush (v := 8) (i := 8) rfl kb_8 ?_
  refine r_icmplt (i := 9) (tgt := 18) rfl (by decide) (fun hc => ?_) (fun hc => ?_)
  · have hF := ok_it hc hF
    refine r_aload_n (i := 11) (k0 := 1) rfl rfl rfl ?_
    refine q_getr (b := 40) (i := 12) rfl fl_Pl_11 rfl (xm_in rfl hn) rfl rfl ?_
    refine r_iload_n (i := 13) (k0 := 2) rfl rfl rfl ?_
    obtain ⟨hi, hF⟩ := ok_gd hF
    refine q_iaload (i := 14) rfl (xm_in rfl hn) rfl hi ?_
    refine r_istore_n (i := 15) (Ls' := [(3, _), (2, _), (0, _), (1, _)]) rfl rfl (Nat.le_of_ble_eq_true rfl) rfl ?_
    refine r_iload_n (i := 16) (k0 := 3) rfl rfl rfl ?_
    refine r_bipush (v := 8) (i := 17) rfl kb_8 ?_
    refine r_imul (i := 18) rfl ?_
    refine r_iload_n (i := 19) (k0 := 1) rfl rfl rfl ?_
    refine r_iadd (i := 20) rfl ?_
    refine r_istore (i := 21) (Ls' := [(4, _), (3, _), (2, _), (0, _), (1, _)]) rfl (Nat.le_of_ble_eq_true rfl) rfl ?_
    refine r_aload_n (i := 22) (k0 := 3) rfl rfl rfl ?_
    refine q_getr (b := 21) (i := 23) rfl fl_Pl_39 rfl (xm_in rfl hn) rfl rfl ?_
    refine r_iload_n (i := 24) (k0 := 1) rfl rfl rfl ?_
    refine r_iload_n (i := 25) (k0 := 2) rfl rfl rfl ?_
    refine r_aload_n (i := 26) (k0 := 3) rfl rfl rfl ?_
    refine q_getr (b := 45) (i := 27) rfl fl_Pl_27 rfl (xm_in rfl hn) rfl rfl ?_
    refine r_iload (i := 28) (k0 := 0) rfl rfl ?_
    obtain ⟨hi, hF⟩ := ok_gd hF
    refine q_iaload (i := 29) rfl (xm_in rfl hn) rfl hi ?_
    refine c_V3V (i := 30) rfl vm_Lb_place lk_Pl_174 (t_Lb_place hn (ok_bind hF)) (Nat.le_of_ble_eq_true rfl) (xm_in rfl hn) rfl rfl (Nat.le_of_ble_eq_true rfl) (fun p_4 hF => ?_)
    refine r_aload_n (i := 31) (k0 := 3) rfl rfl rfl ?_
    refine q_getr (b := 17) (i := 32) rfl fl_Pl_47 rfl (xm_in rfl hn) rfl rfl ?_
    refine r_bipush (v := 87) (i := 33) rfl kb_87 ?_
    refine r_aload_n (i := 34) (k0 := 3) rfl rfl rfl ?_
    refine q_getr (b := 43) (i := 35) rfl fl_Pl_21 rfl (xm_in rfl hn) rfl rfl ?_
    refine r_iload (i := 36) (k0 := 0) rfl rfl ?_
    obtain ⟨hi, hF⟩ := ok_gd hF
    refine q_iaload (i := 37) rfl (xm_in rfl hn) rfl hi ?_
    refine r_aload_n (i := 38) (k0 := 3) rfl rfl rfl ?_
    refine q_getr (b := 44) (i := 39) rfl fl_Pl_24 rfl (xm_in rfl hn) rfl rfl ?_
    refine r_iload (i := 40) (k0 := 0) rfl rfl ?_
    obtain ⟨hi, hF⟩ := ok_gd hF
    refine q_iaload (i := 41) rfl (xm_in rfl hn) rfl hi ?_
    refine r_aload_n (i := 42) (k0 := 3) rfl rfl rfl ?_
    refine q_getr (b := 21) (i := 43) rfl fl_Pl_39 rfl (xm_in rfl hn) rfl rfl ?_
    refine r_iload_n (i := 44) (k0 := 1) rfl rfl rfl ?_
    refine c_V1I (i := 45) rfl vm_Lb_lettersOf lk_Pl_96 (t_Lb_lettersOf hn (ok_bind hF)) (Nat.le_of_ble_eq_true rfl) (xm_in rfl hn) rfl rfl (Nat.le_of_ble_eq_true rfl) (fun p_5 hF => ?_)
    refine r_iload_n (i := 46) (k0 := 1) rfl rfl rfl ?_
    refine r_iconst (v := 0) (i := 47) rfl ki_0 ?_
    refine c_V6V (i := 48) rfl vm_Mk_add lk_Pl_177 (t_Mk_add hn (ok_bind hF)) (Nat.le_of_ble_eq_true rfl) (xm_in rfl hn) rfl rfl (Nat.le_of_ble_eq_true rfl) (fun p_6 hF => ?_)
    have hQ := hq _ (ok_some hF)
    exact r_return (i := 49) rfl rfl hQ
  have hF := ok_if hc hF
  have hQ := hq _ (ok_some hF)
  exact r_return (i := 10) rfl rfl hQ
set_option maxHeartbeats 4000000 in
set_option maxRecDepth 100000 in
theorem t_Pl_markGuest {x1 : Int32} {n : Nat} {I : xm_I} {L : xm_L} {K : xm_I → Prop} (hn : 86 ≤ n) (hF : ok (f_Pl_markGuest x1 I) K) : xm_C 2 mt_Pl_markGuest [.ref 39, .int x1] (I, L, RC n, n) 0 0 (pV (fun p : xm_I => (p, L, RC n, n)) K) := by
  unfold f_Pl_markGuest at hF
  refine xm_enter (by decide +kernel) dv_Pl_markGuest (Nat.le_of_ble_eq_true rfl) ?_
  exact t_Pl_markGuest_b0 hn (fun p hp => ⟨p, rfl, rfl, hp⟩) hF

noncomputable def f_Pl_leftFromAnchor_b0 (x0 : Int32) (x1 : Int32) : Option (Int32) :=
  if x0 = 0 then (
    some (3))
  else (
  if x0 = 1 then (
    some (2))
  else (
  if x0 = 2 then (
    some (-(x1 / 2)))
  else (
  if x0 = 3 then (
    some (((-2)) - x1))
  else (
  if x0 = 4 then (
    some (((-3)) - x1))
  else (
  if x0 = 5 then (
    some (((-2)) - x1))
  else (
  if x0 = 6 then (
    some (-(x1 / 2)))
  else (
  some (2))))))))
noncomputable def f_Pl_leftFromAnchor (x0 : Int32) (x1 : Int32) : Option (Int32) := f_Pl_leftFromAnchor_b0 x0 x1
set_option maxHeartbeats 4000000 in
set_option maxRecDepth 100000 in
theorem t_Pl_leftFromAnchor_b0 {x0 : Int32} {x1 : Int32} {n : Nat} {I : xm_I} {L : xm_L} {K : Int32 → Prop} {Q : Option Value → xm_H → Prop} (hn : 86 ≤ n) (hq : ∀ p : Int32, K p → Q (some (.int p)) (I, L, RC n, n)) (hF : ok (f_Pl_leftFromAnchor_b0 x0 x1) K) : xm_J 0 mt_Pl_leftFromAnchor 0 [(0, .int x0), (1, .int x1)] [] (I, L, RC n, n) 0 0 Q := by
  unfold f_Pl_leftFromAnchor_b0 at hF
  refine r_iload_n (i := 0) (k0 := 0) rfl rfl rfl ?_
  refine r_case 0 (fun hc0 => ?_) (fun hc0 => ?_)
  · have hF := ok_it hc0 hF
    refine r_tsIn (i := 1) (tgt := 44) rfl (by decide) (by decide) rfl (by decide) ?_
    refine r_iconst (v := 3) (i := 2) rfl ki_3 ?_
    have hQ := hq _ (ok_some hF)
    exact r_ireturn (i := 3) rfl rfl rfl hQ
  have hF := ok_if hc0 hF
  refine r_case 1 (fun hc1 => ?_) (fun hc1 => ?_)
  · have hF := ok_it hc1 hF
    refine r_tsIn (i := 1) (tgt := 46) rfl (by decide) (by decide) rfl (by decide) ?_
    refine r_iconst (v := 2) (i := 4) rfl ki_2 ?_
    have hQ := hq _ (ok_some hF)
    exact r_ireturn (i := 5) rfl rfl rfl hQ
  have hF := ok_if hc1 hF
  refine r_case 2 (fun hc2 => ?_) (fun hc2 => ?_)
  · have hF := ok_it hc2 hF
    refine r_tsIn (i := 1) (tgt := 48) rfl (by decide) (by decide) rfl (by decide) ?_
    refine r_iload_n (i := 6) (k0 := 1) rfl rfl rfl ?_
    refine r_iconst (v := 2) (i := 7) rfl ki_2 ?_
    refine r_idiv (i := 8) rfl (by decide) ?_
    refine r_ineg (i := 9) rfl ?_
    have hQ := hq _ (ok_some hF)
    exact r_ireturn (i := 10) rfl rfl rfl hQ
  have hF := ok_if hc2 hF
  refine r_case 3 (fun hc3 => ?_) (fun hc3 => ?_)
  · have hF := ok_it hc3 hF
    refine r_tsIn (i := 1) (tgt := 53) rfl (by decide) (by decide) rfl (by decide) ?_
    refine r_bipush (v := (-2)) (i := 11) rfl kb_m2 ?_
    refine r_iload_n (i := 12) (k0 := 1) rfl rfl rfl ?_
    refine r_isub (i := 13) rfl ?_
    have hQ := hq _ (ok_some hF)
    exact r_ireturn (i := 14) rfl rfl rfl hQ
  have hF := ok_if hc3 hF
  refine r_case 4 (fun hc4 => ?_) (fun hc4 => ?_)
  · have hF := ok_it hc4 hF
    refine r_tsIn (i := 1) (tgt := 58) rfl (by decide) (by decide) rfl (by decide) ?_
    refine r_bipush (v := (-3)) (i := 15) rfl kb_m3 ?_
    refine r_iload_n (i := 16) (k0 := 1) rfl rfl rfl ?_
    refine r_isub (i := 17) rfl ?_
    have hQ := hq _ (ok_some hF)
    exact r_ireturn (i := 18) rfl rfl rfl hQ
  have hF := ok_if hc4 hF
  refine r_case 5 (fun hc5 => ?_) (fun hc5 => ?_)
  · have hF := ok_it hc5 hF
    refine r_tsIn (i := 1) (tgt := 63) rfl (by decide) (by decide) rfl (by decide) ?_
    refine r_bipush (v := (-2)) (i := 19) rfl kb_m2 ?_
    refine r_iload_n (i := 20) (k0 := 1) rfl rfl rfl ?_
    refine r_isub (i := 21) rfl ?_
    have hQ := hq _ (ok_some hF)
    exact r_ireturn (i := 22) rfl rfl rfl hQ
  have hF := ok_if hc5 hF
  refine r_case 6 (fun hc6 => ?_) (fun hc6 => ?_)
  · have hF := ok_it hc6 hF
    refine r_tsIn (i := 1) (tgt := 68) rfl (by decide) (by decide) rfl (by decide) ?_
    refine r_iload_n (i := 23) (k0 := 1) rfl rfl rfl ?_
    refine r_iconst (v := 2) (i := 24) rfl ki_2 ?_
    refine r_idiv (i := 25) rfl (by decide) ?_
    refine r_ineg (i := 26) rfl ?_
    have hQ := hq _ (ok_some hF)
    exact r_ireturn (i := 27) rfl rfl rfl hQ
  have hF := ok_if hc6 hF
  refine r_tsOut (i := 1) (tgt := 73) rfl (by have e0 := lv_neT hc0 (a := 0) (by decide); have e1 := lv_neT hc1 (a := 1) (by decide); have e2 := lv_neT hc2 (a := 2) (by decide); have e3 := lv_neT hc3 (a := 3) (by decide); have e4 := lv_neT hc4 (a := 4) (by decide); have e5 := lv_neT hc5 (a := 5) (by decide); have e6 := lv_neT hc6 (a := 6) (by decide); omega) (by decide) ?_
  refine r_iconst (v := 2) (i := 28) rfl ki_2 ?_
  have hQ := hq _ (ok_some hF)
  exact r_ireturn (i := 29) rfl rfl rfl hQ
set_option maxHeartbeats 4000000 in
set_option maxRecDepth 100000 in
theorem t_Pl_leftFromAnchor {x0 : Int32} {x1 : Int32} {n : Nat} {I : xm_I} {L : xm_L} {K : Int32 → Prop} (hn : 86 ≤ n) (hF : ok (f_Pl_leftFromAnchor x0 x1) K) : xm_C 0 mt_Pl_leftFromAnchor [.int x0, .int x1] (I, L, RC n, n) 0 0 (pI (fun p : Int32 => p) (fun p : Int32 => (I, L, RC n, n)) K) := by
  unfold f_Pl_leftFromAnchor at hF
  refine xm_enter (by decide +kernel) dv_Pl_leftFromAnchor (Nat.le_of_ble_eq_true rfl) ?_
  exact t_Pl_leftFromAnchor_b0 hn (fun p hp => ⟨p, rfl, rfl, hp⟩) hF

noncomputable def f_Pn_anchorXOf_b0 (x1 : Int32) (I : xm_I) : Option (Int32) :=
  (f_Pn_hasDrawn x1 I).bind fun p_1 =>
  if p_1 = 0 then (
    some (0))
  else (
  gd (0 ≤ (x1).toInt ∧ (x1).toInt < 40) <|
  some (I 32 (Int32.toNatClampNeg x1)))
noncomputable def f_Pn_anchorXOf (x1 : Int32) (I : xm_I) : Option (Int32) := f_Pn_anchorXOf_b0 x1 I
set_option maxHeartbeats 4000000 in
set_option maxRecDepth 100000 in
theorem t_Pn_anchorXOf_b0 {x1 : Int32} {n : Nat} {I : xm_I} {L : xm_L} {K : Int32 → Prop} {Q : Option Value → xm_H → Prop} (hn : 86 ≤ n) (hq : ∀ p : Int32, K p → Q (some (.int p)) (I, L, RC n, n)) (hF : ok (f_Pn_anchorXOf_b0 x1 I) K) : xm_J 1 mt_Pn_anchorXOf 0 [(0, .ref 30), (1, .int x1)] [] (I, L, RC n, n) 0 0 Q := by
  unfold f_Pn_anchorXOf_b0 at hF
  refine r_aload_n (i := 0) (k0 := 0) rfl rfl rfl ?_
  refine r_iload_n (i := 1) (k0 := 1) rfl rfl rfl ?_
  refine c_V1I (i := 2) rfl vm_Pn_hasDrawn lk_Pn_78 (t_Pn_hasDrawn hn (ok_bind hF)) (Nat.le_of_ble_eq_true rfl) (xm_in rfl hn) rfl rfl (Nat.le_of_ble_eq_true rfl) (fun p_1 hF => ?_)
  refine r_ifeq (i := 3) (tgt := 17) rfl (by decide) (fun hc => ?_) (fun hc => ?_)
  · have hF := ok_it hc hF
    refine r_iconst (v := 0) (i := 9) rfl ki_0 ?_
    have hQ := hq _ (ok_some hF)
    exact r_ireturn (i := 10) rfl rfl rfl hQ
  have hF := ok_if hc hF
  refine r_aload_n (i := 4) (k0 := 0) rfl rfl rfl ?_
  refine q_getr (b := 32) (i := 5) rfl fl_Pn_15 rfl (xm_in rfl hn) rfl rfl ?_
  refine r_iload_n (i := 6) (k0 := 1) rfl rfl rfl ?_
  obtain ⟨hi, hF⟩ := ok_gd hF
  refine q_iaload (i := 7) rfl (xm_in rfl hn) rfl hi ?_
  refine r_goto (i := 8) (tgt := 18) rfl (by decide) ?_
  have hQ := hq _ (ok_some hF)
  exact r_ireturn (i := 10) rfl rfl rfl hQ
set_option maxHeartbeats 4000000 in
set_option maxRecDepth 100000 in
theorem t_Pn_anchorXOf {x1 : Int32} {n : Nat} {I : xm_I} {L : xm_L} {K : Int32 → Prop} (hn : 86 ≤ n) (hF : ok (f_Pn_anchorXOf x1 I) K) : xm_C 1 mt_Pn_anchorXOf [.ref 30, .int x1] (I, L, RC n, n) 0 0 (pI (fun p : Int32 => p) (fun p : Int32 => (I, L, RC n, n)) K) := by
  unfold f_Pn_anchorXOf at hF
  refine xm_enter (by decide +kernel) dv_Pn_anchorXOf (Nat.le_of_ble_eq_true rfl) ?_
  exact t_Pn_anchorXOf_b0 hn (fun p hp => ⟨p, rfl, rfl, hp⟩) hF

noncomputable def f_Pn_anchorYOf_b0 (x1 : Int32) (I : xm_I) : Option (Int32) :=
  (f_Pn_hasDrawn x1 I).bind fun p_1 =>
  if p_1 = 0 then (
    some (0))
  else (
  gd (0 ≤ (x1).toInt ∧ (x1).toInt < 40) <|
  some (I 33 (Int32.toNatClampNeg x1)))
noncomputable def f_Pn_anchorYOf (x1 : Int32) (I : xm_I) : Option (Int32) := f_Pn_anchorYOf_b0 x1 I
set_option maxHeartbeats 4000000 in
set_option maxRecDepth 100000 in
theorem t_Pn_anchorYOf_b0 {x1 : Int32} {n : Nat} {I : xm_I} {L : xm_L} {K : Int32 → Prop} {Q : Option Value → xm_H → Prop} (hn : 86 ≤ n) (hq : ∀ p : Int32, K p → Q (some (.int p)) (I, L, RC n, n)) (hF : ok (f_Pn_anchorYOf_b0 x1 I) K) : xm_J 1 mt_Pn_anchorYOf 0 [(0, .ref 30), (1, .int x1)] [] (I, L, RC n, n) 0 0 Q := by
  unfold f_Pn_anchorYOf_b0 at hF
  refine r_aload_n (i := 0) (k0 := 0) rfl rfl rfl ?_
  refine r_iload_n (i := 1) (k0 := 1) rfl rfl rfl ?_
  refine c_V1I (i := 2) rfl vm_Pn_hasDrawn lk_Pn_78 (t_Pn_hasDrawn hn (ok_bind hF)) (Nat.le_of_ble_eq_true rfl) (xm_in rfl hn) rfl rfl (Nat.le_of_ble_eq_true rfl) (fun p_1 hF => ?_)
  refine r_ifeq (i := 3) (tgt := 17) rfl (by decide) (fun hc => ?_) (fun hc => ?_)
  · have hF := ok_it hc hF
    refine r_iconst (v := 0) (i := 9) rfl ki_0 ?_
    have hQ := hq _ (ok_some hF)
    exact r_ireturn (i := 10) rfl rfl rfl hQ
  have hF := ok_if hc hF
  refine r_aload_n (i := 4) (k0 := 0) rfl rfl rfl ?_
  refine q_getr (b := 33) (i := 5) rfl fl_Pn_19 rfl (xm_in rfl hn) rfl rfl ?_
  refine r_iload_n (i := 6) (k0 := 1) rfl rfl rfl ?_
  obtain ⟨hi, hF⟩ := ok_gd hF
  refine q_iaload (i := 7) rfl (xm_in rfl hn) rfl hi ?_
  refine r_goto (i := 8) (tgt := 18) rfl (by decide) ?_
  have hQ := hq _ (ok_some hF)
  exact r_ireturn (i := 10) rfl rfl rfl hQ
set_option maxHeartbeats 4000000 in
set_option maxRecDepth 100000 in
theorem t_Pn_anchorYOf {x1 : Int32} {n : Nat} {I : xm_I} {L : xm_L} {K : Int32 → Prop} (hn : 86 ≤ n) (hF : ok (f_Pn_anchorYOf x1 I) K) : xm_C 1 mt_Pn_anchorYOf [.ref 30, .int x1] (I, L, RC n, n) 0 0 (pI (fun p : Int32 => p) (fun p : Int32 => (I, L, RC n, n)) K) := by
  unfold f_Pn_anchorYOf at hF
  refine xm_enter (by decide +kernel) dv_Pn_anchorYOf (Nat.le_of_ble_eq_true rfl) ?_
  exact t_Pn_anchorYOf_b0 hn (fun p hp => ⟨p, rfl, rfl, hp⟩) hF

noncomputable def f_Pl_setBoxes_b164 (x1 : Int32) (x3 : Int32) (x4 : Int32) (x5 : Int32) (y1 : Int32) (y2 : Int32) (I : xm_I) : Option ((Int32 × xm_I) ⊕ (xm_I)) :=
  gd (0 ≤ (y1).toInt ∧ (y1).toInt < 160) <|
  let I_1 : xm_I := up2 I 45 (Int32.toNatClampNeg y1) y2
  let x5_2 : Int32 := x5 + 1
  some (.inl (x5_2, I_1))
noncomputable def f_Pl_setBoxes_b127 (x1 : Int32) (x3 : Int32) (x4 : Int32) (x5 : Int32) (x6 : Int32) (x7 : Int32) (x8 : Int32) (y0 : Int32) (I : xm_I) : Option ((Int32 × xm_I) ⊕ (xm_I)) :=
  gd (0 ≤ (x6).toInt ∧ (x6).toInt < 160) <|
  let I_1 : xm_I := up2 I 43 (Int32.toNatClampNeg x6) x7
  gd (0 ≤ (x6).toInt ∧ (x6).toInt < 160) <|
  let I_2 : xm_I := up2 I_1 44 (Int32.toNatClampNeg x6) x8
  if y0 = 0 then (
    f_Pl_setBoxes_b164 x1 x3 x4 x5 x6 ((-1)) I_2)
  else (
  f_Pl_setBoxes_b164 x1 x3 x4 x5 x6 x5 I_2)
noncomputable def f_Pl_setBoxes_b126 (x1 : Int32) (x3 : Int32) (x4 : Int32) (x5 : Int32) (x6 : Int32) (x7 : Int32) (x8 : Int32) (I : xm_I) : Option ((Int32 × xm_I) ⊕ (xm_I)) :=
  f_Pl_setBoxes_b127 x1 x3 x4 x5 x6 x7 x8 0 I
noncomputable def f_Pl_setBoxes_s36 (x1 : Int32) (x3 : Int32) (x4 : Int32) (s : Int32 × xm_I) : Option ((Int32 × xm_I) ⊕ (xm_I)) :=
  if 8 ≤ s.1 then (
    some (.inr (s.2)))
  else (
  let x6_1 : Int32 := (x1 * 8) + s.1
  gd (0 ≤ (x1).toInt ∧ (x1).toInt < 20) <|
  (f_Pl_leftFromAnchor s.1 (s.2 41 (Int32.toNatClampNeg x1))).bind fun p_2 =>
  let x7_3 : Int32 := x3 + p_2
  gd (0 ≤ (s.1).toInt ∧ (s.1).toInt < 8) <|
  let x8_4 : Int32 := x4 + (xm_tp (Int32.toNatClampNeg s.1))
  if x7_3 < 0 then (
    f_Pl_setBoxes_b126 x1 x3 x4 s.1 x6_1 x7_3 x8_4 s.2)
  else (
  if x8_4 < 0 then (
    f_Pl_setBoxes_b126 x1 x3 x4 s.1 x6_1 x7_3 x8_4 s.2)
  else (
  gd (0 ≤ (x1).toInt ∧ (x1).toInt < 20) <|
  if (s.2 14 4) < (x7_3 + (s.2 41 (Int32.toNatClampNeg x1))) then (
    f_Pl_setBoxes_b126 x1 x3 x4 s.1 x6_1 x7_3 x8_4 s.2)
  else (
  if (s.2 14 5) < (x8_4 + 9) then (
    f_Pl_setBoxes_b126 x1 x3 x4 s.1 x6_1 x7_3 x8_4 s.2)
  else (
  f_Pl_setBoxes_b127 x1 x3 x4 s.1 x6_1 x7_3 x8_4 1 s.2)))))
noncomputable def f_Pl_setBoxes_b36 (x1 : Int32) (x3 : Int32) (x4 : Int32) (s : Int32 × xm_I) : Option (xm_I) := lp (f_Pl_setBoxes_s36 x1 x3 x4) s
noncomputable def f_Pl_setBoxes_b0 (x1 : Int32) (I : xm_I) : Option (xm_I) :=
  gd (0 ≤ (x1).toInt ∧ (x1).toInt < 20) <|
  (f_Lb_objectOf (I 40 (Int32.toNatClampNeg x1)) I).bind fun p_1 =>
  (f_Pn_anchorXOf p_1 I).bind fun p_2 =>
  (f_Pn_anchorYOf p_1 I).bind fun p_3 =>
  f_Pl_setBoxes_b36 x1 p_2 p_3 (0, I)
noncomputable def f_Pl_setBoxes (x1 : Int32) (I : xm_I) : Option (xm_I) := f_Pl_setBoxes_b0 x1 I
set_option maxHeartbeats 4000000 in
set_option maxRecDepth 100000 in
theorem t_Pl_setBoxes_b164 {x1 : Int32} {x3 : Int32} {x4 : Int32} {x5 : Int32} {y1 : Int32} {y2 : Int32} {n : Nat} {I : xm_I} {L : xm_L} {K : (Int32 × xm_I) ⊕ (xm_I) → Prop} {Q : Option Value → xm_H → Prop} (hn : 86 ≤ n) (hq : ∀ p : xm_I, K (.inr p) → Q none (p, L, RC n, n)) (hg0 : ∀ s : Int32 × xm_I, K (.inl s) → xm_J 2 mt_Pl_setBoxes 36 [(0, .ref 39), (1, .int x1), (3, .int x3), (4, .int x4), (5, .int s.1)] [] (s.2, L, RC n, n) 0 0 Q) (hF : ok (f_Pl_setBoxes_b164 x1 x3 x4 x5 y1 y2 I) K) : xm_J 2 mt_Pl_setBoxes 164 [(0, .ref 39), (1, .int x1), (3, .int x3), (4, .int x4), (5, .int x5)] [.int y2, .int y1, .ref 45] (I, L, RC n, n) 0 0 Q := by
  unfold f_Pl_setBoxes_b164 at hF
  obtain ⟨hi, hF⟩ := ok_gd hF
  refine q_iastore (i := 87) rfl (xm_in rfl hn) rfl hi ?_
  refine q_iinc (i := 88) (k0 := 4) (Ls' := [(5, _), (0, _), (1, _), (3, _), (4, _)]) rfl ki_1 rfl (Nat.le_of_ble_eq_true rfl) rfl ?_
  refine r_goto (i := 89) (tgt := 36) rfl (by decide) ?_
  refine xm_sub (Ls' := [(0, _), (1, _), (3, _), (4, _), (5, _)]) [1, 2, 3, 4, 0] rfl ?_
  have hJ := hg0 _ (ok_some hF)
  exact hJ
set_option maxHeartbeats 4000000 in
set_option maxRecDepth 100000 in
theorem t_Pl_setBoxes_b127 {x1 : Int32} {x3 : Int32} {x4 : Int32} {x5 : Int32} {x6 : Int32} {x7 : Int32} {x8 : Int32} {y0 : Int32} {n : Nat} {I : xm_I} {L : xm_L} {K : (Int32 × xm_I) ⊕ (xm_I) → Prop} {Q : Option Value → xm_H → Prop} (hn : 86 ≤ n) (hq : ∀ p : xm_I, K (.inr p) → Q none (p, L, RC n, n)) (hg0 : ∀ s : Int32 × xm_I, K (.inl s) → xm_J 2 mt_Pl_setBoxes 36 [(0, .ref 39), (1, .int x1), (3, .int x3), (4, .int x4), (5, .int s.1)] [] (s.2, L, RC n, n) 0 0 Q) (hF : ok (f_Pl_setBoxes_b127 x1 x3 x4 x5 x6 x7 x8 y0 I) K) : xm_J 2 mt_Pl_setBoxes 127 [(0, .ref 39), (1, .int x1), (3, .int x3), (4, .int x4), (5, .int x5), (6, .int x6), (7, .int x7), (8, .int x8)] [.int y0] (I, L, RC n, n) 0 0 Q := by
  unfold f_Pl_setBoxes_b127 at hF
  refine r_istore (i := 68) (Ls' := [(9, _), (0, _), (1, _), (3, _), (4, _), (5, _), (6, _), (7, _), (8, _)]) rfl (Nat.le_of_ble_eq_true rfl) rfl ?_
  refine r_aload_n (i := 69) (k0 := 1) rfl rfl rfl ?_
  refine q_getr (b := 43) (i := 70) rfl fl_Pl_21 rfl (xm_in rfl hn) rfl rfl ?_
  refine r_iload (i := 71) (k0 := 6) rfl rfl ?_
  refine r_iload (i := 72) (k0 := 7) rfl rfl ?_
  obtain ⟨hi, hF⟩ := ok_gd hF
  refine q_iastore (i := 73) rfl (xm_in rfl hn) rfl hi ?_
  refine r_aload_n (i := 74) (k0 := 1) rfl rfl rfl ?_
  refine q_getr (b := 44) (i := 75) rfl fl_Pl_24 rfl (xm_in rfl hn) rfl rfl ?_
  refine r_iload (i := 76) (k0 := 6) rfl rfl ?_
  refine r_iload (i := 77) (k0 := 8) rfl rfl ?_
  obtain ⟨hi, hF⟩ := ok_gd hF
  refine q_iastore (i := 78) rfl (xm_in rfl hn) rfl hi ?_
  refine r_aload_n (i := 79) (k0 := 1) rfl rfl rfl ?_
  refine q_getr (b := 45) (i := 80) rfl fl_Pl_27 rfl (xm_in rfl hn) rfl rfl ?_
  refine r_iload (i := 81) (k0 := 6) rfl rfl ?_
  refine r_iload (i := 82) (k0 := 0) rfl rfl ?_
  refine r_ifeq (i := 83) (tgt := 163) rfl (by decide) (fun hc => ?_) (fun hc => ?_)
  · have hF := ok_it hc hF
    refine r_iconst (v := (-1)) (i := 86) rfl ki_m1 ?_
    refine xm_sub (Ls' := [(0, _), (1, _), (3, _), (4, _), (5, _)]) [1, 2, 3, 4, 5] rfl ?_
    exact t_Pl_setBoxes_b164 hn (fun p h => hq p h) (fun z h => hg0 z h) hF
  have hF := ok_if hc hF
  refine r_iload (i := 84) (k0 := 5) rfl rfl ?_
  refine r_goto (i := 85) (tgt := 164) rfl (by decide) ?_
  refine xm_sub (Ls' := [(0, _), (1, _), (3, _), (4, _), (5, _)]) [1, 2, 3, 4, 5] rfl ?_
  exact t_Pl_setBoxes_b164 hn (fun p h => hq p h) (fun z h => hg0 z h) hF
set_option maxHeartbeats 4000000 in
set_option maxRecDepth 100000 in
theorem t_Pl_setBoxes_b126 {x1 : Int32} {x3 : Int32} {x4 : Int32} {x5 : Int32} {x6 : Int32} {x7 : Int32} {x8 : Int32} {n : Nat} {I : xm_I} {L : xm_L} {K : (Int32 × xm_I) ⊕ (xm_I) → Prop} {Q : Option Value → xm_H → Prop} (hn : 86 ≤ n) (hq : ∀ p : xm_I, K (.inr p) → Q none (p, L, RC n, n)) (hg0 : ∀ s : Int32 × xm_I, K (.inl s) → xm_J 2 mt_Pl_setBoxes 36 [(0, .ref 39), (1, .int x1), (3, .int x3), (4, .int x4), (5, .int s.1)] [] (s.2, L, RC n, n) 0 0 Q) (hF : ok (f_Pl_setBoxes_b126 x1 x3 x4 x5 x6 x7 x8 I) K) : xm_J 2 mt_Pl_setBoxes 126 [(0, .ref 39), (1, .int x1), (3, .int x3), (4, .int x4), (5, .int x5), (6, .int x6), (7, .int x7), (8, .int x8)] [] (I, L, RC n, n) 0 0 Q := by
  unfold f_Pl_setBoxes_b126 at hF
  refine r_iconst (v := 0) (i := 67) rfl ki_0 ?_
  exact t_Pl_setBoxes_b127 hn (fun p h => hq p h) (fun z h => hg0 z h) hF
set_option maxHeartbeats 4000000 in
set_option maxRecDepth 100000 in
theorem t_Pl_setBoxes_s36 {x1 : Int32} {x3 : Int32} {x4 : Int32} {s : Int32 × xm_I} {n : Nat} {L : xm_L} {K : (Int32 × xm_I) ⊕ (xm_I) → Prop} {Q : Option Value → xm_H → Prop} (hn : 86 ≤ n) (hq : ∀ p : xm_I, K (.inr p) → Q none (p, L, RC n, n)) (hg0 : ∀ s : Int32 × xm_I, K (.inl s) → xm_J 2 mt_Pl_setBoxes 36 [(0, .ref 39), (1, .int x1), (3, .int x3), (4, .int x4), (5, .int s.1)] [] (s.2, L, RC n, n) 0 0 Q) (hF : ok (f_Pl_setBoxes_s36 x1 x3 x4 s) K) : xm_J 2 mt_Pl_setBoxes 36 [(0, .ref 39), (1, .int x1), (3, .int x3), (4, .int x4), (5, .int s.1)] [] (s.2, L, RC n, n) 0 0 Q := by
  unfold f_Pl_setBoxes_s36 at hF
  refine r_iload (i := 20) (k0 := 4) rfl rfl ?_
  refine r_bipush (v := 8) (i := 21) rfl kb_8 ?_
  refine r_icmpge (i := 22) (tgt := 171) rfl (by decide) (fun hc => ?_) (fun hc => ?_)
  · have hF := ok_it hc hF
    have hQ := hq _ (ok_some hF)
    exact r_return (i := 90) rfl rfl hQ
  have hF := ok_if hc hF
  refine r_iload_n (i := 23) (k0 := 1) rfl rfl rfl ?_
  refine r_bipush (v := 8) (i := 24) rfl kb_8 ?_
  refine r_imul (i := 25) rfl ?_
  refine r_iload (i := 26) (k0 := 4) rfl rfl ?_
  refine r_iadd (i := 27) rfl ?_
  refine r_istore (i := 28) (Ls' := [(6, _), (0, _), (1, _), (3, _), (4, _), (5, _)]) rfl (Nat.le_of_ble_eq_true rfl) rfl ?_
  refine r_iload_n (i := 29) (k0 := 3) rfl rfl rfl ?_
  refine r_iload (i := 30) (k0 := 5) rfl rfl ?_
  refine r_aload_n (i := 31) (k0 := 1) rfl rfl rfl ?_
  refine q_getr (b := 41) (i := 32) rfl fl_Pl_15 rfl (xm_in rfl hn) rfl rfl ?_
  refine r_iload_n (i := 33) (k0 := 2) rfl rfl rfl ?_
  obtain ⟨hi, hF⟩ := ok_gd hF
  refine q_iaload (i := 34) rfl (xm_in rfl hn) rfl hi ?_
  refine c_S2I (i := 35) rfl sm_Pl_leftFromAnchor lk_Pl_105 (t_Pl_leftFromAnchor hn (ok_bind hF)) (Nat.le_of_ble_eq_true rfl) rfl (Nat.le_of_ble_eq_true rfl) (fun p_2 hF => ?_)
  refine r_iadd (i := 36) rfl ?_
  refine r_istore (i := 37) (Ls' := [(7, _), (6, _), (0, _), (1, _), (3, _), (4, _), (5, _)]) rfl (Nat.le_of_ble_eq_true rfl) rfl ?_
  refine r_iload (i := 38) (k0 := 5) rfl rfl ?_
  refine r_getT (i := 39) rfl ct_T ?_
  refine r_iload (i := 40) (k0 := 6) rfl rfl ?_
  obtain ⟨hi, hF⟩ := ok_gd hF
  refine q_ialoadT (i := 41) rfl hi ?_
  refine r_iadd (i := 42) rfl ?_
  refine r_istore (i := 43) (Ls' := [(8, _), (7, _), (6, _), (0, _), (1, _), (3, _), (4, _), (5, _)]) rfl (Nat.le_of_ble_eq_true rfl) rfl ?_
  refine r_iload (i := 44) (k0 := 1) rfl rfl ?_
  refine r_iflt (i := 45) (tgt := 126) rfl (by decide) (fun hc => ?_) (fun hc => ?_)
  · have hF := ok_it hc hF
    refine xm_sub (Ls' := [(0, _), (1, _), (3, _), (4, _), (5, _), (6, _), (7, _), (8, _)]) [3, 4, 5, 6, 7, 2, 1, 0] rfl ?_
    exact t_Pl_setBoxes_b126 hn (fun p h => hq p h) (fun z h => hg0 z h) hF
  have hF := ok_if hc hF
  refine r_iload (i := 46) (k0 := 0) rfl rfl ?_
  refine r_iflt (i := 47) (tgt := 126) rfl (by decide) (fun hc => ?_) (fun hc => ?_)
  · have hF := ok_it hc hF
    refine xm_sub (Ls' := [(0, _), (1, _), (3, _), (4, _), (5, _), (6, _), (7, _), (8, _)]) [3, 4, 5, 6, 7, 2, 1, 0] rfl ?_
    exact t_Pl_setBoxes_b126 hn (fun p h => hq p h) (fun z h => hg0 z h) hF
  have hF := ok_if hc hF
  refine r_iload (i := 48) (k0 := 1) rfl rfl ?_
  refine r_aload_n (i := 49) (k0 := 3) rfl rfl rfl ?_
  refine q_getr (b := 41) (i := 50) rfl fl_Pl_15 rfl (xm_in rfl hn) rfl rfl ?_
  refine r_iload_n (i := 51) (k0 := 4) rfl rfl rfl ?_
  obtain ⟨hi, hF⟩ := ok_gd hF
  refine q_iaload (i := 52) rfl (xm_in rfl hn) rfl hi ?_
  refine r_iadd (i := 53) rfl ?_
  refine r_aload_n (i := 54) (k0 := 3) rfl rfl rfl ?_
  refine q_getr (b := 14) (i := 55) rfl fl_Pl_51 rfl (xm_in rfl hn) rfl rfl ?_
  refine q_geti (i := 56) rfl fl_Pl_112 (xm_in rfl hn) rfl ?_
  refine r_icmpgt (i := 57) (tgt := 126) rfl (by decide) (fun hc => ?_) (fun hc => ?_)
  · have hF := ok_it hc hF
    refine xm_sub (Ls' := [(0, _), (1, _), (3, _), (4, _), (5, _), (6, _), (7, _), (8, _)]) [3, 4, 5, 6, 7, 2, 1, 0] rfl ?_
    exact t_Pl_setBoxes_b126 hn (fun p h => hq p h) (fun z h => hg0 z h) hF
  have hF := ok_if hc hF
  refine r_iload (i := 58) (k0 := 0) rfl rfl ?_
  refine r_bipush (v := 9) (i := 59) rfl kb_9 ?_
  refine r_iadd (i := 60) rfl ?_
  refine r_aload_n (i := 61) (k0 := 3) rfl rfl rfl ?_
  refine q_getr (b := 14) (i := 62) rfl fl_Pl_51 rfl (xm_in rfl hn) rfl rfl ?_
  refine q_geti (i := 63) rfl fl_Pl_116 (xm_in rfl hn) rfl ?_
  refine r_icmpgt (i := 64) (tgt := 126) rfl (by decide) (fun hc => ?_) (fun hc => ?_)
  · have hF := ok_it hc hF
    refine xm_sub (Ls' := [(0, _), (1, _), (3, _), (4, _), (5, _), (6, _), (7, _), (8, _)]) [3, 4, 5, 6, 7, 2, 1, 0] rfl ?_
    exact t_Pl_setBoxes_b126 hn (fun p h => hq p h) (fun z h => hg0 z h) hF
  have hF := ok_if hc hF
  refine r_iconst (v := 1) (i := 65) rfl ki_1 ?_
  refine r_goto (i := 66) (tgt := 127) rfl (by decide) ?_
  refine xm_sub (Ls' := [(0, _), (1, _), (3, _), (4, _), (5, _), (6, _), (7, _), (8, _)]) [3, 4, 5, 6, 7, 2, 1, 0] rfl ?_
  exact t_Pl_setBoxes_b127 hn (fun p h => hq p h) (fun z h => hg0 z h) hF
set_option maxHeartbeats 4000000 in
set_option maxRecDepth 100000 in
theorem t_Pl_setBoxes_b36 {x1 : Int32} {x3 : Int32} {x4 : Int32} {s : Int32 × xm_I} {n : Nat} {L : xm_L} {K : xm_I → Prop} {Q : Option Value → xm_H → Prop} (hn : 86 ≤ n) (hq : ∀ p : xm_I, K p → Q none (p, L, RC n, n)) (hF : ok (f_Pl_setBoxes_b36 x1 x3 x4 s) K) : xm_J 2 mt_Pl_setBoxes 36 [(0, .ref 39), (1, .int x1), (3, .int x3), (4, .int x4), (5, .int s.1)] [] (s.2, L, RC n, n) 0 0 Q :=
  lp_J (G := fun z => xm_J 2 mt_Pl_setBoxes 36 [(0, .ref 39), (1, .int x1), (3, .int x3), (4, .int x4), (5, .int z.1)] [] (z.2, L, RC n, n) 0 0 Q) (fun z hF => t_Pl_setBoxes_s36 hn (fun p h => hq p h) (fun z h => h) hF) s hF
set_option maxHeartbeats 4000000 in
set_option maxRecDepth 100000 in
theorem t_Pl_setBoxes_b0 {x1 : Int32} {n : Nat} {I : xm_I} {L : xm_L} {K : xm_I → Prop} {Q : Option Value → xm_H → Prop} (hn : 86 ≤ n) (hq : ∀ p : xm_I, K p → Q none (p, L, RC n, n)) (hF : ok (f_Pl_setBoxes_b0 x1 I) K) : xm_J 2 mt_Pl_setBoxes 0 [(0, .ref 39), (1, .int x1)] [] (I, L, RC n, n) 0 0 Q := by
  unfold f_Pl_setBoxes_b0 at hF
  refine r_aload_n (i := 0) (k0 := 0) rfl rfl rfl ?_
  refine q_getr (b := 21) (i := 1) rfl fl_Pl_39 rfl (xm_in rfl hn) rfl rfl ?_
  refine r_aload_n (i := 2) (k0 := 0) rfl rfl rfl ?_
  refine q_getr (b := 40) (i := 3) rfl fl_Pl_11 rfl (xm_in rfl hn) rfl rfl ?_
  refine r_iload_n (i := 4) (k0 := 1) rfl rfl rfl ?_
  obtain ⟨hi, hF⟩ := ok_gd hF
  refine q_iaload (i := 5) rfl (xm_in rfl hn) rfl hi ?_
  refine c_V1I (i := 6) rfl vm_Lb_objectOf lk_Pl_86 (t_Lb_objectOf hn (ok_bind hF)) (Nat.le_of_ble_eq_true rfl) (xm_in rfl hn) rfl rfl (Nat.le_of_ble_eq_true rfl) (fun p_1 hF => ?_)
  refine r_istore_n (i := 7) (Ls' := [(2, _), (0, _), (1, _)]) rfl rfl (Nat.le_of_ble_eq_true rfl) rfl ?_
  refine r_aload_n (i := 8) (k0 := 1) rfl rfl rfl ?_
  refine q_getr (b := 30) (i := 9) rfl fl_Pl_43 rfl (xm_in rfl hn) rfl rfl ?_
  refine r_iload_n (i := 10) (k0 := 0) rfl rfl rfl ?_
  refine c_V1I (i := 11) rfl vm_Pn_anchorXOf lk_Pl_99 (t_Pn_anchorXOf hn (ok_bind hF)) (Nat.le_of_ble_eq_true rfl) (xm_in rfl hn) rfl rfl (Nat.le_of_ble_eq_true rfl) (fun p_2 hF => ?_)
  refine r_istore_n (i := 12) (Ls' := [(3, _), (2, _), (0, _), (1, _)]) rfl rfl (Nat.le_of_ble_eq_true rfl) rfl ?_
  refine r_aload_n (i := 13) (k0 := 2) rfl rfl rfl ?_
  refine q_getr (b := 30) (i := 14) rfl fl_Pl_43 rfl (xm_in rfl hn) rfl rfl ?_
  refine r_iload_n (i := 15) (k0 := 1) rfl rfl rfl ?_
  refine c_V1I (i := 16) rfl vm_Pn_anchorYOf lk_Pl_102 (t_Pn_anchorYOf hn (ok_bind hF)) (Nat.le_of_ble_eq_true rfl) (xm_in rfl hn) rfl rfl (Nat.le_of_ble_eq_true rfl) (fun p_3 hF => ?_)
  refine r_istore (i := 17) (Ls' := [(4, _), (3, _), (2, _), (0, _), (1, _)]) rfl (Nat.le_of_ble_eq_true rfl) rfl ?_
  refine r_iconst (v := 0) (i := 18) rfl ki_0 ?_
  refine r_istore (i := 19) (Ls' := [(5, _), (4, _), (3, _), (2, _), (0, _), (1, _)]) rfl (Nat.le_of_ble_eq_true rfl) rfl ?_
  refine xm_sub (Ls' := [(0, _), (1, _), (3, _), (4, _), (5, _)]) [4, 5, 2, 1, 0] rfl ?_
  exact t_Pl_setBoxes_b36 hn (fun p h => hq p h) hF
set_option maxHeartbeats 4000000 in
set_option maxRecDepth 100000 in
theorem t_Pl_setBoxes {x1 : Int32} {n : Nat} {I : xm_I} {L : xm_L} {K : xm_I → Prop} (hn : 86 ≤ n) (hF : ok (f_Pl_setBoxes x1 I) K) : xm_C 2 mt_Pl_setBoxes [.ref 39, .int x1] (I, L, RC n, n) 0 0 (pV (fun p : xm_I => (p, L, RC n, n)) K) := by
  unfold f_Pl_setBoxes at hF
  refine xm_enter (by decide +kernel) dv_Pl_setBoxes (Nat.le_of_ble_eq_true rfl) ?_
  exact t_Pl_setBoxes_b0 hn (fun p hp => ⟨p, rfl, rfl, hp⟩) hF

noncomputable def f_Pl_placeAll_s65 (s : Int32 × xm_I) : Option ((Int32 × xm_I) ⊕ (xm_I)) :=
  if (s.2 39 13) ≤ s.1 then (
    some (.inr (s.2)))
  else (
  (f_Pl_markGuest s.1 s.2).bind fun p_1 =>
  let x1_2 : Int32 := s.1 + 1
  some (.inl (x1_2, p_1)))
noncomputable def f_Pl_placeAll_b65 (s : Int32 × xm_I) : Option (xm_I) := lp (f_Pl_placeAll_s65) s
noncomputable def f_Pl_placeAll_b63 (I : xm_I) : Option (xm_I) :=
  f_Pl_placeAll_b65 (0, I)
noncomputable def f_Pl_placeAll_s13 (s : Int32 × xm_I) : Option ((Int32 × xm_I) ⊕ (xm_I)) :=
  if (s.2 39 13) ≤ s.1 then (
    (f_Pl_addCostsOfMarks s.2).bind fun p_1 =>
    if 6 < (p_1 39 13) then (
      (f_Pl_goRounds p_1).bind fun p_2 =>
      let I_3 : xm_I := up2 p_2.2 21 7 p_2.1
      (f_Pl_placeAll_b63 I_3).map .inr)
    else (
    (f_Pl_findBest p_1).bind fun p_4 =>
    (f_Pl_placeAll_b63 p_4).map .inr))
  else (
  (f_Pl_setBoxes s.1 s.2).bind fun p_5 =>
  let x1_6 : Int32 := s.1 + 1
  some (.inl (x1_6, p_5)))
noncomputable def f_Pl_placeAll_b13 (s : Int32 × xm_I) : Option (xm_I) := lp (f_Pl_placeAll_s13) s
noncomputable def f_Pl_placeAll_b0 (I : xm_I) : Option (xm_I) :=
  (f_Lb_beginDrawing I).bind fun p_1 =>
  (f_Pl_gatherGuests p_1).bind fun p_2 =>
  f_Pl_placeAll_b13 (0, p_2)
noncomputable def f_Pl_placeAll (I : xm_I) : Option (xm_I) := f_Pl_placeAll_b0 I
set_option maxHeartbeats 4000000 in
set_option maxRecDepth 100000 in
theorem t_Pl_placeAll_s65 {s : Int32 × xm_I} {n : Nat} {L : xm_L} {K : (Int32 × xm_I) ⊕ (xm_I) → Prop} {Q : Option Value → xm_H → Prop} (hn : 86 ≤ n) (hq : ∀ p : xm_I, K (.inr p) → Q none (p, L, RC n, n)) (hg0 : ∀ s : Int32 × xm_I, K (.inl s) → xm_J 12 mt_Pl_placeAll 65 [(0, .ref 39), (1, .int s.1)] [] (s.2, L, RC n, n) 0 0 Q) (hF : ok (f_Pl_placeAll_s65 s) K) : xm_J 12 mt_Pl_placeAll 65 [(0, .ref 39), (1, .int s.1)] [] (s.2, L, RC n, n) 0 0 Q := by
  unfold f_Pl_placeAll_s65 at hF
  refine r_iload_n (i := 32) (k0 := 1) rfl rfl rfl ?_
  refine r_aload_n (i := 33) (k0 := 0) rfl rfl rfl ?_
  refine q_geti (i := 34) rfl fl_Pl_61 (xm_in rfl hn) rfl ?_
  refine r_icmpge (i := 35) (tgt := 84) rfl (by decide) (fun hc => ?_) (fun hc => ?_)
  · have hF := ok_it hc hF
    have hQ := hq _ (ok_some hF)
    exact r_return (i := 41) rfl rfl hQ
  have hF := ok_if hc hF
  refine r_aload_n (i := 36) (k0 := 0) rfl rfl rfl ?_
  refine r_iload_n (i := 37) (k0 := 1) rfl rfl rfl ?_
  refine c_V1V (i := 38) rfl vm_Pl_markGuest lk_Pl_82 (t_Pl_markGuest hn (ok_bind hF)) (Nat.le_of_ble_eq_true rfl) (xm_in rfl hn) rfl rfl (Nat.le_of_ble_eq_true rfl) (fun p_1 hF => ?_)
  refine q_iinc (i := 39) (k0 := 1) (Ls' := [(1, _), (0, _)]) rfl ki_1 rfl (Nat.le_of_ble_eq_true rfl) rfl ?_
  refine r_goto (i := 40) (tgt := 65) rfl (by decide) ?_
  refine xm_sub (Ls' := [(0, _), (1, _)]) [1, 0] rfl ?_
  have hJ := hg0 _ (ok_some hF)
  exact hJ
set_option maxHeartbeats 4000000 in
set_option maxRecDepth 100000 in
theorem t_Pl_placeAll_b65 {s : Int32 × xm_I} {n : Nat} {L : xm_L} {K : xm_I → Prop} {Q : Option Value → xm_H → Prop} (hn : 86 ≤ n) (hq : ∀ p : xm_I, K p → Q none (p, L, RC n, n)) (hF : ok (f_Pl_placeAll_b65 s) K) : xm_J 12 mt_Pl_placeAll 65 [(0, .ref 39), (1, .int s.1)] [] (s.2, L, RC n, n) 0 0 Q :=
  lp_J (G := fun z => xm_J 12 mt_Pl_placeAll 65 [(0, .ref 39), (1, .int z.1)] [] (z.2, L, RC n, n) 0 0 Q) (fun z hF => t_Pl_placeAll_s65 hn (fun p h => hq p h) (fun z h => h) hF) s hF
set_option maxHeartbeats 4000000 in
set_option maxRecDepth 100000 in
theorem t_Pl_placeAll_b63 {n : Nat} {I : xm_I} {L : xm_L} {K : xm_I → Prop} {Q : Option Value → xm_H → Prop} (hn : 86 ≤ n) (hq : ∀ p : xm_I, K p → Q none (p, L, RC n, n)) (hF : ok (f_Pl_placeAll_b63 I) K) : xm_J 12 mt_Pl_placeAll 63 [(0, .ref 39)] [] (I, L, RC n, n) 0 0 Q := by
  unfold f_Pl_placeAll_b63 at hF
  refine r_iconst (v := 0) (i := 30) rfl ki_0 ?_
  refine r_istore_n (i := 31) (Ls' := [(1, _), (0, _)]) rfl rfl (Nat.le_of_ble_eq_true rfl) rfl ?_
  refine xm_sub (Ls' := [(0, _), (1, _)]) [1, 0] rfl ?_
  exact t_Pl_placeAll_b65 hn (fun p h => hq p h) hF
set_option maxHeartbeats 4000000 in
set_option maxRecDepth 100000 in
theorem t_Pl_placeAll_s13 {s : Int32 × xm_I} {n : Nat} {L : xm_L} {K : (Int32 × xm_I) ⊕ (xm_I) → Prop} {Q : Option Value → xm_H → Prop} (hn : 86 ≤ n) (hq : ∀ p : xm_I, K (.inr p) → Q none (p, L, RC n, n)) (hg0 : ∀ s : Int32 × xm_I, K (.inl s) → xm_J 12 mt_Pl_placeAll 13 [(0, .ref 39), (1, .int s.1)] [] (s.2, L, RC n, n) 0 0 Q) (hF : ok (f_Pl_placeAll_s13 s) K) : xm_J 12 mt_Pl_placeAll 13 [(0, .ref 39), (1, .int s.1)] [] (s.2, L, RC n, n) 0 0 Q := by
  unfold f_Pl_placeAll_s13 at hF
  refine r_iload_n (i := 7) (k0 := 1) rfl rfl rfl ?_
  refine r_aload_n (i := 8) (k0 := 0) rfl rfl rfl ?_
  refine q_geti (i := 9) rfl fl_Pl_61 (xm_in rfl hn) rfl ?_
  refine r_icmpge (i := 10) (tgt := 32) rfl (by decide) (fun hc => ?_) (fun hc => ?_)
  · have hF := ok_it hc hF
    refine r_aload_n (i := 16) (k0 := 0) rfl rfl rfl ?_
    refine c_V0V (i := 17) rfl vm_Pl_addCostsOfMarks lk_Pl_69 (t_Pl_addCostsOfMarks hn (ok_bind hF)) (Nat.le_of_ble_eq_true rfl) (xm_in rfl hn) rfl rfl (Nat.le_of_ble_eq_true rfl) (fun p_1 hF => ?_)
    refine r_aload_n (i := 18) (k0 := 0) rfl rfl rfl ?_
    refine q_geti (i := 19) rfl fl_Pl_61 (xm_in rfl hn) rfl ?_
    refine r_bipush (v := 6) (i := 20) rfl kb_6 ?_
    refine r_icmpgt (i := 21) (tgt := 52) rfl (by decide) (fun hc => ?_) (fun hc => ?_)
    · have hF := ok_it hc hF
      refine r_aload_n (i := 25) (k0 := 0) rfl rfl rfl ?_
      refine q_getr (b := 21) (i := 26) rfl fl_Pl_39 rfl (xm_in rfl hn) rfl rfl ?_
      refine r_aload_n (i := 27) (k0 := 0) rfl rfl rfl ?_
      refine c_V0I (i := 28) rfl vm_Pl_goRounds lk_Pl_75 (t_Pl_goRounds hn (ok_bind hF)) (Nat.le_of_ble_eq_true rfl) (xm_in rfl hn) rfl rfl (Nat.le_of_ble_eq_true rfl) (fun p_2 hF => ?_)
      refine q_puti (i := 29) rfl fl_Pl_79 (fun h => Bool.noConfusion h) (xm_in rfl hn) rfl ?_
      refine xm_sub (Ls' := [(0, _)]) [0] rfl ?_
      exact t_Pl_placeAll_b63 hn (fun p h => hq p h) (ok_map hF)
    have hF := ok_if hc hF
    refine r_aload_n (i := 22) (k0 := 0) rfl rfl rfl ?_
    refine c_V0V (i := 23) rfl vm_Pl_findBest lk_Pl_72 (t_Pl_findBest hn (ok_bind hF)) (Nat.le_of_ble_eq_true rfl) (xm_in rfl hn) rfl rfl (Nat.le_of_ble_eq_true rfl) (fun p_4 hF => ?_)
    refine r_goto (i := 24) (tgt := 63) rfl (by decide) ?_
    refine xm_sub (Ls' := [(0, _)]) [0] rfl ?_
    exact t_Pl_placeAll_b63 hn (fun p h => hq p h) (ok_map hF)
  have hF := ok_if hc hF
  refine r_aload_n (i := 11) (k0 := 0) rfl rfl rfl ?_
  refine r_iload_n (i := 12) (k0 := 1) rfl rfl rfl ?_
  refine c_V1V (i := 13) rfl vm_Pl_setBoxes lk_Pl_65 (t_Pl_setBoxes hn (ok_bind hF)) (Nat.le_of_ble_eq_true rfl) (xm_in rfl hn) rfl rfl (Nat.le_of_ble_eq_true rfl) (fun p_5 hF => ?_)
  refine q_iinc (i := 14) (k0 := 1) (Ls' := [(1, _), (0, _)]) rfl ki_1 rfl (Nat.le_of_ble_eq_true rfl) rfl ?_
  refine r_goto (i := 15) (tgt := 13) rfl (by decide) ?_
  refine xm_sub (Ls' := [(0, _), (1, _)]) [1, 0] rfl ?_
  have hJ := hg0 _ (ok_some hF)
  exact hJ
set_option maxHeartbeats 4000000 in
set_option maxRecDepth 100000 in
theorem t_Pl_placeAll_b13 {s : Int32 × xm_I} {n : Nat} {L : xm_L} {K : xm_I → Prop} {Q : Option Value → xm_H → Prop} (hn : 86 ≤ n) (hq : ∀ p : xm_I, K p → Q none (p, L, RC n, n)) (hF : ok (f_Pl_placeAll_b13 s) K) : xm_J 12 mt_Pl_placeAll 13 [(0, .ref 39), (1, .int s.1)] [] (s.2, L, RC n, n) 0 0 Q :=
  lp_J (G := fun z => xm_J 12 mt_Pl_placeAll 13 [(0, .ref 39), (1, .int z.1)] [] (z.2, L, RC n, n) 0 0 Q) (fun z hF => t_Pl_placeAll_s13 hn (fun p h => hq p h) (fun z h => h) hF) s hF
set_option maxHeartbeats 4000000 in
set_option maxRecDepth 100000 in
theorem t_Pl_placeAll_b0 {n : Nat} {I : xm_I} {L : xm_L} {K : xm_I → Prop} {Q : Option Value → xm_H → Prop} (hn : 86 ≤ n) (hq : ∀ p : xm_I, K p → Q none (p, L, RC n, n)) (hF : ok (f_Pl_placeAll_b0 I) K) : xm_J 12 mt_Pl_placeAll 0 [(0, .ref 39)] [] (I, L, RC n, n) 0 0 Q := by
  unfold f_Pl_placeAll_b0 at hF
  refine r_aload_n (i := 0) (k0 := 0) rfl rfl rfl ?_
  refine q_getr (b := 21) (i := 1) rfl fl_Pl_39 rfl (xm_in rfl hn) rfl rfl ?_
  refine c_V0V (i := 2) rfl vm_Lb_beginDrawing lk_Pl_55 (t_Lb_beginDrawing hn (ok_bind hF)) (Nat.le_of_ble_eq_true rfl) (xm_in rfl hn) rfl rfl (Nat.le_of_ble_eq_true rfl) (fun p_1 hF => ?_)
  refine r_aload_n (i := 3) (k0 := 0) rfl rfl rfl ?_
  refine c_V0V (i := 4) rfl vm_Pl_gatherGuests lk_Pl_58 (t_Pl_gatherGuests hn (ok_bind hF)) (Nat.le_of_ble_eq_true rfl) (xm_in rfl hn) rfl rfl (Nat.le_of_ble_eq_true rfl) (fun p_2 hF => ?_)
  refine r_iconst (v := 0) (i := 5) rfl ki_0 ?_
  refine r_istore_n (i := 6) (Ls' := [(1, _), (0, _)]) rfl rfl (Nat.le_of_ble_eq_true rfl) rfl ?_
  refine xm_sub (Ls' := [(0, _), (1, _)]) [1, 0] rfl ?_
  exact t_Pl_placeAll_b13 hn (fun p h => hq p h) hF
set_option maxHeartbeats 4000000 in
set_option maxRecDepth 100000 in
theorem t_Pl_placeAll {n : Nat} {I : xm_I} {L : xm_L} {K : xm_I → Prop} (hn : 86 ≤ n) (hF : ok (f_Pl_placeAll I) K) : xm_C 12 mt_Pl_placeAll [.ref 39] (I, L, RC n, n) 0 0 (pV (fun p : xm_I => (p, L, RC n, n)) K) := by
  unfold f_Pl_placeAll at hF
  refine xm_enter (by decide +kernel) dv_Pl_placeAll (Nat.le_of_ble_eq_true rfl) ?_
  exact t_Pl_placeAll_b0 hn (fun p hp => ⟨p, rfl, rfl, hp⟩) hF

noncomputable def f_Mk_clear_b0 (I : xm_I) : Option (xm_I) :=
  let I_1 : xm_I := up2 I 17 4 0
  let I_2 : xm_I := up2 I_1 17 5 0
  some (I_2)
noncomputable def f_Mk_clear (I : xm_I) : Option (xm_I) := f_Mk_clear_b0 I
set_option maxHeartbeats 4000000 in
set_option maxRecDepth 100000 in
theorem t_Mk_clear_b0 {n : Nat} {I : xm_I} {L : xm_L} {K : xm_I → Prop} {Q : Option Value → xm_H → Prop} (hn : 86 ≤ n) (hq : ∀ p : xm_I, K p → Q none (p, L, RC n, n)) (hF : ok (f_Mk_clear_b0 I) K) : xm_J 0 mt_Mk_clear 0 [(0, .ref 17)] [] (I, L, RC n, n) 0 0 Q := by
  unfold f_Mk_clear_b0 at hF
  refine r_aload_n (i := 0) (k0 := 0) rfl rfl rfl ?_
  refine r_iconst (v := 0) (i := 1) rfl ki_0 ?_
  refine q_puti (i := 2) rfl fl_Mk_25 (fun h => Bool.noConfusion h) (xm_in rfl hn) rfl ?_
  refine r_aload_n (i := 3) (k0 := 0) rfl rfl rfl ?_
  refine r_iconst (v := 0) (i := 4) rfl ki_0 ?_
  refine q_puti (i := 5) rfl fl_Mk_28 (fun h => Bool.noConfusion h) (xm_in rfl hn) rfl ?_
  have hQ := hq _ (ok_some hF)
  exact r_return (i := 6) rfl rfl hQ
set_option maxHeartbeats 4000000 in
set_option maxRecDepth 100000 in
theorem t_Mk_clear {n : Nat} {I : xm_I} {L : xm_L} {K : xm_I → Prop} (hn : 86 ≤ n) (hF : ok (f_Mk_clear I) K) : xm_C 0 mt_Mk_clear [.ref 17] (I, L, RC n, n) 0 0 (pV (fun p : xm_I => (p, L, RC n, n)) K) := by
  unfold f_Mk_clear at hF
  refine xm_enter (by decide +kernel) dv_Mk_clear (Nat.le_of_ble_eq_true rfl) ?_
  exact t_Mk_clear_b0 hn (fun p hp => ⟨p, rfl, rfl, hp⟩) hF

noncomputable def f_Pn_begin_s35 (s : Int32 × xm_I) : Option ((Int32 × xm_I) ⊕ (xm_I)) :=
  if 40 ≤ s.1 then (
    some (.inr (s.2)))
  else (
  gd (0 ≤ (s.1).toInt ∧ (s.1).toInt < 40) <|
  let I_1 : xm_I := up2 s.2 31 (Int32.toNatClampNeg s.1) (0 &&& 1)
  let x1_2 : Int32 := s.1 + 1
  some (.inl (x1_2, I_1)))
noncomputable def f_Pn_begin_b35 (s : Int32 × xm_I) : Option (xm_I) := lp (f_Pn_begin_s35) s
noncomputable def f_Pn_begin_b0 (I : xm_I) : Option (xm_I) :=
  (f_Mk_clear I).bind fun p_1 =>
  (f_Mk_add 70 (p_1 14 4) (p_1 14 5) 0 0 0 p_1).bind fun p_2 =>
  f_Pn_begin_b35 (0, p_2)
noncomputable def f_Pn_begin (I : xm_I) : Option (xm_I) := f_Pn_begin_b0 I
set_option maxHeartbeats 4000000 in
set_option maxRecDepth 100000 in
theorem t_Pn_begin_s35 {s : Int32 × xm_I} {n : Nat} {L : xm_L} {K : (Int32 × xm_I) ⊕ (xm_I) → Prop} {Q : Option Value → xm_H → Prop} (hn : 86 ≤ n) (hq : ∀ p : xm_I, K (.inr p) → Q none (p, L, RC n, n)) (hg0 : ∀ s : Int32 × xm_I, K (.inl s) → xm_J 2 mt_Pn_begin 35 [(0, .ref 30), (1, .int s.1)] [] (s.2, L, RC n, n) 0 0 Q) (hF : ok (f_Pn_begin_s35 s) K) : xm_J 2 mt_Pn_begin 35 [(0, .ref 30), (1, .int s.1)] [] (s.2, L, RC n, n) 0 0 Q := by
  unfold f_Pn_begin_s35 at hF
  refine r_iload_n (i := 18) (k0 := 1) rfl rfl rfl ?_
  refine r_bipush (v := 40) (i := 19) rfl kb_40 ?_
  refine r_icmpge (i := 20) (tgt := 54) rfl (by decide) (fun hc => ?_) (fun hc => ?_)
  · have hF := ok_it hc hF
    have hQ := hq _ (ok_some hF)
    exact r_return (i := 28) rfl rfl hQ
  have hF := ok_if hc hF
  refine r_aload_n (i := 21) (k0 := 0) rfl rfl rfl ?_
  refine q_getr (b := 31) (i := 22) rfl fl_Pn_9 rfl (xm_in rfl hn) rfl rfl ?_
  refine r_iload_n (i := 23) (k0 := 1) rfl rfl rfl ?_
  refine r_iconst (v := 0) (i := 24) rfl ki_0 ?_
  obtain ⟨hi, hF⟩ := ok_gd hF
  refine q_bastore (i := 25) rfl (xm_in rfl hn) rfl hi ?_
  refine q_iinc (i := 26) (k0 := 1) (Ls' := [(1, _), (0, _)]) rfl ki_1 rfl (Nat.le_of_ble_eq_true rfl) rfl ?_
  refine r_goto (i := 27) (tgt := 35) rfl (by decide) ?_
  refine xm_sub (Ls' := [(0, _), (1, _)]) [1, 0] rfl ?_
  have hJ := hg0 _ (ok_some hF)
  exact hJ
set_option maxHeartbeats 4000000 in
set_option maxRecDepth 100000 in
theorem t_Pn_begin_b35 {s : Int32 × xm_I} {n : Nat} {L : xm_L} {K : xm_I → Prop} {Q : Option Value → xm_H → Prop} (hn : 86 ≤ n) (hq : ∀ p : xm_I, K p → Q none (p, L, RC n, n)) (hF : ok (f_Pn_begin_b35 s) K) : xm_J 2 mt_Pn_begin 35 [(0, .ref 30), (1, .int s.1)] [] (s.2, L, RC n, n) 0 0 Q :=
  lp_J (G := fun z => xm_J 2 mt_Pn_begin 35 [(0, .ref 30), (1, .int z.1)] [] (z.2, L, RC n, n) 0 0 Q) (fun z hF => t_Pn_begin_s35 hn (fun p h => hq p h) (fun z h => h) hF) s hF
set_option maxHeartbeats 4000000 in
set_option maxRecDepth 100000 in
theorem t_Pn_begin_b0 {n : Nat} {I : xm_I} {L : xm_L} {K : xm_I → Prop} {Q : Option Value → xm_H → Prop} (hn : 86 ≤ n) (hq : ∀ p : xm_I, K p → Q none (p, L, RC n, n)) (hF : ok (f_Pn_begin_b0 I) K) : xm_J 2 mt_Pn_begin 0 [(0, .ref 30)] [] (I, L, RC n, n) 0 0 Q := by
  unfold f_Pn_begin_b0 at hF
  refine r_aload_n (i := 0) (k0 := 0) rfl rfl rfl ?_
  refine q_getr (b := 17) (i := 1) rfl fl_Pn_47 rfl (xm_in rfl hn) rfl rfl ?_
  refine c_V0V (i := 2) rfl vm_Mk_clear lk_Pn_60 (t_Mk_clear hn (ok_bind hF)) (Nat.le_of_ble_eq_true rfl) (xm_in rfl hn) rfl rfl (Nat.le_of_ble_eq_true rfl) (fun p_1 hF => ?_)
  refine r_aload_n (i := 3) (k0 := 0) rfl rfl rfl ?_
  refine q_getr (b := 17) (i := 4) rfl fl_Pn_47 rfl (xm_in rfl hn) rfl rfl ?_
  refine r_bipush (v := 70) (i := 5) rfl kb_70 ?_
  refine r_aload_n (i := 6) (k0 := 0) rfl rfl rfl ?_
  refine q_getr (b := 14) (i := 7) rfl fl_Pn_43 rfl (xm_in rfl hn) rfl rfl ?_
  refine q_geti (i := 8) rfl fl_Pn_65 (xm_in rfl hn) rfl ?_
  refine r_aload_n (i := 9) (k0 := 0) rfl rfl rfl ?_
  refine q_getr (b := 14) (i := 10) rfl fl_Pn_43 rfl (xm_in rfl hn) rfl rfl ?_
  refine q_geti (i := 11) rfl fl_Pn_71 (xm_in rfl hn) rfl ?_
  refine r_iconst (v := 0) (i := 12) rfl ki_0 ?_
  refine r_iconst (v := 0) (i := 13) rfl ki_0 ?_
  refine r_iconst (v := 0) (i := 14) rfl ki_0 ?_
  refine c_V6V (i := 15) rfl vm_Mk_add lk_Pn_74 (t_Mk_add hn (ok_bind hF)) (Nat.le_of_ble_eq_true rfl) (xm_in rfl hn) rfl rfl (Nat.le_of_ble_eq_true rfl) (fun p_2 hF => ?_)
  refine r_iconst (v := 0) (i := 16) rfl ki_0 ?_
  refine r_istore_n (i := 17) (Ls' := [(1, _), (0, _)]) rfl rfl (Nat.le_of_ble_eq_true rfl) rfl ?_
  refine xm_sub (Ls' := [(0, _), (1, _)]) [1, 0] rfl ?_
  exact t_Pn_begin_b35 hn (fun p h => hq p h) hF
set_option maxHeartbeats 4000000 in
set_option maxRecDepth 100000 in
theorem t_Pn_begin {n : Nat} {I : xm_I} {L : xm_L} {K : xm_I → Prop} (hn : 86 ≤ n) (hF : ok (f_Pn_begin I) K) : xm_C 2 mt_Pn_begin [.ref 30] (I, L, RC n, n) 0 0 (pV (fun p : xm_I => (p, L, RC n, n)) K) := by
  unfold f_Pn_begin at hF
  refine xm_enter (by decide +kernel) dv_Pn_begin (Nat.le_of_ble_eq_true rfl) ?_
  exact t_Pn_begin_b0 hn (fun p hp => ⟨p, rfl, rfl, hp⟩) hF

noncomputable def f_Fg_isDrawn_b0 (x1 : Int32) (I : xm_I) : Option (Int32) :=
  (f_Fg_kindOf x1 I).bind fun p_1 =>
  (f_Fg_isHidden p_1 I).bind fun p_2 =>
  if p_2 = 0 then (
    (f_Fg_hasFallen x1 I).bind fun p_3 =>
    if p_3 = 0 then (
      some (1))
    else (
      some (0)))
  else (
    some (0))
noncomputable def f_Fg_isDrawn (x1 : Int32) (I : xm_I) : Option (Int32) := f_Fg_isDrawn_b0 x1 I
set_option maxHeartbeats 4000000 in
set_option maxRecDepth 100000 in
theorem t_Fg_isDrawn_b0 {x1 : Int32} {n : Nat} {I : xm_I} {L : xm_L} {K : Int32 → Prop} {Q : Option Value → xm_H → Prop} (hn : 86 ≤ n) (hq : ∀ p : Int32, K p → Q (some (.int p)) (I, L, RC n, n)) (hF : ok (f_Fg_isDrawn_b0 x1 I) K) : xm_J 5 mt_Fg_isDrawn 0 [(0, .ref 6), (1, .int x1)] [] (I, L, RC n, n) 0 0 Q := by
  unfold f_Fg_isDrawn_b0 at hF
  refine r_aload_n (i := 0) (k0 := 0) rfl rfl rfl ?_
  refine r_aload_n (i := 1) (k0 := 0) rfl rfl rfl ?_
  refine r_iload_n (i := 2) (k0 := 1) rfl rfl rfl ?_
  refine c_V1I (i := 3) rfl vm_Fg_kindOf lk_Fg_75 (t_Fg_kindOf hn (ok_bind hF)) (Nat.le_of_ble_eq_true rfl) (xm_in rfl hn) rfl rfl (Nat.le_of_ble_eq_true rfl) (fun p_1 hF => ?_)
  refine c_V1I (i := 4) rfl vm_Fg_isHidden lk_Fg_86 (t_Fg_isHidden hn (ok_bind hF)) (Nat.le_of_ble_eq_true rfl) (xm_in rfl hn) rfl rfl (Nat.le_of_ble_eq_true rfl) (fun p_2 hF => ?_)
  refine r_ifne (i := 5) (tgt := 24) rfl (by decide) (fun hc => ?_) (fun hc => ?_)
  · have hF := ok_if hc hF
    refine r_iconst (v := 0) (i := 12) rfl ki_0 ?_
    have hQ := hq _ (ok_some hF)
    exact r_ireturn (i := 13) rfl rfl rfl hQ
  have hF := ok_it hc hF
  refine r_aload_n (i := 6) (k0 := 0) rfl rfl rfl ?_
  refine r_iload_n (i := 7) (k0 := 1) rfl rfl rfl ?_
  refine c_V1I (i := 8) rfl vm_Fg_hasFallen lk_Fg_89 (t_Fg_hasFallen hn (ok_bind hF)) (Nat.le_of_ble_eq_true rfl) (xm_in rfl hn) rfl rfl (Nat.le_of_ble_eq_true rfl) (fun p_3 hF => ?_)
  refine r_ifne (i := 9) (tgt := 24) rfl (by decide) (fun hc => ?_) (fun hc => ?_)
  · have hF := ok_if hc hF
    refine r_iconst (v := 0) (i := 12) rfl ki_0 ?_
    have hQ := hq _ (ok_some hF)
    exact r_ireturn (i := 13) rfl rfl rfl hQ
  have hF := ok_it hc hF
  refine r_iconst (v := 1) (i := 10) rfl ki_1 ?_
  refine r_goto (i := 11) (tgt := 25) rfl (by decide) ?_
  have hQ := hq _ (ok_some hF)
  exact r_ireturn (i := 13) rfl rfl rfl hQ
set_option maxHeartbeats 4000000 in
set_option maxRecDepth 100000 in
theorem t_Fg_isDrawn {x1 : Int32} {n : Nat} {I : xm_I} {L : xm_L} {K : Int32 → Prop} (hn : 86 ≤ n) (hF : ok (f_Fg_isDrawn x1 I) K) : xm_C 5 mt_Fg_isDrawn [.ref 6, .int x1] (I, L, RC n, n) 0 0 (pI (fun p : Int32 => p) (fun p : Int32 => (I, L, RC n, n)) K) := by
  unfold f_Fg_isDrawn at hF
  refine xm_enter (by decide +kernel) dv_Fg_isDrawn (Nat.le_of_ble_eq_true rfl) ?_
  exact t_Fg_isDrawn_b0 hn (fun p hp => ⟨p, rfl, rfl, hp⟩) hF

noncomputable def f_Jm_floorDiv_I_b0 (x0 : Int32) (x1 : Int32) : Option (Int32) :=
  gd (¬ x1 = 0) <|
  let x2_1 : Int32 := x0 / x1
  if 0 ≤ (x0 ^^^ x1) then (
    some (x2_1))
  else (
  if (x2_1 * x1) = x0 then (
    some (x2_1))
  else (
  some (x2_1 - 1)))
noncomputable def f_Jm_floorDiv_I (x0 : Int32) (x1 : Int32) : Option (Int32) := f_Jm_floorDiv_I_b0 x0 x1
set_option maxHeartbeats 4000000 in
set_option maxRecDepth 100000 in
theorem t_Jm_floorDiv_I_b0 {x0 : Int32} {x1 : Int32} {n : Nat} {I : xm_I} {L : xm_L} {K : Int32 → Prop} {Q : Option Value → xm_H → Prop} (hn : 86 ≤ n) (hq : ∀ p : Int32, K p → Q (some (.int p)) (I, L, RC n, n)) (hF : ok (f_Jm_floorDiv_I_b0 x0 x1) K) : xm_J 0 mt_Jm_floorDiv_I 0 [(0, .int x0), (1, .int x1)] [] (I, L, RC n, n) 0 0 Q := by
  unfold f_Jm_floorDiv_I_b0 at hF
  refine r_iload_n (i := 0) (k0 := 0) rfl rfl rfl ?_
  refine r_iload_n (i := 1) (k0 := 1) rfl rfl rfl ?_
  obtain ⟨hi, hF⟩ := ok_gd hF
  refine r_idiv (i := 2) rfl hi ?_
  refine r_istore_n (i := 3) (Ls' := [(2, _), (0, _), (1, _)]) rfl rfl (Nat.le_of_ble_eq_true rfl) rfl ?_
  refine r_iload_n (i := 4) (k0 := 1) rfl rfl rfl ?_
  refine r_iload_n (i := 5) (k0 := 2) rfl rfl rfl ?_
  refine r_ixor (i := 6) rfl ?_
  refine r_ifge (i := 7) (tgt := 21) rfl (by decide) (fun hc => ?_) (fun hc => ?_)
  · have hF := ok_it hc hF
    refine r_iload_n (i := 17) (k0 := 0) rfl rfl rfl ?_
    have hQ := hq _ (ok_some hF)
    exact r_ireturn (i := 18) rfl rfl rfl hQ
  have hF := ok_if hc hF
  refine r_iload_n (i := 8) (k0 := 0) rfl rfl rfl ?_
  refine r_iload_n (i := 9) (k0 := 2) rfl rfl rfl ?_
  refine r_imul (i := 10) rfl ?_
  refine r_iload_n (i := 11) (k0 := 1) rfl rfl rfl ?_
  refine r_icmpeq (i := 12) (tgt := 21) rfl (by decide) (fun hc => ?_) (fun hc => ?_)
  · have hF := ok_it hc hF
    refine r_iload_n (i := 17) (k0 := 0) rfl rfl rfl ?_
    have hQ := hq _ (ok_some hF)
    exact r_ireturn (i := 18) rfl rfl rfl hQ
  have hF := ok_if hc hF
  refine r_iload_n (i := 13) (k0 := 0) rfl rfl rfl ?_
  refine r_iconst (v := 1) (i := 14) rfl ki_1 ?_
  refine r_isub (i := 15) rfl ?_
  have hQ := hq _ (ok_some hF)
  exact r_ireturn (i := 16) rfl rfl rfl hQ
set_option maxHeartbeats 4000000 in
set_option maxRecDepth 100000 in
theorem t_Jm_floorDiv_I {x0 : Int32} {x1 : Int32} {n : Nat} {I : xm_I} {L : xm_L} {K : Int32 → Prop} (hn : 86 ≤ n) (hF : ok (f_Jm_floorDiv_I x0 x1) K) : xm_C 0 mt_Jm_floorDiv_I [.int x0, .int x1] (I, L, RC n, n) 0 0 (pI (fun p : Int32 => p) (fun p : Int32 => (I, L, RC n, n)) K) := by
  unfold f_Jm_floorDiv_I at hF
  refine xm_enter (by decide +kernel) dv_Jm_floorDiv_I (Nat.le_of_ble_eq_true rfl) ?_
  exact t_Jm_floorDiv_I_b0 hn (fun p hp => ⟨p, rfl, rfl, hp⟩) hF

noncomputable def f_D_multipleFrom_b0 (x0 : Int32) (x1 : Int32) : Option (Int32) :=
  if 0 < x1 then (
    (f_Jm_floorDiv_I (-x0) x1).bind fun p_1 =>
    some ((-p_1) * x1))
  else (
  some (x0))
noncomputable def f_D_multipleFrom (x0 : Int32) (x1 : Int32) : Option (Int32) := f_D_multipleFrom_b0 x0 x1
set_option maxHeartbeats 4000000 in
set_option maxRecDepth 100000 in
theorem t_D_multipleFrom_b0 {x0 : Int32} {x1 : Int32} {n : Nat} {I : xm_I} {L : xm_L} {K : Int32 → Prop} {Q : Option Value → xm_H → Prop} (hn : 86 ≤ n) (hq : ∀ p : Int32, K p → Q (some (.int p)) (I, L, RC n, n)) (hF : ok (f_D_multipleFrom_b0 x0 x1) K) : xm_J 1 mt_D_multipleFrom 0 [(0, .int x0), (1, .int x1)] [] (I, L, RC n, n) 0 0 Q := by
  unfold f_D_multipleFrom_b0 at hF
  refine r_iload_n (i := 0) (k0 := 1) rfl rfl rfl ?_
  refine r_ifgt (i := 1) (tgt := 8) rfl (by decide) (fun hc => ?_) (fun hc => ?_)
  · have hF := ok_it hc hF
    refine r_iload_n (i := 4) (k0 := 0) rfl rfl rfl ?_
    refine r_ineg (i := 5) rfl ?_
    refine r_iload_n (i := 6) (k0 := 1) rfl rfl rfl ?_
    refine c_S2I (i := 7) rfl sm_Jm_floorDiv_I lk_D_382 (t_Jm_floorDiv_I hn (ok_bind hF)) (Nat.le_of_ble_eq_true rfl) rfl (Nat.le_of_ble_eq_true rfl) (fun p_1 hF => ?_)
    refine r_ineg (i := 8) rfl ?_
    refine r_iload_n (i := 9) (k0 := 1) rfl rfl rfl ?_
    refine r_imul (i := 10) rfl ?_
    have hQ := hq _ (ok_some hF)
    exact r_ireturn (i := 11) rfl rfl rfl hQ
  have hF := ok_if hc hF
  refine r_iload_n (i := 2) (k0 := 0) rfl rfl rfl ?_
  refine r_goto (i := 3) (tgt := 17) rfl (by decide) ?_
  have hQ := hq _ (ok_some hF)
  exact r_ireturn (i := 11) rfl rfl rfl hQ
set_option maxHeartbeats 4000000 in
set_option maxRecDepth 100000 in
theorem t_D_multipleFrom {x0 : Int32} {x1 : Int32} {n : Nat} {I : xm_I} {L : xm_L} {K : Int32 → Prop} (hn : 86 ≤ n) (hF : ok (f_D_multipleFrom x0 x1) K) : xm_C 1 mt_D_multipleFrom [.int x0, .int x1] (I, L, RC n, n) 0 0 (pI (fun p : Int32 => p) (fun p : Int32 => (I, L, RC n, n)) K) := by
  unfold f_D_multipleFrom at hF
  refine xm_enter (by decide +kernel) dv_D_multipleFrom (Nat.le_of_ble_eq_true rfl) ?_
  exact t_D_multipleFrom_b0 hn (fun p hp => ⟨p, rfl, rfl, hp⟩) hF

noncomputable def f_Jm_floorDiv_J_b0 (l0 : Int64) (l2 : Int64) : Option (Int64) :=
  gd (¬ l2 = 0) <|
  let l4_1 : Int64 := l0 / l2
  if 0 ≤ (l0 ^^^ l2) then (
    some (l4_1))
  else (
  if (l4_1 * l2) = l0 then (
    some (l4_1))
  else (
  some (l4_1 - 1)))
noncomputable def f_Jm_floorDiv_J (l0 : Int64) (l2 : Int64) : Option (Int64) := f_Jm_floorDiv_J_b0 l0 l2
set_option maxHeartbeats 4000000 in
set_option maxRecDepth 100000 in
theorem t_Jm_floorDiv_J_b0 {l0 : Int64} {l2 : Int64} {n : Nat} {I : xm_I} {L : xm_L} {K : Int64 → Prop} {Q : Option Value → xm_H → Prop} (hn : 86 ≤ n) (hq : ∀ p : Int64, K p → Q (some (.long p)) (I, L, RC n, n)) (hF : ok (f_Jm_floorDiv_J_b0 l0 l2) K) : xm_J 0 mt_Jm_floorDiv_J 0 [(0, .long l0), (2, .long l2)] [] (I, L, RC n, n) 0 0 Q := by
  unfold f_Jm_floorDiv_J_b0 at hF
  refine r_lload_n (i := 0) (k0 := 0) rfl rfl rfl ?_
  refine r_lload_n (i := 1) (k0 := 1) rfl rfl rfl ?_
  obtain ⟨hi, hF⟩ := ok_gd hF
  refine r_ldiv (i := 2) rfl hi ?_
  refine r_lstore (i := 3) (Ls' := [(4, _), (0, _), (2, _)]) rfl (Nat.le_of_ble_eq_true rfl) rfl ?_
  refine r_lload_n (i := 4) (k0 := 1) rfl rfl rfl ?_
  refine r_lload_n (i := 5) (k0 := 2) rfl rfl rfl ?_
  refine r_lxor (i := 6) rfl ?_
  refine r_lconst (v := 0) (i := 7) rfl rfl ?_
  refine r_lcmpge (i := 8) (j := 9) (tgt := 27) rfl rfl (by decide) (fun hc => ?_) (fun hc => ?_)
  · have hF := ok_it hc hF
    refine r_lload (i := 20) (k0 := 0) rfl rfl ?_
    have hQ := hq _ (ok_some hF)
    exact r_lreturn (i := 21) rfl rfl hQ
  have hF := ok_if hc hF
  refine r_lload (i := 10) (k0 := 0) rfl rfl ?_
  refine r_lload_n (i := 11) (k0 := 2) rfl rfl rfl ?_
  refine r_lmul (i := 12) rfl ?_
  refine r_lload_n (i := 13) (k0 := 1) rfl rfl rfl ?_
  refine r_lcmpeq (i := 14) (j := 15) (tgt := 27) rfl rfl (by decide) (fun hc => ?_) (fun hc => ?_)
  · have hF := ok_it hc hF
    refine r_lload (i := 20) (k0 := 0) rfl rfl ?_
    have hQ := hq _ (ok_some hF)
    exact r_lreturn (i := 21) rfl rfl hQ
  have hF := ok_if hc hF
  refine r_lload (i := 16) (k0 := 0) rfl rfl ?_
  refine r_lconst (v := 1) (i := 17) rfl rfl ?_
  refine r_lsub (i := 18) rfl ?_
  have hQ := hq _ (ok_some hF)
  exact r_lreturn (i := 19) rfl rfl hQ
set_option maxHeartbeats 4000000 in
set_option maxRecDepth 100000 in
theorem t_Jm_floorDiv_J {l0 : Int64} {l2 : Int64} {n : Nat} {I : xm_I} {L : xm_L} {K : Int64 → Prop} (hn : 86 ≤ n) (hF : ok (f_Jm_floorDiv_J l0 l2) K) : xm_C 0 mt_Jm_floorDiv_J [.long l0, .long l2] (I, L, RC n, n) 0 0 (pL (fun p : Int64 => p) (fun p : Int64 => (I, L, RC n, n)) K) := by
  unfold f_Jm_floorDiv_J at hF
  refine xm_enter (by decide +kernel) dv_Jm_floorDiv_J (Nat.le_of_ble_eq_true rfl) ?_
  exact t_Jm_floorDiv_J_b0 hn (fun p hp => ⟨p, rfl, rfl, hp⟩) hF

noncomputable def f_D_roundedDown_b0 (l0 : Int64) (l2 : Int64) : Option (Int32) :=
  if 0 < l2 then (
    (f_Jm_floorDiv_J l0 l2).bind fun p_1 =>
    some (Int64.toInt32 p_1))
  else (
  some (0))
noncomputable def f_D_roundedDown (l0 : Int64) (l2 : Int64) : Option (Int32) := f_D_roundedDown_b0 l0 l2
set_option maxHeartbeats 4000000 in
set_option maxRecDepth 100000 in
theorem t_D_roundedDown_b0 {l0 : Int64} {l2 : Int64} {n : Nat} {I : xm_I} {L : xm_L} {K : Int32 → Prop} {Q : Option Value → xm_H → Prop} (hn : 86 ≤ n) (hq : ∀ p : Int32, K p → Q (some (.int p)) (I, L, RC n, n)) (hF : ok (f_D_roundedDown_b0 l0 l2) K) : xm_J 1 mt_D_roundedDown 0 [(0, .long l0), (2, .long l2)] [] (I, L, RC n, n) 0 0 Q := by
  unfold f_D_roundedDown_b0 at hF
  refine r_lload_n (i := 0) (k0 := 1) rfl rfl rfl ?_
  refine r_lconst (v := 0) (i := 1) rfl rfl ?_
  refine r_lcmpgt (i := 2) (j := 3) (tgt := 10) rfl rfl (by decide) (fun hc => ?_) (fun hc => ?_)
  · have hF := ok_it hc hF
    refine r_lload_n (i := 6) (k0 := 0) rfl rfl rfl ?_
    refine r_lload_n (i := 7) (k0 := 1) rfl rfl rfl ?_
    refine c_S2L (i := 8) rfl sm_Jm_floorDiv_J lk_D_376 (t_Jm_floorDiv_J hn (ok_bind hF)) (Nat.le_of_ble_eq_true rfl) rfl (Nat.le_of_ble_eq_true rfl) (fun p_1 hF => ?_)
    refine r_l2i (i := 9) rfl ?_
    have hQ := hq _ (ok_some hF)
    exact r_ireturn (i := 10) rfl rfl rfl hQ
  have hF := ok_if hc hF
  refine r_iconst (v := 0) (i := 4) rfl ki_0 ?_
  refine r_goto (i := 5) (tgt := 16) rfl (by decide) ?_
  have hQ := hq _ (ok_some hF)
  exact r_ireturn (i := 10) rfl rfl rfl hQ
set_option maxHeartbeats 4000000 in
set_option maxRecDepth 100000 in
theorem t_D_roundedDown {l0 : Int64} {l2 : Int64} {n : Nat} {I : xm_I} {L : xm_L} {K : Int32 → Prop} (hn : 86 ≤ n) (hF : ok (f_D_roundedDown l0 l2) K) : xm_C 1 mt_D_roundedDown [.long l0, .long l2] (I, L, RC n, n) 0 0 (pI (fun p : Int32 => p) (fun p : Int32 => (I, L, RC n, n)) K) := by
  unfold f_D_roundedDown at hF
  refine xm_enter (by decide +kernel) dv_D_roundedDown (Nat.le_of_ble_eq_true rfl) ?_
  exact t_D_roundedDown_b0 hn (fun p hp => ⟨p, rfl, rfl, hp⟩) hF

noncomputable def f_D_rounded_b0 (l0 : Int64) (l2 : Int64) : Option (Int32) :=
  if 0 < l2 then (
    (f_Jm_floorDiv_J ((2 * l0) + l2) (2 * l2)).bind fun p_1 =>
    some (Int64.toInt32 p_1))
  else (
  some (0))
noncomputable def f_D_rounded (l0 : Int64) (l2 : Int64) : Option (Int32) := f_D_rounded_b0 l0 l2
set_option maxHeartbeats 4000000 in
set_option maxRecDepth 100000 in
theorem t_D_rounded_b0 {l0 : Int64} {l2 : Int64} {n : Nat} {I : xm_I} {L : xm_L} {K : Int32 → Prop} {Q : Option Value → xm_H → Prop} (hn : 86 ≤ n) (hq : ∀ p : Int32, K p → Q (some (.int p)) (I, L, RC n, n)) (hF : ok (f_D_rounded_b0 l0 l2) K) : xm_J 1 mt_D_rounded 0 [(0, .long l0), (2, .long l2)] [] (I, L, RC n, n) 0 0 Q := by
  unfold f_D_rounded_b0 at hF
  refine r_lload_n (i := 0) (k0 := 1) rfl rfl rfl ?_
  refine r_lconst (v := 0) (i := 1) rfl rfl ?_
  refine r_lcmpgt (i := 2) (j := 3) (tgt := 10) rfl rfl (by decide) (fun hc => ?_) (fun hc => ?_)
  · have hF := ok_it hc hF
    refine r_ldc2 (i := 6) rfl ct_D_374 ?_
    refine r_lload_n (i := 7) (k0 := 0) rfl rfl rfl ?_
    refine r_lmul (i := 8) rfl ?_
    refine r_lload_n (i := 9) (k0 := 1) rfl rfl rfl ?_
    refine r_ladd (i := 10) rfl ?_
    refine r_ldc2 (i := 11) rfl ct_D_374 ?_
    refine r_lload_n (i := 12) (k0 := 1) rfl rfl rfl ?_
    refine r_lmul (i := 13) rfl ?_
    refine c_S2L (i := 14) rfl sm_Jm_floorDiv_J lk_D_376 (t_Jm_floorDiv_J hn (ok_bind hF)) (Nat.le_of_ble_eq_true rfl) rfl (Nat.le_of_ble_eq_true rfl) (fun p_1 hF => ?_)
    refine r_l2i (i := 15) rfl ?_
    have hQ := hq _ (ok_some hF)
    exact r_ireturn (i := 16) rfl rfl rfl hQ
  have hF := ok_if hc hF
  refine r_iconst (v := 0) (i := 4) rfl ki_0 ?_
  refine r_goto (i := 5) (tgt := 26) rfl (by decide) ?_
  have hQ := hq _ (ok_some hF)
  exact r_ireturn (i := 16) rfl rfl rfl hQ
set_option maxHeartbeats 4000000 in
set_option maxRecDepth 100000 in
theorem t_D_rounded {l0 : Int64} {l2 : Int64} {n : Nat} {I : xm_I} {L : xm_L} {K : Int32 → Prop} (hn : 86 ≤ n) (hF : ok (f_D_rounded l0 l2) K) : xm_C 1 mt_D_rounded [.long l0, .long l2] (I, L, RC n, n) 0 0 (pI (fun p : Int32 => p) (fun p : Int32 => (I, L, RC n, n)) K) := by
  unfold f_D_rounded at hF
  refine xm_enter (by decide +kernel) dv_D_rounded (Nat.le_of_ble_eq_true rfl) ?_
  exact t_D_rounded_b0 hn (fun p hp => ⟨p, rfl, rfl, hp⟩) hF

noncomputable def f_Fr_sheetX_b0 (l1 : Int64) (l3 : Int64) (I : xm_I) : Option (Int32) :=
  (f_Fr_aboveX l1 l3 I).bind fun p_1 =>
  (f_Fr_below l3 I).bind fun p_2 =>
  (f_D_rounded p_1 p_2).bind fun p_3 =>
  some (p_3)
noncomputable def f_Fr_sheetX (l1 : Int64) (l3 : Int64) (I : xm_I) : Option (Int32) := f_Fr_sheetX_b0 l1 l3 I
set_option maxHeartbeats 4000000 in
set_option maxRecDepth 100000 in
theorem t_Fr_sheetX_b0 {l1 : Int64} {l3 : Int64} {n : Nat} {I : xm_I} {L : xm_L} {K : Int32 → Prop} {Q : Option Value → xm_H → Prop} (hn : 86 ≤ n) (hq : ∀ p : Int32, K p → Q (some (.int p)) (I, L, RC n, n)) (hF : ok (f_Fr_sheetX_b0 l1 l3 I) K) : xm_J 2 mt_Fr_sheetX 0 [(0, .ref 14), (1, .long l1), (3, .long l3)] [] (I, L, RC n, n) 0 0 Q := by
  unfold f_Fr_sheetX_b0 at hF
  refine r_aload_n (i := 0) (k0 := 0) rfl rfl rfl ?_
  refine r_lload_n (i := 1) (k0 := 1) rfl rfl rfl ?_
  refine r_lload_n (i := 2) (k0 := 2) rfl rfl rfl ?_
  refine c_V2L (i := 3) rfl vm_Fr_aboveX lk_Fr_54 (t_Fr_aboveX hn (ok_bind hF)) (Nat.le_of_ble_eq_true rfl) (xm_in rfl hn) rfl rfl (Nat.le_of_ble_eq_true rfl) (fun p_1 hF => ?_)
  refine r_aload_n (i := 4) (k0 := 0) rfl rfl rfl ?_
  refine r_lload_n (i := 5) (k0 := 2) rfl rfl rfl ?_
  refine c_V1L (i := 6) rfl vm_Fr_below lk_Fr_57 (t_Fr_below hn (ok_bind hF)) (Nat.le_of_ble_eq_true rfl) (xm_in rfl hn) rfl rfl (Nat.le_of_ble_eq_true rfl) (fun p_2 hF => ?_)
  refine c_N2I (i := 7) rfl sm_D_rounded lk_Fr_61 (t_D_rounded hn (ok_bind hF)) (Nat.le_of_ble_eq_true rfl) rfl (Nat.le_of_ble_eq_true rfl) (fun p_3 hF => ?_)
  have hQ := hq _ (ok_some hF)
  exact r_ireturn (i := 8) rfl rfl rfl hQ
set_option maxHeartbeats 4000000 in
set_option maxRecDepth 100000 in
theorem t_Fr_sheetX {l1 : Int64} {l3 : Int64} {n : Nat} {I : xm_I} {L : xm_L} {K : Int32 → Prop} (hn : 86 ≤ n) (hF : ok (f_Fr_sheetX l1 l3 I) K) : xm_C 2 mt_Fr_sheetX [.ref 14, .long l1, .long l3] (I, L, RC n, n) 0 0 (pI (fun p : Int32 => p) (fun p : Int32 => (I, L, RC n, n)) K) := by
  unfold f_Fr_sheetX at hF
  refine xm_enter (by decide +kernel) dv_Fr_sheetX (Nat.le_of_ble_eq_true rfl) ?_
  exact t_Fr_sheetX_b0 hn (fun p hp => ⟨p, rfl, rfl, hp⟩) hF

noncomputable def f_Fr_sheetY_b0 (l1 : Int64) (l3 : Int64) (I : xm_I) : Option (Int32) :=
  (f_Fr_aboveY l1 l3 I).bind fun p_1 =>
  (f_Fr_below l3 I).bind fun p_2 =>
  (f_D_rounded p_1 p_2).bind fun p_3 =>
  some (p_3)
noncomputable def f_Fr_sheetY (l1 : Int64) (l3 : Int64) (I : xm_I) : Option (Int32) := f_Fr_sheetY_b0 l1 l3 I
set_option maxHeartbeats 4000000 in
set_option maxRecDepth 100000 in
theorem t_Fr_sheetY_b0 {l1 : Int64} {l3 : Int64} {n : Nat} {I : xm_I} {L : xm_L} {K : Int32 → Prop} {Q : Option Value → xm_H → Prop} (hn : 86 ≤ n) (hq : ∀ p : Int32, K p → Q (some (.int p)) (I, L, RC n, n)) (hF : ok (f_Fr_sheetY_b0 l1 l3 I) K) : xm_J 2 mt_Fr_sheetY 0 [(0, .ref 14), (1, .long l1), (3, .long l3)] [] (I, L, RC n, n) 0 0 Q := by
  unfold f_Fr_sheetY_b0 at hF
  refine r_aload_n (i := 0) (k0 := 0) rfl rfl rfl ?_
  refine r_lload_n (i := 1) (k0 := 1) rfl rfl rfl ?_
  refine r_lload_n (i := 2) (k0 := 2) rfl rfl rfl ?_
  refine c_V2L (i := 3) rfl vm_Fr_aboveY lk_Fr_65 (t_Fr_aboveY hn (ok_bind hF)) (Nat.le_of_ble_eq_true rfl) (xm_in rfl hn) rfl rfl (Nat.le_of_ble_eq_true rfl) (fun p_1 hF => ?_)
  refine r_aload_n (i := 4) (k0 := 0) rfl rfl rfl ?_
  refine r_lload_n (i := 5) (k0 := 2) rfl rfl rfl ?_
  refine c_V1L (i := 6) rfl vm_Fr_below lk_Fr_57 (t_Fr_below hn (ok_bind hF)) (Nat.le_of_ble_eq_true rfl) (xm_in rfl hn) rfl rfl (Nat.le_of_ble_eq_true rfl) (fun p_2 hF => ?_)
  refine c_N2I (i := 7) rfl sm_D_rounded lk_Fr_61 (t_D_rounded hn (ok_bind hF)) (Nat.le_of_ble_eq_true rfl) rfl (Nat.le_of_ble_eq_true rfl) (fun p_3 hF => ?_)
  have hQ := hq _ (ok_some hF)
  exact r_ireturn (i := 8) rfl rfl rfl hQ
set_option maxHeartbeats 4000000 in
set_option maxRecDepth 100000 in
theorem t_Fr_sheetY {l1 : Int64} {l3 : Int64} {n : Nat} {I : xm_I} {L : xm_L} {K : Int32 → Prop} (hn : 86 ≤ n) (hF : ok (f_Fr_sheetY l1 l3 I) K) : xm_C 2 mt_Fr_sheetY [.ref 14, .long l1, .long l3] (I, L, RC n, n) 0 0 (pI (fun p : Int32 => p) (fun p : Int32 => (I, L, RC n, n)) K) := by
  unfold f_Fr_sheetY at hF
  refine xm_enter (by decide +kernel) dv_Fr_sheetY (Nat.le_of_ble_eq_true rfl) ?_
  exact t_Fr_sheetY_b0 hn (fun p hp => ⟨p, rfl, rfl, hp⟩) hF

noncomputable def f_Pn_anchor_b0 (x1 : Int32) (x2 : Int32) (x3 : Int32) (I : xm_I) : Option (xm_I) :=
  if x1 < 0 then (
    some (I))
  else (
  if 40 ≤ x1 then (
    some (I))
  else (
  gd (0 ≤ (x1).toInt ∧ (x1).toInt < 40) <|
  let I_1 : xm_I := up2 I 31 (Int32.toNatClampNeg x1) (1 &&& 1)
  gd (0 ≤ (x1).toInt ∧ (x1).toInt < 40) <|
  let I_2 : xm_I := up2 I_1 32 (Int32.toNatClampNeg x1) x2
  gd (0 ≤ (x1).toInt ∧ (x1).toInt < 40) <|
  let I_3 : xm_I := up2 I_2 33 (Int32.toNatClampNeg x1) x3
  some (I_3)))
noncomputable def f_Pn_anchor (x1 : Int32) (x2 : Int32) (x3 : Int32) (I : xm_I) : Option (xm_I) := f_Pn_anchor_b0 x1 x2 x3 I
set_option maxHeartbeats 4000000 in
set_option maxRecDepth 100000 in
theorem t_Pn_anchor_b0 {x1 : Int32} {x2 : Int32} {x3 : Int32} {n : Nat} {I : xm_I} {L : xm_L} {K : xm_I → Prop} {Q : Option Value → xm_H → Prop} (hn : 86 ≤ n) (hq : ∀ p : xm_I, K p → Q none (p, L, RC n, n)) (hF : ok (f_Pn_anchor_b0 x1 x2 x3 I) K) : xm_J 0 mt_Pn_anchor 0 [(0, .ref 30), (1, .int x1), (2, .int x2), (3, .int x3)] [] (I, L, RC n, n) 0 0 Q := by
  unfold f_Pn_anchor_b0 at hF
  refine r_iload_n (i := 0) (k0 := 1) rfl rfl rfl ?_
  refine r_iflt (i := 1) (tgt := 31) rfl (by decide) (fun hc => ?_) (fun hc => ?_)
  · have hF := ok_it hc hF
    have hQ := hq _ (ok_some hF)
    exact r_return (i := 20) rfl rfl hQ
  have hF := ok_if hc hF
  refine r_iload_n (i := 2) (k0 := 1) rfl rfl rfl ?_
  refine r_bipush (v := 40) (i := 3) rfl kb_40 ?_
  refine r_icmpge (i := 4) (tgt := 31) rfl (by decide) (fun hc => ?_) (fun hc => ?_)
  · have hF := ok_it hc hF
    have hQ := hq _ (ok_some hF)
    exact r_return (i := 20) rfl rfl hQ
  have hF := ok_if hc hF
  refine r_aload_n (i := 5) (k0 := 0) rfl rfl rfl ?_
  refine q_getr (b := 31) (i := 6) rfl fl_Pn_9 rfl (xm_in rfl hn) rfl rfl ?_
  refine r_iload_n (i := 7) (k0 := 1) rfl rfl rfl ?_
  refine r_iconst (v := 1) (i := 8) rfl ki_1 ?_
  obtain ⟨hi, hF⟩ := ok_gd hF
  refine q_bastore (i := 9) rfl (xm_in rfl hn) rfl hi ?_
  refine r_aload_n (i := 10) (k0 := 0) rfl rfl rfl ?_
  refine q_getr (b := 32) (i := 11) rfl fl_Pn_15 rfl (xm_in rfl hn) rfl rfl ?_
  refine r_iload_n (i := 12) (k0 := 1) rfl rfl rfl ?_
  refine r_iload_n (i := 13) (k0 := 2) rfl rfl rfl ?_
  obtain ⟨hi, hF⟩ := ok_gd hF
  refine q_iastore (i := 14) rfl (xm_in rfl hn) rfl hi ?_
  refine r_aload_n (i := 15) (k0 := 0) rfl rfl rfl ?_
  refine q_getr (b := 33) (i := 16) rfl fl_Pn_19 rfl (xm_in rfl hn) rfl rfl ?_
  refine r_iload_n (i := 17) (k0 := 1) rfl rfl rfl ?_
  refine r_iload_n (i := 18) (k0 := 3) rfl rfl rfl ?_
  obtain ⟨hi, hF⟩ := ok_gd hF
  refine q_iastore (i := 19) rfl (xm_in rfl hn) rfl hi ?_
  have hQ := hq _ (ok_some hF)
  exact r_return (i := 20) rfl rfl hQ
set_option maxHeartbeats 4000000 in
set_option maxRecDepth 100000 in
theorem t_Pn_anchor {x1 : Int32} {x2 : Int32} {x3 : Int32} {n : Nat} {I : xm_I} {L : xm_L} {K : xm_I → Prop} (hn : 86 ≤ n) (hF : ok (f_Pn_anchor x1 x2 x3 I) K) : xm_C 0 mt_Pn_anchor [.ref 30, .int x1, .int x2, .int x3] (I, L, RC n, n) 0 0 (pV (fun p : xm_I => (p, L, RC n, n)) K) := by
  unfold f_Pn_anchor at hF
  refine xm_enter (by decide +kernel) dv_Pn_anchor (Nat.le_of_ble_eq_true rfl) ?_
  exact t_Pn_anchor_b0 hn (fun p hp => ⟨p, rfl, rfl, hp⟩) hF

noncomputable def f_Pn_anchorArea_s8 (x1 : Int32) (I : xm_I) (s : Int64 × Int64 × Int32) : Option ((Int64 × Int64 × Int32) ⊕ (xm_I)) :=
  if (I 30 12) ≤ s.2.2 then (
    (f_D_roundedDown s.1 (Int32.toInt64 (I 30 12))).bind fun p_1 =>
    (f_D_roundedDown s.2.1 (Int32.toInt64 (I 30 12))).bind fun p_2 =>
    (f_Pn_anchor x1 p_1 p_2 I).bind fun p_3 =>
    some (.inr (p_3)))
  else (
  gd (0 ≤ (s.2.2).toInt ∧ (s.2.2).toInt < 12) <|
  (f_Fr_sheetX (Int32.toInt64 (I 34 (Int32.toNatClampNeg s.2.2))) 1 I).bind fun p_4 =>
  let l2_5 : Int64 := s.1 + (Int32.toInt64 p_4)
  gd (0 ≤ (s.2.2).toInt ∧ (s.2.2).toInt < 12) <|
  (f_Fr_sheetY (Int32.toInt64 (I 35 (Int32.toNatClampNeg s.2.2))) 1 I).bind fun p_6 =>
  let l4_7 : Int64 := s.2.1 + (Int32.toInt64 p_6)
  let x6_8 : Int32 := s.2.2 + 1
  some (.inl (l2_5, l4_7, x6_8)))
noncomputable def f_Pn_anchorArea_b8 (x1 : Int32) (I : xm_I) (s : Int64 × Int64 × Int32) : Option (xm_I) := lp (f_Pn_anchorArea_s8 x1 I) s
noncomputable def f_Pn_anchorArea_b0 (x1 : Int32) (I : xm_I) : Option (xm_I) :=
  f_Pn_anchorArea_b8 x1 I (0, 0, 0)
noncomputable def f_Pn_anchorArea (x1 : Int32) (I : xm_I) : Option (xm_I) := f_Pn_anchorArea_b0 x1 I
set_option maxHeartbeats 4000000 in
set_option maxRecDepth 100000 in
theorem t_Pn_anchorArea_s8 {x1 : Int32} {s : Int64 × Int64 × Int32} {n : Nat} {I : xm_I} {L : xm_L} {K : (Int64 × Int64 × Int32) ⊕ (xm_I) → Prop} {Q : Option Value → xm_H → Prop} (hn : 86 ≤ n) (hq : ∀ p : xm_I, K (.inr p) → Q none (p, L, RC n, n)) (hg0 : ∀ s : Int64 × Int64 × Int32, K (.inl s) → xm_J 3 mt_Pn_anchorArea 8 [(0, .ref 30), (1, .int x1), (2, .long s.1), (4, .long s.2.1), (6, .int s.2.2)] [] (I, L, RC n, n) 0 0 Q) (hF : ok (f_Pn_anchorArea_s8 x1 I s) K) : xm_J 3 mt_Pn_anchorArea 8 [(0, .ref 30), (1, .int x1), (2, .long s.1), (4, .long s.2.1), (6, .int s.2.2)] [] (I, L, RC n, n) 0 0 Q := by
  unfold f_Pn_anchorArea_s8 at hF
  refine r_iload (i := 6) (k0 := 4) rfl rfl ?_
  refine r_aload_n (i := 7) (k0 := 0) rfl rfl rfl ?_
  refine q_geti (i := 8) rfl fl_Pn_151 (xm_in rfl hn) rfl ?_
  refine r_icmpge (i := 9) (tgt := 65) rfl (by decide) (fun hc => ?_) (fun hc => ?_)
  · have hF := ok_it hc hF
    refine r_aload_n (i := 38) (k0 := 0) rfl rfl rfl ?_
    refine r_iload_n (i := 39) (k0 := 1) rfl rfl rfl ?_
    refine r_lload_n (i := 40) (k0 := 2) rfl rfl rfl ?_
    refine r_aload_n (i := 41) (k0 := 0) rfl rfl rfl ?_
    refine q_geti (i := 42) rfl fl_Pn_151 (xm_in rfl hn) rfl ?_
    refine r_i2l (i := 43) rfl ?_
    refine c_N2I (i := 44) rfl sm_D_roundedDown lk_Pn_178 (t_D_roundedDown hn (ok_bind hF)) (Nat.le_of_ble_eq_true rfl) rfl (Nat.le_of_ble_eq_true rfl) (fun p_1 hF => ?_)
    refine r_lload (i := 45) (k0 := 3) rfl rfl ?_
    refine r_aload_n (i := 46) (k0 := 0) rfl rfl rfl ?_
    refine q_geti (i := 47) rfl fl_Pn_151 (xm_in rfl hn) rfl ?_
    refine r_i2l (i := 48) rfl ?_
    refine c_N2I (i := 49) rfl sm_D_roundedDown lk_Pn_178 (t_D_roundedDown hn (ok_bind hF)) (Nat.le_of_ble_eq_true rfl) rfl (Nat.le_of_ble_eq_true rfl) (fun p_2 hF => ?_)
    refine c_V3V (i := 50) rfl vm_Pn_anchor lk_Pn_181 (t_Pn_anchor hn (ok_bind hF)) (Nat.le_of_ble_eq_true rfl) (xm_in rfl hn) rfl rfl (Nat.le_of_ble_eq_true rfl) (fun p_3 hF => ?_)
    have hQ := hq _ (ok_some hF)
    exact r_return (i := 51) rfl rfl hQ
  have hF := ok_if hc hF
  refine r_lload_n (i := 10) (k0 := 2) rfl rfl rfl ?_
  refine r_aload_n (i := 11) (k0 := 0) rfl rfl rfl ?_
  refine q_getr (b := 14) (i := 12) rfl fl_Pn_43 rfl (xm_in rfl hn) rfl rfl ?_
  refine r_aload_n (i := 13) (k0 := 0) rfl rfl rfl ?_
  refine q_getr (b := 34) (i := 14) rfl fl_Pn_22 rfl (xm_in rfl hn) rfl rfl ?_
  refine r_iload (i := 15) (k0 := 4) rfl rfl ?_
  obtain ⟨hi, hF⟩ := ok_gd hF
  refine q_iaload (i := 16) rfl (xm_in rfl hn) rfl hi ?_
  refine r_i2l (i := 17) rfl ?_
  refine r_lconst (v := 1) (i := 18) rfl rfl ?_
  refine c_V2I (i := 19) rfl vm_Fr_sheetX lk_Pn_127 (t_Fr_sheetX hn (ok_bind hF)) (Nat.le_of_ble_eq_true rfl) (xm_in rfl hn) rfl rfl (Nat.le_of_ble_eq_true rfl) (fun p_4 hF => ?_)
  refine r_i2l (i := 20) rfl ?_
  refine r_ladd (i := 21) rfl ?_
  refine r_lstore_n (i := 22) (Ls' := [(2, _), (0, _), (1, _), (4, _), (6, _)]) rfl rfl (Nat.le_of_ble_eq_true rfl) rfl ?_
  refine r_lload (i := 23) (k0 := 3) rfl rfl ?_
  refine r_aload_n (i := 24) (k0 := 1) rfl rfl rfl ?_
  refine q_getr (b := 14) (i := 25) rfl fl_Pn_43 rfl (xm_in rfl hn) rfl rfl ?_
  refine r_aload_n (i := 26) (k0 := 1) rfl rfl rfl ?_
  refine q_getr (b := 35) (i := 27) rfl fl_Pn_25 rfl (xm_in rfl hn) rfl rfl ?_
  refine r_iload (i := 28) (k0 := 4) rfl rfl ?_
  obtain ⟨hi, hF⟩ := ok_gd hF
  refine q_iaload (i := 29) rfl (xm_in rfl hn) rfl hi ?_
  refine r_i2l (i := 30) rfl ?_
  refine r_lconst (v := 1) (i := 31) rfl rfl ?_
  refine c_V2I (i := 32) rfl vm_Fr_sheetY lk_Pn_131 (t_Fr_sheetY hn (ok_bind hF)) (Nat.le_of_ble_eq_true rfl) (xm_in rfl hn) rfl rfl (Nat.le_of_ble_eq_true rfl) (fun p_6 hF => ?_)
  refine r_i2l (i := 33) rfl ?_
  refine r_ladd (i := 34) rfl ?_
  refine r_lstore (i := 35) (Ls' := [(4, _), (2, _), (0, _), (1, _), (6, _)]) rfl (Nat.le_of_ble_eq_true rfl) rfl ?_
  refine q_iinc (i := 36) (k0 := 4) (Ls' := [(6, _), (4, _), (2, _), (0, _), (1, _)]) rfl ki_1 rfl (Nat.le_of_ble_eq_true rfl) rfl ?_
  refine r_goto (i := 37) (tgt := 8) rfl (by decide) ?_
  refine xm_sub (Ls' := [(0, _), (1, _), (2, _), (4, _), (6, _)]) [3, 4, 2, 1, 0] rfl ?_
  have hJ := hg0 _ (ok_some hF)
  exact hJ
set_option maxHeartbeats 4000000 in
set_option maxRecDepth 100000 in
theorem t_Pn_anchorArea_b8 {x1 : Int32} {s : Int64 × Int64 × Int32} {n : Nat} {I : xm_I} {L : xm_L} {K : xm_I → Prop} {Q : Option Value → xm_H → Prop} (hn : 86 ≤ n) (hq : ∀ p : xm_I, K p → Q none (p, L, RC n, n)) (hF : ok (f_Pn_anchorArea_b8 x1 I s) K) : xm_J 3 mt_Pn_anchorArea 8 [(0, .ref 30), (1, .int x1), (2, .long s.1), (4, .long s.2.1), (6, .int s.2.2)] [] (I, L, RC n, n) 0 0 Q :=
  lp_J (G := fun z => xm_J 3 mt_Pn_anchorArea 8 [(0, .ref 30), (1, .int x1), (2, .long z.1), (4, .long z.2.1), (6, .int z.2.2)] [] (I, L, RC n, n) 0 0 Q) (fun z hF => t_Pn_anchorArea_s8 hn (fun p h => hq p h) (fun z h => h) hF) s hF
set_option maxHeartbeats 4000000 in
set_option maxRecDepth 100000 in
theorem t_Pn_anchorArea_b0 {x1 : Int32} {n : Nat} {I : xm_I} {L : xm_L} {K : xm_I → Prop} {Q : Option Value → xm_H → Prop} (hn : 86 ≤ n) (hq : ∀ p : xm_I, K p → Q none (p, L, RC n, n)) (hF : ok (f_Pn_anchorArea_b0 x1 I) K) : xm_J 3 mt_Pn_anchorArea 0 [(0, .ref 30), (1, .int x1)] [] (I, L, RC n, n) 0 0 Q := by
  unfold f_Pn_anchorArea_b0 at hF
  refine r_lconst (v := 0) (i := 0) rfl rfl ?_
  refine r_lstore_n (i := 1) (Ls' := [(2, _), (0, _), (1, _)]) rfl rfl (Nat.le_of_ble_eq_true rfl) rfl ?_
  refine r_lconst (v := 0) (i := 2) rfl rfl ?_
  refine r_lstore (i := 3) (Ls' := [(4, _), (2, _), (0, _), (1, _)]) rfl (Nat.le_of_ble_eq_true rfl) rfl ?_
  refine r_iconst (v := 0) (i := 4) rfl ki_0 ?_
  refine r_istore (i := 5) (Ls' := [(6, _), (4, _), (2, _), (0, _), (1, _)]) rfl (Nat.le_of_ble_eq_true rfl) rfl ?_
  refine xm_sub (Ls' := [(0, _), (1, _), (2, _), (4, _), (6, _)]) [3, 4, 2, 1, 0] rfl ?_
  exact t_Pn_anchorArea_b8 hn (fun p h => hq p h) hF
set_option maxHeartbeats 4000000 in
set_option maxRecDepth 100000 in
theorem t_Pn_anchorArea {x1 : Int32} {n : Nat} {I : xm_I} {L : xm_L} {K : xm_I → Prop} (hn : 86 ≤ n) (hF : ok (f_Pn_anchorArea x1 I) K) : xm_C 3 mt_Pn_anchorArea [.ref 30, .int x1] (I, L, RC n, n) 0 0 (pV (fun p : xm_I => (p, L, RC n, n)) K) := by
  unfold f_Pn_anchorArea at hF
  refine xm_enter (by decide +kernel) dv_Pn_anchorArea (Nat.le_of_ble_eq_true rfl) ?_
  exact t_Pn_anchorArea_b0 hn (fun p hp => ⟨p, rfl, rfl, hp⟩) hF

noncomputable def f_D_multiplesWithin_b0 (x0 : Int32) (x1 : Int32) (x2 : Int32) : Option (Int32) :=
  (f_D_multipleFrom x0 x2).bind fun p_1 =>
  if x2 ≤ 0 then (
    some (0))
  else (
  if p_1 ≤ x1 then (
    gd (¬ x2 = 0) <|
    some (((x1 - p_1) / x2) + 1))
  else (
  some (0)))
noncomputable def f_D_multiplesWithin (x0 : Int32) (x1 : Int32) (x2 : Int32) : Option (Int32) := f_D_multiplesWithin_b0 x0 x1 x2
set_option maxHeartbeats 4000000 in
set_option maxRecDepth 100000 in
theorem t_D_multiplesWithin_b0 {x0 : Int32} {x1 : Int32} {x2 : Int32} {n : Nat} {I : xm_I} {L : xm_L} {K : Int32 → Prop} {Q : Option Value → xm_H → Prop} (hn : 86 ≤ n) (hq : ∀ p : Int32, K p → Q (some (.int p)) (I, L, RC n, n)) (hF : ok (f_D_multiplesWithin_b0 x0 x1 x2) K) : xm_J 2 mt_D_multiplesWithin 0 [(0, .int x0), (1, .int x1), (2, .int x2)] [] (I, L, RC n, n) 0 0 Q := by
  unfold f_D_multiplesWithin_b0 at hF
  refine r_iload_n (i := 0) (k0 := 0) rfl rfl rfl ?_
  refine r_iload_n (i := 1) (k0 := 2) rfl rfl rfl ?_
  refine c_S2I (i := 2) rfl sm_D_multipleFrom lk_D_384 (t_D_multipleFrom hn (ok_bind hF)) (Nat.le_of_ble_eq_true rfl) rfl (Nat.le_of_ble_eq_true rfl) (fun p_1 hF => ?_)
  refine r_istore_n (i := 3) (Ls' := [(3, _), (0, _), (1, _), (2, _)]) rfl rfl (Nat.le_of_ble_eq_true rfl) rfl ?_
  refine r_iload_n (i := 4) (k0 := 3) rfl rfl rfl ?_
  refine r_ifle (i := 5) (tgt := 15) rfl (by decide) (fun hc => ?_) (fun hc => ?_)
  · have hF := ok_it hc hF
    refine r_iconst (v := 0) (i := 9) rfl ki_0 ?_
    refine r_goto (i := 10) (tgt := 26) rfl (by decide) ?_
    have hQ := hq _ (ok_some hF)
    exact r_ireturn (i := 18) rfl rfl rfl hQ
  have hF := ok_if hc hF
  refine r_iload_n (i := 6) (k0 := 0) rfl rfl rfl ?_
  refine r_iload_n (i := 7) (k0 := 2) rfl rfl rfl ?_
  refine r_icmple (i := 8) (tgt := 19) rfl (by decide) (fun hc => ?_) (fun hc => ?_)
  · have hF := ok_it hc hF
    refine r_iload_n (i := 11) (k0 := 2) rfl rfl rfl ?_
    refine r_iload_n (i := 12) (k0 := 0) rfl rfl rfl ?_
    refine r_isub (i := 13) rfl ?_
    refine r_iload_n (i := 14) (k0 := 3) rfl rfl rfl ?_
    obtain ⟨hi, hF⟩ := ok_gd hF
    refine r_idiv (i := 15) rfl hi ?_
    refine r_iconst (v := 1) (i := 16) rfl ki_1 ?_
    refine r_iadd (i := 17) rfl ?_
    have hQ := hq _ (ok_some hF)
    exact r_ireturn (i := 18) rfl rfl rfl hQ
  have hF := ok_if hc hF
  refine r_iconst (v := 0) (i := 9) rfl ki_0 ?_
  refine r_goto (i := 10) (tgt := 26) rfl (by decide) ?_
  have hQ := hq _ (ok_some hF)
  exact r_ireturn (i := 18) rfl rfl rfl hQ
set_option maxHeartbeats 4000000 in
set_option maxRecDepth 100000 in
theorem t_D_multiplesWithin {x0 : Int32} {x1 : Int32} {x2 : Int32} {n : Nat} {I : xm_I} {L : xm_L} {K : Int32 → Prop} (hn : 86 ≤ n) (hF : ok (f_D_multiplesWithin x0 x1 x2) K) : xm_C 2 mt_D_multiplesWithin [.int x0, .int x1, .int x2] (I, L, RC n, n) 0 0 (pI (fun p : Int32 => p) (fun p : Int32 => (I, L, RC n, n)) K) := by
  unfold f_D_multiplesWithin at hF
  refine xm_enter (by decide +kernel) dv_D_multiplesWithin (Nat.le_of_ble_eq_true rfl) ?_
  exact t_D_multiplesWithin_b0 hn (fun p hp => ⟨p, rfl, rfl, hp⟩) hF

noncomputable def f_Pn_hatchStrokes_b33 (x1 : Int32) (x2 : Int32) (x3 : Int32) (x4 : Int32) (y0 : Int32) (I : xm_I) : Option ((Int32 × Int32) ⊕ (Int32)) :=
  gd (0 ≤ (x4).toInt ∧ (x4).toInt < 12) <|
  gd (0 ≤ (y0).toInt ∧ (y0).toInt < 12) <|
  (f_Jm_min_I (I 35 (Int32.toNatClampNeg x4)) (I 35 (Int32.toNatClampNeg y0))).bind fun p_1 =>
  (f_Jm_max_I x1 p_1).bind fun p_2 =>
  gd (0 ≤ (x4).toInt ∧ (x4).toInt < 12) <|
  gd (0 ≤ (y0).toInt ∧ (y0).toInt < 12) <|
  (f_Jm_max_I (I 35 (Int32.toNatClampNeg x4)) (I 35 (Int32.toNatClampNeg y0))).bind fun p_3 =>
  (f_Jm_min_I x2 (p_3 - 1)).bind fun p_4 =>
  (f_D_multiplesWithin p_2 p_4 (I 14 8)).bind fun p_5 =>
  let x3_6 : Int32 := x3 + p_5
  let x4_7 : Int32 := x4 + 1
  some (.inl (x3_6, x4_7))
noncomputable def f_Pn_hatchStrokes_s5 (x1 : Int32) (x2 : Int32) (I : xm_I) (s : Int32 × Int32) : Option ((Int32 × Int32) ⊕ (Int32)) :=
  if (I 30 12) ≤ s.2 then (
    some (.inr (s.1 / 2)))
  else (
  if (I 30 12) ≤ (s.2 + 1) then (
    f_Pn_hatchStrokes_b33 x1 x2 s.1 s.2 0 I)
  else (
  f_Pn_hatchStrokes_b33 x1 x2 s.1 s.2 (s.2 + 1) I))
noncomputable def f_Pn_hatchStrokes_b5 (x1 : Int32) (x2 : Int32) (I : xm_I) (s : Int32 × Int32) : Option (Int32) := lp (f_Pn_hatchStrokes_s5 x1 x2 I) s
noncomputable def f_Pn_hatchStrokes_b0 (x1 : Int32) (x2 : Int32) (I : xm_I) : Option (Int32) :=
  f_Pn_hatchStrokes_b5 x1 x2 I (0, 0)
noncomputable def f_Pn_hatchStrokes (x1 : Int32) (x2 : Int32) (I : xm_I) : Option (Int32) := f_Pn_hatchStrokes_b0 x1 x2 I
set_option maxHeartbeats 4000000 in
set_option maxRecDepth 100000 in
theorem t_Pn_hatchStrokes_b33 {x1 : Int32} {x2 : Int32} {x3 : Int32} {x4 : Int32} {y0 : Int32} {n : Nat} {I : xm_I} {L : xm_L} {K : (Int32 × Int32) ⊕ (Int32) → Prop} {Q : Option Value → xm_H → Prop} (hn : 86 ≤ n) (hq : ∀ p : Int32, K (.inr p) → Q (some (.int p)) (I, L, RC n, n)) (hg0 : ∀ s : Int32 × Int32, K (.inl s) → xm_J 3 mt_Pn_hatchStrokes 5 [(0, .ref 30), (1, .int x1), (2, .int x2), (3, .int s.1), (4, .int s.2)] [] (I, L, RC n, n) 0 0 Q) (hF : ok (f_Pn_hatchStrokes_b33 x1 x2 x3 x4 y0 I) K) : xm_J 3 mt_Pn_hatchStrokes 33 [(0, .ref 30), (1, .int x1), (2, .int x2), (3, .int x3), (4, .int x4)] [.int y0] (I, L, RC n, n) 0 0 Q := by
  unfold f_Pn_hatchStrokes_b33 at hF
  refine r_istore (i := 19) (Ls' := [(5, _), (0, _), (1, _), (2, _), (3, _), (4, _)]) rfl (Nat.le_of_ble_eq_true rfl) rfl ?_
  refine r_iload_n (i := 20) (k0 := 2) rfl rfl rfl ?_
  refine r_aload_n (i := 21) (k0 := 1) rfl rfl rfl ?_
  refine q_getr (b := 35) (i := 22) rfl fl_Pn_25 rfl (xm_in rfl hn) rfl rfl ?_
  refine r_iload (i := 23) (k0 := 5) rfl rfl ?_
  obtain ⟨hi, hF⟩ := ok_gd hF
  refine q_iaload (i := 24) rfl (xm_in rfl hn) rfl hi ?_
  refine r_aload_n (i := 25) (k0 := 1) rfl rfl rfl ?_
  refine q_getr (b := 35) (i := 26) rfl fl_Pn_25 rfl (xm_in rfl hn) rfl rfl ?_
  refine r_iload (i := 27) (k0 := 0) rfl rfl ?_
  obtain ⟨hi, hF⟩ := ok_gd hF
  refine q_iaload (i := 28) rfl (xm_in rfl hn) rfl hi ?_
  refine c_S2I (i := 29) rfl sm_Jm_min_I lk_Pn_114 (t_Jm_min_I hn (ok_bind hF)) (Nat.le_of_ble_eq_true rfl) rfl (Nat.le_of_ble_eq_true rfl) (fun p_1 hF => ?_)
  refine c_S2I (i := 30) rfl sm_Jm_max_I lk_Pn_154 (t_Jm_max_I hn (ok_bind hF)) (Nat.le_of_ble_eq_true rfl) rfl (Nat.le_of_ble_eq_true rfl) (fun p_2 hF => ?_)
  refine r_istore (i := 31) (Ls' := [(6, _), (5, _), (0, _), (1, _), (2, _), (3, _), (4, _)]) rfl (Nat.le_of_ble_eq_true rfl) rfl ?_
  refine r_iload_n (i := 32) (k0 := 4) rfl rfl rfl ?_
  refine r_aload_n (i := 33) (k0 := 2) rfl rfl rfl ?_
  refine q_getr (b := 35) (i := 34) rfl fl_Pn_25 rfl (xm_in rfl hn) rfl rfl ?_
  refine r_iload (i := 35) (k0 := 6) rfl rfl ?_
  obtain ⟨hi, hF⟩ := ok_gd hF
  refine q_iaload (i := 36) rfl (xm_in rfl hn) rfl hi ?_
  refine r_aload_n (i := 37) (k0 := 2) rfl rfl rfl ?_
  refine q_getr (b := 35) (i := 38) rfl fl_Pn_25 rfl (xm_in rfl hn) rfl rfl ?_
  refine r_iload (i := 39) (k0 := 1) rfl rfl ?_
  obtain ⟨hi, hF⟩ := ok_gd hF
  refine q_iaload (i := 40) rfl (xm_in rfl hn) rfl hi ?_
  refine c_S2I (i := 41) rfl sm_Jm_max_I lk_Pn_154 (t_Jm_max_I hn (ok_bind hF)) (Nat.le_of_ble_eq_true rfl) rfl (Nat.le_of_ble_eq_true rfl) (fun p_3 hF => ?_)
  refine r_iconst (v := 1) (i := 42) rfl ki_1 ?_
  refine r_isub (i := 43) rfl ?_
  refine c_S2I (i := 44) rfl sm_Jm_min_I lk_Pn_114 (t_Jm_min_I hn (ok_bind hF)) (Nat.le_of_ble_eq_true rfl) rfl (Nat.le_of_ble_eq_true rfl) (fun p_4 hF => ?_)
  refine r_istore (i := 45) (Ls' := [(7, _), (6, _), (5, _), (0, _), (1, _), (2, _), (3, _), (4, _)]) rfl (Nat.le_of_ble_eq_true rfl) rfl ?_
  refine r_iload_n (i := 46) (k0 := 6) rfl rfl rfl ?_
  refine r_iload (i := 47) (k0 := 1) rfl rfl ?_
  refine r_iload (i := 48) (k0 := 0) rfl rfl ?_
  refine r_aload_n (i := 49) (k0 := 3) rfl rfl rfl ?_
  refine q_getr (b := 14) (i := 50) rfl fl_Pn_43 rfl (xm_in rfl hn) rfl rfl ?_
  refine q_geti (i := 51) rfl fl_Pn_161 (xm_in rfl hn) rfl ?_
  refine c_N3I (i := 52) rfl sm_D_multiplesWithin lk_Pn_107 (t_D_multiplesWithin hn (ok_bind hF)) (Nat.le_of_ble_eq_true rfl) rfl (Nat.le_of_ble_eq_true rfl) (fun p_5 hF => ?_)
  refine r_iadd (i := 53) rfl ?_
  refine r_istore_n (i := 54) (Ls' := [(3, _), (7, _), (6, _), (5, _), (0, _), (1, _), (2, _), (4, _)]) rfl rfl (Nat.le_of_ble_eq_true rfl) rfl ?_
  refine q_iinc (i := 55) (k0 := 7) (Ls' := [(4, _), (3, _), (7, _), (6, _), (5, _), (0, _), (1, _), (2, _)]) rfl ki_1 rfl (Nat.le_of_ble_eq_true rfl) rfl ?_
  refine r_goto (i := 56) (tgt := 5) rfl (by decide) ?_
  refine xm_sub (Ls' := [(0, _), (1, _), (2, _), (3, _), (4, _)]) [5, 6, 7, 1, 0] rfl ?_
  have hJ := hg0 _ (ok_some hF)
  exact hJ
set_option maxHeartbeats 4000000 in
set_option maxRecDepth 100000 in
theorem t_Pn_hatchStrokes_s5 {x1 : Int32} {x2 : Int32} {s : Int32 × Int32} {n : Nat} {I : xm_I} {L : xm_L} {K : (Int32 × Int32) ⊕ (Int32) → Prop} {Q : Option Value → xm_H → Prop} (hn : 86 ≤ n) (hq : ∀ p : Int32, K (.inr p) → Q (some (.int p)) (I, L, RC n, n)) (hg0 : ∀ s : Int32 × Int32, K (.inl s) → xm_J 3 mt_Pn_hatchStrokes 5 [(0, .ref 30), (1, .int x1), (2, .int x2), (3, .int s.1), (4, .int s.2)] [] (I, L, RC n, n) 0 0 Q) (hF : ok (f_Pn_hatchStrokes_s5 x1 x2 I s) K) : xm_J 3 mt_Pn_hatchStrokes 5 [(0, .ref 30), (1, .int x1), (2, .int x2), (3, .int s.1), (4, .int s.2)] [] (I, L, RC n, n) 0 0 Q := by
  unfold f_Pn_hatchStrokes_s5 at hF
  refine r_iload (i := 4) (k0 := 4) rfl rfl ?_
  refine r_aload_n (i := 5) (k0 := 0) rfl rfl rfl ?_
  refine q_geti (i := 6) rfl fl_Pn_151 (xm_in rfl hn) rfl ?_
  refine r_icmpge (i := 7) (tgt := 106) rfl (by decide) (fun hc => ?_) (fun hc => ?_)
  · have hF := ok_it hc hF
    refine r_iload_n (i := 57) (k0 := 3) rfl rfl rfl ?_
    refine r_iconst (v := 2) (i := 58) rfl ki_2 ?_
    refine r_idiv (i := 59) rfl (by decide) ?_
    have hQ := hq _ (ok_some hF)
    exact r_ireturn (i := 60) rfl rfl rfl hQ
  have hF := ok_if hc hF
  refine r_iload (i := 8) (k0 := 4) rfl rfl ?_
  refine r_iconst (v := 1) (i := 9) rfl ki_1 ?_
  refine r_iadd (i := 10) rfl ?_
  refine r_aload_n (i := 11) (k0 := 0) rfl rfl rfl ?_
  refine q_geti (i := 12) rfl fl_Pn_151 (xm_in rfl hn) rfl ?_
  refine r_icmpge (i := 13) (tgt := 32) rfl (by decide) (fun hc => ?_) (fun hc => ?_)
  · have hF := ok_it hc hF
    refine r_iconst (v := 0) (i := 18) rfl ki_0 ?_
    exact t_Pn_hatchStrokes_b33 hn (fun p h => hq p h) (fun z h => hg0 z h) hF
  have hF := ok_if hc hF
  refine r_iload (i := 14) (k0 := 4) rfl rfl ?_
  refine r_iconst (v := 1) (i := 15) rfl ki_1 ?_
  refine r_iadd (i := 16) rfl ?_
  refine r_goto (i := 17) (tgt := 33) rfl (by decide) ?_
  exact t_Pn_hatchStrokes_b33 hn (fun p h => hq p h) (fun z h => hg0 z h) hF
set_option maxHeartbeats 4000000 in
set_option maxRecDepth 100000 in
theorem t_Pn_hatchStrokes_b5 {x1 : Int32} {x2 : Int32} {s : Int32 × Int32} {n : Nat} {I : xm_I} {L : xm_L} {K : Int32 → Prop} {Q : Option Value → xm_H → Prop} (hn : 86 ≤ n) (hq : ∀ p : Int32, K p → Q (some (.int p)) (I, L, RC n, n)) (hF : ok (f_Pn_hatchStrokes_b5 x1 x2 I s) K) : xm_J 3 mt_Pn_hatchStrokes 5 [(0, .ref 30), (1, .int x1), (2, .int x2), (3, .int s.1), (4, .int s.2)] [] (I, L, RC n, n) 0 0 Q :=
  lp_J (G := fun z => xm_J 3 mt_Pn_hatchStrokes 5 [(0, .ref 30), (1, .int x1), (2, .int x2), (3, .int z.1), (4, .int z.2)] [] (I, L, RC n, n) 0 0 Q) (fun z hF => t_Pn_hatchStrokes_s5 hn (fun p h => hq p h) (fun z h => h) hF) s hF
set_option maxHeartbeats 4000000 in
set_option maxRecDepth 100000 in
theorem t_Pn_hatchStrokes_b0 {x1 : Int32} {x2 : Int32} {n : Nat} {I : xm_I} {L : xm_L} {K : Int32 → Prop} {Q : Option Value → xm_H → Prop} (hn : 86 ≤ n) (hq : ∀ p : Int32, K p → Q (some (.int p)) (I, L, RC n, n)) (hF : ok (f_Pn_hatchStrokes_b0 x1 x2 I) K) : xm_J 3 mt_Pn_hatchStrokes 0 [(0, .ref 30), (1, .int x1), (2, .int x2)] [] (I, L, RC n, n) 0 0 Q := by
  unfold f_Pn_hatchStrokes_b0 at hF
  refine r_iconst (v := 0) (i := 0) rfl ki_0 ?_
  refine r_istore_n (i := 1) (Ls' := [(3, _), (0, _), (1, _), (2, _)]) rfl rfl (Nat.le_of_ble_eq_true rfl) rfl ?_
  refine r_iconst (v := 0) (i := 2) rfl ki_0 ?_
  refine r_istore (i := 3) (Ls' := [(4, _), (3, _), (0, _), (1, _), (2, _)]) rfl (Nat.le_of_ble_eq_true rfl) rfl ?_
  refine xm_sub (Ls' := [(0, _), (1, _), (2, _), (3, _), (4, _)]) [2, 3, 4, 1, 0] rfl ?_
  exact t_Pn_hatchStrokes_b5 hn (fun p h => hq p h) hF
set_option maxHeartbeats 4000000 in
set_option maxRecDepth 100000 in
theorem t_Pn_hatchStrokes {x1 : Int32} {x2 : Int32} {n : Nat} {I : xm_I} {L : xm_L} {K : Int32 → Prop} (hn : 86 ≤ n) (hF : ok (f_Pn_hatchStrokes x1 x2 I) K) : xm_C 3 mt_Pn_hatchStrokes [.ref 30, .int x1, .int x2] (I, L, RC n, n) 0 0 (pI (fun p : Int32 => p) (fun p : Int32 => (I, L, RC n, n)) K) := by
  unfold f_Pn_hatchStrokes at hF
  refine xm_enter (by decide +kernel) dv_Pn_hatchStrokes (Nat.le_of_ble_eq_true rfl) ?_
  exact t_Pn_hatchStrokes_b0 hn (fun p hp => ⟨p, rfl, rfl, hp⟩) hF
