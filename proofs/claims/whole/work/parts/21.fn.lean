/-! ===== turned: Jm_min_I D_fit D_side Fr_setSheet D_sheet D_grid D_hatch D_endWith Fr_hasScale D_scale Fr_aboveX Fr_aboveY Fr_below Pt_squareFromBefore D_single Ss_isFull So_verticesAreFull So_addVertex Ss_find D_vertex So_facesAreFull So_vertexIn So_hasVertices So_setNormal So_addFace Ji_bitCount_I So_hasOneTwice D_face D_view So_isEdge So_edgeCount So_edgeNumbered So_towardsEye ===== -/
noncomputable def f_Jm_min_I_b0 (x0 : Int32) (x1 : Int32) : Option (Int32) :=
  if x1 < x0 then (
    some (x1))
  else (
  some (x0))
noncomputable def f_Jm_min_I (x0 : Int32) (x1 : Int32) : Option (Int32) := f_Jm_min_I_b0 x0 x1
set_option maxHeartbeats 4000000 in
set_option maxRecDepth 100000 in
theorem t_Jm_min_I_b0 {x0 : Int32} {x1 : Int32} {n : Nat} {I : xm_I} {L : xm_L} {K : Int32 → Prop} {Q : Option Value → xm_H → Prop} (hn : 86 ≤ n) (hq : ∀ p : Int32, K p → Q (some (.int p)) (I, L, RC n, n)) (hF : ok (f_Jm_min_I_b0 x0 x1) K) : xm_J 0 mt_Jm_min_I 0 [(0, .int x0), (1, .int x1)] [] (I, L, RC n, n) 0 0 Q := by
  unfold f_Jm_min_I_b0 at hF
  refine r_iload_n (i := 0) (k0 := 0) rfl rfl rfl ?_
  refine r_iload_n (i := 1) (k0 := 1) rfl rfl rfl ?_
  refine r_icmpgt (i := 2) (tgt := 9) rfl (by decide) (fun hc => ?_) (fun hc => ?_)
  · have hF := ok_it hc hF
    refine r_iload_n (i := 5) (k0 := 1) rfl rfl rfl ?_
    have hQ := hq _ (ok_some hF)
    exact r_ireturn (i := 6) rfl rfl rfl hQ
  have hF := ok_if hc hF
  refine r_iload_n (i := 3) (k0 := 0) rfl rfl rfl ?_
  refine r_goto (i := 4) (tgt := 10) rfl (by decide) ?_
  have hQ := hq _ (ok_some hF)
  exact r_ireturn (i := 6) rfl rfl rfl hQ
set_option maxHeartbeats 4000000 in
set_option maxRecDepth 100000 in
theorem t_Jm_min_I {x0 : Int32} {x1 : Int32} {n : Nat} {I : xm_I} {L : xm_L} {K : Int32 → Prop} (hn : 86 ≤ n) (hF : ok (f_Jm_min_I x0 x1) K) : xm_C 0 mt_Jm_min_I [.int x0, .int x1] (I, L, RC n, n) 0 0 (pI (fun p : Int32 => p) (fun p : Int32 => (I, L, RC n, n)) K) := by
  unfold f_Jm_min_I at hF
  refine xm_enter (by decide +kernel) dv_Jm_min_I (Nat.le_of_ble_eq_true rfl) ?_
  exact t_Jm_min_I_b0 hn (fun p hp => ⟨p, rfl, rfl, hp⟩) hF

noncomputable def f_D_fit_b147 (x1 : Int32) (x2 : Int32) (x3 : Int32) (x4 : Int32) (x5 : Int32) (x6 : Int32) (I : xm_I) : Option ((Int32 × Int32 × Int32 × Int32 × Int32 × Int32) ⊕ (Int32 × xm_I)) :=
  let x6_1 : Int32 := x6 + 1
  some (.inl (x1, x2, x3, x4, x5, x6_1))
noncomputable def f_D_fit_s59 (x1 : Int32) (x6 : Int32) (I : xm_I) (s : Int32 × Int32 × Int32 × Int32 × Int32) : Option ((Int32 × Int32 × Int32 × Int32 × Int32) ⊕ ((Int32 × Int32 × Int32 × Int32 × Int32 × Int32) ⊕ (Int32 × xm_I))) :=
  (f_Fg_cornersOf x6 I).bind fun p_1 =>
  if p_1 ≤ s.2.2.2.2 then (
    (f_D_fit_b147 x1 s.1 s.2.1 s.2.2.1 s.2.2.2.1 x6 I).map .inr)
  else (
  (f_Fg_xOf x6 s.2.2.2.2 I).bind fun p_2 =>
  (f_Jm_min_I s.1 p_2).bind fun p_3 =>
  (f_Fg_xOf x6 s.2.2.2.2 I).bind fun p_4 =>
  (f_Jm_max_I s.2.1 p_4).bind fun p_5 =>
  (f_Fg_yOf x6 s.2.2.2.2 I).bind fun p_6 =>
  (f_Jm_min_I s.2.2.1 p_6).bind fun p_7 =>
  (f_Fg_yOf x6 s.2.2.2.2 I).bind fun p_8 =>
  (f_Jm_max_I s.2.2.2.1 p_8).bind fun p_9 =>
  let x7_10 : Int32 := s.2.2.2.2 + 1
  some (.inl (p_3, p_5, p_7, p_9, x7_10)))
noncomputable def f_D_fit_b59 (x1 : Int32) (x6 : Int32) (I : xm_I) (s : Int32 × Int32 × Int32 × Int32 × Int32) : Option ((Int32 × Int32 × Int32 × Int32 × Int32 × Int32) ⊕ (Int32 × xm_I)) := lp (f_D_fit_s59 x1 x6 I) s
noncomputable def f_D_fit_s19 (I : xm_I) (s : Int32 × Int32 × Int32 × Int32 × Int32 × Int32) : Option ((Int32 × Int32 × Int32 × Int32 × Int32 × Int32) ⊕ (Int32 × xm_I)) :=
  if (I 6 9) ≤ s.2.2.2.2.2 then (
    if s.1 = 0 then (
      some (.inr ((-100003), I)))
    else (
      (f_Fr_setWindow s.2.1 s.2.2.1 s.2.2.2.1 s.2.2.2.2.1 I).bind fun p_1 =>
      some (.inr (s.1, p_1))))
  else (
  (f_Fg_kindOf s.2.2.2.2.2 I).bind fun p_2 =>
  (f_Fg_isHidden p_2 I).bind fun p_3 =>
  if p_3 = 0 then (
    let x1_4 : Int32 := s.1 + 1
    f_D_fit_b59 x1_4 s.2.2.2.2.2 I (s.2.1, s.2.2.1, s.2.2.2.1, s.2.2.2.2.1, 0))
  else (
  f_D_fit_b147 s.1 s.2.1 s.2.2.1 s.2.2.2.1 s.2.2.2.2.1 s.2.2.2.2.2 I))
noncomputable def f_D_fit_b19 (I : xm_I) (s : Int32 × Int32 × Int32 × Int32 × Int32 × Int32) : Option (Int32 × xm_I) := lp (f_D_fit_s19 I) s
noncomputable def f_D_fit_b0 (I : xm_I) : Option (Int32 × xm_I) :=
  f_D_fit_b19 I (0, 40000, (-40000), 40000, (-40000), 0)
noncomputable def f_D_fit (I : xm_I) : Option (Int32 × xm_I) := f_D_fit_b0 I
set_option maxHeartbeats 4000000 in
set_option maxRecDepth 100000 in
theorem t_D_fit_b147 {x1 : Int32} {x2 : Int32} {x3 : Int32} {x4 : Int32} {x5 : Int32} {x6 : Int32} {n : Nat} {I : xm_I} {L : xm_L} {K : (Int32 × Int32 × Int32 × Int32 × Int32 × Int32) ⊕ (Int32 × xm_I) → Prop} {Q : Option Value → xm_H → Prop} (hn : 86 ≤ n) (hq : ∀ p : Int32 × xm_I, K (.inr p) → Q (some (.int p.1)) (p.2, L, RC n, n)) (hg0 : ∀ s : Int32 × Int32 × Int32 × Int32 × Int32 × Int32, K (.inl s) → xm_J 4 mt_D_fit 19 [(0, .ref 0), (1, .int s.1), (2, .int s.2.1), (3, .int s.2.2.1), (4, .int s.2.2.2.1), (5, .int s.2.2.2.2.1), (6, .int s.2.2.2.2.2)] [] (I, L, RC n, n) 0 0 Q) (hF : ok (f_D_fit_b147 x1 x2 x3 x4 x5 x6 I) K) : xm_J 4 mt_D_fit 147 [(0, .ref 0), (1, .int x1), (2, .int x2), (3, .int x3), (4, .int x4), (5, .int x5), (6, .int x6)] [] (I, L, RC n, n) 0 0 Q := by
  unfold f_D_fit_b147 at hF
  refine q_iinc (i := 69) (k0 := 6) (Ls' := [(6, _), (0, _), (1, _), (2, _), (3, _), (4, _), (5, _)]) rfl ki_1 rfl (Nat.le_of_ble_eq_true rfl) rfl ?_
  refine r_goto (i := 70) (tgt := 19) rfl (by decide) ?_
  refine xm_sub (Ls' := [(0, _), (1, _), (2, _), (3, _), (4, _), (5, _), (6, _)]) [1, 2, 3, 4, 5, 6, 0] rfl ?_
  have hJ := hg0 _ (ok_some hF)
  exact hJ
set_option maxHeartbeats 4000000 in
set_option maxRecDepth 100000 in
theorem t_D_fit_s59 {x1 : Int32} {x6 : Int32} {s : Int32 × Int32 × Int32 × Int32 × Int32} {n : Nat} {I : xm_I} {L : xm_L} {K : (Int32 × Int32 × Int32 × Int32 × Int32) ⊕ ((Int32 × Int32 × Int32 × Int32 × Int32 × Int32) ⊕ (Int32 × xm_I)) → Prop} {Q : Option Value → xm_H → Prop} (hn : 86 ≤ n) (hq : ∀ p : Int32 × xm_I, K (.inr (.inr p)) → Q (some (.int p.1)) (p.2, L, RC n, n)) (hg0 : ∀ s : Int32 × Int32 × Int32 × Int32 × Int32 × Int32, K (.inr (.inl s)) → xm_J 4 mt_D_fit 19 [(0, .ref 0), (1, .int s.1), (2, .int s.2.1), (3, .int s.2.2.1), (4, .int s.2.2.2.1), (5, .int s.2.2.2.2.1), (6, .int s.2.2.2.2.2)] [] (I, L, RC n, n) 0 0 Q) (hg1 : ∀ s : Int32 × Int32 × Int32 × Int32 × Int32, K (.inl s) → xm_J 4 mt_D_fit 59 [(0, .ref 0), (1, .int x1), (2, .int s.1), (3, .int s.2.1), (4, .int s.2.2.1), (5, .int s.2.2.2.1), (6, .int x6), (7, .int s.2.2.2.2)] [] (I, L, RC n, n) 0 0 Q) (hF : ok (f_D_fit_s59 x1 x6 I s) K) : xm_J 4 mt_D_fit 59 [(0, .ref 0), (1, .int x1), (2, .int s.1), (3, .int s.2.1), (4, .int s.2.2.1), (5, .int s.2.2.2.1), (6, .int x6), (7, .int s.2.2.2.2)] [] (I, L, RC n, n) 0 0 Q := by
  unfold f_D_fit_s59 at hF
  refine r_iload (i := 29) (k0 := 7) rfl rfl ?_
  refine r_aload_n (i := 30) (k0 := 0) rfl rfl rfl ?_
  refine q_getr (b := 6) (i := 31) rfl fl_D_21 rfl (xm_in rfl hn) rfl rfl ?_
  refine r_iload (i := 32) (k0 := 6) rfl rfl ?_
  refine c_V1I (i := 33) rfl vm_Fg_cornersOf lk_D_169 (t_Fg_cornersOf hn (ok_bind hF)) (Nat.le_of_ble_eq_true rfl) (xm_in rfl hn) rfl rfl (Nat.le_of_ble_eq_true rfl) (fun p_1 hF => ?_)
  refine r_icmpge (i := 34) (tgt := 147) rfl (by decide) (fun hc => ?_) (fun hc => ?_)
  · have hF := ok_it hc hF
    refine xm_sub (Ls' := [(0, _), (1, _), (2, _), (3, _), (4, _), (5, _), (6, _)]) [0, 1, 2, 3, 4, 5, 6] rfl ?_
    exact t_D_fit_b147 hn (fun p h => hq p h) (fun z h => hg0 z h) (ok_map hF)
  have hF := ok_if hc hF
  refine r_iload_n (i := 35) (k0 := 2) rfl rfl rfl ?_
  refine r_aload_n (i := 36) (k0 := 0) rfl rfl rfl ?_
  refine q_getr (b := 6) (i := 37) rfl fl_D_21 rfl (xm_in rfl hn) rfl rfl ?_
  refine r_iload (i := 38) (k0 := 6) rfl rfl ?_
  refine r_iload (i := 39) (k0 := 7) rfl rfl ?_
  refine c_V2I (i := 40) rfl vm_Fg_xOf lk_D_172 (t_Fg_xOf hn (ok_bind hF)) (Nat.le_of_ble_eq_true rfl) (xm_in rfl hn) rfl rfl (Nat.le_of_ble_eq_true rfl) (fun p_2 hF => ?_)
  refine c_S2I (i := 41) rfl sm_Jm_min_I lk_D_175 (t_Jm_min_I hn (ok_bind hF)) (Nat.le_of_ble_eq_true rfl) rfl (Nat.le_of_ble_eq_true rfl) (fun p_3 hF => ?_)
  refine r_istore_n (i := 42) (Ls' := [(2, _), (0, _), (1, _), (3, _), (4, _), (5, _), (6, _), (7, _)]) rfl rfl (Nat.le_of_ble_eq_true rfl) rfl ?_
  refine r_iload_n (i := 43) (k0 := 3) rfl rfl rfl ?_
  refine r_aload_n (i := 44) (k0 := 1) rfl rfl rfl ?_
  refine q_getr (b := 6) (i := 45) rfl fl_D_21 rfl (xm_in rfl hn) rfl rfl ?_
  refine r_iload (i := 46) (k0 := 6) rfl rfl ?_
  refine r_iload (i := 47) (k0 := 7) rfl rfl ?_
  refine c_V2I (i := 48) rfl vm_Fg_xOf lk_D_172 (t_Fg_xOf hn (ok_bind hF)) (Nat.le_of_ble_eq_true rfl) (xm_in rfl hn) rfl rfl (Nat.le_of_ble_eq_true rfl) (fun p_4 hF => ?_)
  refine c_S2I (i := 49) rfl sm_Jm_max_I lk_D_180 (t_Jm_max_I hn (ok_bind hF)) (Nat.le_of_ble_eq_true rfl) rfl (Nat.le_of_ble_eq_true rfl) (fun p_5 hF => ?_)
  refine r_istore_n (i := 50) (Ls' := [(3, _), (2, _), (0, _), (1, _), (4, _), (5, _), (6, _), (7, _)]) rfl rfl (Nat.le_of_ble_eq_true rfl) rfl ?_
  refine r_iload (i := 51) (k0 := 4) rfl rfl ?_
  refine r_aload_n (i := 52) (k0 := 2) rfl rfl rfl ?_
  refine q_getr (b := 6) (i := 53) rfl fl_D_21 rfl (xm_in rfl hn) rfl rfl ?_
  refine r_iload (i := 54) (k0 := 6) rfl rfl ?_
  refine r_iload (i := 55) (k0 := 7) rfl rfl ?_
  refine c_V2I (i := 56) rfl vm_Fg_yOf lk_D_183 (t_Fg_yOf hn (ok_bind hF)) (Nat.le_of_ble_eq_true rfl) (xm_in rfl hn) rfl rfl (Nat.le_of_ble_eq_true rfl) (fun p_6 hF => ?_)
  refine c_S2I (i := 57) rfl sm_Jm_min_I lk_D_175 (t_Jm_min_I hn (ok_bind hF)) (Nat.le_of_ble_eq_true rfl) rfl (Nat.le_of_ble_eq_true rfl) (fun p_7 hF => ?_)
  refine r_istore (i := 58) (Ls' := [(4, _), (3, _), (2, _), (0, _), (1, _), (5, _), (6, _), (7, _)]) rfl (Nat.le_of_ble_eq_true rfl) rfl ?_
  refine r_iload (i := 59) (k0 := 5) rfl rfl ?_
  refine r_aload_n (i := 60) (k0 := 3) rfl rfl rfl ?_
  refine q_getr (b := 6) (i := 61) rfl fl_D_21 rfl (xm_in rfl hn) rfl rfl ?_
  refine r_iload (i := 62) (k0 := 6) rfl rfl ?_
  refine r_iload (i := 63) (k0 := 7) rfl rfl ?_
  refine c_V2I (i := 64) rfl vm_Fg_yOf lk_D_183 (t_Fg_yOf hn (ok_bind hF)) (Nat.le_of_ble_eq_true rfl) (xm_in rfl hn) rfl rfl (Nat.le_of_ble_eq_true rfl) (fun p_8 hF => ?_)
  refine c_S2I (i := 65) rfl sm_Jm_max_I lk_D_180 (t_Jm_max_I hn (ok_bind hF)) (Nat.le_of_ble_eq_true rfl) rfl (Nat.le_of_ble_eq_true rfl) (fun p_9 hF => ?_)
  refine r_istore (i := 66) (Ls' := [(5, _), (4, _), (3, _), (2, _), (0, _), (1, _), (6, _), (7, _)]) rfl (Nat.le_of_ble_eq_true rfl) rfl ?_
  refine q_iinc (i := 67) (k0 := 7) (Ls' := [(7, _), (5, _), (4, _), (3, _), (2, _), (0, _), (1, _), (6, _)]) rfl ki_1 rfl (Nat.le_of_ble_eq_true rfl) rfl ?_
  refine r_goto (i := 68) (tgt := 59) rfl (by decide) ?_
  refine xm_sub (Ls' := [(0, _), (1, _), (2, _), (3, _), (4, _), (5, _), (6, _), (7, _)]) [5, 6, 4, 3, 2, 1, 7, 0] rfl ?_
  have hJ := hg1 _ (ok_some hF)
  exact hJ
set_option maxHeartbeats 4000000 in
set_option maxRecDepth 100000 in
theorem t_D_fit_b59 {x1 : Int32} {x6 : Int32} {s : Int32 × Int32 × Int32 × Int32 × Int32} {n : Nat} {I : xm_I} {L : xm_L} {K : (Int32 × Int32 × Int32 × Int32 × Int32 × Int32) ⊕ (Int32 × xm_I) → Prop} {Q : Option Value → xm_H → Prop} (hn : 86 ≤ n) (hq : ∀ p : Int32 × xm_I, K (.inr p) → Q (some (.int p.1)) (p.2, L, RC n, n)) (hg0 : ∀ s : Int32 × Int32 × Int32 × Int32 × Int32 × Int32, K (.inl s) → xm_J 4 mt_D_fit 19 [(0, .ref 0), (1, .int s.1), (2, .int s.2.1), (3, .int s.2.2.1), (4, .int s.2.2.2.1), (5, .int s.2.2.2.2.1), (6, .int s.2.2.2.2.2)] [] (I, L, RC n, n) 0 0 Q) (hF : ok (f_D_fit_b59 x1 x6 I s) K) : xm_J 4 mt_D_fit 59 [(0, .ref 0), (1, .int x1), (2, .int s.1), (3, .int s.2.1), (4, .int s.2.2.1), (5, .int s.2.2.2.1), (6, .int x6), (7, .int s.2.2.2.2)] [] (I, L, RC n, n) 0 0 Q :=
  lp_J (G := fun z => xm_J 4 mt_D_fit 59 [(0, .ref 0), (1, .int x1), (2, .int z.1), (3, .int z.2.1), (4, .int z.2.2.1), (5, .int z.2.2.2.1), (6, .int x6), (7, .int z.2.2.2.2)] [] (I, L, RC n, n) 0 0 Q) (fun z hF => t_D_fit_s59 hn (fun p h => hq p h) (fun z h => hg0 z h) (fun z h => h) hF) s hF
set_option maxHeartbeats 4000000 in
set_option maxRecDepth 100000 in
theorem t_D_fit_s19 {s : Int32 × Int32 × Int32 × Int32 × Int32 × Int32} {n : Nat} {I : xm_I} {L : xm_L} {K : (Int32 × Int32 × Int32 × Int32 × Int32 × Int32) ⊕ (Int32 × xm_I) → Prop} {Q : Option Value → xm_H → Prop} (hn : 86 ≤ n) (hq : ∀ p : Int32 × xm_I, K (.inr p) → Q (some (.int p.1)) (p.2, L, RC n, n)) (hg0 : ∀ s : Int32 × Int32 × Int32 × Int32 × Int32 × Int32, K (.inl s) → xm_J 4 mt_D_fit 19 [(0, .ref 0), (1, .int s.1), (2, .int s.2.1), (3, .int s.2.2.1), (4, .int s.2.2.2.1), (5, .int s.2.2.2.2.1), (6, .int s.2.2.2.2.2)] [] (I, L, RC n, n) 0 0 Q) (hF : ok (f_D_fit_s19 I s) K) : xm_J 4 mt_D_fit 19 [(0, .ref 0), (1, .int s.1), (2, .int s.2.1), (3, .int s.2.2.1), (4, .int s.2.2.2.1), (5, .int s.2.2.2.2.1), (6, .int s.2.2.2.2.2)] [] (I, L, RC n, n) 0 0 Q := by
  unfold f_D_fit_s19 at hF
  refine r_iload (i := 12) (k0 := 6) rfl rfl ?_
  refine r_aload_n (i := 13) (k0 := 0) rfl rfl rfl ?_
  refine q_getr (b := 6) (i := 14) rfl fl_D_21 rfl (xm_in rfl hn) rfl rfl ?_
  refine q_geti (i := 15) rfl fl_D_166 (xm_in rfl hn) rfl ?_
  refine r_icmpge (i := 16) (tgt := 153) rfl (by decide) (fun hc => ?_) (fun hc => ?_)
  · have hF := ok_it hc hF
    refine r_iload_n (i := 71) (k0 := 1) rfl rfl rfl ?_
    refine r_ifne (i := 72) (tgt := 160) rfl (by decide) (fun hc => ?_) (fun hc => ?_)
    · have hF := ok_if hc hF
      refine r_aload_n (i := 75) (k0 := 0) rfl rfl rfl ?_
      refine q_getr (b := 14) (i := 76) rfl fl_D_28 rfl (xm_in rfl hn) rfl rfl ?_
      refine r_iload_n (i := 77) (k0 := 2) rfl rfl rfl ?_
      refine r_iload_n (i := 78) (k0 := 3) rfl rfl rfl ?_
      refine r_iload (i := 79) (k0 := 4) rfl rfl ?_
      refine r_iload (i := 80) (k0 := 5) rfl rfl ?_
      refine c_V4V (i := 81) rfl vm_Fr_setWindow lk_D_161 (t_Fr_setWindow hn (ok_bind hF)) (Nat.le_of_ble_eq_true rfl) (xm_in rfl hn) rfl rfl (Nat.le_of_ble_eq_true rfl) (fun p_1 hF => ?_)
      refine r_iload_n (i := 82) (k0 := 1) rfl rfl rfl ?_
      have hQ := hq _ (ok_some hF)
      exact r_ireturn (i := 83) rfl rfl rfl hQ
    have hF := ok_it hc hF
    refine r_ldc (i := 73) rfl ct_D_128 ?_
    have hQ := hq _ (ok_some hF)
    exact r_ireturn (i := 74) rfl rfl rfl hQ
  have hF := ok_if hc hF
  refine r_aload_n (i := 17) (k0 := 0) rfl rfl rfl ?_
  refine q_getr (b := 6) (i := 18) rfl fl_D_21 rfl (xm_in rfl hn) rfl rfl ?_
  refine r_aload_n (i := 19) (k0 := 0) rfl rfl rfl ?_
  refine q_getr (b := 6) (i := 20) rfl fl_D_21 rfl (xm_in rfl hn) rfl rfl ?_
  refine r_iload (i := 21) (k0 := 6) rfl rfl ?_
  refine c_V1I (i := 22) rfl vm_Fg_kindOf lk_D_153 (t_Fg_kindOf hn (ok_bind hF)) (Nat.le_of_ble_eq_true rfl) (xm_in rfl hn) rfl rfl (Nat.le_of_ble_eq_true rfl) (fun p_2 hF => ?_)
  refine c_V1I (i := 23) rfl vm_Fg_isHidden lk_D_141 (t_Fg_isHidden hn (ok_bind hF)) (Nat.le_of_ble_eq_true rfl) (xm_in rfl hn) rfl rfl (Nat.le_of_ble_eq_true rfl) (fun p_3 hF => ?_)
  refine r_ifeq (i := 24) (tgt := 53) rfl (by decide) (fun hc => ?_) (fun hc => ?_)
  · have hF := ok_it hc hF
    refine q_iinc (i := 26) (k0 := 1) (Ls' := [(1, _), (0, _), (2, _), (3, _), (4, _), (5, _), (6, _)]) rfl ki_1 rfl (Nat.le_of_ble_eq_true rfl) rfl ?_
    refine r_iconst (v := 0) (i := 27) rfl ki_0 ?_
    refine r_istore (i := 28) (Ls' := [(7, _), (1, _), (0, _), (2, _), (3, _), (4, _), (5, _), (6, _)]) rfl (Nat.le_of_ble_eq_true rfl) rfl ?_
    refine xm_sub (Ls' := [(0, _), (1, _), (2, _), (3, _), (4, _), (5, _), (6, _), (7, _)]) [2, 1, 3, 4, 5, 6, 7, 0] rfl ?_
    exact t_D_fit_b59 hn (fun p h => hq p h) (fun z h => hg0 z h) hF
  have hF := ok_if hc hF
  refine r_goto (i := 25) (tgt := 147) rfl (by decide) ?_
  exact t_D_fit_b147 hn (fun p h => hq p h) (fun z h => hg0 z h) hF
set_option maxHeartbeats 4000000 in
set_option maxRecDepth 100000 in
theorem t_D_fit_b19 {s : Int32 × Int32 × Int32 × Int32 × Int32 × Int32} {n : Nat} {I : xm_I} {L : xm_L} {K : Int32 × xm_I → Prop} {Q : Option Value → xm_H → Prop} (hn : 86 ≤ n) (hq : ∀ p : Int32 × xm_I, K p → Q (some (.int p.1)) (p.2, L, RC n, n)) (hF : ok (f_D_fit_b19 I s) K) : xm_J 4 mt_D_fit 19 [(0, .ref 0), (1, .int s.1), (2, .int s.2.1), (3, .int s.2.2.1), (4, .int s.2.2.2.1), (5, .int s.2.2.2.2.1), (6, .int s.2.2.2.2.2)] [] (I, L, RC n, n) 0 0 Q :=
  lp_J (G := fun z => xm_J 4 mt_D_fit 19 [(0, .ref 0), (1, .int z.1), (2, .int z.2.1), (3, .int z.2.2.1), (4, .int z.2.2.2.1), (5, .int z.2.2.2.2.1), (6, .int z.2.2.2.2.2)] [] (I, L, RC n, n) 0 0 Q) (fun z hF => t_D_fit_s19 hn (fun p h => hq p h) (fun z h => h) hF) s hF
set_option maxHeartbeats 4000000 in
set_option maxRecDepth 100000 in
theorem t_D_fit_b0 {n : Nat} {I : xm_I} {L : xm_L} {K : Int32 × xm_I → Prop} {Q : Option Value → xm_H → Prop} (hn : 86 ≤ n) (hq : ∀ p : Int32 × xm_I, K p → Q (some (.int p.1)) (p.2, L, RC n, n)) (hF : ok (f_D_fit_b0 I) K) : xm_J 4 mt_D_fit 0 [(0, .ref 0)] [] (I, L, RC n, n) 0 0 Q := by
  unfold f_D_fit_b0 at hF
  refine r_iconst (v := 0) (i := 0) rfl ki_0 ?_
  refine r_istore_n (i := 1) (Ls' := [(1, _), (0, _)]) rfl rfl (Nat.le_of_ble_eq_true rfl) rfl ?_
  refine r_ldc (i := 2) rfl ct_D_160 ?_
  refine r_istore_n (i := 3) (Ls' := [(2, _), (1, _), (0, _)]) rfl rfl (Nat.le_of_ble_eq_true rfl) rfl ?_
  refine r_ldc (i := 4) rfl ct_D_165 ?_
  refine r_istore_n (i := 5) (Ls' := [(3, _), (2, _), (1, _), (0, _)]) rfl rfl (Nat.le_of_ble_eq_true rfl) rfl ?_
  refine r_ldc (i := 6) rfl ct_D_160 ?_
  refine r_istore (i := 7) (Ls' := [(4, _), (3, _), (2, _), (1, _), (0, _)]) rfl (Nat.le_of_ble_eq_true rfl) rfl ?_
  refine r_ldc (i := 8) rfl ct_D_165 ?_
  refine r_istore (i := 9) (Ls' := [(5, _), (4, _), (3, _), (2, _), (1, _), (0, _)]) rfl (Nat.le_of_ble_eq_true rfl) rfl ?_
  refine r_iconst (v := 0) (i := 10) rfl ki_0 ?_
  refine r_istore (i := 11) (Ls' := [(6, _), (5, _), (4, _), (3, _), (2, _), (1, _), (0, _)]) rfl (Nat.le_of_ble_eq_true rfl) rfl ?_
  refine xm_sub (Ls' := [(0, _), (1, _), (2, _), (3, _), (4, _), (5, _), (6, _)]) [6, 5, 4, 3, 2, 1, 0] rfl ?_
  exact t_D_fit_b19 hn (fun p h => hq p h) hF
set_option maxHeartbeats 4000000 in
set_option maxRecDepth 100000 in
theorem t_D_fit {n : Nat} {I : xm_I} {L : xm_L} {K : Int32 × xm_I → Prop} (hn : 86 ≤ n) (hF : ok (f_D_fit I) K) : xm_C 4 mt_D_fit [.ref 0] (I, L, RC n, n) 0 0 (pI (fun p : Int32 × xm_I => p.1) (fun p : Int32 × xm_I => (p.2, L, RC n, n)) K) := by
  unfold f_D_fit at hF
  refine xm_enter (by decide +kernel) dv_D_fit (Nat.le_of_ble_eq_true rfl) ?_
  exact t_D_fit_b0 hn (fun p hp => ⟨p, rfl, rfl, hp⟩) hF

noncomputable def f_D_side_b0 (x1 : Int32) (I : xm_I) : Option (Int32) :=
  if x1 = 0 then (
    some (I 14 0))
  else (
  if x1 = 1 then (
    some (I 14 1))
  else (
  if x1 = 2 then (
    some (I 14 2))
  else (
  if x1 = 3 then (
    some (I 14 3))
  else (
  some ((-100002))))))
noncomputable def f_D_side (x1 : Int32) (I : xm_I) : Option (Int32) := f_D_side_b0 x1 I
set_option maxHeartbeats 4000000 in
set_option maxRecDepth 100000 in
theorem t_D_side_b0 {x1 : Int32} {n : Nat} {I : xm_I} {L : xm_L} {K : Int32 → Prop} {Q : Option Value → xm_H → Prop} (hn : 86 ≤ n) (hq : ∀ p : Int32, K p → Q (some (.int p)) (I, L, RC n, n)) (hF : ok (f_D_side_b0 x1 I) K) : xm_J 0 mt_D_side 0 [(0, .ref 0), (1, .int x1)] [] (I, L, RC n, n) 0 0 Q := by
  unfold f_D_side_b0 at hF
  refine r_iload_n (i := 0) (k0 := 1) rfl rfl rfl ?_
  refine r_case 0 (fun hc0 => ?_) (fun hc0 => ?_)
  · have hF := ok_it hc0 hF
    refine r_tsIn (i := 1) (tgt := 32) rfl (by decide) (by decide) rfl (by decide) ?_
    refine r_aload_n (i := 2) (k0 := 0) rfl rfl rfl ?_
    refine q_getr (b := 14) (i := 3) rfl fl_D_28 rfl (xm_in rfl hn) rfl rfl ?_
    refine q_geti (i := 4) rfl fl_D_186 (xm_in rfl hn) rfl ?_
    have hQ := hq _ (ok_some hF)
    exact r_ireturn (i := 5) rfl rfl rfl hQ
  have hF := ok_if hc0 hF
  refine r_case 1 (fun hc1 => ?_) (fun hc1 => ?_)
  · have hF := ok_it hc1 hF
    refine r_tsIn (i := 1) (tgt := 40) rfl (by decide) (by decide) rfl (by decide) ?_
    refine r_aload_n (i := 6) (k0 := 0) rfl rfl rfl ?_
    refine q_getr (b := 14) (i := 7) rfl fl_D_28 rfl (xm_in rfl hn) rfl rfl ?_
    refine q_geti (i := 8) rfl fl_D_189 (xm_in rfl hn) rfl ?_
    have hQ := hq _ (ok_some hF)
    exact r_ireturn (i := 9) rfl rfl rfl hQ
  have hF := ok_if hc1 hF
  refine r_case 2 (fun hc2 => ?_) (fun hc2 => ?_)
  · have hF := ok_it hc2 hF
    refine r_tsIn (i := 1) (tgt := 48) rfl (by decide) (by decide) rfl (by decide) ?_
    refine r_aload_n (i := 10) (k0 := 0) rfl rfl rfl ?_
    refine q_getr (b := 14) (i := 11) rfl fl_D_28 rfl (xm_in rfl hn) rfl rfl ?_
    refine q_geti (i := 12) rfl fl_D_192 (xm_in rfl hn) rfl ?_
    have hQ := hq _ (ok_some hF)
    exact r_ireturn (i := 13) rfl rfl rfl hQ
  have hF := ok_if hc2 hF
  refine r_case 3 (fun hc3 => ?_) (fun hc3 => ?_)
  · have hF := ok_it hc3 hF
    refine r_tsIn (i := 1) (tgt := 56) rfl (by decide) (by decide) rfl (by decide) ?_
    refine r_aload_n (i := 14) (k0 := 0) rfl rfl rfl ?_
    refine q_getr (b := 14) (i := 15) rfl fl_D_28 rfl (xm_in rfl hn) rfl rfl ?_
    refine q_geti (i := 16) rfl fl_D_195 (xm_in rfl hn) rfl ?_
    have hQ := hq _ (ok_some hF)
    exact r_ireturn (i := 17) rfl rfl rfl hQ
  have hF := ok_if hc3 hF
  refine r_tsOut (i := 1) (tgt := 64) rfl (by have e0 := lv_neT hc0 (a := 0) (by decide); have e1 := lv_neT hc1 (a := 1) (by decide); have e2 := lv_neT hc2 (a := 2) (by decide); have e3 := lv_neT hc3 (a := 3) (by decide); omega) (by decide) ?_
  refine r_ldc (i := 18) rfl ct_D_86 ?_
  have hQ := hq _ (ok_some hF)
  exact r_ireturn (i := 19) rfl rfl rfl hQ
set_option maxHeartbeats 4000000 in
set_option maxRecDepth 100000 in
theorem t_D_side {x1 : Int32} {n : Nat} {I : xm_I} {L : xm_L} {K : Int32 → Prop} (hn : 86 ≤ n) (hF : ok (f_D_side x1 I) K) : xm_C 0 mt_D_side [.ref 0, .int x1] (I, L, RC n, n) 0 0 (pI (fun p : Int32 => p) (fun p : Int32 => (I, L, RC n, n)) K) := by
  unfold f_D_side at hF
  refine xm_enter (by decide +kernel) dv_D_side (Nat.le_of_ble_eq_true rfl) ?_
  exact t_D_side_b0 hn (fun p hp => ⟨p, rfl, rfl, hp⟩) hF

noncomputable def f_Fr_setSheet_b0 (x1 : Int32) (x2 : Int32) (x3 : Int32) (I : xm_I) : Option (xm_I) :=
  let I_1 : xm_I := up2 I 14 4 x1
  let I_2 : xm_I := up2 I_1 14 5 x2
  let I_3 : xm_I := up2 I_2 14 6 x3
  (f_Fr_rescale I_3).bind fun p_4 =>
  some (p_4)
noncomputable def f_Fr_setSheet (x1 : Int32) (x2 : Int32) (x3 : Int32) (I : xm_I) : Option (xm_I) := f_Fr_setSheet_b0 x1 x2 x3 I
set_option maxHeartbeats 4000000 in
set_option maxRecDepth 100000 in
theorem t_Fr_setSheet_b0 {x1 : Int32} {x2 : Int32} {x3 : Int32} {n : Nat} {I : xm_I} {L : xm_L} {K : xm_I → Prop} {Q : Option Value → xm_H → Prop} (hn : 86 ≤ n) (hq : ∀ p : xm_I, K p → Q none (p, L, RC n, n)) (hF : ok (f_Fr_setSheet_b0 x1 x2 x3 I) K) : xm_J 3 mt_Fr_setSheet 0 [(0, .ref 14), (1, .int x1), (2, .int x2), (3, .int x3)] [] (I, L, RC n, n) 0 0 Q := by
  unfold f_Fr_setSheet_b0 at hF
  refine r_aload_n (i := 0) (k0 := 0) rfl rfl rfl ?_
  refine r_iload_n (i := 1) (k0 := 1) rfl rfl rfl ?_
  refine q_puti (i := 2) rfl fl_Fr_22 (fun h => Bool.noConfusion h) (xm_in rfl hn) rfl ?_
  refine r_aload_n (i := 3) (k0 := 0) rfl rfl rfl ?_
  refine r_iload_n (i := 4) (k0 := 2) rfl rfl rfl ?_
  refine q_puti (i := 5) rfl fl_Fr_25 (fun h => Bool.noConfusion h) (xm_in rfl hn) rfl ?_
  refine r_aload_n (i := 6) (k0 := 0) rfl rfl rfl ?_
  refine r_iload_n (i := 7) (k0 := 3) rfl rfl rfl ?_
  refine q_puti (i := 8) rfl fl_Fr_28 (fun h => Bool.noConfusion h) (xm_in rfl hn) rfl ?_
  refine r_aload_n (i := 9) (k0 := 0) rfl rfl rfl ?_
  refine c_V0V (i := 10) rfl vm_Fr_rescale lk_Fr_43 (t_Fr_rescale hn (ok_bind hF)) (Nat.le_of_ble_eq_true rfl) (xm_in rfl hn) rfl rfl (Nat.le_of_ble_eq_true rfl) (fun p_4 hF => ?_)
  have hQ := hq _ (ok_some hF)
  exact r_return (i := 11) rfl rfl hQ
set_option maxHeartbeats 4000000 in
set_option maxRecDepth 100000 in
theorem t_Fr_setSheet {x1 : Int32} {x2 : Int32} {x3 : Int32} {n : Nat} {I : xm_I} {L : xm_L} {K : xm_I → Prop} (hn : 86 ≤ n) (hF : ok (f_Fr_setSheet x1 x2 x3 I) K) : xm_C 3 mt_Fr_setSheet [.ref 14, .int x1, .int x2, .int x3] (I, L, RC n, n) 0 0 (pV (fun p : xm_I => (p, L, RC n, n)) K) := by
  unfold f_Fr_setSheet at hF
  refine xm_enter (by decide +kernel) dv_Fr_setSheet (Nat.le_of_ble_eq_true rfl) ?_
  exact t_Fr_setSheet_b0 hn (fun p hp => ⟨p, rfl, rfl, hp⟩) hF

noncomputable def f_D_sheet_b39 (x1 : Int32) (x2 : Int32) (x3 : Int32) (y0 : Int32) (I : xm_I) : Option (Int32 × xm_I) :=
  if y0 = 0 then (
    some ((-100002), I))
  else (
    (f_Fr_setSheet x1 x2 x3 I).bind fun p_1 =>
    some (1, p_1))
noncomputable def f_D_sheet_b38 (x1 : Int32) (x2 : Int32) (x3 : Int32) (I : xm_I) : Option (Int32 × xm_I) :=
  f_D_sheet_b39 x1 x2 x3 0 I
noncomputable def f_D_sheet_b0 (x1 : Int32) (x2 : Int32) (x3 : Int32) (I : xm_I) : Option (Int32 × xm_I) :=
  (f_D_isWithin x1 16 400).bind fun p_1 =>
  if p_1 = 0 then (
    f_D_sheet_b38 x1 x2 x3 I)
  else (
  (f_D_isWithin x2 16 400).bind fun p_2 =>
  if p_2 = 0 then (
    f_D_sheet_b38 x1 x2 x3 I)
  else (
  (f_D_isWithin x3 0 7).bind fun p_3 =>
  if p_3 = 0 then (
    f_D_sheet_b38 x1 x2 x3 I)
  else (
  f_D_sheet_b39 x1 x2 x3 1 I)))
noncomputable def f_D_sheet (x1 : Int32) (x2 : Int32) (x3 : Int32) (I : xm_I) : Option (Int32 × xm_I) := f_D_sheet_b0 x1 x2 x3 I
set_option maxHeartbeats 4000000 in
set_option maxRecDepth 100000 in
theorem t_D_sheet_b39 {x1 : Int32} {x2 : Int32} {x3 : Int32} {y0 : Int32} {n : Nat} {I : xm_I} {L : xm_L} {K : Int32 × xm_I → Prop} {Q : Option Value → xm_H → Prop} (hn : 86 ≤ n) (hq : ∀ p : Int32 × xm_I, K p → Q (some (.int p.1)) (p.2, L, RC n, n)) (hF : ok (f_D_sheet_b39 x1 x2 x3 y0 I) K) : xm_J 4 mt_D_sheet 39 [(0, .ref 0), (1, .int x1), (2, .int x2), (3, .int x3)] [.int y0] (I, L, RC n, n) 0 0 Q := by
  unfold f_D_sheet_b39 at hF
  refine r_istore (i := 18) (Ls' := [(4, _), (0, _), (1, _), (2, _), (3, _)]) rfl (Nat.le_of_ble_eq_true rfl) rfl ?_
  refine r_iload (i := 19) (k0 := 0) rfl rfl ?_
  refine r_ifne (i := 20) (tgt := 49) rfl (by decide) (fun hc => ?_) (fun hc => ?_)
  · have hF := ok_if hc hF
    refine r_aload_n (i := 23) (k0 := 1) rfl rfl rfl ?_
    refine q_getr (b := 14) (i := 24) rfl fl_D_28 rfl (xm_in rfl hn) rfl rfl ?_
    refine r_iload_n (i := 25) (k0 := 2) rfl rfl rfl ?_
    refine r_iload_n (i := 26) (k0 := 3) rfl rfl rfl ?_
    refine r_iload_n (i := 27) (k0 := 4) rfl rfl rfl ?_
    refine c_V3V (i := 28) rfl vm_Fr_setSheet lk_D_198 (t_Fr_setSheet hn (ok_bind hF)) (Nat.le_of_ble_eq_true rfl) (xm_in rfl hn) rfl rfl (Nat.le_of_ble_eq_true rfl) (fun p_1 hF => ?_)
    refine r_iconst (v := 1) (i := 29) rfl ki_1 ?_
    have hQ := hq _ (ok_some hF)
    exact r_ireturn (i := 30) rfl rfl rfl hQ
  have hF := ok_it hc hF
  refine r_ldc (i := 21) rfl ct_D_86 ?_
  have hQ := hq _ (ok_some hF)
  exact r_ireturn (i := 22) rfl rfl rfl hQ
set_option maxHeartbeats 4000000 in
set_option maxRecDepth 100000 in
theorem t_D_sheet_b38 {x1 : Int32} {x2 : Int32} {x3 : Int32} {n : Nat} {I : xm_I} {L : xm_L} {K : Int32 × xm_I → Prop} {Q : Option Value → xm_H → Prop} (hn : 86 ≤ n) (hq : ∀ p : Int32 × xm_I, K p → Q (some (.int p.1)) (p.2, L, RC n, n)) (hF : ok (f_D_sheet_b38 x1 x2 x3 I) K) : xm_J 4 mt_D_sheet 38 [(0, .ref 0), (1, .int x1), (2, .int x2), (3, .int x3)] [] (I, L, RC n, n) 0 0 Q := by
  unfold f_D_sheet_b38 at hF
  refine r_iconst (v := 0) (i := 17) rfl ki_0 ?_
  exact t_D_sheet_b39 hn (fun p h => hq p h) hF
set_option maxHeartbeats 4000000 in
set_option maxRecDepth 100000 in
theorem t_D_sheet_b0 {x1 : Int32} {x2 : Int32} {x3 : Int32} {n : Nat} {I : xm_I} {L : xm_L} {K : Int32 × xm_I → Prop} {Q : Option Value → xm_H → Prop} (hn : 86 ≤ n) (hq : ∀ p : Int32 × xm_I, K p → Q (some (.int p.1)) (p.2, L, RC n, n)) (hF : ok (f_D_sheet_b0 x1 x2 x3 I) K) : xm_J 4 mt_D_sheet 0 [(0, .ref 0), (1, .int x1), (2, .int x2), (3, .int x3)] [] (I, L, RC n, n) 0 0 Q := by
  unfold f_D_sheet_b0 at hF
  refine r_iload_n (i := 0) (k0 := 1) rfl rfl rfl ?_
  refine r_bipush (v := 16) (i := 1) rfl kb_16 ?_
  refine r_sipush (v := 400) (i := 2) rfl ks_400 ?_
  refine c_S3I (i := 3) rfl sm_D_isWithin lk_D_82 (t_D_isWithin hn (ok_bind hF)) (Nat.le_of_ble_eq_true rfl) rfl (Nat.le_of_ble_eq_true rfl) (fun p_1 hF => ?_)
  refine r_ifeq (i := 4) (tgt := 38) rfl (by decide) (fun hc => ?_) (fun hc => ?_)
  · have hF := ok_it hc hF
    exact t_D_sheet_b38 hn (fun p h => hq p h) hF
  have hF := ok_if hc hF
  refine r_iload_n (i := 5) (k0 := 2) rfl rfl rfl ?_
  refine r_bipush (v := 16) (i := 6) rfl kb_16 ?_
  refine r_sipush (v := 400) (i := 7) rfl ks_400 ?_
  refine c_S3I (i := 8) rfl sm_D_isWithin lk_D_82 (t_D_isWithin hn (ok_bind hF)) (Nat.le_of_ble_eq_true rfl) rfl (Nat.le_of_ble_eq_true rfl) (fun p_2 hF => ?_)
  refine r_ifeq (i := 9) (tgt := 38) rfl (by decide) (fun hc => ?_) (fun hc => ?_)
  · have hF := ok_it hc hF
    exact t_D_sheet_b38 hn (fun p h => hq p h) hF
  have hF := ok_if hc hF
  refine r_iload_n (i := 10) (k0 := 3) rfl rfl rfl ?_
  refine r_iconst (v := 0) (i := 11) rfl ki_0 ?_
  refine r_bipush (v := 7) (i := 12) rfl kb_7 ?_
  refine c_S3I (i := 13) rfl sm_D_isWithin lk_D_82 (t_D_isWithin hn (ok_bind hF)) (Nat.le_of_ble_eq_true rfl) rfl (Nat.le_of_ble_eq_true rfl) (fun p_3 hF => ?_)
  refine r_ifeq (i := 14) (tgt := 38) rfl (by decide) (fun hc => ?_) (fun hc => ?_)
  · have hF := ok_it hc hF
    exact t_D_sheet_b38 hn (fun p h => hq p h) hF
  have hF := ok_if hc hF
  refine r_iconst (v := 1) (i := 15) rfl ki_1 ?_
  refine r_goto (i := 16) (tgt := 39) rfl (by decide) ?_
  exact t_D_sheet_b39 hn (fun p h => hq p h) hF
set_option maxHeartbeats 4000000 in
set_option maxRecDepth 100000 in
theorem t_D_sheet {x1 : Int32} {x2 : Int32} {x3 : Int32} {n : Nat} {I : xm_I} {L : xm_L} {K : Int32 × xm_I → Prop} (hn : 86 ≤ n) (hF : ok (f_D_sheet x1 x2 x3 I) K) : xm_C 4 mt_D_sheet [.ref 0, .int x1, .int x2, .int x3] (I, L, RC n, n) 0 0 (pI (fun p : Int32 × xm_I => p.1) (fun p : Int32 × xm_I => (p.2, L, RC n, n)) K) := by
  unfold f_D_sheet at hF
  refine xm_enter (by decide +kernel) dv_D_sheet (Nat.le_of_ble_eq_true rfl) ?_
  exact t_D_sheet_b0 hn (fun p hp => ⟨p, rfl, rfl, hp⟩) hF

noncomputable def f_D_grid_b0 (x1 : Int32) (I : xm_I) : Option (Int32 × xm_I) :=
  (f_D_isWithin x1 0 40000).bind fun p_1 =>
  if p_1 = 0 then (
    some ((-100002), I))
  else (
    let x2_2 : Int32 := I 14 7
    let I_3 : xm_I := up2 I 14 7 x1
    some (x2_2, I_3))
noncomputable def f_D_grid (x1 : Int32) (I : xm_I) : Option (Int32 × xm_I) := f_D_grid_b0 x1 I
set_option maxHeartbeats 4000000 in
set_option maxRecDepth 100000 in
theorem t_D_grid_b0 {x1 : Int32} {n : Nat} {I : xm_I} {L : xm_L} {K : Int32 × xm_I → Prop} {Q : Option Value → xm_H → Prop} (hn : 86 ≤ n) (hq : ∀ p : Int32 × xm_I, K p → Q (some (.int p.1)) (p.2, L, RC n, n)) (hF : ok (f_D_grid_b0 x1 I) K) : xm_J 1 mt_D_grid 0 [(0, .ref 0), (1, .int x1)] [] (I, L, RC n, n) 0 0 Q := by
  unfold f_D_grid_b0 at hF
  refine r_iload_n (i := 0) (k0 := 1) rfl rfl rfl ?_
  refine r_iconst (v := 0) (i := 1) rfl ki_0 ?_
  refine r_ldc (i := 2) rfl ct_D_160 ?_
  refine c_S3I (i := 3) rfl sm_D_isWithin lk_D_82 (t_D_isWithin hn (ok_bind hF)) (Nat.le_of_ble_eq_true rfl) rfl (Nat.le_of_ble_eq_true rfl) (fun p_1 hF => ?_)
  refine r_ifne (i := 4) (tgt := 13) rfl (by decide) (fun hc => ?_) (fun hc => ?_)
  · have hF := ok_if hc hF
    refine r_aload_n (i := 7) (k0 := 0) rfl rfl rfl ?_
    refine q_getr (b := 14) (i := 8) rfl fl_D_28 rfl (xm_in rfl hn) rfl rfl ?_
    refine q_geti (i := 9) rfl fl_D_201 (xm_in rfl hn) rfl ?_
    refine r_istore_n (i := 10) (Ls' := [(2, _), (0, _), (1, _)]) rfl rfl (Nat.le_of_ble_eq_true rfl) rfl ?_
    refine r_aload_n (i := 11) (k0 := 1) rfl rfl rfl ?_
    refine q_getr (b := 14) (i := 12) rfl fl_D_28 rfl (xm_in rfl hn) rfl rfl ?_
    refine r_iload_n (i := 13) (k0 := 2) rfl rfl rfl ?_
    refine q_puti (i := 14) rfl fl_D_201 (fun h => Bool.noConfusion h) (xm_in rfl hn) rfl ?_
    refine r_iload_n (i := 15) (k0 := 0) rfl rfl rfl ?_
    have hQ := hq _ (ok_some hF)
    exact r_ireturn (i := 16) rfl rfl rfl hQ
  have hF := ok_it hc hF
  refine r_ldc (i := 5) rfl ct_D_86 ?_
  have hQ := hq _ (ok_some hF)
  exact r_ireturn (i := 6) rfl rfl rfl hQ
set_option maxHeartbeats 4000000 in
set_option maxRecDepth 100000 in
theorem t_D_grid {x1 : Int32} {n : Nat} {I : xm_I} {L : xm_L} {K : Int32 × xm_I → Prop} (hn : 86 ≤ n) (hF : ok (f_D_grid x1 I) K) : xm_C 1 mt_D_grid [.ref 0, .int x1] (I, L, RC n, n) 0 0 (pI (fun p : Int32 × xm_I => p.1) (fun p : Int32 × xm_I => (p.2, L, RC n, n)) K) := by
  unfold f_D_grid at hF
  refine xm_enter (by decide +kernel) dv_D_grid (Nat.le_of_ble_eq_true rfl) ?_
  exact t_D_grid_b0 hn (fun p hp => ⟨p, rfl, rfl, hp⟩) hF

noncomputable def f_D_hatch_b0 (x1 : Int32) (I : xm_I) : Option (Int32 × xm_I) :=
  (f_D_isWithin x1 10 1000).bind fun p_1 =>
  if p_1 = 0 then (
    some ((-100002), I))
  else (
    let x2_2 : Int32 := I 14 8
    let I_3 : xm_I := up2 I 14 8 x1
    some (x2_2, I_3))
noncomputable def f_D_hatch (x1 : Int32) (I : xm_I) : Option (Int32 × xm_I) := f_D_hatch_b0 x1 I
set_option maxHeartbeats 4000000 in
set_option maxRecDepth 100000 in
theorem t_D_hatch_b0 {x1 : Int32} {n : Nat} {I : xm_I} {L : xm_L} {K : Int32 × xm_I → Prop} {Q : Option Value → xm_H → Prop} (hn : 86 ≤ n) (hq : ∀ p : Int32 × xm_I, K p → Q (some (.int p.1)) (p.2, L, RC n, n)) (hF : ok (f_D_hatch_b0 x1 I) K) : xm_J 1 mt_D_hatch 0 [(0, .ref 0), (1, .int x1)] [] (I, L, RC n, n) 0 0 Q := by
  unfold f_D_hatch_b0 at hF
  refine r_iload_n (i := 0) (k0 := 1) rfl rfl rfl ?_
  refine r_bipush (v := 10) (i := 1) rfl kb_10 ?_
  refine r_sipush (v := 1000) (i := 2) rfl ks_1000 ?_
  refine c_S3I (i := 3) rfl sm_D_isWithin lk_D_82 (t_D_isWithin hn (ok_bind hF)) (Nat.le_of_ble_eq_true rfl) rfl (Nat.le_of_ble_eq_true rfl) (fun p_1 hF => ?_)
  refine r_ifne (i := 4) (tgt := 15) rfl (by decide) (fun hc => ?_) (fun hc => ?_)
  · have hF := ok_if hc hF
    refine r_aload_n (i := 7) (k0 := 0) rfl rfl rfl ?_
    refine q_getr (b := 14) (i := 8) rfl fl_D_28 rfl (xm_in rfl hn) rfl rfl ?_
    refine q_geti (i := 9) rfl fl_D_204 (xm_in rfl hn) rfl ?_
    refine r_istore_n (i := 10) (Ls' := [(2, _), (0, _), (1, _)]) rfl rfl (Nat.le_of_ble_eq_true rfl) rfl ?_
    refine r_aload_n (i := 11) (k0 := 1) rfl rfl rfl ?_
    refine q_getr (b := 14) (i := 12) rfl fl_D_28 rfl (xm_in rfl hn) rfl rfl ?_
    refine r_iload_n (i := 13) (k0 := 2) rfl rfl rfl ?_
    refine q_puti (i := 14) rfl fl_D_204 (fun h => Bool.noConfusion h) (xm_in rfl hn) rfl ?_
    refine r_iload_n (i := 15) (k0 := 0) rfl rfl rfl ?_
    have hQ := hq _ (ok_some hF)
    exact r_ireturn (i := 16) rfl rfl rfl hQ
  have hF := ok_it hc hF
  refine r_ldc (i := 5) rfl ct_D_86 ?_
  have hQ := hq _ (ok_some hF)
  exact r_ireturn (i := 6) rfl rfl rfl hQ
set_option maxHeartbeats 4000000 in
set_option maxRecDepth 100000 in
theorem t_D_hatch {x1 : Int32} {n : Nat} {I : xm_I} {L : xm_L} {K : Int32 × xm_I → Prop} (hn : 86 ≤ n) (hF : ok (f_D_hatch x1 I) K) : xm_C 1 mt_D_hatch [.ref 0, .int x1] (I, L, RC n, n) 0 0 (pI (fun p : Int32 × xm_I => p.1) (fun p : Int32 × xm_I => (p.2, L, RC n, n)) K) := by
  unfold f_D_hatch at hF
  refine xm_enter (by decide +kernel) dv_D_hatch (Nat.le_of_ble_eq_true rfl) ?_
  exact t_D_hatch_b0 hn (fun p hp => ⟨p, rfl, rfl, hp⟩) hF

noncomputable def f_D_endWith_b0 (x1 : Int32) (I : xm_I) : Option (Int32 × xm_I) :=
  let I_1 : xm_I := up2 I 0 9 x1
  some (0, I_1)
noncomputable def f_D_endWith (x1 : Int32) (I : xm_I) : Option (Int32 × xm_I) := f_D_endWith_b0 x1 I
set_option maxHeartbeats 4000000 in
set_option maxRecDepth 100000 in
theorem t_D_endWith_b0 {x1 : Int32} {n : Nat} {I : xm_I} {L : xm_L} {K : Int32 × xm_I → Prop} {Q : Option Value → xm_H → Prop} (hn : 86 ≤ n) (hq : ∀ p : Int32 × xm_I, K p → Q (some (.int p.1)) (p.2, L, RC n, n)) (hF : ok (f_D_endWith_b0 x1 I) K) : xm_J 0 mt_D_endWith 0 [(0, .ref 0), (1, .int x1)] [] (I, L, RC n, n) 0 0 Q := by
  unfold f_D_endWith_b0 at hF
  refine r_aload_n (i := 0) (k0 := 0) rfl rfl rfl ?_
  refine r_iload_n (i := 1) (k0 := 1) rfl rfl rfl ?_
  refine q_puti (i := 2) rfl fl_D_78 (fun h => Bool.noConfusion h) (xm_in rfl hn) rfl ?_
  refine r_iconst (v := 0) (i := 3) rfl ki_0 ?_
  have hQ := hq _ (ok_some hF)
  exact r_ireturn (i := 4) rfl rfl rfl hQ
set_option maxHeartbeats 4000000 in
set_option maxRecDepth 100000 in
theorem t_D_endWith {x1 : Int32} {n : Nat} {I : xm_I} {L : xm_L} {K : Int32 × xm_I → Prop} (hn : 86 ≤ n) (hF : ok (f_D_endWith x1 I) K) : xm_C 0 mt_D_endWith [.ref 0, .int x1] (I, L, RC n, n) 0 0 (pI (fun p : Int32 × xm_I => p.1) (fun p : Int32 × xm_I => (p.2, L, RC n, n)) K) := by
  unfold f_D_endWith at hF
  refine xm_enter (by decide +kernel) dv_D_endWith (Nat.le_of_ble_eq_true rfl) ?_
  exact t_D_endWith_b0 hn (fun p hp => ⟨p, rfl, rfl, hp⟩) hF

noncomputable def f_Fr_hasScale_b0 (I : xm_I) : Option (Int32) :=
  if (I 14 10) ≤ 0 then (
    some (0))
  else (
  some (1))
noncomputable def f_Fr_hasScale (I : xm_I) : Option (Int32) := f_Fr_hasScale_b0 I
set_option maxHeartbeats 4000000 in
set_option maxRecDepth 100000 in
theorem t_Fr_hasScale_b0 {n : Nat} {I : xm_I} {L : xm_L} {K : Int32 → Prop} {Q : Option Value → xm_H → Prop} (hn : 86 ≤ n) (hq : ∀ p : Int32, K p → Q (some (.int p)) (I, L, RC n, n)) (hF : ok (f_Fr_hasScale_b0 I) K) : xm_J 0 mt_Fr_hasScale 0 [(0, .ref 14)] [] (I, L, RC n, n) 0 0 Q := by
  unfold f_Fr_hasScale_b0 at hF
  refine r_aload_n (i := 0) (k0 := 0) rfl rfl rfl ?_
  refine q_geti (i := 1) rfl fl_Fr_40 (xm_in rfl hn) rfl ?_
  refine r_ifle (i := 2) (tgt := 11) rfl (by decide) (fun hc => ?_) (fun hc => ?_)
  · have hF := ok_it hc hF
    refine r_iconst (v := 0) (i := 5) rfl ki_0 ?_
    have hQ := hq _ (ok_some hF)
    exact r_ireturn (i := 6) rfl rfl rfl hQ
  have hF := ok_if hc hF
  refine r_iconst (v := 1) (i := 3) rfl ki_1 ?_
  refine r_goto (i := 4) (tgt := 12) rfl (by decide) ?_
  have hQ := hq _ (ok_some hF)
  exact r_ireturn (i := 6) rfl rfl rfl hQ
set_option maxHeartbeats 4000000 in
set_option maxRecDepth 100000 in
theorem t_Fr_hasScale {n : Nat} {I : xm_I} {L : xm_L} {K : Int32 → Prop} (hn : 86 ≤ n) (hF : ok (f_Fr_hasScale I) K) : xm_C 0 mt_Fr_hasScale [.ref 14] (I, L, RC n, n) 0 0 (pI (fun p : Int32 => p) (fun p : Int32 => (I, L, RC n, n)) K) := by
  unfold f_Fr_hasScale at hF
  refine xm_enter (by decide +kernel) dv_Fr_hasScale (Nat.le_of_ble_eq_true rfl) ?_
  exact t_Fr_hasScale_b0 hn (fun p hp => ⟨p, rfl, rfl, hp⟩) hF

noncomputable def f_D_scale_b0 (x1 : Int32) (I : xm_I) : Option (Int32 × xm_I) :=
  (f_Fr_hasScale I).bind fun p_1 =>
  if p_1 = 0 then (
    (f_D_endWith 6 I).bind fun p_3 =>
    some (p_3.1, p_3.2))
  else (
    let I_2 : xm_I := up2 I 0 9 0
    if x1 = 0 then (
      some (I_2 14 10, I_2))
    else (
    some (I_2 14 9, I_2)))
noncomputable def f_D_scale (x1 : Int32) (I : xm_I) : Option (Int32 × xm_I) := f_D_scale_b0 x1 I
set_option maxHeartbeats 4000000 in
set_option maxRecDepth 100000 in
theorem t_D_scale_b0 {x1 : Int32} {n : Nat} {I : xm_I} {L : xm_L} {K : Int32 × xm_I → Prop} {Q : Option Value → xm_H → Prop} (hn : 86 ≤ n) (hq : ∀ p : Int32 × xm_I, K p → Q (some (.int p.1)) (p.2, L, RC n, n)) (hF : ok (f_D_scale_b0 x1 I) K) : xm_J 1 mt_D_scale 0 [(0, .ref 0), (1, .int x1)] [] (I, L, RC n, n) 0 0 Q := by
  unfold f_D_scale_b0 at hF
  refine r_aload_n (i := 0) (k0 := 0) rfl rfl rfl ?_
  refine q_getr (b := 14) (i := 1) rfl fl_D_28 rfl (xm_in rfl hn) rfl rfl ?_
  refine c_V0I (i := 2) rfl vm_Fr_hasScale lk_D_207 (t_Fr_hasScale hn (ok_bind hF)) (Nat.le_of_ble_eq_true rfl) (xm_in rfl hn) rfl rfl (Nat.le_of_ble_eq_true rfl) (fun p_1 hF => ?_)
  refine r_ifne (i := 3) (tgt := 17) rfl (by decide) (fun hc => ?_) (fun hc => ?_)
  · have hF := ok_if hc hF
    refine r_aload_n (i := 8) (k0 := 0) rfl rfl rfl ?_
    refine r_iconst (v := 0) (i := 9) rfl ki_0 ?_
    refine q_puti (i := 10) rfl fl_D_78 (fun h => Bool.noConfusion h) (xm_in rfl hn) rfl ?_
    refine r_iload_n (i := 11) (k0 := 1) rfl rfl rfl ?_
    refine r_ifeq (i := 12) (tgt := 36) rfl (by decide) (fun hc => ?_) (fun hc => ?_)
    · have hF := ok_it hc hF
      refine r_aload_n (i := 17) (k0 := 0) rfl rfl rfl ?_
      refine q_getr (b := 14) (i := 18) rfl fl_D_28 rfl (xm_in rfl hn) rfl rfl ?_
      refine q_geti (i := 19) rfl fl_D_216 (xm_in rfl hn) rfl ?_
      have hQ := hq _ (ok_some hF)
      exact r_ireturn (i := 20) rfl rfl rfl hQ
    have hF := ok_if hc hF
    refine r_aload_n (i := 13) (k0 := 0) rfl rfl rfl ?_
    refine q_getr (b := 14) (i := 14) rfl fl_D_28 rfl (xm_in rfl hn) rfl rfl ?_
    refine q_geti (i := 15) rfl fl_D_213 (xm_in rfl hn) rfl ?_
    refine r_goto (i := 16) (tgt := 43) rfl (by decide) ?_
    have hQ := hq _ (ok_some hF)
    exact r_ireturn (i := 20) rfl rfl rfl hQ
  have hF := ok_it hc hF
  refine r_aload_n (i := 4) (k0 := 0) rfl rfl rfl ?_
  refine r_bipush (v := 6) (i := 5) rfl kb_6 ?_
  refine c_V1I (i := 6) rfl vm_D_endWith lk_D_210 (t_D_endWith hn (ok_bind hF)) (Nat.le_of_ble_eq_true rfl) (xm_in rfl hn) rfl rfl (Nat.le_of_ble_eq_true rfl) (fun p_3 hF => ?_)
  have hQ := hq _ (ok_some hF)
  exact r_ireturn (i := 7) rfl rfl rfl hQ
set_option maxHeartbeats 4000000 in
set_option maxRecDepth 100000 in
theorem t_D_scale {x1 : Int32} {n : Nat} {I : xm_I} {L : xm_L} {K : Int32 × xm_I → Prop} (hn : 86 ≤ n) (hF : ok (f_D_scale x1 I) K) : xm_C 1 mt_D_scale [.ref 0, .int x1] (I, L, RC n, n) 0 0 (pI (fun p : Int32 × xm_I => p.1) (fun p : Int32 × xm_I => (p.2, L, RC n, n)) K) := by
  unfold f_D_scale at hF
  refine xm_enter (by decide +kernel) dv_D_scale (Nat.le_of_ble_eq_true rfl) ?_
  exact t_D_scale_b0 hn (fun p hp => ⟨p, rfl, rfl, hp⟩) hF

noncomputable def f_Fr_aboveX_b0 (l1 : Int64) (l3 : Int64) (I : xm_I) : Option (Int64) :=
  some ((((Int32.toInt64 (I 14 4)) * l3) * (Int32.toInt64 (I 14 10))) + (((2 * l1) - ((Int32.toInt64 ((I 14 0) + (I 14 1))) * l3)) * (Int32.toInt64 (I 14 9))))
noncomputable def f_Fr_aboveX (l1 : Int64) (l3 : Int64) (I : xm_I) : Option (Int64) := f_Fr_aboveX_b0 l1 l3 I
set_option maxHeartbeats 4000000 in
set_option maxRecDepth 100000 in
theorem t_Fr_aboveX_b0 {l1 : Int64} {l3 : Int64} {n : Nat} {I : xm_I} {L : xm_L} {K : Int64 → Prop} {Q : Option Value → xm_H → Prop} (hn : 86 ≤ n) (hq : ∀ p : Int64, K p → Q (some (.long p)) (I, L, RC n, n)) (hF : ok (f_Fr_aboveX_b0 l1 l3 I) K) : xm_J 0 mt_Fr_aboveX 0 [(0, .ref 14), (1, .long l1), (3, .long l3)] [] (I, L, RC n, n) 0 0 Q := by
  unfold f_Fr_aboveX_b0 at hF
  refine r_aload_n (i := 0) (k0 := 0) rfl rfl rfl ?_
  refine q_geti (i := 1) rfl fl_Fr_22 (xm_in rfl hn) rfl ?_
  refine r_i2l (i := 2) rfl ?_
  refine r_lload_n (i := 3) (k0 := 2) rfl rfl rfl ?_
  refine r_lmul (i := 4) rfl ?_
  refine r_aload_n (i := 5) (k0 := 0) rfl rfl rfl ?_
  refine q_geti (i := 6) rfl fl_Fr_40 (xm_in rfl hn) rfl ?_
  refine r_i2l (i := 7) rfl ?_
  refine r_lmul (i := 8) rfl ?_
  refine r_ldc2 (i := 9) rfl ct_Fr_52 ?_
  refine r_lload_n (i := 10) (k0 := 1) rfl rfl rfl ?_
  refine r_lmul (i := 11) rfl ?_
  refine r_aload_n (i := 12) (k0 := 0) rfl rfl rfl ?_
  refine q_geti (i := 13) rfl fl_Fr_7 (xm_in rfl hn) rfl ?_
  refine r_aload_n (i := 14) (k0 := 0) rfl rfl rfl ?_
  refine q_geti (i := 15) rfl fl_Fr_13 (xm_in rfl hn) rfl ?_
  refine r_iadd (i := 16) rfl ?_
  refine r_i2l (i := 17) rfl ?_
  refine r_lload_n (i := 18) (k0 := 2) rfl rfl rfl ?_
  refine r_lmul (i := 19) rfl ?_
  refine r_lsub (i := 20) rfl ?_
  refine r_aload_n (i := 21) (k0 := 0) rfl rfl rfl ?_
  refine q_geti (i := 22) rfl fl_Fr_37 (xm_in rfl hn) rfl ?_
  refine r_i2l (i := 23) rfl ?_
  refine r_lmul (i := 24) rfl ?_
  refine r_ladd (i := 25) rfl ?_
  have hQ := hq _ (ok_some hF)
  exact r_lreturn (i := 26) rfl rfl hQ
set_option maxHeartbeats 4000000 in
set_option maxRecDepth 100000 in
theorem t_Fr_aboveX {l1 : Int64} {l3 : Int64} {n : Nat} {I : xm_I} {L : xm_L} {K : Int64 → Prop} (hn : 86 ≤ n) (hF : ok (f_Fr_aboveX l1 l3 I) K) : xm_C 0 mt_Fr_aboveX [.ref 14, .long l1, .long l3] (I, L, RC n, n) 0 0 (pL (fun p : Int64 => p) (fun p : Int64 => (I, L, RC n, n)) K) := by
  unfold f_Fr_aboveX at hF
  refine xm_enter (by decide +kernel) dv_Fr_aboveX (Nat.le_of_ble_eq_true rfl) ?_
  exact t_Fr_aboveX_b0 hn (fun p hp => ⟨p, rfl, rfl, hp⟩) hF

noncomputable def f_Fr_aboveY_b0 (l1 : Int64) (l3 : Int64) (I : xm_I) : Option (Int64) :=
  some ((((Int32.toInt64 (I 14 5)) * l3) * (Int32.toInt64 (I 14 10))) - (((2 * l1) - ((Int32.toInt64 ((I 14 2) + (I 14 3))) * l3)) * (Int32.toInt64 (I 14 9))))
noncomputable def f_Fr_aboveY (l1 : Int64) (l3 : Int64) (I : xm_I) : Option (Int64) := f_Fr_aboveY_b0 l1 l3 I
set_option maxHeartbeats 4000000 in
set_option maxRecDepth 100000 in
theorem t_Fr_aboveY_b0 {l1 : Int64} {l3 : Int64} {n : Nat} {I : xm_I} {L : xm_L} {K : Int64 → Prop} {Q : Option Value → xm_H → Prop} (hn : 86 ≤ n) (hq : ∀ p : Int64, K p → Q (some (.long p)) (I, L, RC n, n)) (hF : ok (f_Fr_aboveY_b0 l1 l3 I) K) : xm_J 0 mt_Fr_aboveY 0 [(0, .ref 14), (1, .long l1), (3, .long l3)] [] (I, L, RC n, n) 0 0 Q := by
  unfold f_Fr_aboveY_b0 at hF
  refine r_aload_n (i := 0) (k0 := 0) rfl rfl rfl ?_
  refine q_geti (i := 1) rfl fl_Fr_25 (xm_in rfl hn) rfl ?_
  refine r_i2l (i := 2) rfl ?_
  refine r_lload_n (i := 3) (k0 := 2) rfl rfl rfl ?_
  refine r_lmul (i := 4) rfl ?_
  refine r_aload_n (i := 5) (k0 := 0) rfl rfl rfl ?_
  refine q_geti (i := 6) rfl fl_Fr_40 (xm_in rfl hn) rfl ?_
  refine r_i2l (i := 7) rfl ?_
  refine r_lmul (i := 8) rfl ?_
  refine r_ldc2 (i := 9) rfl ct_Fr_52 ?_
  refine r_lload_n (i := 10) (k0 := 1) rfl rfl rfl ?_
  refine r_lmul (i := 11) rfl ?_
  refine r_aload_n (i := 12) (k0 := 0) rfl rfl rfl ?_
  refine q_geti (i := 13) rfl fl_Fr_16 (xm_in rfl hn) rfl ?_
  refine r_aload_n (i := 14) (k0 := 0) rfl rfl rfl ?_
  refine q_geti (i := 15) rfl fl_Fr_19 (xm_in rfl hn) rfl ?_
  refine r_iadd (i := 16) rfl ?_
  refine r_i2l (i := 17) rfl ?_
  refine r_lload_n (i := 18) (k0 := 2) rfl rfl rfl ?_
  refine r_lmul (i := 19) rfl ?_
  refine r_lsub (i := 20) rfl ?_
  refine r_aload_n (i := 21) (k0 := 0) rfl rfl rfl ?_
  refine q_geti (i := 22) rfl fl_Fr_37 (xm_in rfl hn) rfl ?_
  refine r_i2l (i := 23) rfl ?_
  refine r_lmul (i := 24) rfl ?_
  refine r_lsub (i := 25) rfl ?_
  have hQ := hq _ (ok_some hF)
  exact r_lreturn (i := 26) rfl rfl hQ
set_option maxHeartbeats 4000000 in
set_option maxRecDepth 100000 in
theorem t_Fr_aboveY {l1 : Int64} {l3 : Int64} {n : Nat} {I : xm_I} {L : xm_L} {K : Int64 → Prop} (hn : 86 ≤ n) (hF : ok (f_Fr_aboveY l1 l3 I) K) : xm_C 0 mt_Fr_aboveY [.ref 14, .long l1, .long l3] (I, L, RC n, n) 0 0 (pL (fun p : Int64 => p) (fun p : Int64 => (I, L, RC n, n)) K) := by
  unfold f_Fr_aboveY at hF
  refine xm_enter (by decide +kernel) dv_Fr_aboveY (Nat.le_of_ble_eq_true rfl) ?_
  exact t_Fr_aboveY_b0 hn (fun p hp => ⟨p, rfl, rfl, hp⟩) hF

noncomputable def f_Fr_below_b0 (l1 : Int64) (I : xm_I) : Option (Int64) :=
  some ((2 * l1) * (Int32.toInt64 (I 14 10)))
noncomputable def f_Fr_below (l1 : Int64) (I : xm_I) : Option (Int64) := f_Fr_below_b0 l1 I
set_option maxHeartbeats 4000000 in
set_option maxRecDepth 100000 in
theorem t_Fr_below_b0 {l1 : Int64} {n : Nat} {I : xm_I} {L : xm_L} {K : Int64 → Prop} {Q : Option Value → xm_H → Prop} (hn : 86 ≤ n) (hq : ∀ p : Int64, K p → Q (some (.long p)) (I, L, RC n, n)) (hF : ok (f_Fr_below_b0 l1 I) K) : xm_J 0 mt_Fr_below 0 [(0, .ref 14), (1, .long l1)] [] (I, L, RC n, n) 0 0 Q := by
  unfold f_Fr_below_b0 at hF
  refine r_ldc2 (i := 0) rfl ct_Fr_52 ?_
  refine r_lload_n (i := 1) (k0 := 1) rfl rfl rfl ?_
  refine r_lmul (i := 2) rfl ?_
  refine r_aload_n (i := 3) (k0 := 0) rfl rfl rfl ?_
  refine q_geti (i := 4) rfl fl_Fr_40 (xm_in rfl hn) rfl ?_
  refine r_i2l (i := 5) rfl ?_
  refine r_lmul (i := 6) rfl ?_
  have hQ := hq _ (ok_some hF)
  exact r_lreturn (i := 7) rfl rfl hQ
set_option maxHeartbeats 4000000 in
set_option maxRecDepth 100000 in
theorem t_Fr_below {l1 : Int64} {n : Nat} {I : xm_I} {L : xm_L} {K : Int64 → Prop} (hn : 86 ≤ n) (hF : ok (f_Fr_below l1 I) K) : xm_C 0 mt_Fr_below [.ref 14, .long l1] (I, L, RC n, n) 0 0 (pL (fun p : Int64 => p) (fun p : Int64 => (I, L, RC n, n)) K) := by
  unfold f_Fr_below at hF
  refine xm_enter (by decide +kernel) dv_Fr_below (Nat.le_of_ble_eq_true rfl) ?_
  exact t_Fr_below_b0 hn (fun p hp => ⟨p, rfl, rfl, hp⟩) hF

noncomputable def f_Pt_squareFromBefore_b0 (x1 : Int32) (I : xm_I) : Option (Int64) :=
  (f_Pt_xNow x1 I).bind fun p_1 =>
  (f_Pt_xNow (x1 - 1) I).bind fun p_2 =>
  let l2_3 : Int64 := Int32.toInt64 (p_1 - p_2)
  (f_Pt_yNow x1 I).bind fun p_4 =>
  (f_Pt_yNow (x1 - 1) I).bind fun p_5 =>
  let l4_6 : Int64 := Int32.toInt64 (p_4 - p_5)
  some ((l2_3 * l2_3) + (l4_6 * l4_6))
noncomputable def f_Pt_squareFromBefore (x1 : Int32) (I : xm_I) : Option (Int64) := f_Pt_squareFromBefore_b0 x1 I
set_option maxHeartbeats 4000000 in
set_option maxRecDepth 100000 in
theorem t_Pt_squareFromBefore_b0 {x1 : Int32} {n : Nat} {I : xm_I} {L : xm_L} {K : Int64 → Prop} {Q : Option Value → xm_H → Prop} (hn : 86 ≤ n) (hq : ∀ p : Int64, K p → Q (some (.long p)) (I, L, RC n, n)) (hF : ok (f_Pt_squareFromBefore_b0 x1 I) K) : xm_J 2 mt_Pt_squareFromBefore 0 [(0, .ref 1), (1, .int x1)] [] (I, L, RC n, n) 0 0 Q := by
  unfold f_Pt_squareFromBefore_b0 at hF
  refine r_aload_n (i := 0) (k0 := 0) rfl rfl rfl ?_
  refine r_iload_n (i := 1) (k0 := 1) rfl rfl rfl ?_
  refine c_V1I (i := 2) rfl vm_Pt_xNow lk_Pt_40 (t_Pt_xNow hn (ok_bind hF)) (Nat.le_of_ble_eq_true rfl) (xm_in rfl hn) rfl rfl (Nat.le_of_ble_eq_true rfl) (fun p_1 hF => ?_)
  refine r_aload_n (i := 3) (k0 := 0) rfl rfl rfl ?_
  refine r_iload_n (i := 4) (k0 := 1) rfl rfl rfl ?_
  refine r_iconst (v := 1) (i := 5) rfl ki_1 ?_
  refine r_isub (i := 6) rfl ?_
  refine c_V1I (i := 7) rfl vm_Pt_xNow lk_Pt_40 (t_Pt_xNow hn (ok_bind hF)) (Nat.le_of_ble_eq_true rfl) (xm_in rfl hn) rfl rfl (Nat.le_of_ble_eq_true rfl) (fun p_2 hF => ?_)
  refine r_isub (i := 8) rfl ?_
  refine r_i2l (i := 9) rfl ?_
  refine r_lstore_n (i := 10) (Ls' := [(2, _), (0, _), (1, _)]) rfl rfl (Nat.le_of_ble_eq_true rfl) rfl ?_
  refine r_aload_n (i := 11) (k0 := 1) rfl rfl rfl ?_
  refine r_iload_n (i := 12) (k0 := 2) rfl rfl rfl ?_
  refine c_V1I (i := 13) rfl vm_Pt_yNow lk_Pt_44 (t_Pt_yNow hn (ok_bind hF)) (Nat.le_of_ble_eq_true rfl) (xm_in rfl hn) rfl rfl (Nat.le_of_ble_eq_true rfl) (fun p_4 hF => ?_)
  refine r_aload_n (i := 14) (k0 := 1) rfl rfl rfl ?_
  refine r_iload_n (i := 15) (k0 := 2) rfl rfl rfl ?_
  refine r_iconst (v := 1) (i := 16) rfl ki_1 ?_
  refine r_isub (i := 17) rfl ?_
  refine c_V1I (i := 18) rfl vm_Pt_yNow lk_Pt_44 (t_Pt_yNow hn (ok_bind hF)) (Nat.le_of_ble_eq_true rfl) (xm_in rfl hn) rfl rfl (Nat.le_of_ble_eq_true rfl) (fun p_5 hF => ?_)
  refine r_isub (i := 19) rfl ?_
  refine r_i2l (i := 20) rfl ?_
  refine r_lstore (i := 21) (Ls' := [(4, _), (2, _), (0, _), (1, _)]) rfl (Nat.le_of_ble_eq_true rfl) rfl ?_
  refine r_lload_n (i := 22) (k0 := 1) rfl rfl rfl ?_
  refine r_lload_n (i := 23) (k0 := 1) rfl rfl rfl ?_
  refine r_lmul (i := 24) rfl ?_
  refine r_lload (i := 25) (k0 := 0) rfl rfl ?_
  refine r_lload (i := 26) (k0 := 0) rfl rfl ?_
  refine r_lmul (i := 27) rfl ?_
  refine r_ladd (i := 28) rfl ?_
  have hQ := hq _ (ok_some hF)
  exact r_lreturn (i := 29) rfl rfl hQ
set_option maxHeartbeats 4000000 in
set_option maxRecDepth 100000 in
theorem t_Pt_squareFromBefore {x1 : Int32} {n : Nat} {I : xm_I} {L : xm_L} {K : Int64 → Prop} (hn : 86 ≤ n) (hF : ok (f_Pt_squareFromBefore x1 I) K) : xm_C 2 mt_Pt_squareFromBefore [.ref 1, .int x1] (I, L, RC n, n) 0 0 (pL (fun p : Int64 => p) (fun p : Int64 => (I, L, RC n, n)) K) := by
  unfold f_Pt_squareFromBefore at hF
  refine xm_enter (by decide +kernel) dv_Pt_squareFromBefore (Nat.le_of_ble_eq_true rfl) ?_
  exact t_Pt_squareFromBefore_b0 hn (fun p hp => ⟨p, rfl, rfl, hp⟩) hF

noncomputable def f_D_single_b110 (y0 : Int64) (I : xm_I) : Option (UInt32 × xm_I) :=
  (f_Fr_below 1 I).bind fun p_1 =>
  (f_D_commonDivisor y0 p_1).bind fun p_2 =>
  if p_2 ≤ 0 then (
    some (FP.fconst0, I))
  else (
  if 0 < p_1 then (
    gd (¬ p_2 = 0) <|
    gd (¬ p_2 = 0) <|
    some (FP.fdiv (FP.l2f (y0 / p_2)) (FP.l2f (p_1 / p_2)), I))
  else (
  some (FP.fconst0, I)))
noncomputable def f_D_single_b49 (x1 : Int32) (x2 : Int32) (I : xm_I) : Option (UInt32 × xm_I) :=
  let I_1 : xm_I := up2 I 0 9 0
  if x2 = 2 then (
    (f_Pt_squareFromBefore x1 I_1).bind fun p_6 =>
    some (FP.l2f p_6, I_1))
  else (
    if x2 = 0 then (
      (f_Pt_xNow x1 I_1).bind fun p_4 =>
      (f_Fr_aboveX (Int32.toInt64 p_4) 1 I_1).bind fun p_5 =>
      f_D_single_b110 p_5 I_1)
    else (
      (f_Pt_yNow x1 I_1).bind fun p_2 =>
      (f_Fr_aboveY (Int32.toInt64 p_2) 1 I_1).bind fun p_3 =>
      f_D_single_b110 p_3 I_1))
noncomputable def f_D_single_b0 (x1 : Int32) (x2 : Int32) (I : xm_I) : Option (UInt32 × xm_I) :=
  (f_Pt_has x1 I).bind fun p_1 =>
  if p_1 = 0 then (
    some (3351466112, I))
  else (
    (f_D_isWithin x2 0 2).bind fun p_2 =>
    if p_2 = 0 then (
      some (3351466240, I))
    else (
      if x2 = 2 then (
        f_D_single_b49 x1 x2 I)
      else (
      (f_Fr_hasScale I).bind fun p_3 =>
      if p_3 = 0 then (
        (f_D_endWith 6 I).bind fun p_4 =>
        some (FP.i2f p_4.1, p_4.2))
      else (
        f_D_single_b49 x1 x2 I))))
noncomputable def f_D_single (x1 : Int32) (x2 : Int32) (I : xm_I) : Option (UInt32 × xm_I) := f_D_single_b0 x1 x2 I
set_option maxHeartbeats 4000000 in
set_option maxRecDepth 100000 in
theorem t_D_single_b110 {y0 : Int64} {n : Nat} {I : xm_I} {L : xm_L} {K : UInt32 × xm_I → Prop} {Q : Option Value → xm_H → Prop} (hn : 86 ≤ n) (hq : ∀ (p : UInt32 × xm_I) (r : UInt32), alike32 r (p.1) = true → K p → Q (some (.float r)) (p.2, L, RC n, n)) (hF : ok (f_D_single_b110 y0 I) K) : xm_J 3 mt_D_single 110 [(0, .ref 0)] [.long y0] (I, L, RC n, n) 0 0 Q := by
  unfold f_D_single_b110 at hF
  refine r_lstore_n (i := 59) (Ls' := [(3, _), (0, _)]) rfl rfl (Nat.le_of_ble_eq_true rfl) rfl ?_
  refine r_aload_n (i := 60) (k0 := 1) rfl rfl rfl ?_
  refine q_getr (b := 14) (i := 61) rfl fl_D_28 rfl (xm_in rfl hn) rfl rfl ?_
  refine r_lconst (v := 1) (i := 62) rfl rfl ?_
  refine c_V1L (i := 63) rfl vm_Fr_below lk_D_231 (t_Fr_below hn (ok_bind hF)) (Nat.le_of_ble_eq_true rfl) (xm_in rfl hn) rfl rfl (Nat.le_of_ble_eq_true rfl) (fun p_1 hF => ?_)
  refine r_lstore (i := 64) (Ls' := [(5, _), (3, _), (0, _)]) rfl (Nat.le_of_ble_eq_true rfl) rfl ?_
  refine r_lload_n (i := 65) (k0 := 1) rfl rfl rfl ?_
  refine r_lload (i := 66) (k0 := 0) rfl rfl ?_
  refine c_S2L (i := 67) rfl sm_D_commonDivisor lk_D_235 (t_D_commonDivisor hn (ok_bind hF)) (Nat.le_of_ble_eq_true rfl) rfl (Nat.le_of_ble_eq_true rfl) (fun p_2 hF => ?_)
  refine r_lstore (i := 68) (Ls' := [(7, _), (5, _), (3, _), (0, _)]) rfl (Nat.le_of_ble_eq_true rfl) rfl ?_
  refine r_lload (i := 69) (k0 := 0) rfl rfl ?_
  refine r_lconst (v := 0) (i := 70) rfl rfl ?_
  refine r_lcmple (i := 71) (j := 72) (tgt := 143) rfl rfl (by decide) (fun hc => ?_) (fun hc => ?_)
  · have hF := ok_it hc hF
    refine r_fconst0 (i := 77) rfl ?_
    exact r_freturn (i := 78) rfl rfl (hq _ _ (xm_al32 _) (ok_some hF))
  have hF := ok_if hc hF
  refine r_lload (i := 73) (k0 := 1) rfl rfl ?_
  refine r_lconst (v := 0) (i := 74) rfl rfl ?_
  refine r_lcmpgt (i := 75) (j := 76) (tgt := 145) rfl rfl (by decide) (fun hc => ?_) (fun hc => ?_)
  · have hF := ok_it hc hF
    refine r_lload_n (i := 79) (k0 := 2) rfl rfl rfl ?_
    refine r_lload (i := 80) (k0 := 0) rfl rfl ?_
    obtain ⟨hi, hF⟩ := ok_gd hF
    refine r_ldiv (i := 81) rfl hi ?_
    refine r_l2f (i := 82) rfl ?_
    refine r_lload (i := 83) (k0 := 1) rfl rfl ?_
    refine r_lload (i := 84) (k0 := 0) rfl rfl ?_
    obtain ⟨hi, hF⟩ := ok_gd hF
    refine r_ldiv (i := 85) rfl hi ?_
    refine r_l2f (i := 86) rfl ?_
    refine r_fdiv (i := 87) rfl (fun r hal => ?_)
    exact r_freturn (i := 88) rfl rfl (hq _ _ hal (ok_some hF))
  have hF := ok_if hc hF
  refine r_fconst0 (i := 77) rfl ?_
  exact r_freturn (i := 78) rfl rfl (hq _ _ (xm_al32 _) (ok_some hF))
set_option maxHeartbeats 4000000 in
set_option maxRecDepth 100000 in
theorem t_D_single_b49 {x1 : Int32} {x2 : Int32} {n : Nat} {I : xm_I} {L : xm_L} {K : UInt32 × xm_I → Prop} {Q : Option Value → xm_H → Prop} (hn : 86 ≤ n) (hq : ∀ (p : UInt32 × xm_I) (r : UInt32), alike32 r (p.1) = true → K p → Q (some (.float r)) (p.2, L, RC n, n)) (hF : ok (f_D_single_b49 x1 x2 I) K) : xm_J 3 mt_D_single 49 [(0, .ref 0), (1, .int x1), (2, .int x2)] [] (I, L, RC n, n) 0 0 Q := by
  unfold f_D_single_b49 at hF
  refine r_aload_n (i := 26) (k0 := 0) rfl rfl rfl ?_
  refine r_iconst (v := 0) (i := 27) rfl ki_0 ?_
  refine q_puti (i := 28) rfl fl_D_78 (fun h => Bool.noConfusion h) (xm_in rfl hn) rfl ?_
  refine r_iload_n (i := 29) (k0 := 2) rfl rfl rfl ?_
  refine r_iconst (v := 2) (i := 30) rfl ki_2 ?_
  refine r_icmpne (i := 31) (tgt := 69) rfl (by decide) (fun hc => ?_) (fun hc => ?_)
  · have hF := ok_if hc hF
    refine r_iload_n (i := 38) (k0 := 2) rfl rfl rfl ?_
    refine r_ifne (i := 39) (tgt := 93) rfl (by decide) (fun hc => ?_) (fun hc => ?_)
    · have hF := ok_if hc hF
      refine r_aload_n (i := 50) (k0 := 0) rfl rfl rfl ?_
      refine q_getr (b := 14) (i := 51) rfl fl_D_28 rfl (xm_in rfl hn) rfl rfl ?_
      refine r_aload_n (i := 52) (k0 := 0) rfl rfl rfl ?_
      refine q_getr (b := 1) (i := 53) rfl fl_D_10 rfl (xm_in rfl hn) rfl rfl ?_
      refine r_iload_n (i := 54) (k0 := 1) rfl rfl rfl ?_
      refine c_V1I (i := 55) rfl vm_Pt_yNow lk_D_112 (t_Pt_yNow hn (ok_bind hF)) (Nat.le_of_ble_eq_true rfl) (xm_in rfl hn) rfl rfl (Nat.le_of_ble_eq_true rfl) (fun p_2 hF => ?_)
      refine r_i2l (i := 56) rfl ?_
      refine r_lconst (v := 1) (i := 57) rfl rfl ?_
      refine c_V2L (i := 58) rfl vm_Fr_aboveY lk_D_228 (t_Fr_aboveY hn (ok_bind hF)) (Nat.le_of_ble_eq_true rfl) (xm_in rfl hn) rfl rfl (Nat.le_of_ble_eq_true rfl) (fun p_3 hF => ?_)
      refine xm_sub (Ls' := [(0, _)]) [0] rfl ?_
      exact t_D_single_b110 hn (fun p r hr h => hq p r hr h) hF
    have hF := ok_it hc hF
    refine r_aload_n (i := 40) (k0 := 0) rfl rfl rfl ?_
    refine q_getr (b := 14) (i := 41) rfl fl_D_28 rfl (xm_in rfl hn) rfl rfl ?_
    refine r_aload_n (i := 42) (k0 := 0) rfl rfl rfl ?_
    refine q_getr (b := 1) (i := 43) rfl fl_D_10 rfl (xm_in rfl hn) rfl rfl ?_
    refine r_iload_n (i := 44) (k0 := 1) rfl rfl rfl ?_
    refine c_V1I (i := 45) rfl vm_Pt_xNow lk_D_108 (t_Pt_xNow hn (ok_bind hF)) (Nat.le_of_ble_eq_true rfl) (xm_in rfl hn) rfl rfl (Nat.le_of_ble_eq_true rfl) (fun p_4 hF => ?_)
    refine r_i2l (i := 46) rfl ?_
    refine r_lconst (v := 1) (i := 47) rfl rfl ?_
    refine c_V2L (i := 48) rfl vm_Fr_aboveX lk_D_224 (t_Fr_aboveX hn (ok_bind hF)) (Nat.le_of_ble_eq_true rfl) (xm_in rfl hn) rfl rfl (Nat.le_of_ble_eq_true rfl) (fun p_5 hF => ?_)
    refine r_goto (i := 49) (tgt := 110) rfl (by decide) ?_
    refine xm_sub (Ls' := [(0, _)]) [0] rfl ?_
    exact t_D_single_b110 hn (fun p r hr h => hq p r hr h) hF
  have hF := ok_it hc hF
  refine r_aload_n (i := 32) (k0 := 0) rfl rfl rfl ?_
  refine q_getr (b := 1) (i := 33) rfl fl_D_10 rfl (xm_in rfl hn) rfl rfl ?_
  refine r_iload_n (i := 34) (k0 := 1) rfl rfl rfl ?_
  refine c_V1L (i := 35) rfl vm_Pt_squareFromBefore lk_D_221 (t_Pt_squareFromBefore hn (ok_bind hF)) (Nat.le_of_ble_eq_true rfl) (xm_in rfl hn) rfl rfl (Nat.le_of_ble_eq_true rfl) (fun p_6 hF => ?_)
  refine r_l2f (i := 36) rfl ?_
  exact r_freturn (i := 37) rfl rfl (hq _ _ (xm_al32 _) (ok_some hF))
set_option maxHeartbeats 4000000 in
set_option maxRecDepth 100000 in
theorem t_D_single_b0 {x1 : Int32} {x2 : Int32} {n : Nat} {I : xm_I} {L : xm_L} {K : UInt32 × xm_I → Prop} {Q : Option Value → xm_H → Prop} (hn : 86 ≤ n) (hq : ∀ (p : UInt32 × xm_I) (r : UInt32), alike32 r (p.1) = true → K p → Q (some (.float r)) (p.2, L, RC n, n)) (hF : ok (f_D_single_b0 x1 x2 I) K) : xm_J 3 mt_D_single 0 [(0, .ref 0), (1, .int x1), (2, .int x2)] [] (I, L, RC n, n) 0 0 Q := by
  unfold f_D_single_b0 at hF
  refine r_aload_n (i := 0) (k0 := 0) rfl rfl rfl ?_
  refine q_getr (b := 1) (i := 1) rfl fl_D_10 rfl (xm_in rfl hn) rfl rfl ?_
  refine r_iload_n (i := 2) (k0 := 1) rfl rfl rfl ?_
  refine c_V1I (i := 3) rfl vm_Pt_has lk_D_96 (t_Pt_has hn (ok_bind hF)) (Nat.le_of_ble_eq_true rfl) (xm_in rfl hn) rfl rfl (Nat.le_of_ble_eq_true rfl) (fun p_1 hF => ?_)
  refine r_ifne (i := 4) (tgt := 14) rfl (by decide) (fun hc => ?_) (fun hc => ?_)
  · have hF := ok_if hc hF
    refine r_iload_n (i := 7) (k0 := 2) rfl rfl rfl ?_
    refine r_iconst (v := 0) (i := 8) rfl ki_0 ?_
    refine r_iconst (v := 2) (i := 9) rfl ki_2 ?_
    refine c_S3I (i := 10) rfl sm_D_isWithin lk_D_82 (t_D_isWithin hn (ok_bind hF)) (Nat.le_of_ble_eq_true rfl) rfl (Nat.le_of_ble_eq_true rfl) (fun p_2 hF => ?_)
    refine r_ifne (i := 11) (tgt := 26) rfl (by decide) (fun hc => ?_) (fun hc => ?_)
    · have hF := ok_if hc hF
      refine r_iload_n (i := 14) (k0 := 2) rfl rfl rfl ?_
      refine r_iconst (v := 2) (i := 15) rfl ki_2 ?_
      refine r_icmpeq (i := 16) (tgt := 49) rfl (by decide) (fun hc => ?_) (fun hc => ?_)
      · have hF := ok_it hc hF
        exact t_D_single_b49 hn (fun p r hr h => hq p r hr h) hF
      have hF := ok_if hc hF
      refine r_aload_n (i := 17) (k0 := 0) rfl rfl rfl ?_
      refine q_getr (b := 14) (i := 18) rfl fl_D_28 rfl (xm_in rfl hn) rfl rfl ?_
      refine c_V0I (i := 19) rfl vm_Fr_hasScale lk_D_207 (t_Fr_hasScale hn (ok_bind hF)) (Nat.le_of_ble_eq_true rfl) (xm_in rfl hn) rfl rfl (Nat.le_of_ble_eq_true rfl) (fun p_3 hF => ?_)
      refine r_ifne (i := 20) (tgt := 49) rfl (by decide) (fun hc => ?_) (fun hc => ?_)
      · have hF := ok_if hc hF
        exact t_D_single_b49 hn (fun p r hr h => hq p r hr h) hF
      have hF := ok_it hc hF
      refine r_aload_n (i := 21) (k0 := 0) rfl rfl rfl ?_
      refine r_bipush (v := 6) (i := 22) rfl kb_6 ?_
      refine c_V1I (i := 23) rfl vm_D_endWith lk_D_210 (t_D_endWith hn (ok_bind hF)) (Nat.le_of_ble_eq_true rfl) (xm_in rfl hn) rfl rfl (Nat.le_of_ble_eq_true rfl) (fun p_4 hF => ?_)
      refine r_i2f (i := 24) rfl ?_
      exact r_freturn (i := 25) rfl rfl (hq _ _ (xm_al32 _) (ok_some hF))
    have hF := ok_it hc hF
    refine r_ldcf (i := 12) rfl ct_D_220 ?_
    exact r_freturn (i := 13) rfl rfl (hq _ _ (xm_al32 _) (ok_some hF))
  have hF := ok_it hc hF
  refine r_ldcf (i := 5) rfl ct_D_219 ?_
  exact r_freturn (i := 6) rfl rfl (hq _ _ (xm_al32 _) (ok_some hF))
set_option maxHeartbeats 4000000 in
set_option maxRecDepth 100000 in
theorem t_D_single {x1 : Int32} {x2 : Int32} {n : Nat} {I : xm_I} {L : xm_L} {K : UInt32 × xm_I → Prop} (hn : 86 ≤ n) (hF : ok (f_D_single x1 x2 I) K) : xm_C 3 mt_D_single [.ref 0, .int x1, .int x2] (I, L, RC n, n) 0 0 (pF (fun p : UInt32 × xm_I => p.1) (fun p : UInt32 × xm_I => (p.2, L, RC n, n)) K) := by
  unfold f_D_single at hF
  refine xm_enter (by decide +kernel) dv_D_single (Nat.le_of_ble_eq_true rfl) ?_
  exact t_D_single_b0 hn (fun p r hr hp => ⟨p, r, rfl, hr, rfl, hp⟩) hF

noncomputable def f_Ss_isFull_b0 (I : xm_I) : Option (Int32) :=
  if (I 15 1) < 4 then (
    some (0))
  else (
  some (1))
noncomputable def f_Ss_isFull (I : xm_I) : Option (Int32) := f_Ss_isFull_b0 I
set_option maxHeartbeats 4000000 in
set_option maxRecDepth 100000 in
theorem t_Ss_isFull_b0 {n : Nat} {I : xm_I} {L : xm_L} {K : Int32 → Prop} {Q : Option Value → xm_H → Prop} (hn : 86 ≤ n) (hq : ∀ p : Int32, K p → Q (some (.int p)) (I, L, RC n, n)) (hF : ok (f_Ss_isFull_b0 I) K) : xm_J 0 mt_Ss_isFull 0 [(0, .ref 15)] [] (I, L, RC n, n) 0 0 Q := by
  unfold f_Ss_isFull_b0 at hF
  refine r_aload_n (i := 0) (k0 := 0) rfl rfl rfl ?_
  refine q_geti (i := 1) rfl fl_Ss_17 (xm_in rfl hn) rfl ?_
  refine r_iconst (v := 4) (i := 2) rfl ki_4 ?_
  refine r_icmplt (i := 3) (tgt := 12) rfl (by decide) (fun hc => ?_) (fun hc => ?_)
  · have hF := ok_it hc hF
    refine r_iconst (v := 0) (i := 6) rfl ki_0 ?_
    have hQ := hq _ (ok_some hF)
    exact r_ireturn (i := 7) rfl rfl rfl hQ
  have hF := ok_if hc hF
  refine r_iconst (v := 1) (i := 4) rfl ki_1 ?_
  refine r_goto (i := 5) (tgt := 13) rfl (by decide) ?_
  have hQ := hq _ (ok_some hF)
  exact r_ireturn (i := 7) rfl rfl rfl hQ
set_option maxHeartbeats 4000000 in
set_option maxRecDepth 100000 in
theorem t_Ss_isFull {n : Nat} {I : xm_I} {L : xm_L} {K : Int32 → Prop} (hn : 86 ≤ n) (hF : ok (f_Ss_isFull I) K) : xm_C 0 mt_Ss_isFull [.ref 15] (I, L, RC n, n) 0 0 (pI (fun p : Int32 => p) (fun p : Int32 => (I, L, RC n, n)) K) := by
  unfold f_Ss_isFull at hF
  refine xm_enter (by decide +kernel) dv_Ss_isFull (Nat.le_of_ble_eq_true rfl) ?_
  exact t_Ss_isFull_b0 hn (fun p hp => ⟨p, rfl, rfl, hp⟩) hF

noncomputable def f_So_verticesAreFull_b0 (r0 : Nat) (I : xm_I) : Option (Int32) :=
  if (I r0 9) < 12 then (
    some (0))
  else (
  some (1))
noncomputable def f_So_verticesAreFull (r0 : Nat) (I : xm_I) : Option (Int32) := f_So_verticesAreFull_b0 r0 I
set_option maxHeartbeats 4000000 in
set_option maxRecDepth 100000 in
theorem t_So_verticesAreFull_b0 {r0 : Nat} {n : Nat} {I : xm_I} {L : xm_L} {K : Int32 → Prop} {Q : Option Value → xm_H → Prop} (hn : 86 ≤ n) (hsr0 : xm_sd n r0) (hq : ∀ p : Int32, K p → Q (some (.int p)) (I, L, RC n, n)) (hF : ok (f_So_verticesAreFull_b0 r0 I) K) : xm_J 0 mt_So_verticesAreFull 0 [(0, .ref r0)] [] (I, L, RC n, n) 0 0 Q := by
  unfold f_So_verticesAreFull_b0 at hF
  refine r_aload_n (i := 0) (k0 := 0) rfl rfl rfl ?_
  refine q_geti (i := 1) rfl fl_So_40 (xm_sdn hsr0 0 (by decide)) (xm_sdL hsr0 0 (by decide) rfl) ?_
  refine r_bipush (v := 12) (i := 2) rfl kb_12 ?_
  refine r_icmplt (i := 3) (tgt := 13) rfl (by decide) (fun hc => ?_) (fun hc => ?_)
  · have hF := ok_it hc hF
    refine r_iconst (v := 0) (i := 6) rfl ki_0 ?_
    have hQ := hq _ (ok_some hF)
    exact r_ireturn (i := 7) rfl rfl rfl hQ
  have hF := ok_if hc hF
  refine r_iconst (v := 1) (i := 4) rfl ki_1 ?_
  refine r_goto (i := 5) (tgt := 14) rfl (by decide) ?_
  have hQ := hq _ (ok_some hF)
  exact r_ireturn (i := 7) rfl rfl rfl hQ
set_option maxHeartbeats 4000000 in
set_option maxRecDepth 100000 in
theorem t_So_verticesAreFull {r0 : Nat} {n : Nat} {I : xm_I} {L : xm_L} {K : Int32 → Prop} (hn : 86 ≤ n) (hsr0 : xm_sd n r0) (hF : ok (f_So_verticesAreFull r0 I) K) : xm_C 0 mt_So_verticesAreFull [.ref r0] (I, L, RC n, n) 0 0 (pI (fun p : Int32 => p) (fun p : Int32 => (I, L, RC n, n)) K) := by
  unfold f_So_verticesAreFull at hF
  refine xm_enter (by decide +kernel) dv_So_verticesAreFull (Nat.le_of_ble_eq_true rfl) ?_
  exact t_So_verticesAreFull_b0 hn hsr0 (fun p hp => ⟨p, rfl, rfl, hp⟩) hF

noncomputable def f_So_addVertex_b0 (r0 : Nat) (x1 : Int32) (x2 : Int32) (x3 : Int32) (I : xm_I) : Option (Int32 × xm_I) :=
  (f_So_verticesAreFull r0 I).bind fun p_1 =>
  if p_1 = 0 then (
    gd (0 ≤ (I r0 9).toInt ∧ (I r0 9).toInt < 12) <|
    let I_2 : xm_I := up2 I (r0 + 1) (Int32.toNatClampNeg (I r0 9)) x1
    gd (0 ≤ (I_2 r0 9).toInt ∧ (I_2 r0 9).toInt < 12) <|
    let I_3 : xm_I := up2 I_2 (r0 + 2) (Int32.toNatClampNeg (I_2 r0 9)) x2
    gd (0 ≤ (I_3 r0 9).toInt ∧ (I_3 r0 9).toInt < 12) <|
    let I_4 : xm_I := up2 I_3 (r0 + 3) (Int32.toNatClampNeg (I_3 r0 9)) x3
    let I_5 : xm_I := up2 I_4 r0 9 ((I_4 r0 9) + 1)
    some ((I_5 r0 9) - 1, I_5))
  else (
  some ((-100004), I))
noncomputable def f_So_addVertex (r0 : Nat) (x1 : Int32) (x2 : Int32) (x3 : Int32) (I : xm_I) : Option (Int32 × xm_I) := f_So_addVertex_b0 r0 x1 x2 x3 I
set_option maxHeartbeats 4000000 in
set_option maxRecDepth 100000 in
theorem t_So_addVertex_b0 {r0 : Nat} {x1 : Int32} {x2 : Int32} {x3 : Int32} {n : Nat} {I : xm_I} {L : xm_L} {K : Int32 × xm_I → Prop} {Q : Option Value → xm_H → Prop} (hn : 86 ≤ n) (hsr0 : xm_sd n r0) (hq : ∀ p : Int32 × xm_I, K p → Q (some (.int p.1)) (p.2, L, RC n, n)) (hF : ok (f_So_addVertex_b0 r0 x1 x2 x3 I) K) : xm_J 1 mt_So_addVertex 0 [(0, .ref r0), (1, .int x1), (2, .int x2), (3, .int x3)] [] (I, L, RC n, n) 0 0 Q := by
  unfold f_So_addVertex_b0 at hF
  refine r_aload_n (i := 0) (k0 := 0) rfl rfl rfl ?_
  refine c_V0I (i := 1) rfl vm_So_verticesAreFull lk_So_46 (t_So_verticesAreFull hn hsr0 (ok_bind hF)) (Nat.le_of_ble_eq_true rfl) (xm_sdn hsr0 0 (by decide)) (xm_sdL hsr0 0 (by decide) rfl) rfl (Nat.le_of_ble_eq_true rfl) (fun p_1 hF => ?_)
  refine r_ifeq (i := 2) (tgt := 10) rfl (by decide) (fun hc => ?_) (fun hc => ?_)
  · have hF := ok_it hc hF
    refine r_aload_n (i := 5) (k0 := 0) rfl rfl rfl ?_
    refine q_getr (b := r0 + 1) (i := 6) rfl fl_So_11 rfl (xm_sdn hsr0 0 (by decide)) (xm_sdL hsr0 0 (by decide) rfl) (xm_sr2 hsr0) ?_
    refine r_aload_n (i := 7) (k0 := 0) rfl rfl rfl ?_
    refine q_geti (i := 8) rfl fl_So_40 (xm_sdn hsr0 0 (by decide)) (xm_sdL hsr0 0 (by decide) rfl) ?_
    refine r_iload_n (i := 9) (k0 := 1) rfl rfl rfl ?_
    obtain ⟨hi, hF⟩ := ok_gd hF
    refine q_iastore (i := 10) rfl (xm_sdn hsr0 1 (by decide)) (xm_sdL hsr0 1 (by decide) rfl) hi ?_
    refine r_aload_n (i := 11) (k0 := 0) rfl rfl rfl ?_
    refine q_getr (b := r0 + 2) (i := 12) rfl fl_So_15 rfl (xm_sdn hsr0 0 (by decide)) (xm_sdL hsr0 0 (by decide) rfl) (xm_sr3 hsr0) ?_
    refine r_aload_n (i := 13) (k0 := 0) rfl rfl rfl ?_
    refine q_geti (i := 14) rfl fl_So_40 (xm_sdn hsr0 0 (by decide)) (xm_sdL hsr0 0 (by decide) rfl) ?_
    refine r_iload_n (i := 15) (k0 := 2) rfl rfl rfl ?_
    obtain ⟨hi, hF⟩ := ok_gd hF
    refine q_iastore (i := 16) rfl (xm_sdn hsr0 2 (by decide)) (xm_sdL hsr0 2 (by decide) rfl) hi ?_
    refine r_aload_n (i := 17) (k0 := 0) rfl rfl rfl ?_
    refine q_getr (b := r0 + 3) (i := 18) rfl fl_So_18 rfl (xm_sdn hsr0 0 (by decide)) (xm_sdL hsr0 0 (by decide) rfl) (xm_sr4 hsr0) ?_
    refine r_aload_n (i := 19) (k0 := 0) rfl rfl rfl ?_
    refine q_geti (i := 20) rfl fl_So_40 (xm_sdn hsr0 0 (by decide)) (xm_sdL hsr0 0 (by decide) rfl) ?_
    refine r_iload_n (i := 21) (k0 := 3) rfl rfl rfl ?_
    obtain ⟨hi, hF⟩ := ok_gd hF
    refine q_iastore (i := 22) rfl (xm_sdn hsr0 3 (by decide)) (xm_sdL hsr0 3 (by decide) rfl) hi ?_
    refine r_aload_n (i := 23) (k0 := 0) rfl rfl rfl ?_
    refine r_dup (i := 24) rfl rfl ?_
    refine q_geti (i := 25) rfl fl_So_40 (xm_sdn hsr0 0 (by decide)) (xm_sdL hsr0 0 (by decide) rfl) ?_
    refine r_iconst (v := 1) (i := 26) rfl ki_1 ?_
    refine r_iadd (i := 27) rfl ?_
    refine q_puti (i := 28) rfl fl_So_40 (fun h => Bool.noConfusion h) (xm_sdn hsr0 0 (by decide)) (xm_sdL hsr0 0 (by decide) rfl) ?_
    refine r_aload_n (i := 29) (k0 := 0) rfl rfl rfl ?_
    refine q_geti (i := 30) rfl fl_So_40 (xm_sdn hsr0 0 (by decide)) (xm_sdL hsr0 0 (by decide) rfl) ?_
    refine r_iconst (v := 1) (i := 31) rfl ki_1 ?_
    refine r_isub (i := 32) rfl ?_
    have hQ := hq _ (ok_some hF)
    exact r_ireturn (i := 33) rfl rfl rfl hQ
  have hF := ok_if hc hF
  refine r_ldc (i := 3) rfl ct_So_50 ?_
  have hQ := hq _ (ok_some hF)
  exact r_ireturn (i := 4) rfl rfl rfl hQ
set_option maxHeartbeats 4000000 in
set_option maxRecDepth 100000 in
theorem t_So_addVertex {r0 : Nat} {x1 : Int32} {x2 : Int32} {x3 : Int32} {n : Nat} {I : xm_I} {L : xm_L} {K : Int32 × xm_I → Prop} (hn : 86 ≤ n) (hsr0 : xm_sd n r0) (hF : ok (f_So_addVertex r0 x1 x2 x3 I) K) : xm_C 1 mt_So_addVertex [.ref r0, .int x1, .int x2, .int x3] (I, L, RC n, n) 0 0 (pI (fun p : Int32 × xm_I => p.1) (fun p : Int32 × xm_I => (p.2, L, RC n, n)) K) := by
  unfold f_So_addVertex at hF
  refine xm_enter (by decide +kernel) dv_So_addVertex (Nat.le_of_ble_eq_true rfl) ?_
  exact t_So_addVertex_b0 hn hsr0 (fun p hp => ⟨p, rfl, rfl, hp⟩) hF

noncomputable def f_Ss_find_b0 (x1 : Int32) (n : Nat) (I : xm_I) : Option (Option Nat) :=
  if x1 < 0 then (
    some (none))
  else (
  if (I 15 1) ≤ x1 then (
    some (none))
  else (
  if 4 ≤ x1 then (
    some (none))
  else (
  gd (0 ≤ (x1).toInt ∧ (x1).toInt < 4) <|
  some (RC n 16 (Int32.toNatClampNeg x1)))))
noncomputable def f_Ss_find (x1 : Int32) (n : Nat) (I : xm_I) : Option (Option Nat) := f_Ss_find_b0 x1 n I
set_option maxHeartbeats 4000000 in
set_option maxRecDepth 100000 in
theorem t_Ss_find_b0 {x1 : Int32} {n : Nat} {I : xm_I} {L : xm_L} {K : Option Nat → Prop} {Q : Option Value → xm_H → Prop} (hn : 86 ≤ n) (hq : ∀ p : Option Nat, K p → Q (some ((va_rf p))) (I, L, RC n, n)) (hF : ok (f_Ss_find_b0 x1 n I) K) : xm_J 0 mt_Ss_find 0 [(0, .ref 15), (1, .int x1)] [] (I, L, RC n, n) 0 0 Q := by
  unfold f_Ss_find_b0 at hF
  refine r_iload_n (i := 0) (k0 := 1) rfl rfl rfl ?_
  refine r_iflt (i := 1) (tgt := 26) rfl (by decide) (fun hc => ?_) (fun hc => ?_)
  · have hF := ok_it hc hF
    refine r_null (i := 14) rfl ?_
    exact r_areturn (x := none) (i := 15) rfl rfl (hq _ (ok_some hF))
  have hF := ok_if hc hF
  refine r_iload_n (i := 2) (k0 := 1) rfl rfl rfl ?_
  refine r_aload_n (i := 3) (k0 := 0) rfl rfl rfl ?_
  refine q_geti (i := 4) rfl fl_Ss_17 (xm_in rfl hn) rfl ?_
  refine r_icmpge (i := 5) (tgt := 26) rfl (by decide) (fun hc => ?_) (fun hc => ?_)
  · have hF := ok_it hc hF
    refine r_null (i := 14) rfl ?_
    exact r_areturn (x := none) (i := 15) rfl rfl (hq _ (ok_some hF))
  have hF := ok_if hc hF
  refine r_iload_n (i := 6) (k0 := 1) rfl rfl rfl ?_
  refine r_iconst (v := 4) (i := 7) rfl ki_4 ?_
  refine r_icmpge (i := 8) (tgt := 26) rfl (by decide) (fun hc => ?_) (fun hc => ?_)
  · have hF := ok_it hc hF
    refine r_null (i := 14) rfl ?_
    exact r_areturn (x := none) (i := 15) rfl rfl (hq _ (ok_some hF))
  have hF := ok_if hc hF
  refine r_aload_n (i := 9) (k0 := 0) rfl rfl rfl ?_
  refine q_getr (b := 16) (i := 10) rfl fl_Ss_13 rfl (xm_in rfl hn) rfl rfl ?_
  refine r_iload_n (i := 11) (k0 := 1) rfl rfl rfl ?_
  obtain ⟨hi, hF⟩ := ok_gd hF
  refine q_aaload (i := 12) rfl (xm_in rfl hn) rfl hi ?_
  refine r_goto (i := 13) (tgt := 27) rfl (by decide) ?_
  exact r_areturn (x := RC n 16 (Int32.toNatClampNeg x1)) (i := 15) rfl rfl (hq _ (ok_some hF))
set_option maxHeartbeats 4000000 in
set_option maxRecDepth 100000 in
theorem t_Ss_find {x1 : Int32} {n : Nat} {I : xm_I} {L : xm_L} {K : Option Nat → Prop} (hn : 86 ≤ n) (hF : ok (f_Ss_find x1 n I) K) : xm_C 0 mt_Ss_find [.ref 15, .int x1] (I, L, RC n, n) 0 0 (pR (fun p : Option Nat => p) (fun p : Option Nat => (I, L, RC n, n)) K) := by
  unfold f_Ss_find at hF
  refine xm_enter (by decide +kernel) dv_Ss_find (Nat.le_of_ble_eq_true rfl) ?_
  exact t_Ss_find_b0 hn (fun p hp => ⟨p, rfl, rfl, hp⟩) hF

noncomputable def f_D_vertex_b0 (x1 : Int32) (x2 : Int32) (x3 : Int32) (x4 : Int32) (n : Nat) (I : xm_I) : Option (Int32 × xm_I) :=
  (f_Ss_find x1 n I).bind fun p_1 =>
  mo p_1 (
    some ((-100001), I)) (fun r_2 => gd (xm_sd n r_2) (
    (f_D_isWithin x2 (-100) 100).bind fun p_4 =>
    if p_4 = 0 then (
      some ((-100002), I))
    else (
    (f_D_isWithin x3 (-100) 100).bind fun p_5 =>
    if p_5 = 0 then (
      some ((-100002), I))
    else (
    (f_D_isWithin x4 (-100) 100).bind fun p_6 =>
    if p_6 = 0 then (
      some ((-100002), I))
    else (
      (f_So_verticesAreFull r_2 I).bind fun p_7 =>
      if p_7 = 0 then (
        (f_So_addVertex r_2 x2 x3 x4 I).bind fun p_8 =>
        some (p_8.1, p_8.2))
      else (
      some ((-100004), I)))))))
noncomputable def f_D_vertex (x1 : Int32) (x2 : Int32) (x3 : Int32) (x4 : Int32) (n : Nat) (I : xm_I) : Option (Int32 × xm_I) := f_D_vertex_b0 x1 x2 x3 x4 n I
set_option maxHeartbeats 4000000 in
set_option maxRecDepth 100000 in
theorem t_D_vertex_b0 {x1 : Int32} {x2 : Int32} {x3 : Int32} {x4 : Int32} {n : Nat} {I : xm_I} {L : xm_L} {K : Int32 × xm_I → Prop} {Q : Option Value → xm_H → Prop} (hn : 86 ≤ n) (hq : ∀ p : Int32 × xm_I, K p → Q (some (.int p.1)) (p.2, L, RC n, n)) (hF : ok (f_D_vertex_b0 x1 x2 x3 x4 n I) K) : xm_J 2 mt_D_vertex 0 [(0, .ref 0), (1, .int x1), (2, .int x2), (3, .int x3), (4, .int x4)] [] (I, L, RC n, n) 0 0 Q := by
  unfold f_D_vertex_b0 at hF
  refine r_aload_n (i := 0) (k0 := 0) rfl rfl rfl ?_
  refine q_getr (b := 15) (i := 1) rfl fl_D_35 rfl (xm_in rfl hn) rfl rfl ?_
  refine r_iload_n (i := 2) (k0 := 1) rfl rfl rfl ?_
  refine c_V1R (i := 3) rfl vm_Ss_find lk_D_242 (t_Ss_find hn (ok_bind hF)) (Nat.le_of_ble_eq_true rfl) (xm_in rfl hn) rfl rfl (Nat.le_of_ble_eq_true rfl) (fun p_1 hF => ?_)
  cases p_1 with
  | none =>
    refine r_astoreN (i := 4) (Ls' := [(5, _), (0, _), (1, _), (2, _), (3, _), (4, _)]) rfl (Nat.le_of_ble_eq_true rfl) rfl ?_
    refine r_aloadN (i := 5) (k0 := 0) rfl rfl ?_
    refine r_ifnonnullN (i := 6) rfl ?_
    refine r_ldc (i := 7) rfl ct_D_100 ?_
    have hQ := hq _ (ok_some hF)
    exact r_ireturn (i := 8) rfl rfl rfl hQ
  | some r_2 =>
    obtain ⟨hs_3, hF⟩ := ok_gd hF
    refine r_astore (i := 4) (Ls' := [(5, _), (0, _), (1, _), (2, _), (3, _), (4, _)]) rfl (Nat.le_of_ble_eq_true rfl) rfl ?_
    refine r_aload (i := 5) (k0 := 0) rfl rfl ?_
    refine r_ifnonnull (i := 6) (tgt := 18) rfl (by decide) ?_
    refine r_bipush (v := 100) (i := 9) rfl kb_100 ?_
    refine r_istore (i := 10) (Ls' := [(6, _), (5, _), (0, _), (1, _), (2, _), (3, _), (4, _)]) rfl (Nat.le_of_ble_eq_true rfl) rfl ?_
    refine r_iload_n (i := 11) (k0 := 4) rfl rfl rfl ?_
    refine r_iload (i := 12) (k0 := 0) rfl rfl ?_
    refine r_ineg (i := 13) rfl ?_
    refine r_iload (i := 14) (k0 := 0) rfl rfl ?_
    refine c_S3I (i := 15) rfl sm_D_isWithin lk_D_82 (t_D_isWithin hn (ok_bind hF)) (Nat.le_of_ble_eq_true rfl) rfl (Nat.le_of_ble_eq_true rfl) (fun p_4 hF => ?_)
    refine r_ifeq (i := 16) (tgt := 59) rfl (by decide) (fun hc => ?_) (fun hc => ?_)
    · have hF := ok_it hc hF
      refine r_ldc (i := 29) rfl ct_D_86 ?_
      have hQ := hq _ (ok_some hF)
      exact r_ireturn (i := 30) rfl rfl rfl hQ
    have hF := ok_if hc hF
    refine r_iload_n (i := 17) (k0 := 5) rfl rfl rfl ?_
    refine r_iload (i := 18) (k0 := 0) rfl rfl ?_
    refine r_ineg (i := 19) rfl ?_
    refine r_iload (i := 20) (k0 := 0) rfl rfl ?_
    refine c_S3I (i := 21) rfl sm_D_isWithin lk_D_82 (t_D_isWithin hn (ok_bind hF)) (Nat.le_of_ble_eq_true rfl) rfl (Nat.le_of_ble_eq_true rfl) (fun p_5 hF => ?_)
    refine r_ifeq (i := 22) (tgt := 59) rfl (by decide) (fun hc => ?_) (fun hc => ?_)
    · have hF := ok_it hc hF
      refine r_ldc (i := 29) rfl ct_D_86 ?_
      have hQ := hq _ (ok_some hF)
      exact r_ireturn (i := 30) rfl rfl rfl hQ
    have hF := ok_if hc hF
    refine r_iload (i := 23) (k0 := 6) rfl rfl ?_
    refine r_iload (i := 24) (k0 := 0) rfl rfl ?_
    refine r_ineg (i := 25) rfl ?_
    refine r_iload (i := 26) (k0 := 0) rfl rfl ?_
    refine c_S3I (i := 27) rfl sm_D_isWithin lk_D_82 (t_D_isWithin hn (ok_bind hF)) (Nat.le_of_ble_eq_true rfl) rfl (Nat.le_of_ble_eq_true rfl) (fun p_6 hF => ?_)
    refine r_ifne (i := 28) (tgt := 62) rfl (by decide) (fun hc => ?_) (fun hc => ?_)
    · have hF := ok_if hc hF
      refine r_aload (i := 31) (k0 := 1) rfl rfl ?_
      refine c_V0I (i := 32) rfl vm_So_verticesAreFull lk_D_246 (t_So_verticesAreFull hn hs_3 (ok_bind hF)) (Nat.le_of_ble_eq_true rfl) (xm_sdn hs_3 0 (by decide)) (xm_sdL hs_3 0 (by decide) rfl) rfl (Nat.le_of_ble_eq_true rfl) (fun p_7 hF => ?_)
      refine r_ifeq (i := 33) (tgt := 75) rfl (by decide) (fun hc => ?_) (fun hc => ?_)
      · have hF := ok_it hc hF
        refine r_aload (i := 36) (k0 := 1) rfl rfl ?_
        refine r_iload_n (i := 37) (k0 := 4) rfl rfl rfl ?_
        refine r_iload_n (i := 38) (k0 := 5) rfl rfl rfl ?_
        refine r_iload (i := 39) (k0 := 6) rfl rfl ?_
        refine c_V3I (i := 40) rfl vm_So_addVertex lk_D_249 (t_So_addVertex hn hs_3 (ok_bind hF)) (Nat.le_of_ble_eq_true rfl) (xm_sdn hs_3 0 (by decide)) (xm_sdL hs_3 0 (by decide) rfl) rfl (Nat.le_of_ble_eq_true rfl) (fun p_8 hF => ?_)
        have hQ := hq _ (ok_some hF)
        exact r_ireturn (i := 41) rfl rfl rfl hQ
      have hF := ok_if hc hF
      refine r_ldc (i := 34) rfl ct_D_91 ?_
      refine r_goto (i := 35) (tgt := 84) rfl (by decide) ?_
      have hQ := hq _ (ok_some hF)
      exact r_ireturn (i := 41) rfl rfl rfl hQ
    have hF := ok_it hc hF
    refine r_ldc (i := 29) rfl ct_D_86 ?_
    have hQ := hq _ (ok_some hF)
    exact r_ireturn (i := 30) rfl rfl rfl hQ
set_option maxHeartbeats 4000000 in
set_option maxRecDepth 100000 in
theorem t_D_vertex {x1 : Int32} {x2 : Int32} {x3 : Int32} {x4 : Int32} {n : Nat} {I : xm_I} {L : xm_L} {K : Int32 × xm_I → Prop} (hn : 86 ≤ n) (hF : ok (f_D_vertex x1 x2 x3 x4 n I) K) : xm_C 2 mt_D_vertex [.ref 0, .int x1, .int x2, .int x3, .int x4] (I, L, RC n, n) 0 0 (pI (fun p : Int32 × xm_I => p.1) (fun p : Int32 × xm_I => (p.2, L, RC n, n)) K) := by
  unfold f_D_vertex at hF
  refine xm_enter (by decide +kernel) dv_D_vertex (Nat.le_of_ble_eq_true rfl) ?_
  exact t_D_vertex_b0 hn (fun p hp => ⟨p, rfl, rfl, hp⟩) hF

noncomputable def f_So_facesAreFull_b0 (r0 : Nat) (I : xm_I) : Option (Int32) :=
  if (I r0 10) < 10 then (
    some (0))
  else (
  some (1))
noncomputable def f_So_facesAreFull (r0 : Nat) (I : xm_I) : Option (Int32) := f_So_facesAreFull_b0 r0 I
set_option maxHeartbeats 4000000 in
set_option maxRecDepth 100000 in
theorem t_So_facesAreFull_b0 {r0 : Nat} {n : Nat} {I : xm_I} {L : xm_L} {K : Int32 → Prop} {Q : Option Value → xm_H → Prop} (hn : 86 ≤ n) (hsr0 : xm_sd n r0) (hq : ∀ p : Int32, K p → Q (some (.int p)) (I, L, RC n, n)) (hF : ok (f_So_facesAreFull_b0 r0 I) K) : xm_J 0 mt_So_facesAreFull 0 [(0, .ref r0)] [] (I, L, RC n, n) 0 0 Q := by
  unfold f_So_facesAreFull_b0 at hF
  refine r_aload_n (i := 0) (k0 := 0) rfl rfl rfl ?_
  refine q_geti (i := 1) rfl fl_So_43 (xm_sdn hsr0 0 (by decide)) (xm_sdL hsr0 0 (by decide) rfl) ?_
  refine r_bipush (v := 10) (i := 2) rfl kb_10 ?_
  refine r_icmplt (i := 3) (tgt := 13) rfl (by decide) (fun hc => ?_) (fun hc => ?_)
  · have hF := ok_it hc hF
    refine r_iconst (v := 0) (i := 6) rfl ki_0 ?_
    have hQ := hq _ (ok_some hF)
    exact r_ireturn (i := 7) rfl rfl rfl hQ
  have hF := ok_if hc hF
  refine r_iconst (v := 1) (i := 4) rfl ki_1 ?_
  refine r_goto (i := 5) (tgt := 14) rfl (by decide) ?_
  have hQ := hq _ (ok_some hF)
  exact r_ireturn (i := 7) rfl rfl rfl hQ
set_option maxHeartbeats 4000000 in
set_option maxRecDepth 100000 in
theorem t_So_facesAreFull {r0 : Nat} {n : Nat} {I : xm_I} {L : xm_L} {K : Int32 → Prop} (hn : 86 ≤ n) (hsr0 : xm_sd n r0) (hF : ok (f_So_facesAreFull r0 I) K) : xm_C 0 mt_So_facesAreFull [.ref r0] (I, L, RC n, n) 0 0 (pI (fun p : Int32 => p) (fun p : Int32 => (I, L, RC n, n)) K) := by
  unfold f_So_facesAreFull at hF
  refine xm_enter (by decide +kernel) dv_So_facesAreFull (Nat.le_of_ble_eq_true rfl) ?_
  exact t_So_facesAreFull_b0 hn hsr0 (fun p hp => ⟨p, rfl, rfl, hp⟩) hF

noncomputable def f_So_vertexIn_b0 (x0 : Int32) (x1 : Int32) : Option (Int32) :=
  some ((x0 >>> ((4 * x1) &&& 31)) &&& 15)
noncomputable def f_So_vertexIn (x0 : Int32) (x1 : Int32) : Option (Int32) := f_So_vertexIn_b0 x0 x1
set_option maxHeartbeats 4000000 in
set_option maxRecDepth 100000 in
theorem t_So_vertexIn_b0 {x0 : Int32} {x1 : Int32} {n : Nat} {I : xm_I} {L : xm_L} {K : Int32 → Prop} {Q : Option Value → xm_H → Prop} (hn : 86 ≤ n) (hq : ∀ p : Int32, K p → Q (some (.int p)) (I, L, RC n, n)) (hF : ok (f_So_vertexIn_b0 x0 x1) K) : xm_J 0 mt_So_vertexIn 0 [(0, .int x0), (1, .int x1)] [] (I, L, RC n, n) 0 0 Q := by
  unfold f_So_vertexIn_b0 at hF
  refine r_iload_n (i := 0) (k0 := 0) rfl rfl rfl ?_
  refine r_iconst (v := 4) (i := 1) rfl ki_4 ?_
  refine r_iload_n (i := 2) (k0 := 1) rfl rfl rfl ?_
  refine r_imul (i := 3) rfl ?_
  refine r_ishr (i := 4) rfl ?_
  refine r_bipush (v := 15) (i := 5) rfl kb_15 ?_
  refine r_iand (i := 6) rfl ?_
  have hQ := hq _ (ok_some hF)
  exact r_ireturn (i := 7) rfl rfl rfl hQ
set_option maxHeartbeats 4000000 in
set_option maxRecDepth 100000 in
theorem t_So_vertexIn {x0 : Int32} {x1 : Int32} {n : Nat} {I : xm_I} {L : xm_L} {K : Int32 → Prop} (hn : 86 ≤ n) (hF : ok (f_So_vertexIn x0 x1) K) : xm_C 0 mt_So_vertexIn [.int x0, .int x1] (I, L, RC n, n) 0 0 (pI (fun p : Int32 => p) (fun p : Int32 => (I, L, RC n, n)) K) := by
  unfold f_So_vertexIn at hF
  refine xm_enter (by decide +kernel) dv_So_vertexIn (Nat.le_of_ble_eq_true rfl) ?_
  exact t_So_vertexIn_b0 hn (fun p hp => ⟨p, rfl, rfl, hp⟩) hF

noncomputable def f_So_hasVertices_s2 (r0 : Nat) (x1 : Int32) (x2 : Int32) (I : xm_I) (s : Int32) : Option ((Int32) ⊕ (Int32)) :=
  if x1 ≤ s then (
    some (.inr (1)))
  else (
  (f_So_vertexIn x2 s).bind fun p_1 =>
  if p_1 < (I r0 9) then (
    let x3_2 : Int32 := s + 1
    some (.inl (x3_2)))
  else (
  some (.inr (0))))
noncomputable def f_So_hasVertices_b2 (r0 : Nat) (x1 : Int32) (x2 : Int32) (I : xm_I) (s : Int32) : Option (Int32) := lp (f_So_hasVertices_s2 r0 x1 x2 I) s
noncomputable def f_So_hasVertices_b0 (r0 : Nat) (x1 : Int32) (x2 : Int32) (I : xm_I) : Option (Int32) :=
  f_So_hasVertices_b2 r0 x1 x2 I (0)
noncomputable def f_So_hasVertices (r0 : Nat) (x1 : Int32) (x2 : Int32) (I : xm_I) : Option (Int32) := f_So_hasVertices_b0 r0 x1 x2 I
set_option maxHeartbeats 4000000 in
set_option maxRecDepth 100000 in
theorem t_So_hasVertices_s2 {r0 : Nat} {x1 : Int32} {x2 : Int32} {s : Int32} {n : Nat} {I : xm_I} {L : xm_L} {K : (Int32) ⊕ (Int32) → Prop} {Q : Option Value → xm_H → Prop} (hn : 86 ≤ n) (hsr0 : xm_sd n r0) (hq : ∀ p : Int32, K (.inr p) → Q (some (.int p)) (I, L, RC n, n)) (hg0 : ∀ s : Int32, K (.inl s) → xm_J 1 mt_So_hasVertices 2 [(0, .ref r0), (1, .int x1), (2, .int x2), (3, .int s)] [] (I, L, RC n, n) 0 0 Q) (hF : ok (f_So_hasVertices_s2 r0 x1 x2 I s) K) : xm_J 1 mt_So_hasVertices 2 [(0, .ref r0), (1, .int x1), (2, .int x2), (3, .int s)] [] (I, L, RC n, n) 0 0 Q := by
  unfold f_So_hasVertices_s2 at hF
  refine r_iload_n (i := 2) (k0 := 3) rfl rfl rfl ?_
  refine r_iload_n (i := 3) (k0 := 1) rfl rfl rfl ?_
  refine r_icmpge (i := 4) (tgt := 27) rfl (by decide) (fun hc => ?_) (fun hc => ?_)
  · have hF := ok_it hc hF
    refine r_iconst (v := 1) (i := 15) rfl ki_1 ?_
    have hQ := hq _ (ok_some hF)
    exact r_ireturn (i := 16) rfl rfl rfl hQ
  have hF := ok_if hc hF
  refine r_iload_n (i := 5) (k0 := 2) rfl rfl rfl ?_
  refine r_iload_n (i := 6) (k0 := 3) rfl rfl rfl ?_
  refine c_S2I (i := 7) rfl sm_So_vertexIn lk_So_51 (t_So_vertexIn hn (ok_bind hF)) (Nat.le_of_ble_eq_true rfl) rfl (Nat.le_of_ble_eq_true rfl) (fun p_1 hF => ?_)
  refine r_aload_n (i := 8) (k0 := 0) rfl rfl rfl ?_
  refine q_geti (i := 9) rfl fl_So_40 (xm_sdn hsr0 0 (by decide)) (xm_sdL hsr0 0 (by decide) rfl) ?_
  refine r_icmplt (i := 10) (tgt := 21) rfl (by decide) (fun hc => ?_) (fun hc => ?_)
  · have hF := ok_it hc hF
    refine q_iinc (i := 13) (k0 := 3) (Ls' := [(3, _), (0, _), (1, _), (2, _)]) rfl ki_1 rfl (Nat.le_of_ble_eq_true rfl) rfl ?_
    refine r_goto (i := 14) (tgt := 2) rfl (by decide) ?_
    refine xm_sub (Ls' := [(0, _), (1, _), (2, _), (3, _)]) [1, 2, 3, 0] rfl ?_
    have hJ := hg0 _ (ok_some hF)
    exact hJ
  have hF := ok_if hc hF
  refine r_iconst (v := 0) (i := 11) rfl ki_0 ?_
  have hQ := hq _ (ok_some hF)
  exact r_ireturn (i := 12) rfl rfl rfl hQ
set_option maxHeartbeats 4000000 in
set_option maxRecDepth 100000 in
theorem t_So_hasVertices_b2 {r0 : Nat} {x1 : Int32} {x2 : Int32} {s : Int32} {n : Nat} {I : xm_I} {L : xm_L} {K : Int32 → Prop} {Q : Option Value → xm_H → Prop} (hn : 86 ≤ n) (hsr0 : xm_sd n r0) (hq : ∀ p : Int32, K p → Q (some (.int p)) (I, L, RC n, n)) (hF : ok (f_So_hasVertices_b2 r0 x1 x2 I s) K) : xm_J 1 mt_So_hasVertices 2 [(0, .ref r0), (1, .int x1), (2, .int x2), (3, .int s)] [] (I, L, RC n, n) 0 0 Q :=
  lp_J (G := fun z => xm_J 1 mt_So_hasVertices 2 [(0, .ref r0), (1, .int x1), (2, .int x2), (3, .int z)] [] (I, L, RC n, n) 0 0 Q) (fun z hF => t_So_hasVertices_s2 hn hsr0 (fun p h => hq p h) (fun z h => h) hF) s hF
set_option maxHeartbeats 4000000 in
set_option maxRecDepth 100000 in
theorem t_So_hasVertices_b0 {r0 : Nat} {x1 : Int32} {x2 : Int32} {n : Nat} {I : xm_I} {L : xm_L} {K : Int32 → Prop} {Q : Option Value → xm_H → Prop} (hn : 86 ≤ n) (hsr0 : xm_sd n r0) (hq : ∀ p : Int32, K p → Q (some (.int p)) (I, L, RC n, n)) (hF : ok (f_So_hasVertices_b0 r0 x1 x2 I) K) : xm_J 1 mt_So_hasVertices 0 [(0, .ref r0), (1, .int x1), (2, .int x2)] [] (I, L, RC n, n) 0 0 Q := by
  unfold f_So_hasVertices_b0 at hF
  refine r_iconst (v := 0) (i := 0) rfl ki_0 ?_
  refine r_istore_n (i := 1) (Ls' := [(3, _), (0, _), (1, _), (2, _)]) rfl rfl (Nat.le_of_ble_eq_true rfl) rfl ?_
  refine xm_sub (Ls' := [(0, _), (1, _), (2, _), (3, _)]) [1, 2, 3, 0] rfl ?_
  exact t_So_hasVertices_b2 hn hsr0 (fun p h => hq p h) hF
set_option maxHeartbeats 4000000 in
set_option maxRecDepth 100000 in
theorem t_So_hasVertices {r0 : Nat} {x1 : Int32} {x2 : Int32} {n : Nat} {I : xm_I} {L : xm_L} {K : Int32 → Prop} (hn : 86 ≤ n) (hsr0 : xm_sd n r0) (hF : ok (f_So_hasVertices r0 x1 x2 I) K) : xm_C 1 mt_So_hasVertices [.ref r0, .int x1, .int x2] (I, L, RC n, n) 0 0 (pI (fun p : Int32 => p) (fun p : Int32 => (I, L, RC n, n)) K) := by
  unfold f_So_hasVertices at hF
  refine xm_enter (by decide +kernel) dv_So_hasVertices (Nat.le_of_ble_eq_true rfl) ?_
  exact t_So_hasVertices_b0 hn hsr0 (fun p hp => ⟨p, rfl, rfl, hp⟩) hF

noncomputable def f_So_setNormal_b0 (r0 : Nat) (x1 : Int32) (x2 : Int32) (x3 : Int32) (I : xm_I) : Option (xm_I) :=
  gd (0 ≤ (x2).toInt ∧ (x2).toInt < 12) <|
  gd (0 ≤ (x1).toInt ∧ (x1).toInt < 12) <|
  let x4_1 : Int32 := (I (r0 + 1) (Int32.toNatClampNeg x2)) - (I (r0 + 1) (Int32.toNatClampNeg x1))
  gd (0 ≤ (x2).toInt ∧ (x2).toInt < 12) <|
  gd (0 ≤ (x1).toInt ∧ (x1).toInt < 12) <|
  let x5_2 : Int32 := (I (r0 + 2) (Int32.toNatClampNeg x2)) - (I (r0 + 2) (Int32.toNatClampNeg x1))
  gd (0 ≤ (x2).toInt ∧ (x2).toInt < 12) <|
  gd (0 ≤ (x1).toInt ∧ (x1).toInt < 12) <|
  let x6_3 : Int32 := (I (r0 + 3) (Int32.toNatClampNeg x2)) - (I (r0 + 3) (Int32.toNatClampNeg x1))
  gd (0 ≤ (x3).toInt ∧ (x3).toInt < 12) <|
  gd (0 ≤ (x1).toInt ∧ (x1).toInt < 12) <|
  let x7_4 : Int32 := (I (r0 + 1) (Int32.toNatClampNeg x3)) - (I (r0 + 1) (Int32.toNatClampNeg x1))
  gd (0 ≤ (x3).toInt ∧ (x3).toInt < 12) <|
  gd (0 ≤ (x1).toInt ∧ (x1).toInt < 12) <|
  let x8_5 : Int32 := (I (r0 + 2) (Int32.toNatClampNeg x3)) - (I (r0 + 2) (Int32.toNatClampNeg x1))
  gd (0 ≤ (x3).toInt ∧ (x3).toInt < 12) <|
  gd (0 ≤ (x1).toInt ∧ (x1).toInt < 12) <|
  let x9_6 : Int32 := (I (r0 + 3) (Int32.toNatClampNeg x3)) - (I (r0 + 3) (Int32.toNatClampNeg x1))
  gd (0 ≤ (I r0 10).toInt ∧ (I r0 10).toInt < 10) <|
  let I_7 : xm_I := up2 I (r0 + 4) (Int32.toNatClampNeg (I r0 10)) ((x5_2 * x9_6) - (x6_3 * x8_5))
  gd (0 ≤ (I_7 r0 10).toInt ∧ (I_7 r0 10).toInt < 10) <|
  let I_8 : xm_I := up2 I_7 (r0 + 5) (Int32.toNatClampNeg (I_7 r0 10)) ((x6_3 * x7_4) - (x4_1 * x9_6))
  gd (0 ≤ (I_8 r0 10).toInt ∧ (I_8 r0 10).toInt < 10) <|
  let I_9 : xm_I := up2 I_8 (r0 + 6) (Int32.toNatClampNeg (I_8 r0 10)) ((x4_1 * x8_5) - (x5_2 * x7_4))
  some (I_9)
noncomputable def f_So_setNormal (r0 : Nat) (x1 : Int32) (x2 : Int32) (x3 : Int32) (I : xm_I) : Option (xm_I) := f_So_setNormal_b0 r0 x1 x2 x3 I
set_option maxHeartbeats 4000000 in
set_option maxRecDepth 100000 in
theorem t_So_setNormal_b0 {r0 : Nat} {x1 : Int32} {x2 : Int32} {x3 : Int32} {n : Nat} {I : xm_I} {L : xm_L} {K : xm_I → Prop} {Q : Option Value → xm_H → Prop} (hn : 86 ≤ n) (hsr0 : xm_sd n r0) (hq : ∀ p : xm_I, K p → Q none (p, L, RC n, n)) (hF : ok (f_So_setNormal_b0 r0 x1 x2 x3 I) K) : xm_J 0 mt_So_setNormal 0 [(0, .ref r0), (1, .int x1), (2, .int x2), (3, .int x3)] [] (I, L, RC n, n) 0 0 Q := by
  unfold f_So_setNormal_b0 at hF
  refine r_aload_n (i := 0) (k0 := 0) rfl rfl rfl ?_
  refine q_getr (b := r0 + 1) (i := 1) rfl fl_So_11 rfl (xm_sdn hsr0 0 (by decide)) (xm_sdL hsr0 0 (by decide) rfl) (xm_sr2 hsr0) ?_
  refine r_iload_n (i := 2) (k0 := 2) rfl rfl rfl ?_
  obtain ⟨hi, hF⟩ := ok_gd hF
  refine q_iaload (i := 3) rfl (xm_sdn hsr0 1 (by decide)) (xm_sdL hsr0 1 (by decide) rfl) hi ?_
  refine r_aload_n (i := 4) (k0 := 0) rfl rfl rfl ?_
  refine q_getr (b := r0 + 1) (i := 5) rfl fl_So_11 rfl (xm_sdn hsr0 0 (by decide)) (xm_sdL hsr0 0 (by decide) rfl) (xm_sr2 hsr0) ?_
  refine r_iload_n (i := 6) (k0 := 1) rfl rfl rfl ?_
  obtain ⟨hi, hF⟩ := ok_gd hF
  refine q_iaload (i := 7) rfl (xm_sdn hsr0 1 (by decide)) (xm_sdL hsr0 1 (by decide) rfl) hi ?_
  refine r_isub (i := 8) rfl ?_
  refine r_istore (i := 9) (Ls' := [(4, _), (0, _), (1, _), (2, _), (3, _)]) rfl (Nat.le_of_ble_eq_true rfl) rfl ?_
  refine r_aload_n (i := 10) (k0 := 1) rfl rfl rfl ?_
  refine q_getr (b := r0 + 2) (i := 11) rfl fl_So_15 rfl (xm_sdn hsr0 0 (by decide)) (xm_sdL hsr0 0 (by decide) rfl) (xm_sr3 hsr0) ?_
  refine r_iload_n (i := 12) (k0 := 3) rfl rfl rfl ?_
  obtain ⟨hi, hF⟩ := ok_gd hF
  refine q_iaload (i := 13) rfl (xm_sdn hsr0 2 (by decide)) (xm_sdL hsr0 2 (by decide) rfl) hi ?_
  refine r_aload_n (i := 14) (k0 := 1) rfl rfl rfl ?_
  refine q_getr (b := r0 + 2) (i := 15) rfl fl_So_15 rfl (xm_sdn hsr0 0 (by decide)) (xm_sdL hsr0 0 (by decide) rfl) (xm_sr3 hsr0) ?_
  refine r_iload_n (i := 16) (k0 := 2) rfl rfl rfl ?_
  obtain ⟨hi, hF⟩ := ok_gd hF
  refine q_iaload (i := 17) rfl (xm_sdn hsr0 2 (by decide)) (xm_sdL hsr0 2 (by decide) rfl) hi ?_
  refine r_isub (i := 18) rfl ?_
  refine r_istore (i := 19) (Ls' := [(5, _), (4, _), (0, _), (1, _), (2, _), (3, _)]) rfl (Nat.le_of_ble_eq_true rfl) rfl ?_
  refine r_aload_n (i := 20) (k0 := 2) rfl rfl rfl ?_
  refine q_getr (b := r0 + 3) (i := 21) rfl fl_So_18 rfl (xm_sdn hsr0 0 (by decide)) (xm_sdL hsr0 0 (by decide) rfl) (xm_sr4 hsr0) ?_
  refine r_iload_n (i := 22) (k0 := 4) rfl rfl rfl ?_
  obtain ⟨hi, hF⟩ := ok_gd hF
  refine q_iaload (i := 23) rfl (xm_sdn hsr0 3 (by decide)) (xm_sdL hsr0 3 (by decide) rfl) hi ?_
  refine r_aload_n (i := 24) (k0 := 2) rfl rfl rfl ?_
  refine q_getr (b := r0 + 3) (i := 25) rfl fl_So_18 rfl (xm_sdn hsr0 0 (by decide)) (xm_sdL hsr0 0 (by decide) rfl) (xm_sr4 hsr0) ?_
  refine r_iload_n (i := 26) (k0 := 3) rfl rfl rfl ?_
  obtain ⟨hi, hF⟩ := ok_gd hF
  refine q_iaload (i := 27) rfl (xm_sdn hsr0 3 (by decide)) (xm_sdL hsr0 3 (by decide) rfl) hi ?_
  refine r_isub (i := 28) rfl ?_
  refine r_istore (i := 29) (Ls' := [(6, _), (5, _), (4, _), (0, _), (1, _), (2, _), (3, _)]) rfl (Nat.le_of_ble_eq_true rfl) rfl ?_
  refine r_aload_n (i := 30) (k0 := 3) rfl rfl rfl ?_
  refine q_getr (b := r0 + 1) (i := 31) rfl fl_So_11 rfl (xm_sdn hsr0 0 (by decide)) (xm_sdL hsr0 0 (by decide) rfl) (xm_sr2 hsr0) ?_
  refine r_iload_n (i := 32) (k0 := 6) rfl rfl rfl ?_
  obtain ⟨hi, hF⟩ := ok_gd hF
  refine q_iaload (i := 33) rfl (xm_sdn hsr0 1 (by decide)) (xm_sdL hsr0 1 (by decide) rfl) hi ?_
  refine r_aload_n (i := 34) (k0 := 3) rfl rfl rfl ?_
  refine q_getr (b := r0 + 1) (i := 35) rfl fl_So_11 rfl (xm_sdn hsr0 0 (by decide)) (xm_sdL hsr0 0 (by decide) rfl) (xm_sr2 hsr0) ?_
  refine r_iload_n (i := 36) (k0 := 4) rfl rfl rfl ?_
  obtain ⟨hi, hF⟩ := ok_gd hF
  refine q_iaload (i := 37) rfl (xm_sdn hsr0 1 (by decide)) (xm_sdL hsr0 1 (by decide) rfl) hi ?_
  refine r_isub (i := 38) rfl ?_
  refine r_istore (i := 39) (Ls' := [(7, _), (6, _), (5, _), (4, _), (0, _), (1, _), (2, _), (3, _)]) rfl (Nat.le_of_ble_eq_true rfl) rfl ?_
  refine r_aload_n (i := 40) (k0 := 4) rfl rfl rfl ?_
  refine q_getr (b := r0 + 2) (i := 41) rfl fl_So_15 rfl (xm_sdn hsr0 0 (by decide)) (xm_sdL hsr0 0 (by decide) rfl) (xm_sr3 hsr0) ?_
  refine r_iload_n (i := 42) (k0 := 7) rfl rfl rfl ?_
  obtain ⟨hi, hF⟩ := ok_gd hF
  refine q_iaload (i := 43) rfl (xm_sdn hsr0 2 (by decide)) (xm_sdL hsr0 2 (by decide) rfl) hi ?_
  refine r_aload_n (i := 44) (k0 := 4) rfl rfl rfl ?_
  refine q_getr (b := r0 + 2) (i := 45) rfl fl_So_15 rfl (xm_sdn hsr0 0 (by decide)) (xm_sdL hsr0 0 (by decide) rfl) (xm_sr3 hsr0) ?_
  refine r_iload_n (i := 46) (k0 := 5) rfl rfl rfl ?_
  obtain ⟨hi, hF⟩ := ok_gd hF
  refine q_iaload (i := 47) rfl (xm_sdn hsr0 2 (by decide)) (xm_sdL hsr0 2 (by decide) rfl) hi ?_
  refine r_isub (i := 48) rfl ?_
  refine r_istore (i := 49) (Ls' := [(8, _), (7, _), (6, _), (5, _), (4, _), (0, _), (1, _), (2, _), (3, _)]) rfl (Nat.le_of_ble_eq_true rfl) rfl ?_
  refine r_aload_n (i := 50) (k0 := 5) rfl rfl rfl ?_
  refine q_getr (b := r0 + 3) (i := 51) rfl fl_So_18 rfl (xm_sdn hsr0 0 (by decide)) (xm_sdL hsr0 0 (by decide) rfl) (xm_sr4 hsr0) ?_
  refine r_iload_n (i := 52) (k0 := 8) rfl rfl rfl ?_
  obtain ⟨hi, hF⟩ := ok_gd hF
  refine q_iaload (i := 53) rfl (xm_sdn hsr0 3 (by decide)) (xm_sdL hsr0 3 (by decide) rfl) hi ?_
  refine r_aload_n (i := 54) (k0 := 5) rfl rfl rfl ?_
  refine q_getr (b := r0 + 3) (i := 55) rfl fl_So_18 rfl (xm_sdn hsr0 0 (by decide)) (xm_sdL hsr0 0 (by decide) rfl) (xm_sr4 hsr0) ?_
  refine r_iload_n (i := 56) (k0 := 6) rfl rfl rfl ?_
  obtain ⟨hi, hF⟩ := ok_gd hF
  refine q_iaload (i := 57) rfl (xm_sdn hsr0 3 (by decide)) (xm_sdL hsr0 3 (by decide) rfl) hi ?_
  refine r_isub (i := 58) rfl ?_
  refine r_istore (i := 59) (Ls' := [(9, _), (8, _), (7, _), (6, _), (5, _), (4, _), (0, _), (1, _), (2, _), (3, _)]) rfl (Nat.le_of_ble_eq_true rfl) rfl ?_
  refine r_aload_n (i := 60) (k0 := 6) rfl rfl rfl ?_
  refine q_getr (b := r0 + 4) (i := 61) rfl fl_So_21 rfl (xm_sdn hsr0 0 (by decide)) (xm_sdL hsr0 0 (by decide) rfl) (xm_sr5 hsr0) ?_
  refine r_aload_n (i := 62) (k0 := 6) rfl rfl rfl ?_
  refine q_geti (i := 63) rfl fl_So_43 (xm_sdn hsr0 0 (by decide)) (xm_sdL hsr0 0 (by decide) rfl) ?_
  refine r_iload (i := 64) (k0 := 4) rfl rfl ?_
  refine r_iload (i := 65) (k0 := 0) rfl rfl ?_
  refine r_imul (i := 66) rfl ?_
  refine r_iload (i := 67) (k0 := 3) rfl rfl ?_
  refine r_iload (i := 68) (k0 := 1) rfl rfl ?_
  refine r_imul (i := 69) rfl ?_
  refine r_isub (i := 70) rfl ?_
  obtain ⟨hi, hF⟩ := ok_gd hF
  refine q_iastore (i := 71) rfl (xm_sdn hsr0 4 (by decide)) (xm_sdL hsr0 4 (by decide) rfl) hi ?_
  refine r_aload_n (i := 72) (k0 := 6) rfl rfl rfl ?_
  refine q_getr (b := r0 + 5) (i := 73) rfl fl_So_24 rfl (xm_sdn hsr0 0 (by decide)) (xm_sdL hsr0 0 (by decide) rfl) (xm_sr6 hsr0) ?_
  refine r_aload_n (i := 74) (k0 := 6) rfl rfl rfl ?_
  refine q_geti (i := 75) rfl fl_So_43 (xm_sdn hsr0 0 (by decide)) (xm_sdL hsr0 0 (by decide) rfl) ?_
  refine r_iload (i := 76) (k0 := 3) rfl rfl ?_
  refine r_iload (i := 77) (k0 := 2) rfl rfl ?_
  refine r_imul (i := 78) rfl ?_
  refine r_iload (i := 79) (k0 := 5) rfl rfl ?_
  refine r_iload (i := 80) (k0 := 0) rfl rfl ?_
  refine r_imul (i := 81) rfl ?_
  refine r_isub (i := 82) rfl ?_
  obtain ⟨hi, hF⟩ := ok_gd hF
  refine q_iastore (i := 83) rfl (xm_sdn hsr0 5 (by decide)) (xm_sdL hsr0 5 (by decide) rfl) hi ?_
  refine r_aload_n (i := 84) (k0 := 6) rfl rfl rfl ?_
  refine q_getr (b := r0 + 6) (i := 85) rfl fl_So_27 rfl (xm_sdn hsr0 0 (by decide)) (xm_sdL hsr0 0 (by decide) rfl) (xm_sr7 hsr0) ?_
  refine r_aload_n (i := 86) (k0 := 6) rfl rfl rfl ?_
  refine q_geti (i := 87) rfl fl_So_43 (xm_sdn hsr0 0 (by decide)) (xm_sdL hsr0 0 (by decide) rfl) ?_
  refine r_iload (i := 88) (k0 := 5) rfl rfl ?_
  refine r_iload (i := 89) (k0 := 1) rfl rfl ?_
  refine r_imul (i := 90) rfl ?_
  refine r_iload (i := 91) (k0 := 4) rfl rfl ?_
  refine r_iload (i := 92) (k0 := 2) rfl rfl ?_
  refine r_imul (i := 93) rfl ?_
  refine r_isub (i := 94) rfl ?_
  obtain ⟨hi, hF⟩ := ok_gd hF
  refine q_iastore (i := 95) rfl (xm_sdn hsr0 6 (by decide)) (xm_sdL hsr0 6 (by decide) rfl) hi ?_
  have hQ := hq _ (ok_some hF)
  exact r_return (i := 96) rfl rfl hQ
set_option maxHeartbeats 4000000 in
set_option maxRecDepth 100000 in
theorem t_So_setNormal {r0 : Nat} {x1 : Int32} {x2 : Int32} {x3 : Int32} {n : Nat} {I : xm_I} {L : xm_L} {K : xm_I → Prop} (hn : 86 ≤ n) (hsr0 : xm_sd n r0) (hF : ok (f_So_setNormal r0 x1 x2 x3 I) K) : xm_C 0 mt_So_setNormal [.ref r0, .int x1, .int x2, .int x3] (I, L, RC n, n) 0 0 (pV (fun p : xm_I => (p, L, RC n, n)) K) := by
  unfold f_So_setNormal at hF
  refine xm_enter (by decide +kernel) dv_So_setNormal (Nat.le_of_ble_eq_true rfl) ?_
  exact t_So_setNormal_b0 hn hsr0 (fun p hp => ⟨p, rfl, rfl, hp⟩) hF

noncomputable def f_So_addFace_b67 (r0 : Nat) (x1 : Int32) (x2 : Int32) (x3 : Int32) (x4 : Int32) (y0 : Int32) (y1 : Int32) (I : xm_I) : Option ((Int32 × xm_I) ⊕ (Int32 × xm_I)) :=
  (f_So_vertexIn y0 y1).bind fun p_1 =>
  (f_Jm_min_I x4 p_1).bind fun p_2 =>
  (f_Jm_max_I x4 p_1).bind fun p_3 =>
  gd (0 ≤ ((p_2 * 12) + p_3).toInt ∧ ((p_2 * 12) + p_3).toInt < 144) <|
  gd (0 ≤ ((p_2 * 12) + p_3).toInt ∧ ((p_2 * 12) + p_3).toInt < 144) <|
  let I_4 : xm_I := up2 I (r0 + 7) (Int32.toNatClampNeg ((p_2 * 12) + p_3)) ((I (r0 + 7) (Int32.toNatClampNeg ((p_2 * 12) + p_3))) ||| (1 <<< ((I r0 10) &&& 31)))
  let x3_5 : Int32 := x3 + 1
  some (.inl (x3_5, I_4))
noncomputable def f_So_addFace_s40 (r0 : Nat) (x1 : Int32) (x2 : Int32) (s : Int32 × xm_I) : Option ((Int32 × xm_I) ⊕ (Int32 × xm_I)) :=
  if x1 ≤ s.1 then (
    let I_1 : xm_I := up2 s.2 r0 10 ((s.2 r0 10) + 1)
    some (.inr (I_1 r0 10, I_1)))
  else (
  (f_So_vertexIn x2 s.1).bind fun p_2 =>
  if x1 ≤ (s.1 + 1) then (
    f_So_addFace_b67 r0 x1 x2 s.1 p_2 x2 0 s.2)
  else (
  f_So_addFace_b67 r0 x1 x2 s.1 p_2 x2 (s.1 + 1) s.2))
noncomputable def f_So_addFace_b40 (r0 : Nat) (x1 : Int32) (x2 : Int32) (s : Int32 × xm_I) : Option (Int32 × xm_I) := lp (f_So_addFace_s40 r0 x1 x2) s
noncomputable def f_So_addFace_b0 (r0 : Nat) (x1 : Int32) (x2 : Int32) (I : xm_I) : Option (Int32 × xm_I) :=
  (f_So_facesAreFull r0 I).bind fun p_1 =>
  if p_1 = 0 then (
    (f_So_hasVertices r0 x1 x2 I).bind fun p_2 =>
    if p_2 = 0 then (
      some ((-100004), I))
    else (
      (f_So_vertexIn x2 0).bind fun p_3 =>
      (f_So_vertexIn x2 1).bind fun p_4 =>
      (f_So_vertexIn x2 2).bind fun p_5 =>
      (f_So_setNormal r0 p_3 p_4 p_5 I).bind fun p_6 =>
      f_So_addFace_b40 r0 x1 x2 (0, p_6)))
  else (
    some ((-100004), I))
noncomputable def f_So_addFace (r0 : Nat) (x1 : Int32) (x2 : Int32) (I : xm_I) : Option (Int32 × xm_I) := f_So_addFace_b0 r0 x1 x2 I
set_option maxHeartbeats 4000000 in
set_option maxRecDepth 100000 in
theorem t_So_addFace_b67 {r0 : Nat} {x1 : Int32} {x2 : Int32} {x3 : Int32} {x4 : Int32} {y0 : Int32} {y1 : Int32} {n : Nat} {I : xm_I} {L : xm_L} {K : (Int32 × xm_I) ⊕ (Int32 × xm_I) → Prop} {Q : Option Value → xm_H → Prop} (hn : 86 ≤ n) (hsr0 : xm_sd n r0) (hq : ∀ p : Int32 × xm_I, K (.inr p) → Q (some (.int p.1)) (p.2, L, RC n, n)) (hg0 : ∀ s : Int32 × xm_I, K (.inl s) → xm_J 2 mt_So_addFace 40 [(0, .ref r0), (1, .int x1), (2, .int x2), (3, .int s.1)] [] (s.2, L, RC n, n) 0 0 Q) (hF : ok (f_So_addFace_b67 r0 x1 x2 x3 x4 y0 y1 I) K) : xm_J 2 mt_So_addFace 67 [(0, .ref r0), (1, .int x1), (2, .int x2), (3, .int x3), (4, .int x4)] [.int y1, .int y0] (I, L, RC n, n) 0 0 Q := by
  unfold f_So_addFace_b67 at hF
  refine c_S2I (i := 41) rfl sm_So_vertexIn lk_So_51 (t_So_vertexIn hn (ok_bind hF)) (Nat.le_of_ble_eq_true rfl) rfl (Nat.le_of_ble_eq_true rfl) (fun p_1 hF => ?_)
  refine r_istore (i := 42) (Ls' := [(5, _), (0, _), (1, _), (2, _), (3, _), (4, _)]) rfl (Nat.le_of_ble_eq_true rfl) rfl ?_
  refine r_aload_n (i := 43) (k0 := 1) rfl rfl rfl ?_
  refine q_getr (b := r0 + 7) (i := 44) rfl fl_So_30 rfl (xm_sdn hsr0 0 (by decide)) (xm_sdL hsr0 0 (by decide) rfl) (xm_sr8 hsr0) ?_
  refine r_iload (i := 45) (k0 := 5) rfl rfl ?_
  refine r_iload (i := 46) (k0 := 0) rfl rfl ?_
  refine c_S2I (i := 47) rfl sm_Jm_min_I lk_So_72 (t_Jm_min_I hn (ok_bind hF)) (Nat.le_of_ble_eq_true rfl) rfl (Nat.le_of_ble_eq_true rfl) (fun p_2 hF => ?_)
  refine r_bipush (v := 12) (i := 48) rfl kb_12 ?_
  refine r_imul (i := 49) rfl ?_
  refine r_iload (i := 50) (k0 := 5) rfl rfl ?_
  refine r_iload (i := 51) (k0 := 0) rfl rfl ?_
  refine c_S2I (i := 52) rfl sm_Jm_max_I lk_So_77 (t_Jm_max_I hn (ok_bind hF)) (Nat.le_of_ble_eq_true rfl) rfl (Nat.le_of_ble_eq_true rfl) (fun p_3 hF => ?_)
  refine r_iadd (i := 53) rfl ?_
  refine r_dup2 (i := 54) rfl rfl rfl ?_
  obtain ⟨hi, hF⟩ := ok_gd hF
  refine q_iaload (i := 55) rfl (xm_sdn hsr0 7 (by decide)) (xm_sdL hsr0 7 (by decide) rfl) hi ?_
  refine r_iconst (v := 1) (i := 56) rfl ki_1 ?_
  refine r_aload_n (i := 57) (k0 := 1) rfl rfl rfl ?_
  refine q_geti (i := 58) rfl fl_So_43 (xm_sdn hsr0 0 (by decide)) (xm_sdL hsr0 0 (by decide) rfl) ?_
  refine r_ishl (i := 59) rfl ?_
  refine r_ior (i := 60) rfl ?_
  obtain ⟨hi, hF⟩ := ok_gd hF
  refine q_iastore (i := 61) rfl (xm_sdn hsr0 7 (by decide)) (xm_sdL hsr0 7 (by decide) rfl) hi ?_
  refine q_iinc (i := 62) (k0 := 4) (Ls' := [(3, _), (5, _), (0, _), (1, _), (2, _), (4, _)]) rfl ki_1 rfl (Nat.le_of_ble_eq_true rfl) rfl ?_
  refine r_goto (i := 63) (tgt := 40) rfl (by decide) ?_
  refine xm_sub (Ls' := [(0, _), (1, _), (2, _), (3, _)]) [2, 3, 4, 0] rfl ?_
  have hJ := hg0 _ (ok_some hF)
  exact hJ
set_option maxHeartbeats 4000000 in
set_option maxRecDepth 100000 in
theorem t_So_addFace_s40 {r0 : Nat} {x1 : Int32} {x2 : Int32} {s : Int32 × xm_I} {n : Nat} {L : xm_L} {K : (Int32 × xm_I) ⊕ (Int32 × xm_I) → Prop} {Q : Option Value → xm_H → Prop} (hn : 86 ≤ n) (hsr0 : xm_sd n r0) (hq : ∀ p : Int32 × xm_I, K (.inr p) → Q (some (.int p.1)) (p.2, L, RC n, n)) (hg0 : ∀ s : Int32 × xm_I, K (.inl s) → xm_J 2 mt_So_addFace 40 [(0, .ref r0), (1, .int x1), (2, .int x2), (3, .int s.1)] [] (s.2, L, RC n, n) 0 0 Q) (hF : ok (f_So_addFace_s40 r0 x1 x2 s) K) : xm_J 2 mt_So_addFace 40 [(0, .ref r0), (1, .int x1), (2, .int x2), (3, .int s.1)] [] (s.2, L, RC n, n) 0 0 Q := by
  unfold f_So_addFace_s40 at hF
  refine r_iload_n (i := 23) (k0 := 3) rfl rfl rfl ?_
  refine r_iload_n (i := 24) (k0 := 1) rfl rfl rfl ?_
  refine r_icmpge (i := 25) (tgt := 110) rfl (by decide) (fun hc => ?_) (fun hc => ?_)
  · have hF := ok_it hc hF
    refine r_aload_n (i := 64) (k0 := 0) rfl rfl rfl ?_
    refine r_dup (i := 65) rfl rfl ?_
    refine q_geti (i := 66) rfl fl_So_43 (xm_sdn hsr0 0 (by decide)) (xm_sdL hsr0 0 (by decide) rfl) ?_
    refine r_iconst (v := 1) (i := 67) rfl ki_1 ?_
    refine r_iadd (i := 68) rfl ?_
    refine q_puti (i := 69) rfl fl_So_43 (fun h => Bool.noConfusion h) (xm_sdn hsr0 0 (by decide)) (xm_sdL hsr0 0 (by decide) rfl) ?_
    refine r_aload_n (i := 70) (k0 := 0) rfl rfl rfl ?_
    refine q_geti (i := 71) rfl fl_So_43 (xm_sdn hsr0 0 (by decide)) (xm_sdL hsr0 0 (by decide) rfl) ?_
    have hQ := hq _ (ok_some hF)
    exact r_ireturn (i := 72) rfl rfl rfl hQ
  have hF := ok_if hc hF
  refine r_iload_n (i := 26) (k0 := 2) rfl rfl rfl ?_
  refine r_iload_n (i := 27) (k0 := 3) rfl rfl rfl ?_
  refine c_S2I (i := 28) rfl sm_So_vertexIn lk_So_51 (t_So_vertexIn hn (ok_bind hF)) (Nat.le_of_ble_eq_true rfl) rfl (Nat.le_of_ble_eq_true rfl) (fun p_2 hF => ?_)
  refine r_istore (i := 29) (Ls' := [(4, _), (0, _), (1, _), (2, _), (3, _)]) rfl (Nat.le_of_ble_eq_true rfl) rfl ?_
  refine r_iload_n (i := 30) (k0 := 3) rfl rfl rfl ?_
  refine r_iload_n (i := 31) (k0 := 4) rfl rfl rfl ?_
  refine r_iconst (v := 1) (i := 32) rfl ki_1 ?_
  refine r_iadd (i := 33) rfl ?_
  refine r_iload_n (i := 34) (k0 := 2) rfl rfl rfl ?_
  refine r_icmpge (i := 35) (tgt := 66) rfl (by decide) (fun hc => ?_) (fun hc => ?_)
  · have hF := ok_it hc hF
    refine r_iconst (v := 0) (i := 40) rfl ki_0 ?_
    refine xm_sub (Ls' := [(0, _), (1, _), (2, _), (3, _), (4, _)]) [1, 2, 3, 4, 0] rfl ?_
    exact t_So_addFace_b67 hn hsr0 (fun p h => hq p h) (fun z h => hg0 z h) hF
  have hF := ok_if hc hF
  refine r_iload_n (i := 36) (k0 := 4) rfl rfl rfl ?_
  refine r_iconst (v := 1) (i := 37) rfl ki_1 ?_
  refine r_iadd (i := 38) rfl ?_
  refine r_goto (i := 39) (tgt := 67) rfl (by decide) ?_
  refine xm_sub (Ls' := [(0, _), (1, _), (2, _), (3, _), (4, _)]) [1, 2, 3, 4, 0] rfl ?_
  exact t_So_addFace_b67 hn hsr0 (fun p h => hq p h) (fun z h => hg0 z h) hF
set_option maxHeartbeats 4000000 in
set_option maxRecDepth 100000 in
theorem t_So_addFace_b40 {r0 : Nat} {x1 : Int32} {x2 : Int32} {s : Int32 × xm_I} {n : Nat} {L : xm_L} {K : Int32 × xm_I → Prop} {Q : Option Value → xm_H → Prop} (hn : 86 ≤ n) (hsr0 : xm_sd n r0) (hq : ∀ p : Int32 × xm_I, K p → Q (some (.int p.1)) (p.2, L, RC n, n)) (hF : ok (f_So_addFace_b40 r0 x1 x2 s) K) : xm_J 2 mt_So_addFace 40 [(0, .ref r0), (1, .int x1), (2, .int x2), (3, .int s.1)] [] (s.2, L, RC n, n) 0 0 Q :=
  lp_J (G := fun z => xm_J 2 mt_So_addFace 40 [(0, .ref r0), (1, .int x1), (2, .int x2), (3, .int z.1)] [] (z.2, L, RC n, n) 0 0 Q) (fun z hF => t_So_addFace_s40 hn hsr0 (fun p h => hq p h) (fun z h => h) hF) s hF
set_option maxHeartbeats 4000000 in
set_option maxRecDepth 100000 in
theorem t_So_addFace_b0 {r0 : Nat} {x1 : Int32} {x2 : Int32} {n : Nat} {I : xm_I} {L : xm_L} {K : Int32 × xm_I → Prop} {Q : Option Value → xm_H → Prop} (hn : 86 ≤ n) (hsr0 : xm_sd n r0) (hq : ∀ p : Int32 × xm_I, K p → Q (some (.int p.1)) (p.2, L, RC n, n)) (hF : ok (f_So_addFace_b0 r0 x1 x2 I) K) : xm_J 2 mt_So_addFace 0 [(0, .ref r0), (1, .int x1), (2, .int x2)] [] (I, L, RC n, n) 0 0 Q := by
  unfold f_So_addFace_b0 at hF
  refine r_aload_n (i := 0) (k0 := 0) rfl rfl rfl ?_
  refine c_V0I (i := 1) rfl vm_So_facesAreFull lk_So_61 (t_So_facesAreFull hn hsr0 (ok_bind hF)) (Nat.le_of_ble_eq_true rfl) (xm_sdn hsr0 0 (by decide)) (xm_sdL hsr0 0 (by decide) rfl) rfl (Nat.le_of_ble_eq_true rfl) (fun p_1 hF => ?_)
  refine r_ifne (i := 2) (tgt := 16) rfl (by decide) (fun hc => ?_) (fun hc => ?_)
  · have hF := ok_if hc hF
    refine r_ldc (i := 8) rfl ct_So_50 ?_
    have hQ := hq _ (ok_some hF)
    exact r_ireturn (i := 9) rfl rfl rfl hQ
  have hF := ok_it hc hF
  refine r_aload_n (i := 3) (k0 := 0) rfl rfl rfl ?_
  refine r_iload_n (i := 4) (k0 := 1) rfl rfl rfl ?_
  refine r_iload_n (i := 5) (k0 := 2) rfl rfl rfl ?_
  refine c_V2I (i := 6) rfl vm_So_hasVertices lk_So_64 (t_So_hasVertices hn hsr0 (ok_bind hF)) (Nat.le_of_ble_eq_true rfl) (xm_sdn hsr0 0 (by decide)) (xm_sdL hsr0 0 (by decide) rfl) rfl (Nat.le_of_ble_eq_true rfl) (fun p_2 hF => ?_)
  refine r_ifne (i := 7) (tgt := 19) rfl (by decide) (fun hc => ?_) (fun hc => ?_)
  · have hF := ok_if hc hF
    refine r_aload_n (i := 10) (k0 := 0) rfl rfl rfl ?_
    refine r_iload_n (i := 11) (k0 := 2) rfl rfl rfl ?_
    refine r_iconst (v := 0) (i := 12) rfl ki_0 ?_
    refine c_S2I (i := 13) rfl sm_So_vertexIn lk_So_51 (t_So_vertexIn hn (ok_bind hF)) (Nat.le_of_ble_eq_true rfl) rfl (Nat.le_of_ble_eq_true rfl) (fun p_3 hF => ?_)
    refine r_iload_n (i := 14) (k0 := 2) rfl rfl rfl ?_
    refine r_iconst (v := 1) (i := 15) rfl ki_1 ?_
    refine c_S2I (i := 16) rfl sm_So_vertexIn lk_So_51 (t_So_vertexIn hn (ok_bind hF)) (Nat.le_of_ble_eq_true rfl) rfl (Nat.le_of_ble_eq_true rfl) (fun p_4 hF => ?_)
    refine r_iload_n (i := 17) (k0 := 2) rfl rfl rfl ?_
    refine r_iconst (v := 2) (i := 18) rfl ki_2 ?_
    refine c_S2I (i := 19) rfl sm_So_vertexIn lk_So_51 (t_So_vertexIn hn (ok_bind hF)) (Nat.le_of_ble_eq_true rfl) rfl (Nat.le_of_ble_eq_true rfl) (fun p_5 hF => ?_)
    refine c_V3V (i := 20) rfl vm_So_setNormal lk_So_68 (t_So_setNormal hn hsr0 (ok_bind hF)) (Nat.le_of_ble_eq_true rfl) (xm_sdn hsr0 0 (by decide)) (xm_sdL hsr0 0 (by decide) rfl) rfl (Nat.le_of_ble_eq_true rfl) (fun p_6 hF => ?_)
    refine r_iconst (v := 0) (i := 21) rfl ki_0 ?_
    refine r_istore_n (i := 22) (Ls' := [(3, _), (0, _), (1, _), (2, _)]) rfl rfl (Nat.le_of_ble_eq_true rfl) rfl ?_
    refine xm_sub (Ls' := [(0, _), (1, _), (2, _), (3, _)]) [1, 2, 3, 0] rfl ?_
    exact t_So_addFace_b40 hn hsr0 (fun p h => hq p h) hF
  have hF := ok_it hc hF
  refine r_ldc (i := 8) rfl ct_So_50 ?_
  have hQ := hq _ (ok_some hF)
  exact r_ireturn (i := 9) rfl rfl rfl hQ
set_option maxHeartbeats 4000000 in
set_option maxRecDepth 100000 in
theorem t_So_addFace {r0 : Nat} {x1 : Int32} {x2 : Int32} {n : Nat} {I : xm_I} {L : xm_L} {K : Int32 × xm_I → Prop} (hn : 86 ≤ n) (hsr0 : xm_sd n r0) (hF : ok (f_So_addFace r0 x1 x2 I) K) : xm_C 2 mt_So_addFace [.ref r0, .int x1, .int x2] (I, L, RC n, n) 0 0 (pI (fun p : Int32 × xm_I => p.1) (fun p : Int32 × xm_I => (p.2, L, RC n, n)) K) := by
  unfold f_So_addFace at hF
  refine xm_enter (by decide +kernel) dv_So_addFace (Nat.le_of_ble_eq_true rfl) ?_
  exact t_So_addFace_b0 hn hsr0 (fun p hp => ⟨p, rfl, rfl, hp⟩) hF

noncomputable def f_Ji_bitCount_I_b0 (x0 : Int32) : Option (Int32) :=
  let x0_1 : Int32 := x0 - (((x0.toUInt32 >>> (Int32.toUInt32 1 &&& Int32.toUInt32 31)).toInt32) &&& 1431655765)
  let x0_2 : Int32 := (x0_1 &&& 858993459) + (((x0_1.toUInt32 >>> (Int32.toUInt32 2 &&& Int32.toUInt32 31)).toInt32) &&& 858993459)
  let x0_3 : Int32 := (x0_2 + ((x0_2.toUInt32 >>> (Int32.toUInt32 4 &&& Int32.toUInt32 31)).toInt32)) &&& 252645135
  let x0_4 : Int32 := x0_3 + ((x0_3.toUInt32 >>> (Int32.toUInt32 8 &&& Int32.toUInt32 31)).toInt32)
  let x0_5 : Int32 := x0_4 + ((x0_4.toUInt32 >>> (Int32.toUInt32 16 &&& Int32.toUInt32 31)).toInt32)
  some (x0_5 &&& 63)
noncomputable def f_Ji_bitCount_I (x0 : Int32) : Option (Int32) := f_Ji_bitCount_I_b0 x0
set_option maxHeartbeats 4000000 in
set_option maxRecDepth 100000 in
theorem t_Ji_bitCount_I_b0 {x0 : Int32} {n : Nat} {I : xm_I} {L : xm_L} {K : Int32 → Prop} {Q : Option Value → xm_H → Prop} (hn : 86 ≤ n) (hq : ∀ p : Int32, K p → Q (some (.int p)) (I, L, RC n, n)) (hF : ok (f_Ji_bitCount_I_b0 x0) K) : xm_J 0 mt_Ji_bitCount_I 0 [(0, .int x0)] [] (I, L, RC n, n) 0 0 Q := by
  unfold f_Ji_bitCount_I_b0 at hF
  refine r_iload_n (i := 0) (k0 := 0) rfl rfl rfl ?_
  refine r_iload_n (i := 1) (k0 := 0) rfl rfl rfl ?_
  refine r_iconst (v := 1) (i := 2) rfl ki_1 ?_
  refine r_iushr (i := 3) rfl ?_
  refine r_ldcw (i := 4) rfl ct_Ji_265 ?_
  refine r_iand (i := 5) rfl ?_
  refine r_isub (i := 6) rfl ?_
  refine r_istore_n (i := 7) (Ls' := [(0, _)]) rfl rfl (Nat.le_of_ble_eq_true rfl) rfl ?_
  refine r_iload_n (i := 8) (k0 := 0) rfl rfl rfl ?_
  refine r_ldcw (i := 9) rfl ct_Ji_266 ?_
  refine r_iand (i := 10) rfl ?_
  refine r_iload_n (i := 11) (k0 := 0) rfl rfl rfl ?_
  refine r_iconst (v := 2) (i := 12) rfl ki_2 ?_
  refine r_iushr (i := 13) rfl ?_
  refine r_ldcw (i := 14) rfl ct_Ji_266 ?_
  refine r_iand (i := 15) rfl ?_
  refine r_iadd (i := 16) rfl ?_
  refine r_istore_n (i := 17) (Ls' := [(0, _)]) rfl rfl (Nat.le_of_ble_eq_true rfl) rfl ?_
  refine r_iload_n (i := 18) (k0 := 0) rfl rfl rfl ?_
  refine r_iload_n (i := 19) (k0 := 0) rfl rfl rfl ?_
  refine r_iconst (v := 4) (i := 20) rfl ki_4 ?_
  refine r_iushr (i := 21) rfl ?_
  refine r_iadd (i := 22) rfl ?_
  refine r_ldcw (i := 23) rfl ct_Ji_267 ?_
  refine r_iand (i := 24) rfl ?_
  refine r_istore_n (i := 25) (Ls' := [(0, _)]) rfl rfl (Nat.le_of_ble_eq_true rfl) rfl ?_
  refine r_iload_n (i := 26) (k0 := 0) rfl rfl rfl ?_
  refine r_iload_n (i := 27) (k0 := 0) rfl rfl rfl ?_
  refine r_bipush (v := 8) (i := 28) rfl kb_8 ?_
  refine r_iushr (i := 29) rfl ?_
  refine r_iadd (i := 30) rfl ?_
  refine r_istore_n (i := 31) (Ls' := [(0, _)]) rfl rfl (Nat.le_of_ble_eq_true rfl) rfl ?_
  refine r_iload_n (i := 32) (k0 := 0) rfl rfl rfl ?_
  refine r_iload_n (i := 33) (k0 := 0) rfl rfl rfl ?_
  refine r_bipush (v := 16) (i := 34) rfl kb_16 ?_
  refine r_iushr (i := 35) rfl ?_
  refine r_iadd (i := 36) rfl ?_
  refine r_istore_n (i := 37) (Ls' := [(0, _)]) rfl rfl (Nat.le_of_ble_eq_true rfl) rfl ?_
  refine r_iload_n (i := 38) (k0 := 0) rfl rfl rfl ?_
  refine r_bipush (v := 63) (i := 39) rfl kb_63 ?_
  refine r_iand (i := 40) rfl ?_
  have hQ := hq _ (ok_some hF)
  exact r_ireturn (i := 41) rfl rfl rfl hQ
set_option maxHeartbeats 4000000 in
set_option maxRecDepth 100000 in
theorem t_Ji_bitCount_I {x0 : Int32} {n : Nat} {I : xm_I} {L : xm_L} {K : Int32 → Prop} (hn : 86 ≤ n) (hF : ok (f_Ji_bitCount_I x0) K) : xm_C 0 mt_Ji_bitCount_I [.int x0] (I, L, RC n, n) 0 0 (pI (fun p : Int32 => p) (fun p : Int32 => (I, L, RC n, n)) K) := by
  unfold f_Ji_bitCount_I at hF
  refine xm_enter (by decide +kernel) dv_Ji_bitCount_I (Nat.le_of_ble_eq_true rfl) ?_
  exact t_Ji_bitCount_I_b0 hn (fun p hp => ⟨p, rfl, rfl, hp⟩) hF

noncomputable def f_So_hasOneTwice_s4 (x0 : Int32) (x1 : Int32) (s : Int32 × Int32) : Option ((Int32 × Int32) ⊕ (Int32)) :=
  if x0 ≤ s.2 then (
    (f_Ji_bitCount_I s.1).bind fun p_1 =>
    if x0 ≤ p_1 then (
      some (.inr (0)))
    else (
    some (.inr (1))))
  else (
  (f_So_vertexIn x1 s.2).bind fun p_2 =>
  let x2_3 : Int32 := s.1 ||| (1 <<< (p_2 &&& 31))
  let x3_4 : Int32 := s.2 + 1
  some (.inl (x2_3, x3_4)))
noncomputable def f_So_hasOneTwice_b4 (x0 : Int32) (x1 : Int32) (s : Int32 × Int32) : Option (Int32) := lp (f_So_hasOneTwice_s4 x0 x1) s
noncomputable def f_So_hasOneTwice_b0 (x0 : Int32) (x1 : Int32) : Option (Int32) :=
  f_So_hasOneTwice_b4 x0 x1 (0, 0)
noncomputable def f_So_hasOneTwice (x0 : Int32) (x1 : Int32) : Option (Int32) := f_So_hasOneTwice_b0 x0 x1
set_option maxHeartbeats 4000000 in
set_option maxRecDepth 100000 in
theorem t_So_hasOneTwice_s4 {x0 : Int32} {x1 : Int32} {s : Int32 × Int32} {n : Nat} {I : xm_I} {L : xm_L} {K : (Int32 × Int32) ⊕ (Int32) → Prop} {Q : Option Value → xm_H → Prop} (hn : 86 ≤ n) (hq : ∀ p : Int32, K (.inr p) → Q (some (.int p)) (I, L, RC n, n)) (hg0 : ∀ s : Int32 × Int32, K (.inl s) → xm_J 1 mt_So_hasOneTwice 4 [(0, .int x0), (1, .int x1), (2, .int s.1), (3, .int s.2)] [] (I, L, RC n, n) 0 0 Q) (hF : ok (f_So_hasOneTwice_s4 x0 x1 s) K) : xm_J 1 mt_So_hasOneTwice 4 [(0, .int x0), (1, .int x1), (2, .int s.1), (3, .int s.2)] [] (I, L, RC n, n) 0 0 Q := by
  unfold f_So_hasOneTwice_s4 at hF
  refine r_iload_n (i := 4) (k0 := 3) rfl rfl rfl ?_
  refine r_iload_n (i := 5) (k0 := 0) rfl rfl rfl ?_
  refine r_icmpge (i := 6) (tgt := 25) rfl (by decide) (fun hc => ?_) (fun hc => ?_)
  · have hF := ok_it hc hF
    refine r_iload_n (i := 17) (k0 := 2) rfl rfl rfl ?_
    refine c_S1I (i := 18) rfl sm_Ji_bitCount_I lk_So_55 (t_Ji_bitCount_I hn (ok_bind hF)) (Nat.le_of_ble_eq_true rfl) rfl (Nat.le_of_ble_eq_true rfl) (fun p_1 hF => ?_)
    refine r_iload_n (i := 19) (k0 := 0) rfl rfl rfl ?_
    refine r_icmpge (i := 20) (tgt := 37) rfl (by decide) (fun hc => ?_) (fun hc => ?_)
    · have hF := ok_it hc hF
      refine r_iconst (v := 0) (i := 23) rfl ki_0 ?_
      have hQ := hq _ (ok_some hF)
      exact r_ireturn (i := 24) rfl rfl rfl hQ
    have hF := ok_if hc hF
    refine r_iconst (v := 1) (i := 21) rfl ki_1 ?_
    refine r_goto (i := 22) (tgt := 38) rfl (by decide) ?_
    have hQ := hq _ (ok_some hF)
    exact r_ireturn (i := 24) rfl rfl rfl hQ
  have hF := ok_if hc hF
  refine r_iload_n (i := 7) (k0 := 2) rfl rfl rfl ?_
  refine r_iconst (v := 1) (i := 8) rfl ki_1 ?_
  refine r_iload_n (i := 9) (k0 := 1) rfl rfl rfl ?_
  refine r_iload_n (i := 10) (k0 := 3) rfl rfl rfl ?_
  refine c_S2I (i := 11) rfl sm_So_vertexIn lk_So_51 (t_So_vertexIn hn (ok_bind hF)) (Nat.le_of_ble_eq_true rfl) rfl (Nat.le_of_ble_eq_true rfl) (fun p_2 hF => ?_)
  refine r_ishl (i := 12) rfl ?_
  refine r_ior (i := 13) rfl ?_
  refine r_istore_n (i := 14) (Ls' := [(2, _), (0, _), (1, _), (3, _)]) rfl rfl (Nat.le_of_ble_eq_true rfl) rfl ?_
  refine q_iinc (i := 15) (k0 := 3) (Ls' := [(3, _), (2, _), (0, _), (1, _)]) rfl ki_1 rfl (Nat.le_of_ble_eq_true rfl) rfl ?_
  refine r_goto (i := 16) (tgt := 4) rfl (by decide) ?_
  refine xm_sub (Ls' := [(0, _), (1, _), (2, _), (3, _)]) [2, 3, 1, 0] rfl ?_
  have hJ := hg0 _ (ok_some hF)
  exact hJ
set_option maxHeartbeats 4000000 in
set_option maxRecDepth 100000 in
theorem t_So_hasOneTwice_b4 {x0 : Int32} {x1 : Int32} {s : Int32 × Int32} {n : Nat} {I : xm_I} {L : xm_L} {K : Int32 → Prop} {Q : Option Value → xm_H → Prop} (hn : 86 ≤ n) (hq : ∀ p : Int32, K p → Q (some (.int p)) (I, L, RC n, n)) (hF : ok (f_So_hasOneTwice_b4 x0 x1 s) K) : xm_J 1 mt_So_hasOneTwice 4 [(0, .int x0), (1, .int x1), (2, .int s.1), (3, .int s.2)] [] (I, L, RC n, n) 0 0 Q :=
  lp_J (G := fun z => xm_J 1 mt_So_hasOneTwice 4 [(0, .int x0), (1, .int x1), (2, .int z.1), (3, .int z.2)] [] (I, L, RC n, n) 0 0 Q) (fun z hF => t_So_hasOneTwice_s4 hn (fun p h => hq p h) (fun z h => h) hF) s hF
set_option maxHeartbeats 4000000 in
set_option maxRecDepth 100000 in
theorem t_So_hasOneTwice_b0 {x0 : Int32} {x1 : Int32} {n : Nat} {I : xm_I} {L : xm_L} {K : Int32 → Prop} {Q : Option Value → xm_H → Prop} (hn : 86 ≤ n) (hq : ∀ p : Int32, K p → Q (some (.int p)) (I, L, RC n, n)) (hF : ok (f_So_hasOneTwice_b0 x0 x1) K) : xm_J 1 mt_So_hasOneTwice 0 [(0, .int x0), (1, .int x1)] [] (I, L, RC n, n) 0 0 Q := by
  unfold f_So_hasOneTwice_b0 at hF
  refine r_iconst (v := 0) (i := 0) rfl ki_0 ?_
  refine r_istore_n (i := 1) (Ls' := [(2, _), (0, _), (1, _)]) rfl rfl (Nat.le_of_ble_eq_true rfl) rfl ?_
  refine r_iconst (v := 0) (i := 2) rfl ki_0 ?_
  refine r_istore_n (i := 3) (Ls' := [(3, _), (2, _), (0, _), (1, _)]) rfl rfl (Nat.le_of_ble_eq_true rfl) rfl ?_
  refine xm_sub (Ls' := [(0, _), (1, _), (2, _), (3, _)]) [2, 3, 1, 0] rfl ?_
  exact t_So_hasOneTwice_b4 hn (fun p h => hq p h) hF
set_option maxHeartbeats 4000000 in
set_option maxRecDepth 100000 in
theorem t_So_hasOneTwice {x0 : Int32} {x1 : Int32} {n : Nat} {I : xm_I} {L : xm_L} {K : Int32 → Prop} (hn : 86 ≤ n) (hF : ok (f_So_hasOneTwice x0 x1) K) : xm_C 1 mt_So_hasOneTwice [.int x0, .int x1] (I, L, RC n, n) 0 0 (pI (fun p : Int32 => p) (fun p : Int32 => (I, L, RC n, n)) K) := by
  unfold f_So_hasOneTwice at hF
  refine xm_enter (by decide +kernel) dv_So_hasOneTwice (Nat.le_of_ble_eq_true rfl) ?_
  exact t_So_hasOneTwice_b0 hn (fun p hp => ⟨p, rfl, rfl, hp⟩) hF

noncomputable def f_D_face_b0 (x1 : Int32) (x2 : Int32) (x3 : Int32) (n : Nat) (I : xm_I) : Option (Int32 × xm_I) :=
  (f_Ss_find x1 n I).bind fun p_1 =>
  mo p_1 (
    some ((-100001), I)) (fun r_2 => gd (xm_sd n r_2) (
    (f_D_isWithin x2 3 6).bind fun p_4 =>
    if p_4 = 0 then (
      some ((-100002), I))
    else (
      (f_So_hasVertices r_2 x2 x3 I).bind fun p_5 =>
      if p_5 = 0 then (
        some ((-100001), I))
      else (
        (f_So_hasOneTwice x2 x3).bind fun p_6 =>
        if p_6 = 0 then (
          (f_So_facesAreFull r_2 I).bind fun p_7 =>
          if p_7 = 0 then (
            (f_So_addFace r_2 x2 x3 I).bind fun p_8 =>
            some (p_8.1, p_8.2))
          else (
          some ((-100004), I)))
        else (
        some ((-100003), I))))))
noncomputable def f_D_face (x1 : Int32) (x2 : Int32) (x3 : Int32) (n : Nat) (I : xm_I) : Option (Int32 × xm_I) := f_D_face_b0 x1 x2 x3 n I
set_option maxHeartbeats 4000000 in
set_option maxRecDepth 100000 in
theorem t_D_face_b0 {x1 : Int32} {x2 : Int32} {x3 : Int32} {n : Nat} {I : xm_I} {L : xm_L} {K : Int32 × xm_I → Prop} {Q : Option Value → xm_H → Prop} (hn : 86 ≤ n) (hq : ∀ p : Int32 × xm_I, K p → Q (some (.int p.1)) (p.2, L, RC n, n)) (hF : ok (f_D_face_b0 x1 x2 x3 n I) K) : xm_J 3 mt_D_face 0 [(0, .ref 0), (1, .int x1), (2, .int x2), (3, .int x3)] [] (I, L, RC n, n) 0 0 Q := by
  unfold f_D_face_b0 at hF
  refine r_aload_n (i := 0) (k0 := 0) rfl rfl rfl ?_
  refine q_getr (b := 15) (i := 1) rfl fl_D_35 rfl (xm_in rfl hn) rfl rfl ?_
  refine r_iload_n (i := 2) (k0 := 1) rfl rfl rfl ?_
  refine c_V1R (i := 3) rfl vm_Ss_find lk_D_242 (t_Ss_find hn (ok_bind hF)) (Nat.le_of_ble_eq_true rfl) (xm_in rfl hn) rfl rfl (Nat.le_of_ble_eq_true rfl) (fun p_1 hF => ?_)
  cases p_1 with
  | none =>
    refine r_astoreN (i := 4) (Ls' := [(4, _), (0, _), (1, _), (2, _), (3, _)]) rfl (Nat.le_of_ble_eq_true rfl) rfl ?_
    refine r_aloadN (i := 5) (k0 := 0) rfl rfl ?_
    refine r_ifnonnullN (i := 6) rfl ?_
    refine r_ldc (i := 7) rfl ct_D_100 ?_
    have hQ := hq _ (ok_some hF)
    exact r_ireturn (i := 8) rfl rfl rfl hQ
  | some r_2 =>
    obtain ⟨hs_3, hF⟩ := ok_gd hF
    refine r_astore (i := 4) (Ls' := [(4, _), (0, _), (1, _), (2, _), (3, _)]) rfl (Nat.le_of_ble_eq_true rfl) rfl ?_
    refine r_aload (i := 5) (k0 := 0) rfl rfl ?_
    refine r_ifnonnull (i := 6) (tgt := 18) rfl (by decide) ?_
    refine r_iload_n (i := 9) (k0 := 3) rfl rfl rfl ?_
    refine r_iconst (v := 3) (i := 10) rfl ki_3 ?_
    refine r_bipush (v := 6) (i := 11) rfl kb_6 ?_
    refine c_S3I (i := 12) rfl sm_D_isWithin lk_D_82 (t_D_isWithin hn (ok_bind hF)) (Nat.le_of_ble_eq_true rfl) rfl (Nat.le_of_ble_eq_true rfl) (fun p_4 hF => ?_)
    refine r_ifne (i := 13) (tgt := 31) rfl (by decide) (fun hc => ?_) (fun hc => ?_)
    · have hF := ok_if hc hF
      refine r_aload (i := 16) (k0 := 0) rfl rfl ?_
      refine r_iload_n (i := 17) (k0 := 3) rfl rfl rfl ?_
      refine r_iload_n (i := 18) (k0 := 4) rfl rfl rfl ?_
      refine c_V2I (i := 19) rfl vm_So_hasVertices lk_D_253 (t_So_hasVertices hn hs_3 (ok_bind hF)) (Nat.le_of_ble_eq_true rfl) (xm_sdn hs_3 0 (by decide)) (xm_sdL hs_3 0 (by decide) rfl) rfl (Nat.le_of_ble_eq_true rfl) (fun p_5 hF => ?_)
      refine r_ifne (i := 20) (tgt := 44) rfl (by decide) (fun hc => ?_) (fun hc => ?_)
      · have hF := ok_if hc hF
        refine r_iload_n (i := 23) (k0 := 3) rfl rfl rfl ?_
        refine r_iload_n (i := 24) (k0 := 4) rfl rfl rfl ?_
        refine c_S2I (i := 25) rfl sm_So_hasOneTwice lk_D_257 (t_So_hasOneTwice hn (ok_bind hF)) (Nat.le_of_ble_eq_true rfl) rfl (Nat.le_of_ble_eq_true rfl) (fun p_6 hF => ?_)
        refine r_ifeq (i := 26) (tgt := 55) rfl (by decide) (fun hc => ?_) (fun hc => ?_)
        · have hF := ok_it hc hF
          refine r_aload (i := 29) (k0 := 0) rfl rfl ?_
          refine c_V0I (i := 30) rfl vm_So_facesAreFull lk_D_260 (t_So_facesAreFull hn hs_3 (ok_bind hF)) (Nat.le_of_ble_eq_true rfl) (xm_sdn hs_3 0 (by decide)) (xm_sdL hs_3 0 (by decide) rfl) rfl (Nat.le_of_ble_eq_true rfl) (fun p_7 hF => ?_)
          refine r_ifeq (i := 31) (tgt := 68) rfl (by decide) (fun hc => ?_) (fun hc => ?_)
          · have hF := ok_it hc hF
            refine r_aload (i := 34) (k0 := 0) rfl rfl ?_
            refine r_iload_n (i := 35) (k0 := 3) rfl rfl rfl ?_
            refine r_iload_n (i := 36) (k0 := 4) rfl rfl rfl ?_
            refine c_V2I (i := 37) rfl vm_So_addFace lk_D_263 (t_So_addFace hn hs_3 (ok_bind hF)) (Nat.le_of_ble_eq_true rfl) (xm_sdn hs_3 0 (by decide)) (xm_sdL hs_3 0 (by decide) rfl) rfl (Nat.le_of_ble_eq_true rfl) (fun p_8 hF => ?_)
            have hQ := hq _ (ok_some hF)
            exact r_ireturn (i := 38) rfl rfl rfl hQ
          have hF := ok_if hc hF
          refine r_ldc (i := 32) rfl ct_D_91 ?_
          refine r_goto (i := 33) (tgt := 75) rfl (by decide) ?_
          have hQ := hq _ (ok_some hF)
          exact r_ireturn (i := 38) rfl rfl rfl hQ
        have hF := ok_if hc hF
        refine r_ldc (i := 27) rfl ct_D_128 ?_
        have hQ := hq _ (ok_some hF)
        exact r_ireturn (i := 28) rfl rfl rfl hQ
      have hF := ok_it hc hF
      refine r_ldc (i := 21) rfl ct_D_100 ?_
      have hQ := hq _ (ok_some hF)
      exact r_ireturn (i := 22) rfl rfl rfl hQ
    have hF := ok_it hc hF
    refine r_ldc (i := 14) rfl ct_D_86 ?_
    have hQ := hq _ (ok_some hF)
    exact r_ireturn (i := 15) rfl rfl rfl hQ
set_option maxHeartbeats 4000000 in
set_option maxRecDepth 100000 in
theorem t_D_face {x1 : Int32} {x2 : Int32} {x3 : Int32} {n : Nat} {I : xm_I} {L : xm_L} {K : Int32 × xm_I → Prop} (hn : 86 ≤ n) (hF : ok (f_D_face x1 x2 x3 n I) K) : xm_C 3 mt_D_face [.ref 0, .int x1, .int x2, .int x3] (I, L, RC n, n) 0 0 (pI (fun p : Int32 × xm_I => p.1) (fun p : Int32 × xm_I => (p.2, L, RC n, n)) K) := by
  unfold f_D_face at hF
  refine xm_enter (by decide +kernel) dv_D_face (Nat.le_of_ble_eq_true rfl) ?_
  exact t_D_face_b0 hn (fun p hp => ⟨p, rfl, rfl, hp⟩) hF

noncomputable def f_D_view_b0 (x1 : Int32) (I : xm_I) : Option (Int32 × xm_I) :=
  (f_D_isWithin x1 0 4).bind fun p_1 =>
  if p_1 = 0 then (
    some ((-100002), I))
  else (
    let x2_2 : Int32 := I 15 2
    let I_3 : xm_I := up2 I 15 2 x1
    some (x2_2, I_3))
noncomputable def f_D_view (x1 : Int32) (I : xm_I) : Option (Int32 × xm_I) := f_D_view_b0 x1 I
set_option maxHeartbeats 4000000 in
set_option maxRecDepth 100000 in
theorem t_D_view_b0 {x1 : Int32} {n : Nat} {I : xm_I} {L : xm_L} {K : Int32 × xm_I → Prop} {Q : Option Value → xm_H → Prop} (hn : 86 ≤ n) (hq : ∀ p : Int32 × xm_I, K p → Q (some (.int p.1)) (p.2, L, RC n, n)) (hF : ok (f_D_view_b0 x1 I) K) : xm_J 1 mt_D_view 0 [(0, .ref 0), (1, .int x1)] [] (I, L, RC n, n) 0 0 Q := by
  unfold f_D_view_b0 at hF
  refine r_iload_n (i := 0) (k0 := 1) rfl rfl rfl ?_
  refine r_iconst (v := 0) (i := 1) rfl ki_0 ?_
  refine r_iconst (v := 4) (i := 2) rfl ki_4 ?_
  refine c_S3I (i := 3) rfl sm_D_isWithin lk_D_82 (t_D_isWithin hn (ok_bind hF)) (Nat.le_of_ble_eq_true rfl) rfl (Nat.le_of_ble_eq_true rfl) (fun p_1 hF => ?_)
  refine r_ifne (i := 4) (tgt := 12) rfl (by decide) (fun hc => ?_) (fun hc => ?_)
  · have hF := ok_if hc hF
    refine r_aload_n (i := 7) (k0 := 0) rfl rfl rfl ?_
    refine q_getr (b := 15) (i := 8) rfl fl_D_35 rfl (xm_in rfl hn) rfl rfl ?_
    refine q_geti (i := 9) rfl fl_D_266 (xm_in rfl hn) rfl ?_
    refine r_istore_n (i := 10) (Ls' := [(2, _), (0, _), (1, _)]) rfl rfl (Nat.le_of_ble_eq_true rfl) rfl ?_
    refine r_aload_n (i := 11) (k0 := 1) rfl rfl rfl ?_
    refine q_getr (b := 15) (i := 12) rfl fl_D_35 rfl (xm_in rfl hn) rfl rfl ?_
    refine r_iload_n (i := 13) (k0 := 2) rfl rfl rfl ?_
    refine q_puti (i := 14) rfl fl_D_266 (fun h => Bool.noConfusion h) (xm_in rfl hn) rfl ?_
    refine r_iload_n (i := 15) (k0 := 0) rfl rfl rfl ?_
    have hQ := hq _ (ok_some hF)
    exact r_ireturn (i := 16) rfl rfl rfl hQ
  have hF := ok_it hc hF
  refine r_ldc (i := 5) rfl ct_D_86 ?_
  have hQ := hq _ (ok_some hF)
  exact r_ireturn (i := 6) rfl rfl rfl hQ
set_option maxHeartbeats 4000000 in
set_option maxRecDepth 100000 in
theorem t_D_view {x1 : Int32} {n : Nat} {I : xm_I} {L : xm_L} {K : Int32 × xm_I → Prop} (hn : 86 ≤ n) (hF : ok (f_D_view x1 I) K) : xm_C 1 mt_D_view [.ref 0, .int x1] (I, L, RC n, n) 0 0 (pI (fun p : Int32 × xm_I => p.1) (fun p : Int32 × xm_I => (p.2, L, RC n, n)) K) := by
  unfold f_D_view at hF
  refine xm_enter (by decide +kernel) dv_D_view (Nat.le_of_ble_eq_true rfl) ?_
  exact t_D_view_b0 hn (fun p hp => ⟨p, rfl, rfl, hp⟩) hF

noncomputable def f_So_isEdge_b0 (r0 : Nat) (x1 : Int32) (I : xm_I) : Option (Int32) :=
  if x1 < 0 then (
    some (0))
  else (
  if 144 ≤ x1 then (
    some (0))
  else (
  gd (0 ≤ (x1).toInt ∧ (x1).toInt < 144) <|
  if (I (r0 + 7) (Int32.toNatClampNeg x1)) = 0 then (
    some (0))
  else (
  some (1))))
noncomputable def f_So_isEdge (r0 : Nat) (x1 : Int32) (I : xm_I) : Option (Int32) := f_So_isEdge_b0 r0 x1 I
set_option maxHeartbeats 4000000 in
set_option maxRecDepth 100000 in
theorem t_So_isEdge_b0 {r0 : Nat} {x1 : Int32} {n : Nat} {I : xm_I} {L : xm_L} {K : Int32 → Prop} {Q : Option Value → xm_H → Prop} (hn : 86 ≤ n) (hsr0 : xm_sd n r0) (hq : ∀ p : Int32, K p → Q (some (.int p)) (I, L, RC n, n)) (hF : ok (f_So_isEdge_b0 r0 x1 I) K) : xm_J 0 mt_So_isEdge 0 [(0, .ref r0), (1, .int x1)] [] (I, L, RC n, n) 0 0 Q := by
  unfold f_So_isEdge_b0 at hF
  refine r_iload_n (i := 0) (k0 := 1) rfl rfl rfl ?_
  refine r_iflt (i := 1) (tgt := 24) rfl (by decide) (fun hc => ?_) (fun hc => ?_)
  · have hF := ok_it hc hF
    refine r_iconst (v := 0) (i := 12) rfl ki_0 ?_
    have hQ := hq _ (ok_some hF)
    exact r_ireturn (i := 13) rfl rfl rfl hQ
  have hF := ok_if hc hF
  refine r_iload_n (i := 2) (k0 := 1) rfl rfl rfl ?_
  refine r_sipush (v := 144) (i := 3) rfl ks_144 ?_
  refine r_icmpge (i := 4) (tgt := 24) rfl (by decide) (fun hc => ?_) (fun hc => ?_)
  · have hF := ok_it hc hF
    refine r_iconst (v := 0) (i := 12) rfl ki_0 ?_
    have hQ := hq _ (ok_some hF)
    exact r_ireturn (i := 13) rfl rfl rfl hQ
  have hF := ok_if hc hF
  refine r_aload_n (i := 5) (k0 := 0) rfl rfl rfl ?_
  refine q_getr (b := r0 + 7) (i := 6) rfl fl_So_30 rfl (xm_sdn hsr0 0 (by decide)) (xm_sdL hsr0 0 (by decide) rfl) (xm_sr8 hsr0) ?_
  refine r_iload_n (i := 7) (k0 := 1) rfl rfl rfl ?_
  obtain ⟨hi, hF⟩ := ok_gd hF
  refine q_iaload (i := 8) rfl (xm_sdn hsr0 7 (by decide)) (xm_sdL hsr0 7 (by decide) rfl) hi ?_
  refine r_ifeq (i := 9) (tgt := 24) rfl (by decide) (fun hc => ?_) (fun hc => ?_)
  · have hF := ok_it hc hF
    refine r_iconst (v := 0) (i := 12) rfl ki_0 ?_
    have hQ := hq _ (ok_some hF)
    exact r_ireturn (i := 13) rfl rfl rfl hQ
  have hF := ok_if hc hF
  refine r_iconst (v := 1) (i := 10) rfl ki_1 ?_
  refine r_goto (i := 11) (tgt := 25) rfl (by decide) ?_
  have hQ := hq _ (ok_some hF)
  exact r_ireturn (i := 13) rfl rfl rfl hQ
set_option maxHeartbeats 4000000 in
set_option maxRecDepth 100000 in
theorem t_So_isEdge {r0 : Nat} {x1 : Int32} {n : Nat} {I : xm_I} {L : xm_L} {K : Int32 → Prop} (hn : 86 ≤ n) (hsr0 : xm_sd n r0) (hF : ok (f_So_isEdge r0 x1 I) K) : xm_C 0 mt_So_isEdge [.ref r0, .int x1] (I, L, RC n, n) 0 0 (pI (fun p : Int32 => p) (fun p : Int32 => (I, L, RC n, n)) K) := by
  unfold f_So_isEdge at hF
  refine xm_enter (by decide +kernel) dv_So_isEdge (Nat.le_of_ble_eq_true rfl) ?_
  exact t_So_isEdge_b0 hn hsr0 (fun p hp => ⟨p, rfl, rfl, hp⟩) hF

noncomputable def f_So_edgeCount_b25 (r0 : Nat) (x2 : Int32) (y0 : Int32) (y1 : Int32) (I : xm_I) : Option ((Int32 × Int32) ⊕ (Int32)) :=
  let x1_1 : Int32 := y0 + y1
  let x2_2 : Int32 := x2 + 1
  some (.inl (x1_1, x2_2))
noncomputable def f_So_edgeCount_s4 (r0 : Nat) (I : xm_I) (s : Int32 × Int32) : Option ((Int32 × Int32) ⊕ (Int32)) :=
  if 144 ≤ s.2 then (
    some (.inr (s.1)))
  else (
  (f_So_isEdge r0 s.2 I).bind fun p_1 =>
  if p_1 = 0 then (
    f_So_edgeCount_b25 r0 s.2 s.1 0 I)
  else (
  f_So_edgeCount_b25 r0 s.2 s.1 1 I))
noncomputable def f_So_edgeCount_b4 (r0 : Nat) (I : xm_I) (s : Int32 × Int32) : Option (Int32) := lp (f_So_edgeCount_s4 r0 I) s
noncomputable def f_So_edgeCount_b0 (r0 : Nat) (I : xm_I) : Option (Int32) :=
  f_So_edgeCount_b4 r0 I (0, 0)
noncomputable def f_So_edgeCount (r0 : Nat) (I : xm_I) : Option (Int32) := f_So_edgeCount_b0 r0 I
set_option maxHeartbeats 4000000 in
set_option maxRecDepth 100000 in
theorem t_So_edgeCount_b25 {r0 : Nat} {x2 : Int32} {y0 : Int32} {y1 : Int32} {n : Nat} {I : xm_I} {L : xm_L} {K : (Int32 × Int32) ⊕ (Int32) → Prop} {Q : Option Value → xm_H → Prop} (hn : 86 ≤ n) (hsr0 : xm_sd n r0) (hq : ∀ p : Int32, K (.inr p) → Q (some (.int p)) (I, L, RC n, n)) (hg0 : ∀ s : Int32 × Int32, K (.inl s) → xm_J 1 mt_So_edgeCount 4 [(0, .ref r0), (1, .int s.1), (2, .int s.2)] [] (I, L, RC n, n) 0 0 Q) (hF : ok (f_So_edgeCount_b25 r0 x2 y0 y1 I) K) : xm_J 1 mt_So_edgeCount 25 [(0, .ref r0), (2, .int x2)] [.int y1, .int y0] (I, L, RC n, n) 0 0 Q := by
  unfold f_So_edgeCount_b25 at hF
  refine r_iadd (i := 15) rfl ?_
  refine r_istore_n (i := 16) (Ls' := [(1, _), (0, _), (2, _)]) rfl rfl (Nat.le_of_ble_eq_true rfl) rfl ?_
  refine q_iinc (i := 17) (k0 := 2) (Ls' := [(2, _), (1, _), (0, _)]) rfl ki_1 rfl (Nat.le_of_ble_eq_true rfl) rfl ?_
  refine r_goto (i := 18) (tgt := 4) rfl (by decide) ?_
  refine xm_sub (Ls' := [(0, _), (1, _), (2, _)]) [2, 1, 0] rfl ?_
  have hJ := hg0 _ (ok_some hF)
  exact hJ
set_option maxHeartbeats 4000000 in
set_option maxRecDepth 100000 in
theorem t_So_edgeCount_s4 {r0 : Nat} {s : Int32 × Int32} {n : Nat} {I : xm_I} {L : xm_L} {K : (Int32 × Int32) ⊕ (Int32) → Prop} {Q : Option Value → xm_H → Prop} (hn : 86 ≤ n) (hsr0 : xm_sd n r0) (hq : ∀ p : Int32, K (.inr p) → Q (some (.int p)) (I, L, RC n, n)) (hg0 : ∀ s : Int32 × Int32, K (.inl s) → xm_J 1 mt_So_edgeCount 4 [(0, .ref r0), (1, .int s.1), (2, .int s.2)] [] (I, L, RC n, n) 0 0 Q) (hF : ok (f_So_edgeCount_s4 r0 I s) K) : xm_J 1 mt_So_edgeCount 4 [(0, .ref r0), (1, .int s.1), (2, .int s.2)] [] (I, L, RC n, n) 0 0 Q := by
  unfold f_So_edgeCount_s4 at hF
  refine r_iload_n (i := 4) (k0 := 2) rfl rfl rfl ?_
  refine r_sipush (v := 144) (i := 5) rfl ks_144 ?_
  refine r_icmpge (i := 6) (tgt := 33) rfl (by decide) (fun hc => ?_) (fun hc => ?_)
  · have hF := ok_it hc hF
    refine r_iload_n (i := 19) (k0 := 1) rfl rfl rfl ?_
    have hQ := hq _ (ok_some hF)
    exact r_ireturn (i := 20) rfl rfl rfl hQ
  have hF := ok_if hc hF
  refine r_iload_n (i := 7) (k0 := 1) rfl rfl rfl ?_
  refine r_aload_n (i := 8) (k0 := 0) rfl rfl rfl ?_
  refine r_iload_n (i := 9) (k0 := 2) rfl rfl rfl ?_
  refine c_V1I (i := 10) rfl vm_So_isEdge lk_So_83 (t_So_isEdge hn hsr0 (ok_bind hF)) (Nat.le_of_ble_eq_true rfl) (xm_sdn hsr0 0 (by decide)) (xm_sdL hsr0 0 (by decide) rfl) rfl (Nat.le_of_ble_eq_true rfl) (fun p_1 hF => ?_)
  refine r_ifeq (i := 11) (tgt := 24) rfl (by decide) (fun hc => ?_) (fun hc => ?_)
  · have hF := ok_it hc hF
    refine r_iconst (v := 0) (i := 14) rfl ki_0 ?_
    refine xm_sub (Ls' := [(0, _), (2, _)]) [0, 2] rfl ?_
    exact t_So_edgeCount_b25 hn hsr0 (fun p h => hq p h) (fun z h => hg0 z h) hF
  have hF := ok_if hc hF
  refine r_iconst (v := 1) (i := 12) rfl ki_1 ?_
  refine r_goto (i := 13) (tgt := 25) rfl (by decide) ?_
  refine xm_sub (Ls' := [(0, _), (2, _)]) [0, 2] rfl ?_
  exact t_So_edgeCount_b25 hn hsr0 (fun p h => hq p h) (fun z h => hg0 z h) hF
set_option maxHeartbeats 4000000 in
set_option maxRecDepth 100000 in
theorem t_So_edgeCount_b4 {r0 : Nat} {s : Int32 × Int32} {n : Nat} {I : xm_I} {L : xm_L} {K : Int32 → Prop} {Q : Option Value → xm_H → Prop} (hn : 86 ≤ n) (hsr0 : xm_sd n r0) (hq : ∀ p : Int32, K p → Q (some (.int p)) (I, L, RC n, n)) (hF : ok (f_So_edgeCount_b4 r0 I s) K) : xm_J 1 mt_So_edgeCount 4 [(0, .ref r0), (1, .int s.1), (2, .int s.2)] [] (I, L, RC n, n) 0 0 Q :=
  lp_J (G := fun z => xm_J 1 mt_So_edgeCount 4 [(0, .ref r0), (1, .int z.1), (2, .int z.2)] [] (I, L, RC n, n) 0 0 Q) (fun z hF => t_So_edgeCount_s4 hn hsr0 (fun p h => hq p h) (fun z h => h) hF) s hF
set_option maxHeartbeats 4000000 in
set_option maxRecDepth 100000 in
theorem t_So_edgeCount_b0 {r0 : Nat} {n : Nat} {I : xm_I} {L : xm_L} {K : Int32 → Prop} {Q : Option Value → xm_H → Prop} (hn : 86 ≤ n) (hsr0 : xm_sd n r0) (hq : ∀ p : Int32, K p → Q (some (.int p)) (I, L, RC n, n)) (hF : ok (f_So_edgeCount_b0 r0 I) K) : xm_J 1 mt_So_edgeCount 0 [(0, .ref r0)] [] (I, L, RC n, n) 0 0 Q := by
  unfold f_So_edgeCount_b0 at hF
  refine r_iconst (v := 0) (i := 0) rfl ki_0 ?_
  refine r_istore_n (i := 1) (Ls' := [(1, _), (0, _)]) rfl rfl (Nat.le_of_ble_eq_true rfl) rfl ?_
  refine r_iconst (v := 0) (i := 2) rfl ki_0 ?_
  refine r_istore_n (i := 3) (Ls' := [(2, _), (1, _), (0, _)]) rfl rfl (Nat.le_of_ble_eq_true rfl) rfl ?_
  refine xm_sub (Ls' := [(0, _), (1, _), (2, _)]) [2, 1, 0] rfl ?_
  exact t_So_edgeCount_b4 hn hsr0 (fun p h => hq p h) hF
set_option maxHeartbeats 4000000 in
set_option maxRecDepth 100000 in
theorem t_So_edgeCount {r0 : Nat} {n : Nat} {I : xm_I} {L : xm_L} {K : Int32 → Prop} (hn : 86 ≤ n) (hsr0 : xm_sd n r0) (hF : ok (f_So_edgeCount r0 I) K) : xm_C 1 mt_So_edgeCount [.ref r0] (I, L, RC n, n) 0 0 (pI (fun p : Int32 => p) (fun p : Int32 => (I, L, RC n, n)) K) := by
  unfold f_So_edgeCount at hF
  refine xm_enter (by decide +kernel) dv_So_edgeCount (Nat.le_of_ble_eq_true rfl) ?_
  exact t_So_edgeCount_b0 hn hsr0 (fun p hp => ⟨p, rfl, rfl, hp⟩) hF

noncomputable def f_So_edgeNumbered_b29 (r0 : Nat) (x1 : Int32) (x2 : Int32) (x3 : Int32) (I : xm_I) : Option ((Int32 × Int32) ⊕ (Int32)) :=
  let x3_1 : Int32 := x3 + 1
  some (.inl (x2, x3_1))
noncomputable def f_So_edgeNumbered_s4 (r0 : Nat) (x1 : Int32) (I : xm_I) (s : Int32 × Int32) : Option ((Int32 × Int32) ⊕ (Int32)) :=
  if 144 ≤ s.2 then (
    some (.inr ((-1))))
  else (
  (f_So_isEdge r0 s.2 I).bind fun p_1 =>
  if p_1 = 0 then (
    f_So_edgeNumbered_b29 r0 x1 s.1 s.2 I)
  else (
  if s.1 = x1 then (
    some (.inr (s.2)))
  else (
    let x2_2 : Int32 := s.1 + 1
    f_So_edgeNumbered_b29 r0 x1 x2_2 s.2 I)))
noncomputable def f_So_edgeNumbered_b4 (r0 : Nat) (x1 : Int32) (I : xm_I) (s : Int32 × Int32) : Option (Int32) := lp (f_So_edgeNumbered_s4 r0 x1 I) s
noncomputable def f_So_edgeNumbered_b0 (r0 : Nat) (x1 : Int32) (I : xm_I) : Option (Int32) :=
  f_So_edgeNumbered_b4 r0 x1 I (0, 0)
noncomputable def f_So_edgeNumbered (r0 : Nat) (x1 : Int32) (I : xm_I) : Option (Int32) := f_So_edgeNumbered_b0 r0 x1 I
set_option maxHeartbeats 4000000 in
set_option maxRecDepth 100000 in
theorem t_So_edgeNumbered_b29 {r0 : Nat} {x1 : Int32} {x2 : Int32} {x3 : Int32} {n : Nat} {I : xm_I} {L : xm_L} {K : (Int32 × Int32) ⊕ (Int32) → Prop} {Q : Option Value → xm_H → Prop} (hn : 86 ≤ n) (hsr0 : xm_sd n r0) (hq : ∀ p : Int32, K (.inr p) → Q (some (.int p)) (I, L, RC n, n)) (hg0 : ∀ s : Int32 × Int32, K (.inl s) → xm_J 1 mt_So_edgeNumbered 4 [(0, .ref r0), (1, .int x1), (2, .int s.1), (3, .int s.2)] [] (I, L, RC n, n) 0 0 Q) (hF : ok (f_So_edgeNumbered_b29 r0 x1 x2 x3 I) K) : xm_J 1 mt_So_edgeNumbered 29 [(0, .ref r0), (1, .int x1), (2, .int x2), (3, .int x3)] [] (I, L, RC n, n) 0 0 Q := by
  unfold f_So_edgeNumbered_b29 at hF
  refine q_iinc (i := 17) (k0 := 3) (Ls' := [(3, _), (0, _), (1, _), (2, _)]) rfl ki_1 rfl (Nat.le_of_ble_eq_true rfl) rfl ?_
  refine r_goto (i := 18) (tgt := 4) rfl (by decide) ?_
  refine xm_sub (Ls' := [(0, _), (1, _), (2, _), (3, _)]) [1, 2, 3, 0] rfl ?_
  have hJ := hg0 _ (ok_some hF)
  exact hJ
set_option maxHeartbeats 4000000 in
set_option maxRecDepth 100000 in
theorem t_So_edgeNumbered_s4 {r0 : Nat} {x1 : Int32} {s : Int32 × Int32} {n : Nat} {I : xm_I} {L : xm_L} {K : (Int32 × Int32) ⊕ (Int32) → Prop} {Q : Option Value → xm_H → Prop} (hn : 86 ≤ n) (hsr0 : xm_sd n r0) (hq : ∀ p : Int32, K (.inr p) → Q (some (.int p)) (I, L, RC n, n)) (hg0 : ∀ s : Int32 × Int32, K (.inl s) → xm_J 1 mt_So_edgeNumbered 4 [(0, .ref r0), (1, .int x1), (2, .int s.1), (3, .int s.2)] [] (I, L, RC n, n) 0 0 Q) (hF : ok (f_So_edgeNumbered_s4 r0 x1 I s) K) : xm_J 1 mt_So_edgeNumbered 4 [(0, .ref r0), (1, .int x1), (2, .int s.1), (3, .int s.2)] [] (I, L, RC n, n) 0 0 Q := by
  unfold f_So_edgeNumbered_s4 at hF
  refine r_iload_n (i := 4) (k0 := 3) rfl rfl rfl ?_
  refine r_sipush (v := 144) (i := 5) rfl ks_144 ?_
  refine r_icmpge (i := 6) (tgt := 35) rfl (by decide) (fun hc => ?_) (fun hc => ?_)
  · have hF := ok_it hc hF
    refine r_iconst (v := (-1)) (i := 19) rfl ki_m1 ?_
    have hQ := hq _ (ok_some hF)
    exact r_ireturn (i := 20) rfl rfl rfl hQ
  have hF := ok_if hc hF
  refine r_aload_n (i := 7) (k0 := 0) rfl rfl rfl ?_
  refine r_iload_n (i := 8) (k0 := 3) rfl rfl rfl ?_
  refine c_V1I (i := 9) rfl vm_So_isEdge lk_So_83 (t_So_isEdge hn hsr0 (ok_bind hF)) (Nat.le_of_ble_eq_true rfl) (xm_sdn hsr0 0 (by decide)) (xm_sdL hsr0 0 (by decide) rfl) rfl (Nat.le_of_ble_eq_true rfl) (fun p_1 hF => ?_)
  refine r_ifeq (i := 10) (tgt := 29) rfl (by decide) (fun hc => ?_) (fun hc => ?_)
  · have hF := ok_it hc hF
    exact t_So_edgeNumbered_b29 hn hsr0 (fun p h => hq p h) (fun z h => hg0 z h) hF
  have hF := ok_if hc hF
  refine r_iload_n (i := 11) (k0 := 2) rfl rfl rfl ?_
  refine r_iload_n (i := 12) (k0 := 1) rfl rfl rfl ?_
  refine r_icmpne (i := 13) (tgt := 26) rfl (by decide) (fun hc => ?_) (fun hc => ?_)
  · have hF := ok_if hc hF
    refine q_iinc (i := 16) (k0 := 2) (Ls' := [(2, _), (0, _), (1, _), (3, _)]) rfl ki_1 rfl (Nat.le_of_ble_eq_true rfl) rfl ?_
    refine xm_sub (Ls' := [(0, _), (1, _), (2, _), (3, _)]) [1, 2, 0, 3] rfl ?_
    exact t_So_edgeNumbered_b29 hn hsr0 (fun p h => hq p h) (fun z h => hg0 z h) hF
  have hF := ok_it hc hF
  refine r_iload_n (i := 14) (k0 := 3) rfl rfl rfl ?_
  have hQ := hq _ (ok_some hF)
  exact r_ireturn (i := 15) rfl rfl rfl hQ
set_option maxHeartbeats 4000000 in
set_option maxRecDepth 100000 in
theorem t_So_edgeNumbered_b4 {r0 : Nat} {x1 : Int32} {s : Int32 × Int32} {n : Nat} {I : xm_I} {L : xm_L} {K : Int32 → Prop} {Q : Option Value → xm_H → Prop} (hn : 86 ≤ n) (hsr0 : xm_sd n r0) (hq : ∀ p : Int32, K p → Q (some (.int p)) (I, L, RC n, n)) (hF : ok (f_So_edgeNumbered_b4 r0 x1 I s) K) : xm_J 1 mt_So_edgeNumbered 4 [(0, .ref r0), (1, .int x1), (2, .int s.1), (3, .int s.2)] [] (I, L, RC n, n) 0 0 Q :=
  lp_J (G := fun z => xm_J 1 mt_So_edgeNumbered 4 [(0, .ref r0), (1, .int x1), (2, .int z.1), (3, .int z.2)] [] (I, L, RC n, n) 0 0 Q) (fun z hF => t_So_edgeNumbered_s4 hn hsr0 (fun p h => hq p h) (fun z h => h) hF) s hF
set_option maxHeartbeats 4000000 in
set_option maxRecDepth 100000 in
theorem t_So_edgeNumbered_b0 {r0 : Nat} {x1 : Int32} {n : Nat} {I : xm_I} {L : xm_L} {K : Int32 → Prop} {Q : Option Value → xm_H → Prop} (hn : 86 ≤ n) (hsr0 : xm_sd n r0) (hq : ∀ p : Int32, K p → Q (some (.int p)) (I, L, RC n, n)) (hF : ok (f_So_edgeNumbered_b0 r0 x1 I) K) : xm_J 1 mt_So_edgeNumbered 0 [(0, .ref r0), (1, .int x1)] [] (I, L, RC n, n) 0 0 Q := by
  unfold f_So_edgeNumbered_b0 at hF
  refine r_iconst (v := 0) (i := 0) rfl ki_0 ?_
  refine r_istore_n (i := 1) (Ls' := [(2, _), (0, _), (1, _)]) rfl rfl (Nat.le_of_ble_eq_true rfl) rfl ?_
  refine r_iconst (v := 0) (i := 2) rfl ki_0 ?_
  refine r_istore_n (i := 3) (Ls' := [(3, _), (2, _), (0, _), (1, _)]) rfl rfl (Nat.le_of_ble_eq_true rfl) rfl ?_
  refine xm_sub (Ls' := [(0, _), (1, _), (2, _), (3, _)]) [2, 3, 1, 0] rfl ?_
  exact t_So_edgeNumbered_b4 hn hsr0 (fun p h => hq p h) hF
set_option maxHeartbeats 4000000 in
set_option maxRecDepth 100000 in
theorem t_So_edgeNumbered {r0 : Nat} {x1 : Int32} {n : Nat} {I : xm_I} {L : xm_L} {K : Int32 → Prop} (hn : 86 ≤ n) (hsr0 : xm_sd n r0) (hF : ok (f_So_edgeNumbered r0 x1 I) K) : xm_C 1 mt_So_edgeNumbered [.ref r0, .int x1] (I, L, RC n, n) 0 0 (pI (fun p : Int32 => p) (fun p : Int32 => (I, L, RC n, n)) K) := by
  unfold f_So_edgeNumbered at hF
  refine xm_enter (by decide +kernel) dv_So_edgeNumbered (Nat.le_of_ble_eq_true rfl) ?_
  exact t_So_edgeNumbered_b0 hn hsr0 (fun p hp => ⟨p, rfl, rfl, hp⟩) hF

noncomputable def f_So_towardsEye_b0 (r0 : Nat) (x1 : Int32) (x2 : Int32) (I : xm_I) : Option (Int32) :=
  if x2 = 0 then (
    gd (0 ≤ (x1).toInt ∧ (x1).toInt < 10) <|
    some (I (r0 + 6) (Int32.toNatClampNeg x1)))
  else (
  if x2 = 1 then (
    gd (0 ≤ (x1).toInt ∧ (x1).toInt < 10) <|
    some (I (r0 + 5) (Int32.toNatClampNeg x1)))
  else (
  if x2 = 2 then (
    gd (0 ≤ (x1).toInt ∧ (x1).toInt < 10) <|
    some (I (r0 + 4) (Int32.toNatClampNeg x1)))
  else (
  if x2 = 3 then (
    gd (0 ≤ (x1).toInt ∧ (x1).toInt < 10) <|
    gd (0 ≤ (x1).toInt ∧ (x1).toInt < 10) <|
    gd (0 ≤ (x1).toInt ∧ (x1).toInt < 10) <|
    some (((I (r0 + 4) (Int32.toNatClampNeg x1)) + (I (r0 + 5) (Int32.toNatClampNeg x1))) + (2 * (I (r0 + 6) (Int32.toNatClampNeg x1)))))
  else (
  gd (0 ≤ (x1).toInt ∧ (x1).toInt < 10) <|
  gd (0 ≤ (x1).toInt ∧ (x1).toInt < 10) <|
  gd (0 ≤ (x1).toInt ∧ (x1).toInt < 10) <|
  some (((I (r0 + 4) (Int32.toNatClampNeg x1)) + (I (r0 + 5) (Int32.toNatClampNeg x1))) + (I (r0 + 6) (Int32.toNatClampNeg x1)))))))
noncomputable def f_So_towardsEye (r0 : Nat) (x1 : Int32) (x2 : Int32) (I : xm_I) : Option (Int32) := f_So_towardsEye_b0 r0 x1 x2 I
set_option maxHeartbeats 4000000 in
set_option maxRecDepth 100000 in
theorem t_So_towardsEye_b0 {r0 : Nat} {x1 : Int32} {x2 : Int32} {n : Nat} {I : xm_I} {L : xm_L} {K : Int32 → Prop} {Q : Option Value → xm_H → Prop} (hn : 86 ≤ n) (hsr0 : xm_sd n r0) (hq : ∀ p : Int32, K p → Q (some (.int p)) (I, L, RC n, n)) (hF : ok (f_So_towardsEye_b0 r0 x1 x2 I) K) : xm_J 0 mt_So_towardsEye 0 [(0, .ref r0), (1, .int x1), (2, .int x2)] [] (I, L, RC n, n) 0 0 Q := by
  unfold f_So_towardsEye_b0 at hF
  refine r_iload_n (i := 0) (k0 := 2) rfl rfl rfl ?_
  refine r_case 0 (fun hc0 => ?_) (fun hc0 => ?_)
  · have hF := ok_it hc0 hF
    refine r_tsIn (i := 1) (tgt := 32) rfl (by decide) (by decide) rfl (by decide) ?_
    refine r_aload_n (i := 2) (k0 := 0) rfl rfl rfl ?_
    refine q_getr (b := r0 + 6) (i := 3) rfl fl_So_27 rfl (xm_sdn hsr0 0 (by decide)) (xm_sdL hsr0 0 (by decide) rfl) (xm_sr7 hsr0) ?_
    refine r_iload_n (i := 4) (k0 := 1) rfl rfl rfl ?_
    obtain ⟨hi, hF⟩ := ok_gd hF
    refine q_iaload (i := 5) rfl (xm_sdn hsr0 6 (by decide)) (xm_sdL hsr0 6 (by decide) rfl) hi ?_
    have hQ := hq _ (ok_some hF)
    exact r_ireturn (i := 6) rfl rfl rfl hQ
  have hF := ok_if hc0 hF
  refine r_case 1 (fun hc1 => ?_) (fun hc1 => ?_)
  · have hF := ok_it hc1 hF
    refine r_tsIn (i := 1) (tgt := 39) rfl (by decide) (by decide) rfl (by decide) ?_
    refine r_aload_n (i := 7) (k0 := 0) rfl rfl rfl ?_
    refine q_getr (b := r0 + 5) (i := 8) rfl fl_So_24 rfl (xm_sdn hsr0 0 (by decide)) (xm_sdL hsr0 0 (by decide) rfl) (xm_sr6 hsr0) ?_
    refine r_iload_n (i := 9) (k0 := 1) rfl rfl rfl ?_
    obtain ⟨hi, hF⟩ := ok_gd hF
    refine q_iaload (i := 10) rfl (xm_sdn hsr0 5 (by decide)) (xm_sdL hsr0 5 (by decide) rfl) hi ?_
    have hQ := hq _ (ok_some hF)
    exact r_ireturn (i := 11) rfl rfl rfl hQ
  have hF := ok_if hc1 hF
  refine r_case 2 (fun hc2 => ?_) (fun hc2 => ?_)
  · have hF := ok_it hc2 hF
    refine r_tsIn (i := 1) (tgt := 46) rfl (by decide) (by decide) rfl (by decide) ?_
    refine r_aload_n (i := 12) (k0 := 0) rfl rfl rfl ?_
    refine q_getr (b := r0 + 4) (i := 13) rfl fl_So_21 rfl (xm_sdn hsr0 0 (by decide)) (xm_sdL hsr0 0 (by decide) rfl) (xm_sr5 hsr0) ?_
    refine r_iload_n (i := 14) (k0 := 1) rfl rfl rfl ?_
    obtain ⟨hi, hF⟩ := ok_gd hF
    refine q_iaload (i := 15) rfl (xm_sdn hsr0 4 (by decide)) (xm_sdL hsr0 4 (by decide) rfl) hi ?_
    have hQ := hq _ (ok_some hF)
    exact r_ireturn (i := 16) rfl rfl rfl hQ
  have hF := ok_if hc2 hF
  refine r_case 3 (fun hc3 => ?_) (fun hc3 => ?_)
  · have hF := ok_it hc3 hF
    refine r_tsIn (i := 1) (tgt := 53) rfl (by decide) (by decide) rfl (by decide) ?_
    refine r_aload_n (i := 17) (k0 := 0) rfl rfl rfl ?_
    refine q_getr (b := r0 + 4) (i := 18) rfl fl_So_21 rfl (xm_sdn hsr0 0 (by decide)) (xm_sdL hsr0 0 (by decide) rfl) (xm_sr5 hsr0) ?_
    refine r_iload_n (i := 19) (k0 := 1) rfl rfl rfl ?_
    obtain ⟨hi, hF⟩ := ok_gd hF
    refine q_iaload (i := 20) rfl (xm_sdn hsr0 4 (by decide)) (xm_sdL hsr0 4 (by decide) rfl) hi ?_
    refine r_aload_n (i := 21) (k0 := 0) rfl rfl rfl ?_
    refine q_getr (b := r0 + 5) (i := 22) rfl fl_So_24 rfl (xm_sdn hsr0 0 (by decide)) (xm_sdL hsr0 0 (by decide) rfl) (xm_sr6 hsr0) ?_
    refine r_iload_n (i := 23) (k0 := 1) rfl rfl rfl ?_
    obtain ⟨hi, hF⟩ := ok_gd hF
    refine q_iaload (i := 24) rfl (xm_sdn hsr0 5 (by decide)) (xm_sdL hsr0 5 (by decide) rfl) hi ?_
    refine r_iadd (i := 25) rfl ?_
    refine r_iconst (v := 2) (i := 26) rfl ki_2 ?_
    refine r_aload_n (i := 27) (k0 := 0) rfl rfl rfl ?_
    refine q_getr (b := r0 + 6) (i := 28) rfl fl_So_27 rfl (xm_sdn hsr0 0 (by decide)) (xm_sdL hsr0 0 (by decide) rfl) (xm_sr7 hsr0) ?_
    refine r_iload_n (i := 29) (k0 := 1) rfl rfl rfl ?_
    obtain ⟨hi, hF⟩ := ok_gd hF
    refine q_iaload (i := 30) rfl (xm_sdn hsr0 6 (by decide)) (xm_sdL hsr0 6 (by decide) rfl) hi ?_
    refine r_imul (i := 31) rfl ?_
    refine r_iadd (i := 32) rfl ?_
    have hQ := hq _ (ok_some hF)
    exact r_ireturn (i := 33) rfl rfl rfl hQ
  have hF := ok_if hc3 hF
  refine r_tsOut (i := 1) (tgt := 76) rfl (by have e0 := lv_neT hc0 (a := 0) (by decide); have e1 := lv_neT hc1 (a := 1) (by decide); have e2 := lv_neT hc2 (a := 2) (by decide); have e3 := lv_neT hc3 (a := 3) (by decide); omega) (by decide) ?_
  refine r_aload_n (i := 34) (k0 := 0) rfl rfl rfl ?_
  refine q_getr (b := r0 + 4) (i := 35) rfl fl_So_21 rfl (xm_sdn hsr0 0 (by decide)) (xm_sdL hsr0 0 (by decide) rfl) (xm_sr5 hsr0) ?_
  refine r_iload_n (i := 36) (k0 := 1) rfl rfl rfl ?_
  obtain ⟨hi, hF⟩ := ok_gd hF
  refine q_iaload (i := 37) rfl (xm_sdn hsr0 4 (by decide)) (xm_sdL hsr0 4 (by decide) rfl) hi ?_
  refine r_aload_n (i := 38) (k0 := 0) rfl rfl rfl ?_
  refine q_getr (b := r0 + 5) (i := 39) rfl fl_So_24 rfl (xm_sdn hsr0 0 (by decide)) (xm_sdL hsr0 0 (by decide) rfl) (xm_sr6 hsr0) ?_
  refine r_iload_n (i := 40) (k0 := 1) rfl rfl rfl ?_
  obtain ⟨hi, hF⟩ := ok_gd hF
  refine q_iaload (i := 41) rfl (xm_sdn hsr0 5 (by decide)) (xm_sdL hsr0 5 (by decide) rfl) hi ?_
  refine r_iadd (i := 42) rfl ?_
  refine r_aload_n (i := 43) (k0 := 0) rfl rfl rfl ?_
  refine q_getr (b := r0 + 6) (i := 44) rfl fl_So_27 rfl (xm_sdn hsr0 0 (by decide)) (xm_sdL hsr0 0 (by decide) rfl) (xm_sr7 hsr0) ?_
  refine r_iload_n (i := 45) (k0 := 1) rfl rfl rfl ?_
  obtain ⟨hi, hF⟩ := ok_gd hF
  refine q_iaload (i := 46) rfl (xm_sdn hsr0 6 (by decide)) (xm_sdL hsr0 6 (by decide) rfl) hi ?_
  refine r_iadd (i := 47) rfl ?_
  have hQ := hq _ (ok_some hF)
  exact r_ireturn (i := 48) rfl rfl rfl hQ
set_option maxHeartbeats 4000000 in
set_option maxRecDepth 100000 in
theorem t_So_towardsEye {r0 : Nat} {x1 : Int32} {x2 : Int32} {n : Nat} {I : xm_I} {L : xm_L} {K : Int32 → Prop} (hn : 86 ≤ n) (hsr0 : xm_sd n r0) (hF : ok (f_So_towardsEye r0 x1 x2 I) K) : xm_C 0 mt_So_towardsEye [.ref r0, .int x1, .int x2] (I, L, RC n, n) 0 0 (pI (fun p : Int32 => p) (fun p : Int32 => (I, L, RC n, n)) K) := by
  unfold f_So_towardsEye at hF
  refine xm_enter (by decide +kernel) dv_So_towardsEye (Nat.le_of_ble_eq_true rfl) ?_
  exact t_So_towardsEye_b0 hn hsr0 (fun p hp => ⟨p, rfl, rfl, hp⟩) hF
