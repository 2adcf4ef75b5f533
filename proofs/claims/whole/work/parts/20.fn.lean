/-! ===== turned: D_isWithin Pt_isFull Pt_add D_point Pt_has Pt_goBy D_move D_tick Pt_xNow Pt_yNow D_at Fg_isFull Fg_add D_object Fg_chainIsFull Fg_lengthenChain D_corner Fg_has Fg_setStyle Fg_styleOf D_style Fg_isHidden Fg_setHidden D_hide Fg_cornersOf Fg_xOf Fg_yOf Fg_isAtOnePlace Fg_kindOf Fg_turnOf Fg_hasFallen D_fallen D_measure Jm_abs_J D_commonDivisor Fr_rescale Fr_setWindow D_window Jm_max_I ===== -/
noncomputable def f_D_isWithin_b0 (x0 : Int32) (x1 : Int32) (x2 : Int32) : Option (Int32) :=
  if x0 < x1 then (
    some (0))
  else (
  if x2 < x0 then (
    some (0))
  else (
  some (1)))
noncomputable def f_D_isWithin (x0 : Int32) (x1 : Int32) (x2 : Int32) : Option (Int32) := f_D_isWithin_b0 x0 x1 x2
set_option maxHeartbeats 4000000 in
set_option maxRecDepth 100000 in
theorem t_D_isWithin_b0 {x0 : Int32} {x1 : Int32} {x2 : Int32} {n : Nat} {I : xm_I} {L : xm_L} {K : Int32 → Prop} {Q : Option Value → xm_H → Prop} (hn : 86 ≤ n) (hq : ∀ p : Int32, K p → Q (some (.int p)) (I, L, RC n, n)) (hF : ok (f_D_isWithin_b0 x0 x1 x2) K) : xm_J 0 mt_D_isWithin 0 [(0, .int x0), (1, .int x1), (2, .int x2)] [] (I, L, RC n, n) 0 0 Q := by
  unfold f_D_isWithin_b0 at hF
  refine r_iload_n (i := 0) (k0 := 0) rfl rfl rfl ?_
  refine r_iload_n (i := 1) (k0 := 1) rfl rfl rfl ?_
  refine r_icmplt (i := 2) (tgt := 14) rfl (by decide) (fun hc => ?_) (fun hc => ?_)
  · have hF := ok_it hc hF
    refine r_iconst (v := 0) (i := 8) rfl ki_0 ?_
    have hQ := hq _ (ok_some hF)
    exact r_ireturn (i := 9) rfl rfl rfl hQ
  have hF := ok_if hc hF
  refine r_iload_n (i := 3) (k0 := 0) rfl rfl rfl ?_
  refine r_iload_n (i := 4) (k0 := 2) rfl rfl rfl ?_
  refine r_icmpgt (i := 5) (tgt := 14) rfl (by decide) (fun hc => ?_) (fun hc => ?_)
  · have hF := ok_it hc hF
    refine r_iconst (v := 0) (i := 8) rfl ki_0 ?_
    have hQ := hq _ (ok_some hF)
    exact r_ireturn (i := 9) rfl rfl rfl hQ
  have hF := ok_if hc hF
  refine r_iconst (v := 1) (i := 6) rfl ki_1 ?_
  refine r_goto (i := 7) (tgt := 15) rfl (by decide) ?_
  have hQ := hq _ (ok_some hF)
  exact r_ireturn (i := 9) rfl rfl rfl hQ
set_option maxHeartbeats 4000000 in
set_option maxRecDepth 100000 in
theorem t_D_isWithin {x0 : Int32} {x1 : Int32} {x2 : Int32} {n : Nat} {I : xm_I} {L : xm_L} {K : Int32 → Prop} (hn : 86 ≤ n) (hF : ok (f_D_isWithin x0 x1 x2) K) : xm_C 0 mt_D_isWithin [.int x0, .int x1, .int x2] (I, L, RC n, n) 0 0 (pI (fun p : Int32 => p) (fun p : Int32 => (I, L, RC n, n)) K) := by
  unfold f_D_isWithin at hF
  refine xm_enter (by decide +kernel) dv_D_isWithin (Nat.le_of_ble_eq_true rfl) ?_
  exact t_D_isWithin_b0 hn (fun p hp => ⟨p, rfl, rfl, hp⟩) hF

noncomputable def f_Pt_isFull_b0 (I : xm_I) : Option (Int32) :=
  if (I 1 4) < 60 then (
    some (0))
  else (
  some (1))
noncomputable def f_Pt_isFull (I : xm_I) : Option (Int32) := f_Pt_isFull_b0 I
set_option maxHeartbeats 4000000 in
set_option maxRecDepth 100000 in
theorem t_Pt_isFull_b0 {n : Nat} {I : xm_I} {L : xm_L} {K : Int32 → Prop} {Q : Option Value → xm_H → Prop} (hn : 86 ≤ n) (hq : ∀ p : Int32, K p → Q (some (.int p)) (I, L, RC n, n)) (hF : ok (f_Pt_isFull_b0 I) K) : xm_J 0 mt_Pt_isFull 0 [(0, .ref 1)] [] (I, L, RC n, n) 0 0 Q := by
  unfold f_Pt_isFull_b0 at hF
  refine r_aload_n (i := 0) (k0 := 0) rfl rfl rfl ?_
  refine q_geti (i := 1) rfl fl_Pt_24 (xm_in rfl hn) rfl ?_
  refine r_bipush (v := 60) (i := 2) rfl kb_60 ?_
  refine r_icmplt (i := 3) (tgt := 13) rfl (by decide) (fun hc => ?_) (fun hc => ?_)
  · have hF := ok_it hc hF
    refine r_iconst (v := 0) (i := 6) rfl ki_0 ?_
    have hQ := hq _ (ok_some hF)
    exact r_ireturn (i := 7) rfl rfl rfl hQ
  have hF := ok_if hc hF
  refine r_iconst (v := 1) (i := 4) rfl ki_1 ?_
  refine r_goto (i := 5) (tgt := 14) rfl (by decide) ?_
  have hQ := hq _ (ok_some hF)
  exact r_ireturn (i := 7) rfl rfl rfl hQ
set_option maxHeartbeats 4000000 in
set_option maxRecDepth 100000 in
theorem t_Pt_isFull {n : Nat} {I : xm_I} {L : xm_L} {K : Int32 → Prop} (hn : 86 ≤ n) (hF : ok (f_Pt_isFull I) K) : xm_C 0 mt_Pt_isFull [.ref 1] (I, L, RC n, n) 0 0 (pI (fun p : Int32 => p) (fun p : Int32 => (I, L, RC n, n)) K) := by
  unfold f_Pt_isFull at hF
  refine xm_enter (by decide +kernel) dv_Pt_isFull (Nat.le_of_ble_eq_true rfl) ?_
  exact t_Pt_isFull_b0 hn (fun p hp => ⟨p, rfl, rfl, hp⟩) hF

noncomputable def f_Pt_add_b0 (x1 : Int32) (x2 : Int32) (I : xm_I) : Option (Int32 × xm_I) :=
  (f_Pt_isFull I).bind fun p_1 =>
  if p_1 = 0 then (
    gd (0 ≤ (I 1 4).toInt ∧ (I 1 4).toInt < 60) <|
    let I_2 : xm_I := up2 I 2 (Int32.toNatClampNeg (I 1 4)) x1
    gd (0 ≤ (I_2 1 4).toInt ∧ (I_2 1 4).toInt < 60) <|
    let I_3 : xm_I := up2 I_2 3 (Int32.toNatClampNeg (I_2 1 4)) x2
    let I_4 : xm_I := up2 I_3 1 4 ((I_3 1 4) + 1)
    some ((I_4 1 4) - 1, I_4))
  else (
  some ((-100004), I))
noncomputable def f_Pt_add (x1 : Int32) (x2 : Int32) (I : xm_I) : Option (Int32 × xm_I) := f_Pt_add_b0 x1 x2 I
set_option maxHeartbeats 4000000 in
set_option maxRecDepth 100000 in
theorem t_Pt_add_b0 {x1 : Int32} {x2 : Int32} {n : Nat} {I : xm_I} {L : xm_L} {K : Int32 × xm_I → Prop} {Q : Option Value → xm_H → Prop} (hn : 86 ≤ n) (hq : ∀ p : Int32 × xm_I, K p → Q (some (.int p.1)) (p.2, L, RC n, n)) (hF : ok (f_Pt_add_b0 x1 x2 I) K) : xm_J 1 mt_Pt_add 0 [(0, .ref 1), (1, .int x1), (2, .int x2)] [] (I, L, RC n, n) 0 0 Q := by
  unfold f_Pt_add_b0 at hF
  refine r_aload_n (i := 0) (k0 := 0) rfl rfl rfl ?_
  refine c_V0I (i := 1) rfl vm_Pt_isFull lk_Pt_28 (t_Pt_isFull hn (ok_bind hF)) (Nat.le_of_ble_eq_true rfl) (xm_in rfl hn) rfl rfl (Nat.le_of_ble_eq_true rfl) (fun p_1 hF => ?_)
  refine r_ifeq (i := 2) (tgt := 10) rfl (by decide) (fun hc => ?_) (fun hc => ?_)
  · have hF := ok_it hc hF
    refine r_aload_n (i := 5) (k0 := 0) rfl rfl rfl ?_
    refine q_getr (b := 2) (i := 6) rfl fl_Pt_11 rfl (xm_in rfl hn) rfl rfl ?_
    refine r_aload_n (i := 7) (k0 := 0) rfl rfl rfl ?_
    refine q_geti (i := 8) rfl fl_Pt_24 (xm_in rfl hn) rfl ?_
    refine r_iload_n (i := 9) (k0 := 1) rfl rfl rfl ?_
    obtain ⟨hi, hF⟩ := ok_gd hF
    refine q_iastore (i := 10) rfl (xm_in rfl hn) rfl hi ?_
    refine r_aload_n (i := 11) (k0 := 0) rfl rfl rfl ?_
    refine q_getr (b := 3) (i := 12) rfl fl_Pt_15 rfl (xm_in rfl hn) rfl rfl ?_
    refine r_aload_n (i := 13) (k0 := 0) rfl rfl rfl ?_
    refine q_geti (i := 14) rfl fl_Pt_24 (xm_in rfl hn) rfl ?_
    refine r_iload_n (i := 15) (k0 := 2) rfl rfl rfl ?_
    obtain ⟨hi, hF⟩ := ok_gd hF
    refine q_iastore (i := 16) rfl (xm_in rfl hn) rfl hi ?_
    refine r_aload_n (i := 17) (k0 := 0) rfl rfl rfl ?_
    refine r_dup (i := 18) rfl rfl ?_
    refine q_geti (i := 19) rfl fl_Pt_24 (xm_in rfl hn) rfl ?_
    refine r_iconst (v := 1) (i := 20) rfl ki_1 ?_
    refine r_iadd (i := 21) rfl ?_
    refine q_puti (i := 22) rfl fl_Pt_24 (fun h => Bool.noConfusion h) (xm_in rfl hn) rfl ?_
    refine r_aload_n (i := 23) (k0 := 0) rfl rfl rfl ?_
    refine q_geti (i := 24) rfl fl_Pt_24 (xm_in rfl hn) rfl ?_
    refine r_iconst (v := 1) (i := 25) rfl ki_1 ?_
    refine r_isub (i := 26) rfl ?_
    have hQ := hq _ (ok_some hF)
    exact r_ireturn (i := 27) rfl rfl rfl hQ
  have hF := ok_if hc hF
  refine r_ldc (i := 3) rfl ct_Pt_32 ?_
  have hQ := hq _ (ok_some hF)
  exact r_ireturn (i := 4) rfl rfl rfl hQ
set_option maxHeartbeats 4000000 in
set_option maxRecDepth 100000 in
theorem t_Pt_add {x1 : Int32} {x2 : Int32} {n : Nat} {I : xm_I} {L : xm_L} {K : Int32 × xm_I → Prop} (hn : 86 ≤ n) (hF : ok (f_Pt_add x1 x2 I) K) : xm_C 1 mt_Pt_add [.ref 1, .int x1, .int x2] (I, L, RC n, n) 0 0 (pI (fun p : Int32 × xm_I => p.1) (fun p : Int32 × xm_I => (p.2, L, RC n, n)) K) := by
  unfold f_Pt_add at hF
  refine xm_enter (by decide +kernel) dv_Pt_add (Nat.le_of_ble_eq_true rfl) ?_
  exact t_Pt_add_b0 hn (fun p hp => ⟨p, rfl, rfl, hp⟩) hF

noncomputable def f_D_point_b0 (x1 : Int32) (x2 : Int32) (I : xm_I) : Option (Int32 × xm_I) :=
  (f_D_isWithin x1 ((-20000)) 20000).bind fun p_1 =>
  if p_1 = 0 then (
    some ((-100002), I))
  else (
  (f_D_isWithin x2 ((-20000)) 20000).bind fun p_2 =>
  if p_2 = 0 then (
    some ((-100002), I))
  else (
    (f_Pt_isFull I).bind fun p_3 =>
    if p_3 = 0 then (
      (f_Pt_add x1 x2 I).bind fun p_4 =>
      some (p_4.1, p_4.2))
    else (
    some ((-100004), I))))
noncomputable def f_D_point (x1 : Int32) (x2 : Int32) (I : xm_I) : Option (Int32 × xm_I) := f_D_point_b0 x1 x2 I
set_option maxHeartbeats 4000000 in
set_option maxRecDepth 100000 in
theorem t_D_point_b0 {x1 : Int32} {x2 : Int32} {n : Nat} {I : xm_I} {L : xm_L} {K : Int32 × xm_I → Prop} {Q : Option Value → xm_H → Prop} (hn : 86 ≤ n) (hq : ∀ p : Int32 × xm_I, K p → Q (some (.int p.1)) (p.2, L, RC n, n)) (hF : ok (f_D_point_b0 x1 x2 I) K) : xm_J 2 mt_D_point 0 [(0, .ref 0), (1, .int x1), (2, .int x2)] [] (I, L, RC n, n) 0 0 Q := by
  unfold f_D_point_b0 at hF
  refine r_iload_n (i := 0) (k0 := 1) rfl rfl rfl ?_
  refine r_sipush (v := (-20000)) (i := 1) rfl ks_m20000 ?_
  refine r_sipush (v := 20000) (i := 2) rfl ks_20000 ?_
  refine c_S3I (i := 3) rfl sm_D_isWithin lk_D_82 (t_D_isWithin hn (ok_bind hF)) (Nat.le_of_ble_eq_true rfl) rfl (Nat.le_of_ble_eq_true rfl) (fun p_1 hF => ?_)
  refine r_ifeq (i := 4) (tgt := 26) rfl (by decide) (fun hc => ?_) (fun hc => ?_)
  · have hF := ok_it hc hF
    refine r_ldc (i := 10) rfl ct_D_86 ?_
    have hQ := hq _ (ok_some hF)
    exact r_ireturn (i := 11) rfl rfl rfl hQ
  have hF := ok_if hc hF
  refine r_iload_n (i := 5) (k0 := 2) rfl rfl rfl ?_
  refine r_sipush (v := (-20000)) (i := 6) rfl ks_m20000 ?_
  refine r_sipush (v := 20000) (i := 7) rfl ks_20000 ?_
  refine c_S3I (i := 8) rfl sm_D_isWithin lk_D_82 (t_D_isWithin hn (ok_bind hF)) (Nat.le_of_ble_eq_true rfl) rfl (Nat.le_of_ble_eq_true rfl) (fun p_2 hF => ?_)
  refine r_ifne (i := 9) (tgt := 29) rfl (by decide) (fun hc => ?_) (fun hc => ?_)
  · have hF := ok_if hc hF
    refine r_aload_n (i := 12) (k0 := 0) rfl rfl rfl ?_
    refine q_getr (b := 1) (i := 13) rfl fl_D_10 rfl (xm_in rfl hn) rfl rfl ?_
    refine c_V0I (i := 14) rfl vm_Pt_isFull lk_D_87 (t_Pt_isFull hn (ok_bind hF)) (Nat.le_of_ble_eq_true rfl) (xm_in rfl hn) rfl rfl (Nat.le_of_ble_eq_true rfl) (fun p_3 hF => ?_)
    refine r_ifeq (i := 15) (tgt := 44) rfl (by decide) (fun hc => ?_) (fun hc => ?_)
    · have hF := ok_it hc hF
      refine r_aload_n (i := 18) (k0 := 0) rfl rfl rfl ?_
      refine q_getr (b := 1) (i := 19) rfl fl_D_10 rfl (xm_in rfl hn) rfl rfl ?_
      refine r_iload_n (i := 20) (k0 := 1) rfl rfl rfl ?_
      refine r_iload_n (i := 21) (k0 := 2) rfl rfl rfl ?_
      refine c_V2I (i := 22) rfl vm_Pt_add lk_D_92 (t_Pt_add hn (ok_bind hF)) (Nat.le_of_ble_eq_true rfl) (xm_in rfl hn) rfl rfl (Nat.le_of_ble_eq_true rfl) (fun p_4 hF => ?_)
      have hQ := hq _ (ok_some hF)
      exact r_ireturn (i := 23) rfl rfl rfl hQ
    have hF := ok_if hc hF
    refine r_ldc (i := 16) rfl ct_D_91 ?_
    refine r_goto (i := 17) (tgt := 53) rfl (by decide) ?_
    have hQ := hq _ (ok_some hF)
    exact r_ireturn (i := 23) rfl rfl rfl hQ
  have hF := ok_it hc hF
  refine r_ldc (i := 10) rfl ct_D_86 ?_
  have hQ := hq _ (ok_some hF)
  exact r_ireturn (i := 11) rfl rfl rfl hQ
set_option maxHeartbeats 4000000 in
set_option maxRecDepth 100000 in
theorem t_D_point {x1 : Int32} {x2 : Int32} {n : Nat} {I : xm_I} {L : xm_L} {K : Int32 × xm_I → Prop} (hn : 86 ≤ n) (hF : ok (f_D_point x1 x2 I) K) : xm_C 2 mt_D_point [.ref 0, .int x1, .int x2] (I, L, RC n, n) 0 0 (pI (fun p : Int32 × xm_I => p.1) (fun p : Int32 × xm_I => (p.2, L, RC n, n)) K) := by
  unfold f_D_point at hF
  refine xm_enter (by decide +kernel) dv_D_point (Nat.le_of_ble_eq_true rfl) ?_
  exact t_D_point_b0 hn (fun p hp => ⟨p, rfl, rfl, hp⟩) hF

noncomputable def f_Pt_has_b0 (x1 : Int32) (I : xm_I) : Option (Int32) :=
  if x1 < 0 then (
    some (0))
  else (
  if (I 1 4) ≤ x1 then (
    some (0))
  else (
  if 60 ≤ x1 then (
    some (0))
  else (
  some (1))))
noncomputable def f_Pt_has (x1 : Int32) (I : xm_I) : Option (Int32) := f_Pt_has_b0 x1 I
set_option maxHeartbeats 4000000 in
set_option maxRecDepth 100000 in
theorem t_Pt_has_b0 {x1 : Int32} {n : Nat} {I : xm_I} {L : xm_L} {K : Int32 → Prop} {Q : Option Value → xm_H → Prop} (hn : 86 ≤ n) (hq : ∀ p : Int32, K p → Q (some (.int p)) (I, L, RC n, n)) (hF : ok (f_Pt_has_b0 x1 I) K) : xm_J 0 mt_Pt_has 0 [(0, .ref 1), (1, .int x1)] [] (I, L, RC n, n) 0 0 Q := by
  unfold f_Pt_has_b0 at hF
  refine r_iload_n (i := 0) (k0 := 1) rfl rfl rfl ?_
  refine r_iflt (i := 1) (tgt := 22) rfl (by decide) (fun hc => ?_) (fun hc => ?_)
  · have hF := ok_it hc hF
    refine r_iconst (v := 0) (i := 11) rfl ki_0 ?_
    have hQ := hq _ (ok_some hF)
    exact r_ireturn (i := 12) rfl rfl rfl hQ
  have hF := ok_if hc hF
  refine r_iload_n (i := 2) (k0 := 1) rfl rfl rfl ?_
  refine r_aload_n (i := 3) (k0 := 0) rfl rfl rfl ?_
  refine q_geti (i := 4) rfl fl_Pt_24 (xm_in rfl hn) rfl ?_
  refine r_icmpge (i := 5) (tgt := 22) rfl (by decide) (fun hc => ?_) (fun hc => ?_)
  · have hF := ok_it hc hF
    refine r_iconst (v := 0) (i := 11) rfl ki_0 ?_
    have hQ := hq _ (ok_some hF)
    exact r_ireturn (i := 12) rfl rfl rfl hQ
  have hF := ok_if hc hF
  refine r_iload_n (i := 6) (k0 := 1) rfl rfl rfl ?_
  refine r_bipush (v := 60) (i := 7) rfl kb_60 ?_
  refine r_icmpge (i := 8) (tgt := 22) rfl (by decide) (fun hc => ?_) (fun hc => ?_)
  · have hF := ok_it hc hF
    refine r_iconst (v := 0) (i := 11) rfl ki_0 ?_
    have hQ := hq _ (ok_some hF)
    exact r_ireturn (i := 12) rfl rfl rfl hQ
  have hF := ok_if hc hF
  refine r_iconst (v := 1) (i := 9) rfl ki_1 ?_
  refine r_goto (i := 10) (tgt := 23) rfl (by decide) ?_
  have hQ := hq _ (ok_some hF)
  exact r_ireturn (i := 12) rfl rfl rfl hQ
set_option maxHeartbeats 4000000 in
set_option maxRecDepth 100000 in
theorem t_Pt_has {x1 : Int32} {n : Nat} {I : xm_I} {L : xm_L} {K : Int32 → Prop} (hn : 86 ≤ n) (hF : ok (f_Pt_has x1 I) K) : xm_C 0 mt_Pt_has [.ref 1, .int x1] (I, L, RC n, n) 0 0 (pI (fun p : Int32 => p) (fun p : Int32 => (I, L, RC n, n)) K) := by
  unfold f_Pt_has at hF
  refine xm_enter (by decide +kernel) dv_Pt_has (Nat.le_of_ble_eq_true rfl) ?_
  exact t_Pt_has_b0 hn (fun p hp => ⟨p, rfl, rfl, hp⟩) hF

noncomputable def f_Pt_goBy_b0 (x1 : Int32) (x2 : Int32) (x3 : Int32) (I : xm_I) : Option (xm_I) :=
  (f_Pt_has x1 I).bind fun p_1 =>
  if p_1 = 0 then (
    some (I))
  else (
  gd (0 ≤ (x1).toInt ∧ (x1).toInt < 60) <|
  let I_2 : xm_I := up2 I 4 (Int32.toNatClampNeg x1) x2
  gd (0 ≤ (x1).toInt ∧ (x1).toInt < 60) <|
  let I_3 : xm_I := up2 I_2 5 (Int32.toNatClampNeg x1) x3
  some (I_3))
noncomputable def f_Pt_goBy (x1 : Int32) (x2 : Int32) (x3 : Int32) (I : xm_I) : Option (xm_I) := f_Pt_goBy_b0 x1 x2 x3 I
set_option maxHeartbeats 4000000 in
set_option maxRecDepth 100000 in
theorem t_Pt_goBy_b0 {x1 : Int32} {x2 : Int32} {x3 : Int32} {n : Nat} {I : xm_I} {L : xm_L} {K : xm_I → Prop} {Q : Option Value → xm_H → Prop} (hn : 86 ≤ n) (hq : ∀ p : xm_I, K p → Q none (p, L, RC n, n)) (hF : ok (f_Pt_goBy_b0 x1 x2 x3 I) K) : xm_J 1 mt_Pt_goBy 0 [(0, .ref 1), (1, .int x1), (2, .int x2), (3, .int x3)] [] (I, L, RC n, n) 0 0 Q := by
  unfold f_Pt_goBy_b0 at hF
  refine r_aload_n (i := 0) (k0 := 0) rfl rfl rfl ?_
  refine r_iload_n (i := 1) (k0 := 1) rfl rfl rfl ?_
  refine c_V1I (i := 2) rfl vm_Pt_has lk_Pt_33 (t_Pt_has hn (ok_bind hF)) (Nat.le_of_ble_eq_true rfl) (xm_in rfl hn) rfl rfl (Nat.le_of_ble_eq_true rfl) (fun p_1 hF => ?_)
  refine r_ifeq (i := 3) (tgt := 22) rfl (by decide) (fun hc => ?_) (fun hc => ?_)
  · have hF := ok_it hc hF
    have hQ := hq _ (ok_some hF)
    exact r_return (i := 14) rfl rfl hQ
  have hF := ok_if hc hF
  refine r_aload_n (i := 4) (k0 := 0) rfl rfl rfl ?_
  refine q_getr (b := 4) (i := 5) rfl fl_Pt_18 rfl (xm_in rfl hn) rfl rfl ?_
  refine r_iload_n (i := 6) (k0 := 1) rfl rfl rfl ?_
  refine r_iload_n (i := 7) (k0 := 2) rfl rfl rfl ?_
  obtain ⟨hi, hF⟩ := ok_gd hF
  refine q_iastore (i := 8) rfl (xm_in rfl hn) rfl hi ?_
  refine r_aload_n (i := 9) (k0 := 0) rfl rfl rfl ?_
  refine q_getr (b := 5) (i := 10) rfl fl_Pt_21 rfl (xm_in rfl hn) rfl rfl ?_
  refine r_iload_n (i := 11) (k0 := 1) rfl rfl rfl ?_
  refine r_iload_n (i := 12) (k0 := 3) rfl rfl rfl ?_
  obtain ⟨hi, hF⟩ := ok_gd hF
  refine q_iastore (i := 13) rfl (xm_in rfl hn) rfl hi ?_
  have hQ := hq _ (ok_some hF)
  exact r_return (i := 14) rfl rfl hQ
set_option maxHeartbeats 4000000 in
set_option maxRecDepth 100000 in
theorem t_Pt_goBy {x1 : Int32} {x2 : Int32} {x3 : Int32} {n : Nat} {I : xm_I} {L : xm_L} {K : xm_I → Prop} (hn : 86 ≤ n) (hF : ok (f_Pt_goBy x1 x2 x3 I) K) : xm_C 1 mt_Pt_goBy [.ref 1, .int x1, .int x2, .int x3] (I, L, RC n, n) 0 0 (pV (fun p : xm_I => (p, L, RC n, n)) K) := by
  unfold f_Pt_goBy at hF
  refine xm_enter (by decide +kernel) dv_Pt_goBy (Nat.le_of_ble_eq_true rfl) ?_
  exact t_Pt_goBy_b0 hn (fun p hp => ⟨p, rfl, rfl, hp⟩) hF

noncomputable def f_D_move_b0 (x1 : Int32) (x2 : Int32) (x3 : Int32) (I : xm_I) : Option (Int32 × xm_I) :=
  (f_Pt_has x1 I).bind fun p_1 =>
  if p_1 = 0 then (
    some ((-100001), I))
  else (
    (f_D_isWithin x2 ((-100)) 100).bind fun p_2 =>
    if p_2 = 0 then (
      some ((-100002), I))
    else (
    (f_D_isWithin x3 ((-100)) 100).bind fun p_3 =>
    if p_3 = 0 then (
      some ((-100002), I))
    else (
      (f_Pt_goBy x1 x2 x3 I).bind fun p_4 =>
      some (1, p_4))))
noncomputable def f_D_move (x1 : Int32) (x2 : Int32) (x3 : Int32) (I : xm_I) : Option (Int32 × xm_I) := f_D_move_b0 x1 x2 x3 I
set_option maxHeartbeats 4000000 in
set_option maxRecDepth 100000 in
theorem t_D_move_b0 {x1 : Int32} {x2 : Int32} {x3 : Int32} {n : Nat} {I : xm_I} {L : xm_L} {K : Int32 × xm_I → Prop} {Q : Option Value → xm_H → Prop} (hn : 86 ≤ n) (hq : ∀ p : Int32 × xm_I, K p → Q (some (.int p.1)) (p.2, L, RC n, n)) (hF : ok (f_D_move_b0 x1 x2 x3 I) K) : xm_J 2 mt_D_move 0 [(0, .ref 0), (1, .int x1), (2, .int x2), (3, .int x3)] [] (I, L, RC n, n) 0 0 Q := by
  unfold f_D_move_b0 at hF
  refine r_aload_n (i := 0) (k0 := 0) rfl rfl rfl ?_
  refine q_getr (b := 1) (i := 1) rfl fl_D_10 rfl (xm_in rfl hn) rfl rfl ?_
  refine r_iload_n (i := 2) (k0 := 1) rfl rfl rfl ?_
  refine c_V1I (i := 3) rfl vm_Pt_has lk_D_96 (t_Pt_has hn (ok_bind hF)) (Nat.le_of_ble_eq_true rfl) (xm_in rfl hn) rfl rfl (Nat.le_of_ble_eq_true rfl) (fun p_1 hF => ?_)
  refine r_ifne (i := 4) (tgt := 14) rfl (by decide) (fun hc => ?_) (fun hc => ?_)
  · have hF := ok_if hc hF
    refine r_iload_n (i := 7) (k0 := 2) rfl rfl rfl ?_
    refine r_bipush (v := (-100)) (i := 8) rfl kb_m100 ?_
    refine r_bipush (v := 100) (i := 9) rfl kb_100 ?_
    refine c_S3I (i := 10) rfl sm_D_isWithin lk_D_82 (t_D_isWithin hn (ok_bind hF)) (Nat.le_of_ble_eq_true rfl) rfl (Nat.le_of_ble_eq_true rfl) (fun p_2 hF => ?_)
    refine r_ifeq (i := 11) (tgt := 36) rfl (by decide) (fun hc => ?_) (fun hc => ?_)
    · have hF := ok_it hc hF
      refine r_ldc (i := 17) rfl ct_D_86 ?_
      have hQ := hq _ (ok_some hF)
      exact r_ireturn (i := 18) rfl rfl rfl hQ
    have hF := ok_if hc hF
    refine r_iload_n (i := 12) (k0 := 3) rfl rfl rfl ?_
    refine r_bipush (v := (-100)) (i := 13) rfl kb_m100 ?_
    refine r_bipush (v := 100) (i := 14) rfl kb_100 ?_
    refine c_S3I (i := 15) rfl sm_D_isWithin lk_D_82 (t_D_isWithin hn (ok_bind hF)) (Nat.le_of_ble_eq_true rfl) rfl (Nat.le_of_ble_eq_true rfl) (fun p_3 hF => ?_)
    refine r_ifne (i := 16) (tgt := 39) rfl (by decide) (fun hc => ?_) (fun hc => ?_)
    · have hF := ok_if hc hF
      refine r_aload_n (i := 19) (k0 := 0) rfl rfl rfl ?_
      refine q_getr (b := 1) (i := 20) rfl fl_D_10 rfl (xm_in rfl hn) rfl rfl ?_
      refine r_iload_n (i := 21) (k0 := 1) rfl rfl rfl ?_
      refine r_iload_n (i := 22) (k0 := 2) rfl rfl rfl ?_
      refine r_iload_n (i := 23) (k0 := 3) rfl rfl rfl ?_
      refine c_V3V (i := 24) rfl vm_Pt_goBy lk_D_101 (t_Pt_goBy hn (ok_bind hF)) (Nat.le_of_ble_eq_true rfl) (xm_in rfl hn) rfl rfl (Nat.le_of_ble_eq_true rfl) (fun p_4 hF => ?_)
      refine r_iconst (v := 1) (i := 25) rfl ki_1 ?_
      have hQ := hq _ (ok_some hF)
      exact r_ireturn (i := 26) rfl rfl rfl hQ
    have hF := ok_it hc hF
    refine r_ldc (i := 17) rfl ct_D_86 ?_
    have hQ := hq _ (ok_some hF)
    exact r_ireturn (i := 18) rfl rfl rfl hQ
  have hF := ok_it hc hF
  refine r_ldc (i := 5) rfl ct_D_100 ?_
  have hQ := hq _ (ok_some hF)
  exact r_ireturn (i := 6) rfl rfl rfl hQ
set_option maxHeartbeats 4000000 in
set_option maxRecDepth 100000 in
theorem t_D_move {x1 : Int32} {x2 : Int32} {x3 : Int32} {n : Nat} {I : xm_I} {L : xm_L} {K : Int32 × xm_I → Prop} (hn : 86 ≤ n) (hF : ok (f_D_move x1 x2 x3 I) K) : xm_C 2 mt_D_move [.ref 0, .int x1, .int x2, .int x3] (I, L, RC n, n) 0 0 (pI (fun p : Int32 × xm_I => p.1) (fun p : Int32 × xm_I => (p.2, L, RC n, n)) K) := by
  unfold f_D_move at hF
  refine xm_enter (by decide +kernel) dv_D_move (Nat.le_of_ble_eq_true rfl) ?_
  exact t_D_move_b0 hn (fun p hp => ⟨p, rfl, rfl, hp⟩) hF

noncomputable def f_D_tick_b0 (x1 : Int32) (I : xm_I) : Option (Int32 × xm_I) :=
  (f_D_isWithin x1 0 100).bind fun p_1 =>
  if p_1 = 0 then (
    some ((-100002), I))
  else (
    let x2_2 : Int32 := I 1 5
    let I_3 : xm_I := up2 I 1 5 x1
    some (x2_2, I_3))
noncomputable def f_D_tick (x1 : Int32) (I : xm_I) : Option (Int32 × xm_I) := f_D_tick_b0 x1 I
set_option maxHeartbeats 4000000 in
set_option maxRecDepth 100000 in
theorem t_D_tick_b0 {x1 : Int32} {n : Nat} {I : xm_I} {L : xm_L} {K : Int32 × xm_I → Prop} {Q : Option Value → xm_H → Prop} (hn : 86 ≤ n) (hq : ∀ p : Int32 × xm_I, K p → Q (some (.int p.1)) (p.2, L, RC n, n)) (hF : ok (f_D_tick_b0 x1 I) K) : xm_J 1 mt_D_tick 0 [(0, .ref 0), (1, .int x1)] [] (I, L, RC n, n) 0 0 Q := by
  unfold f_D_tick_b0 at hF
  refine r_iload_n (i := 0) (k0 := 1) rfl rfl rfl ?_
  refine r_iconst (v := 0) (i := 1) rfl ki_0 ?_
  refine r_bipush (v := 100) (i := 2) rfl kb_100 ?_
  refine c_S3I (i := 3) rfl sm_D_isWithin lk_D_82 (t_D_isWithin hn (ok_bind hF)) (Nat.le_of_ble_eq_true rfl) rfl (Nat.le_of_ble_eq_true rfl) (fun p_1 hF => ?_)
  refine r_ifne (i := 4) (tgt := 13) rfl (by decide) (fun hc => ?_) (fun hc => ?_)
  · have hF := ok_if hc hF
    refine r_aload_n (i := 7) (k0 := 0) rfl rfl rfl ?_
    refine q_getr (b := 1) (i := 8) rfl fl_D_10 rfl (xm_in rfl hn) rfl rfl ?_
    refine q_geti (i := 9) rfl fl_D_105 (xm_in rfl hn) rfl ?_
    refine r_istore_n (i := 10) (Ls' := [(2, _), (0, _), (1, _)]) rfl rfl (Nat.le_of_ble_eq_true rfl) rfl ?_
    refine r_aload_n (i := 11) (k0 := 1) rfl rfl rfl ?_
    refine q_getr (b := 1) (i := 12) rfl fl_D_10 rfl (xm_in rfl hn) rfl rfl ?_
    refine r_iload_n (i := 13) (k0 := 2) rfl rfl rfl ?_
    refine q_puti (i := 14) rfl fl_D_105 (fun h => Bool.noConfusion h) (xm_in rfl hn) rfl ?_
    refine r_iload_n (i := 15) (k0 := 0) rfl rfl rfl ?_
    have hQ := hq _ (ok_some hF)
    exact r_ireturn (i := 16) rfl rfl rfl hQ
  have hF := ok_it hc hF
  refine r_ldc (i := 5) rfl ct_D_86 ?_
  have hQ := hq _ (ok_some hF)
  exact r_ireturn (i := 6) rfl rfl rfl hQ
set_option maxHeartbeats 4000000 in
set_option maxRecDepth 100000 in
theorem t_D_tick {x1 : Int32} {n : Nat} {I : xm_I} {L : xm_L} {K : Int32 × xm_I → Prop} (hn : 86 ≤ n) (hF : ok (f_D_tick x1 I) K) : xm_C 1 mt_D_tick [.ref 0, .int x1] (I, L, RC n, n) 0 0 (pI (fun p : Int32 × xm_I => p.1) (fun p : Int32 × xm_I => (p.2, L, RC n, n)) K) := by
  unfold f_D_tick at hF
  refine xm_enter (by decide +kernel) dv_D_tick (Nat.le_of_ble_eq_true rfl) ?_
  exact t_D_tick_b0 hn (fun p hp => ⟨p, rfl, rfl, hp⟩) hF

noncomputable def f_Pt_xNow_b0 (x1 : Int32) (I : xm_I) : Option (Int32) :=
  (f_Pt_has x1 I).bind fun p_1 =>
  if p_1 = 0 then (
    some (0))
  else (
  gd (0 ≤ (x1).toInt ∧ (x1).toInt < 60) <|
  gd (0 ≤ (x1).toInt ∧ (x1).toInt < 60) <|
  some ((I 2 (Int32.toNatClampNeg x1)) + ((I 1 5) * (I 4 (Int32.toNatClampNeg x1)))))
noncomputable def f_Pt_xNow (x1 : Int32) (I : xm_I) : Option (Int32) := f_Pt_xNow_b0 x1 I
set_option maxHeartbeats 4000000 in
set_option maxRecDepth 100000 in
theorem t_Pt_xNow_b0 {x1 : Int32} {n : Nat} {I : xm_I} {L : xm_L} {K : Int32 → Prop} {Q : Option Value → xm_H → Prop} (hn : 86 ≤ n) (hq : ∀ p : Int32, K p → Q (some (.int p)) (I, L, RC n, n)) (hF : ok (f_Pt_xNow_b0 x1 I) K) : xm_J 1 mt_Pt_xNow 0 [(0, .ref 1), (1, .int x1)] [] (I, L, RC n, n) 0 0 Q := by
  unfold f_Pt_xNow_b0 at hF
  refine r_aload_n (i := 0) (k0 := 0) rfl rfl rfl ?_
  refine r_iload_n (i := 1) (k0 := 1) rfl rfl rfl ?_
  refine c_V1I (i := 2) rfl vm_Pt_has lk_Pt_33 (t_Pt_has hn (ok_bind hF)) (Nat.le_of_ble_eq_true rfl) (xm_in rfl hn) rfl rfl (Nat.le_of_ble_eq_true rfl) (fun p_1 hF => ?_)
  refine r_ifeq (i := 3) (tgt := 29) rfl (by decide) (fun hc => ?_) (fun hc => ?_)
  · have hF := ok_it hc hF
    refine r_iconst (v := 0) (i := 17) rfl ki_0 ?_
    have hQ := hq _ (ok_some hF)
    exact r_ireturn (i := 18) rfl rfl rfl hQ
  have hF := ok_if hc hF
  refine r_aload_n (i := 4) (k0 := 0) rfl rfl rfl ?_
  refine q_getr (b := 2) (i := 5) rfl fl_Pt_11 rfl (xm_in rfl hn) rfl rfl ?_
  refine r_iload_n (i := 6) (k0 := 1) rfl rfl rfl ?_
  obtain ⟨hi, hF⟩ := ok_gd hF
  refine q_iaload (i := 7) rfl (xm_in rfl hn) rfl hi ?_
  refine r_aload_n (i := 8) (k0 := 0) rfl rfl rfl ?_
  refine q_geti (i := 9) rfl fl_Pt_37 (xm_in rfl hn) rfl ?_
  refine r_aload_n (i := 10) (k0 := 0) rfl rfl rfl ?_
  refine q_getr (b := 4) (i := 11) rfl fl_Pt_18 rfl (xm_in rfl hn) rfl rfl ?_
  refine r_iload_n (i := 12) (k0 := 1) rfl rfl rfl ?_
  obtain ⟨hi, hF⟩ := ok_gd hF
  refine q_iaload (i := 13) rfl (xm_in rfl hn) rfl hi ?_
  refine r_imul (i := 14) rfl ?_
  refine r_iadd (i := 15) rfl ?_
  refine r_goto (i := 16) (tgt := 30) rfl (by decide) ?_
  have hQ := hq _ (ok_some hF)
  exact r_ireturn (i := 18) rfl rfl rfl hQ
set_option maxHeartbeats 4000000 in
set_option maxRecDepth 100000 in
theorem t_Pt_xNow {x1 : Int32} {n : Nat} {I : xm_I} {L : xm_L} {K : Int32 → Prop} (hn : 86 ≤ n) (hF : ok (f_Pt_xNow x1 I) K) : xm_C 1 mt_Pt_xNow [.ref 1, .int x1] (I, L, RC n, n) 0 0 (pI (fun p : Int32 => p) (fun p : Int32 => (I, L, RC n, n)) K) := by
  unfold f_Pt_xNow at hF
  refine xm_enter (by decide +kernel) dv_Pt_xNow (Nat.le_of_ble_eq_true rfl) ?_
  exact t_Pt_xNow_b0 hn (fun p hp => ⟨p, rfl, rfl, hp⟩) hF

noncomputable def f_Pt_yNow_b0 (x1 : Int32) (I : xm_I) : Option (Int32) :=
  (f_Pt_has x1 I).bind fun p_1 =>
  if p_1 = 0 then (
    some (0))
  else (
  gd (0 ≤ (x1).toInt ∧ (x1).toInt < 60) <|
  gd (0 ≤ (x1).toInt ∧ (x1).toInt < 60) <|
  some ((I 3 (Int32.toNatClampNeg x1)) + ((I 1 5) * (I 5 (Int32.toNatClampNeg x1)))))
noncomputable def f_Pt_yNow (x1 : Int32) (I : xm_I) : Option (Int32) := f_Pt_yNow_b0 x1 I
set_option maxHeartbeats 4000000 in
set_option maxRecDepth 100000 in
theorem t_Pt_yNow_b0 {x1 : Int32} {n : Nat} {I : xm_I} {L : xm_L} {K : Int32 → Prop} {Q : Option Value → xm_H → Prop} (hn : 86 ≤ n) (hq : ∀ p : Int32, K p → Q (some (.int p)) (I, L, RC n, n)) (hF : ok (f_Pt_yNow_b0 x1 I) K) : xm_J 1 mt_Pt_yNow 0 [(0, .ref 1), (1, .int x1)] [] (I, L, RC n, n) 0 0 Q := by
  unfold f_Pt_yNow_b0 at hF
  refine r_aload_n (i := 0) (k0 := 0) rfl rfl rfl ?_
  refine r_iload_n (i := 1) (k0 := 1) rfl rfl rfl ?_
  refine c_V1I (i := 2) rfl vm_Pt_has lk_Pt_33 (t_Pt_has hn (ok_bind hF)) (Nat.le_of_ble_eq_true rfl) (xm_in rfl hn) rfl rfl (Nat.le_of_ble_eq_true rfl) (fun p_1 hF => ?_)
  refine r_ifeq (i := 3) (tgt := 29) rfl (by decide) (fun hc => ?_) (fun hc => ?_)
  · have hF := ok_it hc hF
    refine r_iconst (v := 0) (i := 17) rfl ki_0 ?_
    have hQ := hq _ (ok_some hF)
    exact r_ireturn (i := 18) rfl rfl rfl hQ
  have hF := ok_if hc hF
  refine r_aload_n (i := 4) (k0 := 0) rfl rfl rfl ?_
  refine q_getr (b := 3) (i := 5) rfl fl_Pt_15 rfl (xm_in rfl hn) rfl rfl ?_
  refine r_iload_n (i := 6) (k0 := 1) rfl rfl rfl ?_
  obtain ⟨hi, hF⟩ := ok_gd hF
  refine q_iaload (i := 7) rfl (xm_in rfl hn) rfl hi ?_
  refine r_aload_n (i := 8) (k0 := 0) rfl rfl rfl ?_
  refine q_geti (i := 9) rfl fl_Pt_37 (xm_in rfl hn) rfl ?_
  refine r_aload_n (i := 10) (k0 := 0) rfl rfl rfl ?_
  refine q_getr (b := 5) (i := 11) rfl fl_Pt_21 rfl (xm_in rfl hn) rfl rfl ?_
  refine r_iload_n (i := 12) (k0 := 1) rfl rfl rfl ?_
  obtain ⟨hi, hF⟩ := ok_gd hF
  refine q_iaload (i := 13) rfl (xm_in rfl hn) rfl hi ?_
  refine r_imul (i := 14) rfl ?_
  refine r_iadd (i := 15) rfl ?_
  refine r_goto (i := 16) (tgt := 30) rfl (by decide) ?_
  have hQ := hq _ (ok_some hF)
  exact r_ireturn (i := 18) rfl rfl rfl hQ
set_option maxHeartbeats 4000000 in
set_option maxRecDepth 100000 in
theorem t_Pt_yNow {x1 : Int32} {n : Nat} {I : xm_I} {L : xm_L} {K : Int32 → Prop} (hn : 86 ≤ n) (hF : ok (f_Pt_yNow x1 I) K) : xm_C 1 mt_Pt_yNow [.ref 1, .int x1] (I, L, RC n, n) 0 0 (pI (fun p : Int32 => p) (fun p : Int32 => (I, L, RC n, n)) K) := by
  unfold f_Pt_yNow at hF
  refine xm_enter (by decide +kernel) dv_Pt_yNow (Nat.le_of_ble_eq_true rfl) ?_
  exact t_Pt_yNow_b0 hn (fun p hp => ⟨p, rfl, rfl, hp⟩) hF

noncomputable def f_D_at_b0 (x1 : Int32) (x2 : Int32) (I : xm_I) : Option (Int32) :=
  (f_Pt_has x1 I).bind fun p_1 =>
  if p_1 = 0 then (
    some ((-100001)))
  else (
    (f_D_isWithin x2 0 1).bind fun p_2 =>
    if p_2 = 0 then (
      some ((-100002)))
    else (
      if x2 = 0 then (
        (f_Pt_xNow x1 I).bind fun p_4 =>
        some (p_4))
      else (
        (f_Pt_yNow x1 I).bind fun p_3 =>
        some (p_3))))
noncomputable def f_D_at (x1 : Int32) (x2 : Int32) (I : xm_I) : Option (Int32) := f_D_at_b0 x1 x2 I
set_option maxHeartbeats 4000000 in
set_option maxRecDepth 100000 in
theorem t_D_at_b0 {x1 : Int32} {x2 : Int32} {n : Nat} {I : xm_I} {L : xm_L} {K : Int32 → Prop} {Q : Option Value → xm_H → Prop} (hn : 86 ≤ n) (hq : ∀ p : Int32, K p → Q (some (.int p)) (I, L, RC n, n)) (hF : ok (f_D_at_b0 x1 x2 I) K) : xm_J 2 mt_D_at 0 [(0, .ref 0), (1, .int x1), (2, .int x2)] [] (I, L, RC n, n) 0 0 Q := by
  unfold f_D_at_b0 at hF
  refine r_aload_n (i := 0) (k0 := 0) rfl rfl rfl ?_
  refine q_getr (b := 1) (i := 1) rfl fl_D_10 rfl (xm_in rfl hn) rfl rfl ?_
  refine r_iload_n (i := 2) (k0 := 1) rfl rfl rfl ?_
  refine c_V1I (i := 3) rfl vm_Pt_has lk_D_96 (t_Pt_has hn (ok_bind hF)) (Nat.le_of_ble_eq_true rfl) (xm_in rfl hn) rfl rfl (Nat.le_of_ble_eq_true rfl) (fun p_1 hF => ?_)
  refine r_ifne (i := 4) (tgt := 14) rfl (by decide) (fun hc => ?_) (fun hc => ?_)
  · have hF := ok_if hc hF
    refine r_iload_n (i := 7) (k0 := 2) rfl rfl rfl ?_
    refine r_iconst (v := 0) (i := 8) rfl ki_0 ?_
    refine r_iconst (v := 1) (i := 9) rfl ki_1 ?_
    refine c_S3I (i := 10) rfl sm_D_isWithin lk_D_82 (t_D_isWithin hn (ok_bind hF)) (Nat.le_of_ble_eq_true rfl) rfl (Nat.le_of_ble_eq_true rfl) (fun p_2 hF => ?_)
    refine r_ifne (i := 11) (tgt := 26) rfl (by decide) (fun hc => ?_) (fun hc => ?_)
    · have hF := ok_if hc hF
      refine r_iload_n (i := 14) (k0 := 2) rfl rfl rfl ?_
      refine r_ifne (i := 15) (tgt := 41) rfl (by decide) (fun hc => ?_) (fun hc => ?_)
      · have hF := ok_if hc hF
        refine r_aload_n (i := 21) (k0 := 0) rfl rfl rfl ?_
        refine q_getr (b := 1) (i := 22) rfl fl_D_10 rfl (xm_in rfl hn) rfl rfl ?_
        refine r_iload_n (i := 23) (k0 := 1) rfl rfl rfl ?_
        refine c_V1I (i := 24) rfl vm_Pt_yNow lk_D_112 (t_Pt_yNow hn (ok_bind hF)) (Nat.le_of_ble_eq_true rfl) (xm_in rfl hn) rfl rfl (Nat.le_of_ble_eq_true rfl) (fun p_3 hF => ?_)
        have hQ := hq _ (ok_some hF)
        exact r_ireturn (i := 25) rfl rfl rfl hQ
      have hF := ok_it hc hF
      refine r_aload_n (i := 16) (k0 := 0) rfl rfl rfl ?_
      refine q_getr (b := 1) (i := 17) rfl fl_D_10 rfl (xm_in rfl hn) rfl rfl ?_
      refine r_iload_n (i := 18) (k0 := 1) rfl rfl rfl ?_
      refine c_V1I (i := 19) rfl vm_Pt_xNow lk_D_108 (t_Pt_xNow hn (ok_bind hF)) (Nat.le_of_ble_eq_true rfl) (xm_in rfl hn) rfl rfl (Nat.le_of_ble_eq_true rfl) (fun p_4 hF => ?_)
      refine r_goto (i := 20) (tgt := 49) rfl (by decide) ?_
      have hQ := hq _ (ok_some hF)
      exact r_ireturn (i := 25) rfl rfl rfl hQ
    have hF := ok_it hc hF
    refine r_ldc (i := 12) rfl ct_D_86 ?_
    have hQ := hq _ (ok_some hF)
    exact r_ireturn (i := 13) rfl rfl rfl hQ
  have hF := ok_it hc hF
  refine r_ldc (i := 5) rfl ct_D_100 ?_
  have hQ := hq _ (ok_some hF)
  exact r_ireturn (i := 6) rfl rfl rfl hQ
set_option maxHeartbeats 4000000 in
set_option maxRecDepth 100000 in
theorem t_D_at {x1 : Int32} {x2 : Int32} {n : Nat} {I : xm_I} {L : xm_L} {K : Int32 → Prop} (hn : 86 ≤ n) (hF : ok (f_D_at x1 x2 I) K) : xm_C 2 mt_D_at [.ref 0, .int x1, .int x2] (I, L, RC n, n) 0 0 (pI (fun p : Int32 => p) (fun p : Int32 => (I, L, RC n, n)) K) := by
  unfold f_D_at at hF
  refine xm_enter (by decide +kernel) dv_D_at (Nat.le_of_ble_eq_true rfl) ?_
  exact t_D_at_b0 hn (fun p hp => ⟨p, rfl, rfl, hp⟩) hF

noncomputable def f_Fg_isFull_b0 (I : xm_I) : Option (Int32) :=
  if (I 6 9) < 40 then (
    some (0))
  else (
  some (1))
noncomputable def f_Fg_isFull (I : xm_I) : Option (Int32) := f_Fg_isFull_b0 I
set_option maxHeartbeats 4000000 in
set_option maxRecDepth 100000 in
theorem t_Fg_isFull_b0 {n : Nat} {I : xm_I} {L : xm_L} {K : Int32 → Prop} {Q : Option Value → xm_H → Prop} (hn : 86 ≤ n) (hq : ∀ p : Int32, K p → Q (some (.int p)) (I, L, RC n, n)) (hF : ok (f_Fg_isFull_b0 I) K) : xm_J 0 mt_Fg_isFull 0 [(0, .ref 6)] [] (I, L, RC n, n) 0 0 Q := by
  unfold f_Fg_isFull_b0 at hF
  refine r_aload_n (i := 0) (k0 := 0) rfl rfl rfl ?_
  refine q_geti (i := 1) rfl fl_Fg_38 (xm_in rfl hn) rfl ?_
  refine r_bipush (v := 40) (i := 2) rfl kb_40 ?_
  refine r_icmplt (i := 3) (tgt := 13) rfl (by decide) (fun hc => ?_) (fun hc => ?_)
  · have hF := ok_it hc hF
    refine r_iconst (v := 0) (i := 6) rfl ki_0 ?_
    have hQ := hq _ (ok_some hF)
    exact r_ireturn (i := 7) rfl rfl rfl hQ
  have hF := ok_if hc hF
  refine r_iconst (v := 1) (i := 4) rfl ki_1 ?_
  refine r_goto (i := 5) (tgt := 14) rfl (by decide) ?_
  have hQ := hq _ (ok_some hF)
  exact r_ireturn (i := 7) rfl rfl rfl hQ
set_option maxHeartbeats 4000000 in
set_option maxRecDepth 100000 in
theorem t_Fg_isFull {n : Nat} {I : xm_I} {L : xm_L} {K : Int32 → Prop} (hn : 86 ≤ n) (hF : ok (f_Fg_isFull I) K) : xm_C 0 mt_Fg_isFull [.ref 6] (I, L, RC n, n) 0 0 (pI (fun p : Int32 => p) (fun p : Int32 => (I, L, RC n, n)) K) := by
  unfold f_Fg_isFull at hF
  refine xm_enter (by decide +kernel) dv_Fg_isFull (Nat.le_of_ble_eq_true rfl) ?_
  exact t_Fg_isFull_b0 hn (fun p hp => ⟨p, rfl, rfl, hp⟩) hF

noncomputable def f_Fg_add_b76 (x2 : Int32) (x3 : Int32) (x4 : Int32) (x5 : Int32) (y1 : Int32) (y2 : Int32) (I : xm_I) : Option (Int32 × xm_I) :=
  gd (0 ≤ (y1).toInt ∧ (y1).toInt < 40) <|
  let I_1 : xm_I := up2 I 9 (Int32.toNatClampNeg y1) y2
  gd (0 ≤ (x5).toInt ∧ (x5).toInt < 480) <|
  let I_2 : xm_I := up2 I_1 11 (Int32.toNatClampNeg x5) x2
  gd (0 ≤ (x5 + 1).toInt ∧ (x5 + 1).toInt < 480) <|
  let I_3 : xm_I := up2 I_2 11 (Int32.toNatClampNeg (x5 + 1)) x3
  gd (0 ≤ (x5 + 2).toInt ∧ (x5 + 2).toInt < 480) <|
  let I_4 : xm_I := up2 I_3 11 (Int32.toNatClampNeg (x5 + 2)) x4
  let I_5 : xm_I := up2 I_4 6 9 ((I_4 6 9) + 1)
  some ((I_5 6 9) - 1, I_5)
noncomputable def f_Fg_add_b55 (x1 : Int32) (x2 : Int32) (x3 : Int32) (x4 : Int32) (x5 : Int32) (y1 : Int32) (y2 : Int32) (I : xm_I) : Option (Int32 × xm_I) :=
  gd (0 ≤ (y1).toInt ∧ (y1).toInt < 40) <|
  let I_1 : xm_I := up2 I 10 (Int32.toNatClampNeg y1) y2
  if x1 = 6 then (
    f_Fg_add_b76 x2 x3 x4 x5 (I_1 6 9) x4 I_1)
  else (
    f_Fg_add_b76 x2 x3 x4 x5 (I_1 6 9) 0 I_1)
noncomputable def f_Fg_add_b0 (x1 : Int32) (x2 : Int32) (x3 : Int32) (x4 : Int32) (I : xm_I) : Option (Int32 × xm_I) :=
  (f_Fg_isFull I).bind fun p_1 =>
  if p_1 = 0 then (
    let x5_2 : Int32 := (I 6 9) * 12
    gd (0 ≤ (I 6 9).toInt ∧ (I 6 9).toInt < 40) <|
    let I_3 : xm_I := up2 I 7 (Int32.toNatClampNeg (I 6 9)) x1
    if x1 = 0 then (
      f_Fg_add_b55 x1 x2 x3 x4 x5_2 (I_3 6 9) 1 I_3)
    else (
      if x1 = 5 then (
        f_Fg_add_b55 x1 x2 x3 x4 x5_2 (I_3 6 9) 3 I_3)
      else (
        f_Fg_add_b55 x1 x2 x3 x4 x5_2 (I_3 6 9) 2 I_3)))
  else (
  some ((-100004), I))
noncomputable def f_Fg_add (x1 : Int32) (x2 : Int32) (x3 : Int32) (x4 : Int32) (I : xm_I) : Option (Int32 × xm_I) := f_Fg_add_b0 x1 x2 x3 x4 I
set_option maxHeartbeats 4000000 in
set_option maxRecDepth 100000 in
theorem t_Fg_add_b76 {x2 : Int32} {x3 : Int32} {x4 : Int32} {x5 : Int32} {y1 : Int32} {y2 : Int32} {n : Nat} {I : xm_I} {L : xm_L} {K : Int32 × xm_I → Prop} {Q : Option Value → xm_H → Prop} (hn : 86 ≤ n) (hq : ∀ p : Int32 × xm_I, K p → Q (some (.int p.1)) (p.2, L, RC n, n)) (hF : ok (f_Fg_add_b76 x2 x3 x4 x5 y1 y2 I) K) : xm_J 1 mt_Fg_add 76 [(0, .ref 6), (2, .int x2), (3, .int x3), (4, .int x4), (5, .int x5)] [.int y2, .int y1, .ref 9] (I, L, RC n, n) 0 0 Q := by
  unfold f_Fg_add_b76 at hF
  obtain ⟨hi, hF⟩ := ok_gd hF
  refine q_iastore (i := 41) rfl (xm_in rfl hn) rfl hi ?_
  refine r_aload_n (i := 42) (k0 := 0) rfl rfl rfl ?_
  refine q_getr (b := 11) (i := 43) rfl fl_Fg_24 rfl (xm_in rfl hn) rfl rfl ?_
  refine r_iload (i := 44) (k0 := 4) rfl rfl ?_
  refine r_iload_n (i := 45) (k0 := 1) rfl rfl rfl ?_
  obtain ⟨hi, hF⟩ := ok_gd hF
  refine q_iastore (i := 46) rfl (xm_in rfl hn) rfl hi ?_
  refine r_aload_n (i := 47) (k0 := 0) rfl rfl rfl ?_
  refine q_getr (b := 11) (i := 48) rfl fl_Fg_24 rfl (xm_in rfl hn) rfl rfl ?_
  refine r_iload (i := 49) (k0 := 4) rfl rfl ?_
  refine r_iconst (v := 1) (i := 50) rfl ki_1 ?_
  refine r_iadd (i := 51) rfl ?_
  refine r_iload_n (i := 52) (k0 := 2) rfl rfl rfl ?_
  obtain ⟨hi, hF⟩ := ok_gd hF
  refine q_iastore (i := 53) rfl (xm_in rfl hn) rfl hi ?_
  refine r_aload_n (i := 54) (k0 := 0) rfl rfl rfl ?_
  refine q_getr (b := 11) (i := 55) rfl fl_Fg_24 rfl (xm_in rfl hn) rfl rfl ?_
  refine r_iload (i := 56) (k0 := 4) rfl rfl ?_
  refine r_iconst (v := 2) (i := 57) rfl ki_2 ?_
  refine r_iadd (i := 58) rfl ?_
  refine r_iload (i := 59) (k0 := 3) rfl rfl ?_
  obtain ⟨hi, hF⟩ := ok_gd hF
  refine q_iastore (i := 60) rfl (xm_in rfl hn) rfl hi ?_
  refine r_aload_n (i := 61) (k0 := 0) rfl rfl rfl ?_
  refine r_dup (i := 62) rfl rfl ?_
  refine q_geti (i := 63) rfl fl_Fg_38 (xm_in rfl hn) rfl ?_
  refine r_iconst (v := 1) (i := 64) rfl ki_1 ?_
  refine r_iadd (i := 65) rfl ?_
  refine q_puti (i := 66) rfl fl_Fg_38 (fun h => Bool.noConfusion h) (xm_in rfl hn) rfl ?_
  refine r_aload_n (i := 67) (k0 := 0) rfl rfl rfl ?_
  refine q_geti (i := 68) rfl fl_Fg_38 (xm_in rfl hn) rfl ?_
  refine r_iconst (v := 1) (i := 69) rfl ki_1 ?_
  refine r_isub (i := 70) rfl ?_
  have hQ := hq _ (ok_some hF)
  exact r_ireturn (i := 71) rfl rfl rfl hQ
set_option maxHeartbeats 4000000 in
set_option maxRecDepth 100000 in
theorem t_Fg_add_b55 {x1 : Int32} {x2 : Int32} {x3 : Int32} {x4 : Int32} {x5 : Int32} {y1 : Int32} {y2 : Int32} {n : Nat} {I : xm_I} {L : xm_L} {K : Int32 × xm_I → Prop} {Q : Option Value → xm_H → Prop} (hn : 86 ≤ n) (hq : ∀ p : Int32 × xm_I, K p → Q (some (.int p.1)) (p.2, L, RC n, n)) (hF : ok (f_Fg_add_b55 x1 x2 x3 x4 x5 y1 y2 I) K) : xm_J 1 mt_Fg_add 55 [(0, .ref 6), (1, .int x1), (2, .int x2), (3, .int x3), (4, .int x4), (5, .int x5)] [.int y2, .int y1, .ref 10] (I, L, RC n, n) 0 0 Q := by
  unfold f_Fg_add_b55 at hF
  obtain ⟨hi, hF⟩ := ok_gd hF
  refine q_iastore (i := 30) rfl (xm_in rfl hn) rfl hi ?_
  refine r_aload_n (i := 31) (k0 := 0) rfl rfl rfl ?_
  refine q_getr (b := 9) (i := 32) rfl fl_Fg_18 rfl (xm_in rfl hn) rfl rfl ?_
  refine r_aload_n (i := 33) (k0 := 0) rfl rfl rfl ?_
  refine q_geti (i := 34) rfl fl_Fg_38 (xm_in rfl hn) rfl ?_
  refine r_iload_n (i := 35) (k0 := 1) rfl rfl rfl ?_
  refine r_bipush (v := 6) (i := 36) rfl kb_6 ?_
  refine r_icmpne (i := 37) (tgt := 75) rfl (by decide) (fun hc => ?_) (fun hc => ?_)
  · have hF := ok_if hc hF
    refine r_iconst (v := 0) (i := 40) rfl ki_0 ?_
    refine xm_sub (Ls' := [(0, _), (2, _), (3, _), (4, _), (5, _)]) [0, 2, 3, 4, 5] rfl ?_
    exact t_Fg_add_b76 hn (fun p h => hq p h) hF
  have hF := ok_it hc hF
  refine r_iload (i := 38) (k0 := 4) rfl rfl ?_
  refine r_goto (i := 39) (tgt := 76) rfl (by decide) ?_
  refine xm_sub (Ls' := [(0, _), (2, _), (3, _), (4, _), (5, _)]) [0, 2, 3, 4, 5] rfl ?_
  exact t_Fg_add_b76 hn (fun p h => hq p h) hF
set_option maxHeartbeats 4000000 in
set_option maxRecDepth 100000 in
theorem t_Fg_add_b0 {x1 : Int32} {x2 : Int32} {x3 : Int32} {x4 : Int32} {n : Nat} {I : xm_I} {L : xm_L} {K : Int32 × xm_I → Prop} {Q : Option Value → xm_H → Prop} (hn : 86 ≤ n) (hq : ∀ p : Int32 × xm_I, K p → Q (some (.int p.1)) (p.2, L, RC n, n)) (hF : ok (f_Fg_add_b0 x1 x2 x3 x4 I) K) : xm_J 1 mt_Fg_add 0 [(0, .ref 6), (1, .int x1), (2, .int x2), (3, .int x3), (4, .int x4)] [] (I, L, RC n, n) 0 0 Q := by
  unfold f_Fg_add_b0 at hF
  refine r_aload_n (i := 0) (k0 := 0) rfl rfl rfl ?_
  refine c_V0I (i := 1) rfl vm_Fg_isFull lk_Fg_49 (t_Fg_isFull hn (ok_bind hF)) (Nat.le_of_ble_eq_true rfl) (xm_in rfl hn) rfl rfl (Nat.le_of_ble_eq_true rfl) (fun p_1 hF => ?_)
  refine r_ifeq (i := 2) (tgt := 10) rfl (by decide) (fun hc => ?_) (fun hc => ?_)
  · have hF := ok_it hc hF
    refine r_aload_n (i := 5) (k0 := 0) rfl rfl rfl ?_
    refine q_geti (i := 6) rfl fl_Fg_38 (xm_in rfl hn) rfl ?_
    refine r_bipush (v := 12) (i := 7) rfl kb_12 ?_
    refine r_imul (i := 8) rfl ?_
    refine r_istore (i := 9) (Ls' := [(5, _), (0, _), (1, _), (2, _), (3, _), (4, _)]) rfl (Nat.le_of_ble_eq_true rfl) rfl ?_
    refine r_aload_n (i := 10) (k0 := 1) rfl rfl rfl ?_
    refine q_getr (b := 7) (i := 11) rfl fl_Fg_11 rfl (xm_in rfl hn) rfl rfl ?_
    refine r_aload_n (i := 12) (k0 := 1) rfl rfl rfl ?_
    refine q_geti (i := 13) rfl fl_Fg_38 (xm_in rfl hn) rfl ?_
    refine r_iload_n (i := 14) (k0 := 2) rfl rfl rfl ?_
    obtain ⟨hi, hF⟩ := ok_gd hF
    refine q_iastore (i := 15) rfl (xm_in rfl hn) rfl hi ?_
    refine r_aload_n (i := 16) (k0 := 1) rfl rfl rfl ?_
    refine q_getr (b := 10) (i := 17) rfl fl_Fg_21 rfl (xm_in rfl hn) rfl rfl ?_
    refine r_aload_n (i := 18) (k0 := 1) rfl rfl rfl ?_
    refine q_geti (i := 19) rfl fl_Fg_38 (xm_in rfl hn) rfl ?_
    refine r_iload_n (i := 20) (k0 := 2) rfl rfl rfl ?_
    refine r_ifne (i := 21) (tgt := 45) rfl (by decide) (fun hc => ?_) (fun hc => ?_)
    · have hF := ok_if hc hF
      refine r_iload_n (i := 24) (k0 := 2) rfl rfl rfl ?_
      refine r_iconst (v := 5) (i := 25) rfl ki_5 ?_
      refine r_icmpne (i := 26) (tgt := 54) rfl (by decide) (fun hc => ?_) (fun hc => ?_)
      · have hF := ok_if hc hF
        refine r_iconst (v := 2) (i := 29) rfl ki_2 ?_
        refine xm_sub (Ls' := [(0, _), (1, _), (2, _), (3, _), (4, _), (5, _)]) [1, 2, 3, 4, 5, 0] rfl ?_
        exact t_Fg_add_b55 hn (fun p h => hq p h) hF
      have hF := ok_it hc hF
      refine r_iconst (v := 3) (i := 27) rfl ki_3 ?_
      refine r_goto (i := 28) (tgt := 55) rfl (by decide) ?_
      refine xm_sub (Ls' := [(0, _), (1, _), (2, _), (3, _), (4, _), (5, _)]) [1, 2, 3, 4, 5, 0] rfl ?_
      exact t_Fg_add_b55 hn (fun p h => hq p h) hF
    have hF := ok_it hc hF
    refine r_iconst (v := 1) (i := 22) rfl ki_1 ?_
    refine r_goto (i := 23) (tgt := 55) rfl (by decide) ?_
    refine xm_sub (Ls' := [(0, _), (1, _), (2, _), (3, _), (4, _), (5, _)]) [1, 2, 3, 4, 5, 0] rfl ?_
    exact t_Fg_add_b55 hn (fun p h => hq p h) hF
  have hF := ok_if hc hF
  refine r_ldc (i := 3) rfl ct_Fg_52 ?_
  have hQ := hq _ (ok_some hF)
  exact r_ireturn (i := 4) rfl rfl rfl hQ
set_option maxHeartbeats 4000000 in
set_option maxRecDepth 100000 in
theorem t_Fg_add {x1 : Int32} {x2 : Int32} {x3 : Int32} {x4 : Int32} {n : Nat} {I : xm_I} {L : xm_L} {K : Int32 × xm_I → Prop} (hn : 86 ≤ n) (hF : ok (f_Fg_add x1 x2 x3 x4 I) K) : xm_C 1 mt_Fg_add [.ref 6, .int x1, .int x2, .int x3, .int x4] (I, L, RC n, n) 0 0 (pI (fun p : Int32 × xm_I => p.1) (fun p : Int32 × xm_I => (p.2, L, RC n, n)) K) := by
  unfold f_Fg_add at hF
  refine xm_enter (by decide +kernel) dv_Fg_add (Nat.le_of_ble_eq_true rfl) ?_
  exact t_Fg_add_b0 hn (fun p hp => ⟨p, rfl, rfl, hp⟩) hF

noncomputable def f_D_object_b90 (x1 : Int32) (x2 : Int32) (x3 : Int32) (x4 : Int32) (I : xm_I) : Option (Int32 × xm_I) :=
  (f_Fg_isFull I).bind fun p_1 =>
  if p_1 = 0 then (
    (f_Fg_add x1 x2 x3 x4 I).bind fun p_2 =>
    some (p_2.1, p_2.2))
  else (
  some ((-100004), I))
noncomputable def f_D_object_b66 (x1 : Int32) (x2 : Int32) (x3 : Int32) (x4 : Int32) (x5 : Int32) (I : xm_I) : Option (Int32 × xm_I) :=
  if x5 = 0 then (
    some ((-100002), I))
  else (
  if x1 = 6 then (
    (f_D_isWithin x4 1 3).bind fun p_1 =>
    if p_1 = 0 then (
      some ((-100002), I))
    else (
      f_D_object_b90 x1 x2 x3 x4 I))
  else (
    f_D_object_b90 x1 x2 x3 x4 I))
noncomputable def f_D_object_b46 (x1 : Int32) (x2 : Int32) (x3 : Int32) (x4 : Int32) (x5 : Int32) (I : xm_I) : Option (Int32 × xm_I) :=
  if x1 = 5 then (
    (f_Pt_has x4 I).bind fun p_1 =>
    if p_1 = 0 then (
      some ((-100001), I))
    else (
      f_D_object_b66 x1 x2 x3 x4 x5 I))
  else (
    f_D_object_b66 x1 x2 x3 x4 x5 I)
noncomputable def f_D_object_b0 (x1 : Int32) (x2 : Int32) (x3 : Int32) (x4 : Int32) (I : xm_I) : Option (Int32 × xm_I) :=
  (f_D_isWithin x1 0 6).bind fun p_1 =>
  (f_Pt_has x2 I).bind fun p_2 =>
  if p_2 = 0 then (
    some ((-100001), I))
  else (
    if p_1 = 0 then (
      f_D_object_b46 x1 x2 x3 x4 p_1 I)
    else (
    if x1 = 0 then (
      f_D_object_b46 x1 x2 x3 x4 p_1 I)
    else (
    (f_Pt_has x3 I).bind fun p_3 =>
    if p_3 = 0 then (
      some ((-100001), I))
    else (
      f_D_object_b46 x1 x2 x3 x4 p_1 I))))
noncomputable def f_D_object (x1 : Int32) (x2 : Int32) (x3 : Int32) (x4 : Int32) (I : xm_I) : Option (Int32 × xm_I) := f_D_object_b0 x1 x2 x3 x4 I
set_option maxHeartbeats 4000000 in
set_option maxRecDepth 100000 in
theorem t_D_object_b90 {x1 : Int32} {x2 : Int32} {x3 : Int32} {x4 : Int32} {n : Nat} {I : xm_I} {L : xm_L} {K : Int32 × xm_I → Prop} {Q : Option Value → xm_H → Prop} (hn : 86 ≤ n) (hq : ∀ p : Int32 × xm_I, K p → Q (some (.int p.1)) (p.2, L, RC n, n)) (hF : ok (f_D_object_b90 x1 x2 x3 x4 I) K) : xm_J 2 mt_D_object 90 [(0, .ref 0), (1, .int x1), (2, .int x2), (3, .int x3), (4, .int x4)] [] (I, L, RC n, n) 0 0 Q := by
  unfold f_D_object_b90 at hF
  refine r_aload_n (i := 45) (k0 := 0) rfl rfl rfl ?_
  refine q_getr (b := 6) (i := 46) rfl fl_D_21 rfl (xm_in rfl hn) rfl rfl ?_
  refine c_V0I (i := 47) rfl vm_Fg_isFull lk_D_115 (t_Fg_isFull hn (ok_bind hF)) (Nat.le_of_ble_eq_true rfl) (xm_in rfl hn) rfl rfl (Nat.le_of_ble_eq_true rfl) (fun p_1 hF => ?_)
  refine r_ifeq (i := 48) (tgt := 105) rfl (by decide) (fun hc => ?_) (fun hc => ?_)
  · have hF := ok_it hc hF
    refine r_aload_n (i := 51) (k0 := 0) rfl rfl rfl ?_
    refine q_getr (b := 6) (i := 52) rfl fl_D_21 rfl (xm_in rfl hn) rfl rfl ?_
    refine r_iload_n (i := 53) (k0 := 1) rfl rfl rfl ?_
    refine r_iload_n (i := 54) (k0 := 2) rfl rfl rfl ?_
    refine r_iload_n (i := 55) (k0 := 3) rfl rfl rfl ?_
    refine r_iload (i := 56) (k0 := 4) rfl rfl ?_
    refine c_V4I (i := 57) rfl vm_Fg_add lk_D_116 (t_Fg_add hn (ok_bind hF)) (Nat.le_of_ble_eq_true rfl) (xm_in rfl hn) rfl rfl (Nat.le_of_ble_eq_true rfl) (fun p_2 hF => ?_)
    have hQ := hq _ (ok_some hF)
    exact r_ireturn (i := 58) rfl rfl rfl hQ
  have hF := ok_if hc hF
  refine r_ldc (i := 49) rfl ct_D_91 ?_
  refine r_goto (i := 50) (tgt := 117) rfl (by decide) ?_
  have hQ := hq _ (ok_some hF)
  exact r_ireturn (i := 58) rfl rfl rfl hQ
set_option maxHeartbeats 4000000 in
set_option maxRecDepth 100000 in
theorem t_D_object_b66 {x1 : Int32} {x2 : Int32} {x3 : Int32} {x4 : Int32} {x5 : Int32} {n : Nat} {I : xm_I} {L : xm_L} {K : Int32 × xm_I → Prop} {Q : Option Value → xm_H → Prop} (hn : 86 ≤ n) (hq : ∀ p : Int32 × xm_I, K p → Q (some (.int p.1)) (p.2, L, RC n, n)) (hF : ok (f_D_object_b66 x1 x2 x3 x4 x5 I) K) : xm_J 2 mt_D_object 66 [(0, .ref 0), (1, .int x1), (2, .int x2), (3, .int x3), (4, .int x4), (5, .int x5)] [] (I, L, RC n, n) 0 0 Q := by
  unfold f_D_object_b66 at hF
  refine r_iload (i := 33) (k0 := 5) rfl rfl ?_
  refine r_ifeq (i := 34) (tgt := 87) rfl (by decide) (fun hc => ?_) (fun hc => ?_)
  · have hF := ok_it hc hF
    refine r_ldc (i := 43) rfl ct_D_86 ?_
    have hQ := hq _ (ok_some hF)
    exact r_ireturn (i := 44) rfl rfl rfl hQ
  have hF := ok_if hc hF
  refine r_iload_n (i := 35) (k0 := 1) rfl rfl rfl ?_
  refine r_bipush (v := 6) (i := 36) rfl kb_6 ?_
  refine r_icmpne (i := 37) (tgt := 90) rfl (by decide) (fun hc => ?_) (fun hc => ?_)
  · have hF := ok_if hc hF
    refine xm_sub (Ls' := [(0, _), (1, _), (2, _), (3, _), (4, _)]) [0, 1, 2, 3, 4] rfl ?_
    exact t_D_object_b90 hn (fun p h => hq p h) hF
  have hF := ok_it hc hF
  refine r_iload (i := 38) (k0 := 4) rfl rfl ?_
  refine r_iconst (v := 1) (i := 39) rfl ki_1 ?_
  refine r_iconst (v := 3) (i := 40) rfl ki_3 ?_
  refine c_S3I (i := 41) rfl sm_D_isWithin lk_D_82 (t_D_isWithin hn (ok_bind hF)) (Nat.le_of_ble_eq_true rfl) rfl (Nat.le_of_ble_eq_true rfl) (fun p_1 hF => ?_)
  refine r_ifne (i := 42) (tgt := 90) rfl (by decide) (fun hc => ?_) (fun hc => ?_)
  · have hF := ok_if hc hF
    refine xm_sub (Ls' := [(0, _), (1, _), (2, _), (3, _), (4, _)]) [0, 1, 2, 3, 4] rfl ?_
    exact t_D_object_b90 hn (fun p h => hq p h) hF
  have hF := ok_it hc hF
  refine r_ldc (i := 43) rfl ct_D_86 ?_
  have hQ := hq _ (ok_some hF)
  exact r_ireturn (i := 44) rfl rfl rfl hQ
set_option maxHeartbeats 4000000 in
set_option maxRecDepth 100000 in
theorem t_D_object_b46 {x1 : Int32} {x2 : Int32} {x3 : Int32} {x4 : Int32} {x5 : Int32} {n : Nat} {I : xm_I} {L : xm_L} {K : Int32 × xm_I → Prop} {Q : Option Value → xm_H → Prop} (hn : 86 ≤ n) (hq : ∀ p : Int32 × xm_I, K p → Q (some (.int p.1)) (p.2, L, RC n, n)) (hF : ok (f_D_object_b46 x1 x2 x3 x4 x5 I) K) : xm_J 2 mt_D_object 46 [(0, .ref 0), (1, .int x1), (2, .int x2), (3, .int x3), (4, .int x4), (5, .int x5)] [] (I, L, RC n, n) 0 0 Q := by
  unfold f_D_object_b46 at hF
  refine r_iload_n (i := 23) (k0 := 1) rfl rfl rfl ?_
  refine r_iconst (v := 5) (i := 24) rfl ki_5 ?_
  refine r_icmpne (i := 25) (tgt := 66) rfl (by decide) (fun hc => ?_) (fun hc => ?_)
  · have hF := ok_if hc hF
    exact t_D_object_b66 hn (fun p h => hq p h) hF
  have hF := ok_it hc hF
  refine r_aload_n (i := 26) (k0 := 0) rfl rfl rfl ?_
  refine q_getr (b := 1) (i := 27) rfl fl_D_10 rfl (xm_in rfl hn) rfl rfl ?_
  refine r_iload (i := 28) (k0 := 4) rfl rfl ?_
  refine c_V1I (i := 29) rfl vm_Pt_has lk_D_96 (t_Pt_has hn (ok_bind hF)) (Nat.le_of_ble_eq_true rfl) (xm_in rfl hn) rfl rfl (Nat.le_of_ble_eq_true rfl) (fun p_1 hF => ?_)
  refine r_ifne (i := 30) (tgt := 66) rfl (by decide) (fun hc => ?_) (fun hc => ?_)
  · have hF := ok_if hc hF
    exact t_D_object_b66 hn (fun p h => hq p h) hF
  have hF := ok_it hc hF
  refine r_ldc (i := 31) rfl ct_D_100 ?_
  have hQ := hq _ (ok_some hF)
  exact r_ireturn (i := 32) rfl rfl rfl hQ
set_option maxHeartbeats 4000000 in
set_option maxRecDepth 100000 in
theorem t_D_object_b0 {x1 : Int32} {x2 : Int32} {x3 : Int32} {x4 : Int32} {n : Nat} {I : xm_I} {L : xm_L} {K : Int32 × xm_I → Prop} {Q : Option Value → xm_H → Prop} (hn : 86 ≤ n) (hq : ∀ p : Int32 × xm_I, K p → Q (some (.int p.1)) (p.2, L, RC n, n)) (hF : ok (f_D_object_b0 x1 x2 x3 x4 I) K) : xm_J 2 mt_D_object 0 [(0, .ref 0), (1, .int x1), (2, .int x2), (3, .int x3), (4, .int x4)] [] (I, L, RC n, n) 0 0 Q := by
  unfold f_D_object_b0 at hF
  refine r_iload_n (i := 0) (k0 := 1) rfl rfl rfl ?_
  refine r_iconst (v := 0) (i := 1) rfl ki_0 ?_
  refine r_bipush (v := 6) (i := 2) rfl kb_6 ?_
  refine c_S3I (i := 3) rfl sm_D_isWithin lk_D_82 (t_D_isWithin hn (ok_bind hF)) (Nat.le_of_ble_eq_true rfl) rfl (Nat.le_of_ble_eq_true rfl) (fun p_1 hF => ?_)
  refine r_istore (i := 4) (Ls' := [(5, _), (0, _), (1, _), (2, _), (3, _), (4, _)]) rfl (Nat.le_of_ble_eq_true rfl) rfl ?_
  refine r_aload_n (i := 5) (k0 := 1) rfl rfl rfl ?_
  refine q_getr (b := 1) (i := 6) rfl fl_D_10 rfl (xm_in rfl hn) rfl rfl ?_
  refine r_iload_n (i := 7) (k0 := 3) rfl rfl rfl ?_
  refine c_V1I (i := 8) rfl vm_Pt_has lk_D_96 (t_Pt_has hn (ok_bind hF)) (Nat.le_of_ble_eq_true rfl) (xm_in rfl hn) rfl rfl (Nat.le_of_ble_eq_true rfl) (fun p_2 hF => ?_)
  refine r_ifne (i := 9) (tgt := 23) rfl (by decide) (fun hc => ?_) (fun hc => ?_)
  · have hF := ok_if hc hF
    refine r_iload (i := 12) (k0 := 0) rfl rfl ?_
    refine r_ifeq (i := 13) (tgt := 46) rfl (by decide) (fun hc => ?_) (fun hc => ?_)
    · have hF := ok_it hc hF
      refine xm_sub (Ls' := [(0, _), (1, _), (2, _), (3, _), (4, _), (5, _)]) [1, 2, 3, 4, 5, 0] rfl ?_
      exact t_D_object_b46 hn (fun p h => hq p h) hF
    have hF := ok_if hc hF
    refine r_iload_n (i := 14) (k0 := 2) rfl rfl rfl ?_
    refine r_ifeq (i := 15) (tgt := 46) rfl (by decide) (fun hc => ?_) (fun hc => ?_)
    · have hF := ok_it hc hF
      refine xm_sub (Ls' := [(0, _), (1, _), (2, _), (3, _), (4, _), (5, _)]) [1, 2, 3, 4, 5, 0] rfl ?_
      exact t_D_object_b46 hn (fun p h => hq p h) hF
    have hF := ok_if hc hF
    refine r_aload_n (i := 16) (k0 := 1) rfl rfl rfl ?_
    refine q_getr (b := 1) (i := 17) rfl fl_D_10 rfl (xm_in rfl hn) rfl rfl ?_
    refine r_iload_n (i := 18) (k0 := 4) rfl rfl rfl ?_
    refine c_V1I (i := 19) rfl vm_Pt_has lk_D_96 (t_Pt_has hn (ok_bind hF)) (Nat.le_of_ble_eq_true rfl) (xm_in rfl hn) rfl rfl (Nat.le_of_ble_eq_true rfl) (fun p_3 hF => ?_)
    refine r_ifne (i := 20) (tgt := 46) rfl (by decide) (fun hc => ?_) (fun hc => ?_)
    · have hF := ok_if hc hF
      refine xm_sub (Ls' := [(0, _), (1, _), (2, _), (3, _), (4, _), (5, _)]) [1, 2, 3, 4, 5, 0] rfl ?_
      exact t_D_object_b46 hn (fun p h => hq p h) hF
    have hF := ok_it hc hF
    refine r_ldc (i := 21) rfl ct_D_100 ?_
    have hQ := hq _ (ok_some hF)
    exact r_ireturn (i := 22) rfl rfl rfl hQ
  have hF := ok_it hc hF
  refine r_ldc (i := 10) rfl ct_D_100 ?_
  have hQ := hq _ (ok_some hF)
  exact r_ireturn (i := 11) rfl rfl rfl hQ
set_option maxHeartbeats 4000000 in
set_option maxRecDepth 100000 in
theorem t_D_object {x1 : Int32} {x2 : Int32} {x3 : Int32} {x4 : Int32} {n : Nat} {I : xm_I} {L : xm_L} {K : Int32 × xm_I → Prop} (hn : 86 ≤ n) (hF : ok (f_D_object x1 x2 x3 x4 I) K) : xm_C 2 mt_D_object [.ref 0, .int x1, .int x2, .int x3, .int x4] (I, L, RC n, n) 0 0 (pI (fun p : Int32 × xm_I => p.1) (fun p : Int32 × xm_I => (p.2, L, RC n, n)) K) := by
  unfold f_D_object at hF
  refine xm_enter (by decide +kernel) dv_D_object (Nat.le_of_ble_eq_true rfl) ?_
  exact t_D_object_b0 hn (fun p hp => ⟨p, rfl, rfl, hp⟩) hF

noncomputable def f_Fg_chainIsFull_b0 (I : xm_I) : Option (Int32) :=
  if (I 6 8) < 12 then (
    some (0))
  else (
  some (1))
noncomputable def f_Fg_chainIsFull (I : xm_I) : Option (Int32) := f_Fg_chainIsFull_b0 I
set_option maxHeartbeats 4000000 in
set_option maxRecDepth 100000 in
theorem t_Fg_chainIsFull_b0 {n : Nat} {I : xm_I} {L : xm_L} {K : Int32 → Prop} {Q : Option Value → xm_H → Prop} (hn : 86 ≤ n) (hq : ∀ p : Int32, K p → Q (some (.int p)) (I, L, RC n, n)) (hF : ok (f_Fg_chainIsFull_b0 I) K) : xm_J 0 mt_Fg_chainIsFull 0 [(0, .ref 6)] [] (I, L, RC n, n) 0 0 Q := by
  unfold f_Fg_chainIsFull_b0 at hF
  refine r_aload_n (i := 0) (k0 := 0) rfl rfl rfl ?_
  refine q_geti (i := 1) rfl fl_Fg_42 (xm_in rfl hn) rfl ?_
  refine r_bipush (v := 12) (i := 2) rfl kb_12 ?_
  refine r_icmplt (i := 3) (tgt := 13) rfl (by decide) (fun hc => ?_) (fun hc => ?_)
  · have hF := ok_it hc hF
    refine r_iconst (v := 0) (i := 6) rfl ki_0 ?_
    have hQ := hq _ (ok_some hF)
    exact r_ireturn (i := 7) rfl rfl rfl hQ
  have hF := ok_if hc hF
  refine r_iconst (v := 1) (i := 4) rfl ki_1 ?_
  refine r_goto (i := 5) (tgt := 14) rfl (by decide) ?_
  have hQ := hq _ (ok_some hF)
  exact r_ireturn (i := 7) rfl rfl rfl hQ
set_option maxHeartbeats 4000000 in
set_option maxRecDepth 100000 in
theorem t_Fg_chainIsFull {n : Nat} {I : xm_I} {L : xm_L} {K : Int32 → Prop} (hn : 86 ≤ n) (hF : ok (f_Fg_chainIsFull I) K) : xm_C 0 mt_Fg_chainIsFull [.ref 6] (I, L, RC n, n) 0 0 (pI (fun p : Int32 => p) (fun p : Int32 => (I, L, RC n, n)) K) := by
  unfold f_Fg_chainIsFull at hF
  refine xm_enter (by decide +kernel) dv_Fg_chainIsFull (Nat.le_of_ble_eq_true rfl) ?_
  exact t_Fg_chainIsFull_b0 hn (fun p hp => ⟨p, rfl, rfl, hp⟩) hF

noncomputable def f_Fg_lengthenChain_b0 (x1 : Int32) (I : xm_I) : Option (Int32 × xm_I) :=
  (f_Fg_chainIsFull I).bind fun p_1 =>
  if p_1 = 0 then (
    gd (0 ≤ (I 6 8).toInt ∧ (I 6 8).toInt < 12) <|
    let I_2 : xm_I := up2 I 13 (Int32.toNatClampNeg (I 6 8)) x1
    let I_3 : xm_I := up2 I_2 6 8 ((I_2 6 8) + 1)
    some (I_3 6 8, I_3))
  else (
    some (I 6 8, I))
noncomputable def f_Fg_lengthenChain (x1 : Int32) (I : xm_I) : Option (Int32 × xm_I) := f_Fg_lengthenChain_b0 x1 I
set_option maxHeartbeats 4000000 in
set_option maxRecDepth 100000 in
theorem t_Fg_lengthenChain_b0 {x1 : Int32} {n : Nat} {I : xm_I} {L : xm_L} {K : Int32 × xm_I → Prop} {Q : Option Value → xm_H → Prop} (hn : 86 ≤ n) (hq : ∀ p : Int32 × xm_I, K p → Q (some (.int p.1)) (p.2, L, RC n, n)) (hF : ok (f_Fg_lengthenChain_b0 x1 I) K) : xm_J 1 mt_Fg_lengthenChain 0 [(0, .ref 6), (1, .int x1)] [] (I, L, RC n, n) 0 0 Q := by
  unfold f_Fg_lengthenChain_b0 at hF
  refine r_aload_n (i := 0) (k0 := 0) rfl rfl rfl ?_
  refine c_V0I (i := 1) rfl vm_Fg_chainIsFull lk_Fg_45 (t_Fg_chainIsFull hn (ok_bind hF)) (Nat.le_of_ble_eq_true rfl) (xm_in rfl hn) rfl rfl (Nat.le_of_ble_eq_true rfl) (fun p_1 hF => ?_)
  refine r_ifne (i := 2) (tgt := 27) rfl (by decide) (fun hc => ?_) (fun hc => ?_)
  · have hF := ok_if hc hF
    refine r_aload_n (i := 15) (k0 := 0) rfl rfl rfl ?_
    refine q_geti (i := 16) rfl fl_Fg_42 (xm_in rfl hn) rfl ?_
    have hQ := hq _ (ok_some hF)
    exact r_ireturn (i := 17) rfl rfl rfl hQ
  have hF := ok_it hc hF
  refine r_aload_n (i := 3) (k0 := 0) rfl rfl rfl ?_
  refine q_getr (b := 13) (i := 4) rfl fl_Fg_31 rfl (xm_in rfl hn) rfl rfl ?_
  refine r_aload_n (i := 5) (k0 := 0) rfl rfl rfl ?_
  refine q_geti (i := 6) rfl fl_Fg_42 (xm_in rfl hn) rfl ?_
  refine r_iload_n (i := 7) (k0 := 1) rfl rfl rfl ?_
  obtain ⟨hi, hF⟩ := ok_gd hF
  refine q_iastore (i := 8) rfl (xm_in rfl hn) rfl hi ?_
  refine r_aload_n (i := 9) (k0 := 0) rfl rfl rfl ?_
  refine r_dup (i := 10) rfl rfl ?_
  refine q_geti (i := 11) rfl fl_Fg_42 (xm_in rfl hn) rfl ?_
  refine r_iconst (v := 1) (i := 12) rfl ki_1 ?_
  refine r_iadd (i := 13) rfl ?_
  refine q_puti (i := 14) rfl fl_Fg_42 (fun h => Bool.noConfusion h) (xm_in rfl hn) rfl ?_
  refine r_aload_n (i := 15) (k0 := 0) rfl rfl rfl ?_
  refine q_geti (i := 16) rfl fl_Fg_42 (xm_in rfl hn) rfl ?_
  have hQ := hq _ (ok_some hF)
  exact r_ireturn (i := 17) rfl rfl rfl hQ
set_option maxHeartbeats 4000000 in
set_option maxRecDepth 100000 in
theorem t_Fg_lengthenChain {x1 : Int32} {n : Nat} {I : xm_I} {L : xm_L} {K : Int32 × xm_I → Prop} (hn : 86 ≤ n) (hF : ok (f_Fg_lengthenChain x1 I) K) : xm_C 1 mt_Fg_lengthenChain [.ref 6, .int x1] (I, L, RC n, n) 0 0 (pI (fun p : Int32 × xm_I => p.1) (fun p : Int32 × xm_I => (p.2, L, RC n, n)) K) := by
  unfold f_Fg_lengthenChain at hF
  refine xm_enter (by decide +kernel) dv_Fg_lengthenChain (Nat.le_of_ble_eq_true rfl) ?_
  exact t_Fg_lengthenChain_b0 hn (fun p hp => ⟨p, rfl, rfl, hp⟩) hF

noncomputable def f_D_corner_b0 (x1 : Int32) (I : xm_I) : Option (Int32 × xm_I) :=
  (f_Pt_has x1 I).bind fun p_1 =>
  if p_1 = 0 then (
    some ((-100001), I))
  else (
    (f_Fg_chainIsFull I).bind fun p_2 =>
    if p_2 = 0 then (
      (f_Fg_lengthenChain x1 I).bind fun p_3 =>
      some (p_3.1, p_3.2))
    else (
    some ((-100004), I)))
noncomputable def f_D_corner (x1 : Int32) (I : xm_I) : Option (Int32 × xm_I) := f_D_corner_b0 x1 I
set_option maxHeartbeats 4000000 in
set_option maxRecDepth 100000 in
theorem t_D_corner_b0 {x1 : Int32} {n : Nat} {I : xm_I} {L : xm_L} {K : Int32 × xm_I → Prop} {Q : Option Value → xm_H → Prop} (hn : 86 ≤ n) (hq : ∀ p : Int32 × xm_I, K p → Q (some (.int p.1)) (p.2, L, RC n, n)) (hF : ok (f_D_corner_b0 x1 I) K) : xm_J 2 mt_D_corner 0 [(0, .ref 0), (1, .int x1)] [] (I, L, RC n, n) 0 0 Q := by
  unfold f_D_corner_b0 at hF
  refine r_aload_n (i := 0) (k0 := 0) rfl rfl rfl ?_
  refine q_getr (b := 1) (i := 1) rfl fl_D_10 rfl (xm_in rfl hn) rfl rfl ?_
  refine r_iload_n (i := 2) (k0 := 1) rfl rfl rfl ?_
  refine c_V1I (i := 3) rfl vm_Pt_has lk_D_96 (t_Pt_has hn (ok_bind hF)) (Nat.le_of_ble_eq_true rfl) (xm_in rfl hn) rfl rfl (Nat.le_of_ble_eq_true rfl) (fun p_1 hF => ?_)
  refine r_ifne (i := 4) (tgt := 14) rfl (by decide) (fun hc => ?_) (fun hc => ?_)
  · have hF := ok_if hc hF
    refine r_aload_n (i := 7) (k0 := 0) rfl rfl rfl ?_
    refine q_getr (b := 6) (i := 8) rfl fl_D_21 rfl (xm_in rfl hn) rfl rfl ?_
    refine c_V0I (i := 9) rfl vm_Fg_chainIsFull lk_D_119 (t_Fg_chainIsFull hn (ok_bind hF)) (Nat.le_of_ble_eq_true rfl) (xm_in rfl hn) rfl rfl (Nat.le_of_ble_eq_true rfl) (fun p_2 hF => ?_)
    refine r_ifeq (i := 10) (tgt := 29) rfl (by decide) (fun hc => ?_) (fun hc => ?_)
    · have hF := ok_it hc hF
      refine r_aload_n (i := 13) (k0 := 0) rfl rfl rfl ?_
      refine q_getr (b := 6) (i := 14) rfl fl_D_21 rfl (xm_in rfl hn) rfl rfl ?_
      refine r_iload_n (i := 15) (k0 := 1) rfl rfl rfl ?_
      refine c_V1I (i := 16) rfl vm_Fg_lengthenChain lk_D_122 (t_Fg_lengthenChain hn (ok_bind hF)) (Nat.le_of_ble_eq_true rfl) (xm_in rfl hn) rfl rfl (Nat.le_of_ble_eq_true rfl) (fun p_3 hF => ?_)
      have hQ := hq _ (ok_some hF)
      exact r_ireturn (i := 17) rfl rfl rfl hQ
    have hF := ok_if hc hF
    refine r_ldc (i := 11) rfl ct_D_91 ?_
    refine r_goto (i := 12) (tgt := 37) rfl (by decide) ?_
    have hQ := hq _ (ok_some hF)
    exact r_ireturn (i := 17) rfl rfl rfl hQ
  have hF := ok_it hc hF
  refine r_ldc (i := 5) rfl ct_D_100 ?_
  have hQ := hq _ (ok_some hF)
  exact r_ireturn (i := 6) rfl rfl rfl hQ
set_option maxHeartbeats 4000000 in
set_option maxRecDepth 100000 in
theorem t_D_corner {x1 : Int32} {n : Nat} {I : xm_I} {L : xm_L} {K : Int32 × xm_I → Prop} (hn : 86 ≤ n) (hF : ok (f_D_corner x1 I) K) : xm_C 2 mt_D_corner [.ref 0, .int x1] (I, L, RC n, n) 0 0 (pI (fun p : Int32 × xm_I => p.1) (fun p : Int32 × xm_I => (p.2, L, RC n, n)) K) := by
  unfold f_D_corner at hF
  refine xm_enter (by decide +kernel) dv_D_corner (Nat.le_of_ble_eq_true rfl) ?_
  exact t_D_corner_b0 hn (fun p hp => ⟨p, rfl, rfl, hp⟩) hF

noncomputable def f_Fg_has_b0 (x1 : Int32) (I : xm_I) : Option (Int32) :=
  if x1 < 0 then (
    some (0))
  else (
  if (I 6 9) ≤ x1 then (
    some (0))
  else (
  if 40 ≤ x1 then (
    some (0))
  else (
  some (1))))
noncomputable def f_Fg_has (x1 : Int32) (I : xm_I) : Option (Int32) := f_Fg_has_b0 x1 I
set_option maxHeartbeats 4000000 in
set_option maxRecDepth 100000 in
theorem t_Fg_has_b0 {x1 : Int32} {n : Nat} {I : xm_I} {L : xm_L} {K : Int32 → Prop} {Q : Option Value → xm_H → Prop} (hn : 86 ≤ n) (hq : ∀ p : Int32, K p → Q (some (.int p)) (I, L, RC n, n)) (hF : ok (f_Fg_has_b0 x1 I) K) : xm_J 0 mt_Fg_has 0 [(0, .ref 6), (1, .int x1)] [] (I, L, RC n, n) 0 0 Q := by
  unfold f_Fg_has_b0 at hF
  refine r_iload_n (i := 0) (k0 := 1) rfl rfl rfl ?_
  refine r_iflt (i := 1) (tgt := 22) rfl (by decide) (fun hc => ?_) (fun hc => ?_)
  · have hF := ok_it hc hF
    refine r_iconst (v := 0) (i := 11) rfl ki_0 ?_
    have hQ := hq _ (ok_some hF)
    exact r_ireturn (i := 12) rfl rfl rfl hQ
  have hF := ok_if hc hF
  refine r_iload_n (i := 2) (k0 := 1) rfl rfl rfl ?_
  refine r_aload_n (i := 3) (k0 := 0) rfl rfl rfl ?_
  refine q_geti (i := 4) rfl fl_Fg_38 (xm_in rfl hn) rfl ?_
  refine r_icmpge (i := 5) (tgt := 22) rfl (by decide) (fun hc => ?_) (fun hc => ?_)
  · have hF := ok_it hc hF
    refine r_iconst (v := 0) (i := 11) rfl ki_0 ?_
    have hQ := hq _ (ok_some hF)
    exact r_ireturn (i := 12) rfl rfl rfl hQ
  have hF := ok_if hc hF
  refine r_iload_n (i := 6) (k0 := 1) rfl rfl rfl ?_
  refine r_bipush (v := 40) (i := 7) rfl kb_40 ?_
  refine r_icmpge (i := 8) (tgt := 22) rfl (by decide) (fun hc => ?_) (fun hc => ?_)
  · have hF := ok_it hc hF
    refine r_iconst (v := 0) (i := 11) rfl ki_0 ?_
    have hQ := hq _ (ok_some hF)
    exact r_ireturn (i := 12) rfl rfl rfl hQ
  have hF := ok_if hc hF
  refine r_iconst (v := 1) (i := 9) rfl ki_1 ?_
  refine r_goto (i := 10) (tgt := 23) rfl (by decide) ?_
  have hQ := hq _ (ok_some hF)
  exact r_ireturn (i := 12) rfl rfl rfl hQ
set_option maxHeartbeats 4000000 in
set_option maxRecDepth 100000 in
theorem t_Fg_has {x1 : Int32} {n : Nat} {I : xm_I} {L : xm_L} {K : Int32 → Prop} (hn : 86 ≤ n) (hF : ok (f_Fg_has x1 I) K) : xm_C 0 mt_Fg_has [.ref 6, .int x1] (I, L, RC n, n) 0 0 (pI (fun p : Int32 => p) (fun p : Int32 => (I, L, RC n, n)) K) := by
  unfold f_Fg_has at hF
  refine xm_enter (by decide +kernel) dv_Fg_has (Nat.le_of_ble_eq_true rfl) ?_
  exact t_Fg_has_b0 hn (fun p hp => ⟨p, rfl, rfl, hp⟩) hF

noncomputable def f_Fg_setStyle_b0 (x1 : Int32) (x2 : Int32) (I : xm_I) : Option (xm_I) :=
  (f_Fg_has x1 I).bind fun p_1 =>
  if p_1 = 0 then (
    some (I))
  else (
  gd (0 ≤ (x1).toInt ∧ (x1).toInt < 40) <|
  let I_2 : xm_I := up2 I 8 (Int32.toNatClampNeg x1) x2
  some (I_2))
noncomputable def f_Fg_setStyle (x1 : Int32) (x2 : Int32) (I : xm_I) : Option (xm_I) := f_Fg_setStyle_b0 x1 x2 I
set_option maxHeartbeats 4000000 in
set_option maxRecDepth 100000 in
theorem t_Fg_setStyle_b0 {x1 : Int32} {x2 : Int32} {n : Nat} {I : xm_I} {L : xm_L} {K : xm_I → Prop} {Q : Option Value → xm_H → Prop} (hn : 86 ≤ n) (hq : ∀ p : xm_I, K p → Q none (p, L, RC n, n)) (hF : ok (f_Fg_setStyle_b0 x1 x2 I) K) : xm_J 1 mt_Fg_setStyle 0 [(0, .ref 6), (1, .int x1), (2, .int x2)] [] (I, L, RC n, n) 0 0 Q := by
  unfold f_Fg_setStyle_b0 at hF
  refine r_aload_n (i := 0) (k0 := 0) rfl rfl rfl ?_
  refine r_iload_n (i := 1) (k0 := 1) rfl rfl rfl ?_
  refine c_V1I (i := 2) rfl vm_Fg_has lk_Fg_59 (t_Fg_has hn (ok_bind hF)) (Nat.le_of_ble_eq_true rfl) (xm_in rfl hn) rfl rfl (Nat.le_of_ble_eq_true rfl) (fun p_1 hF => ?_)
  refine r_ifeq (i := 3) (tgt := 15) rfl (by decide) (fun hc => ?_) (fun hc => ?_)
  · have hF := ok_it hc hF
    have hQ := hq _ (ok_some hF)
    exact r_return (i := 9) rfl rfl hQ
  have hF := ok_if hc hF
  refine r_aload_n (i := 4) (k0 := 0) rfl rfl rfl ?_
  refine q_getr (b := 8) (i := 5) rfl fl_Fg_15 rfl (xm_in rfl hn) rfl rfl ?_
  refine r_iload_n (i := 6) (k0 := 1) rfl rfl rfl ?_
  refine r_iload_n (i := 7) (k0 := 2) rfl rfl rfl ?_
  obtain ⟨hi, hF⟩ := ok_gd hF
  refine q_iastore (i := 8) rfl (xm_in rfl hn) rfl hi ?_
  have hQ := hq _ (ok_some hF)
  exact r_return (i := 9) rfl rfl hQ
set_option maxHeartbeats 4000000 in
set_option maxRecDepth 100000 in
theorem t_Fg_setStyle {x1 : Int32} {x2 : Int32} {n : Nat} {I : xm_I} {L : xm_L} {K : xm_I → Prop} (hn : 86 ≤ n) (hF : ok (f_Fg_setStyle x1 x2 I) K) : xm_C 1 mt_Fg_setStyle [.ref 6, .int x1, .int x2] (I, L, RC n, n) 0 0 (pV (fun p : xm_I => (p, L, RC n, n)) K) := by
  unfold f_Fg_setStyle at hF
  refine xm_enter (by decide +kernel) dv_Fg_setStyle (Nat.le_of_ble_eq_true rfl) ?_
  exact t_Fg_setStyle_b0 hn (fun p hp => ⟨p, rfl, rfl, hp⟩) hF

noncomputable def f_Fg_styleOf_b0 (x1 : Int32) (I : xm_I) : Option (Int32) :=
  (f_Fg_has x1 I).bind fun p_1 =>
  if p_1 = 0 then (
    some (0))
  else (
  gd (0 ≤ (x1).toInt ∧ (x1).toInt < 40) <|
  some (I 8 (Int32.toNatClampNeg x1)))
noncomputable def f_Fg_styleOf (x1 : Int32) (I : xm_I) : Option (Int32) := f_Fg_styleOf_b0 x1 I
set_option maxHeartbeats 4000000 in
set_option maxRecDepth 100000 in
theorem t_Fg_styleOf_b0 {x1 : Int32} {n : Nat} {I : xm_I} {L : xm_L} {K : Int32 → Prop} {Q : Option Value → xm_H → Prop} (hn : 86 ≤ n) (hq : ∀ p : Int32, K p → Q (some (.int p)) (I, L, RC n, n)) (hF : ok (f_Fg_styleOf_b0 x1 I) K) : xm_J 1 mt_Fg_styleOf 0 [(0, .ref 6), (1, .int x1)] [] (I, L, RC n, n) 0 0 Q := by
  unfold f_Fg_styleOf_b0 at hF
  refine r_aload_n (i := 0) (k0 := 0) rfl rfl rfl ?_
  refine r_iload_n (i := 1) (k0 := 1) rfl rfl rfl ?_
  refine c_V1I (i := 2) rfl vm_Fg_has lk_Fg_59 (t_Fg_has hn (ok_bind hF)) (Nat.le_of_ble_eq_true rfl) (xm_in rfl hn) rfl rfl (Nat.le_of_ble_eq_true rfl) (fun p_1 hF => ?_)
  refine r_ifeq (i := 3) (tgt := 17) rfl (by decide) (fun hc => ?_) (fun hc => ?_)
  · have hF := ok_it hc hF
    refine r_iconst (v := 0) (i := 9) rfl ki_0 ?_
    have hQ := hq _ (ok_some hF)
    exact r_ireturn (i := 10) rfl rfl rfl hQ
  have hF := ok_if hc hF
  refine r_aload_n (i := 4) (k0 := 0) rfl rfl rfl ?_
  refine q_getr (b := 8) (i := 5) rfl fl_Fg_15 rfl (xm_in rfl hn) rfl rfl ?_
  refine r_iload_n (i := 6) (k0 := 1) rfl rfl rfl ?_
  obtain ⟨hi, hF⟩ := ok_gd hF
  refine q_iaload (i := 7) rfl (xm_in rfl hn) rfl hi ?_
  refine r_goto (i := 8) (tgt := 18) rfl (by decide) ?_
  have hQ := hq _ (ok_some hF)
  exact r_ireturn (i := 10) rfl rfl rfl hQ
set_option maxHeartbeats 4000000 in
set_option maxRecDepth 100000 in
theorem t_Fg_styleOf {x1 : Int32} {n : Nat} {I : xm_I} {L : xm_L} {K : Int32 → Prop} (hn : 86 ≤ n) (hF : ok (f_Fg_styleOf x1 I) K) : xm_C 1 mt_Fg_styleOf [.ref 6, .int x1] (I, L, RC n, n) 0 0 (pI (fun p : Int32 => p) (fun p : Int32 => (I, L, RC n, n)) K) := by
  unfold f_Fg_styleOf at hF
  refine xm_enter (by decide +kernel) dv_Fg_styleOf (Nat.le_of_ble_eq_true rfl) ?_
  exact t_Fg_styleOf_b0 hn (fun p hp => ⟨p, rfl, rfl, hp⟩) hF

noncomputable def f_D_style_b0 (x1 : Int32) (x2 : Int32) (I : xm_I) : Option (Int32 × xm_I) :=
  (f_Fg_has x1 I).bind fun p_1 =>
  if p_1 = 0 then (
    some ((-100001), I))
  else (
    (f_D_isWithin x2 0 2).bind fun p_2 =>
    if p_2 = 0 then (
      some ((-100002), I))
    else (
      (f_Fg_styleOf x1 I).bind fun p_3 =>
      (f_Fg_setStyle x1 x2 I).bind fun p_4 =>
      some (p_3, p_4)))
noncomputable def f_D_style (x1 : Int32) (x2 : Int32) (I : xm_I) : Option (Int32 × xm_I) := f_D_style_b0 x1 x2 I
set_option maxHeartbeats 4000000 in
set_option maxRecDepth 100000 in
theorem t_D_style_b0 {x1 : Int32} {x2 : Int32} {n : Nat} {I : xm_I} {L : xm_L} {K : Int32 × xm_I → Prop} {Q : Option Value → xm_H → Prop} (hn : 86 ≤ n) (hq : ∀ p : Int32 × xm_I, K p → Q (some (.int p.1)) (p.2, L, RC n, n)) (hF : ok (f_D_style_b0 x1 x2 I) K) : xm_J 2 mt_D_style 0 [(0, .ref 0), (1, .int x1), (2, .int x2)] [] (I, L, RC n, n) 0 0 Q := by
  unfold f_D_style_b0 at hF
  refine r_aload_n (i := 0) (k0 := 0) rfl rfl rfl ?_
  refine q_getr (b := 6) (i := 1) rfl fl_D_21 rfl (xm_in rfl hn) rfl rfl ?_
  refine r_iload_n (i := 2) (k0 := 1) rfl rfl rfl ?_
  refine c_V1I (i := 3) rfl vm_Fg_has lk_D_133 (t_Fg_has hn (ok_bind hF)) (Nat.le_of_ble_eq_true rfl) (xm_in rfl hn) rfl rfl (Nat.le_of_ble_eq_true rfl) (fun p_1 hF => ?_)
  refine r_ifne (i := 4) (tgt := 14) rfl (by decide) (fun hc => ?_) (fun hc => ?_)
  · have hF := ok_if hc hF
    refine r_iload_n (i := 7) (k0 := 2) rfl rfl rfl ?_
    refine r_iconst (v := 0) (i := 8) rfl ki_0 ?_
    refine r_iconst (v := 2) (i := 9) rfl ki_2 ?_
    refine c_S3I (i := 10) rfl sm_D_isWithin lk_D_82 (t_D_isWithin hn (ok_bind hF)) (Nat.le_of_ble_eq_true rfl) rfl (Nat.le_of_ble_eq_true rfl) (fun p_2 hF => ?_)
    refine r_ifne (i := 11) (tgt := 26) rfl (by decide) (fun hc => ?_) (fun hc => ?_)
    · have hF := ok_if hc hF
      refine r_aload_n (i := 14) (k0 := 0) rfl rfl rfl ?_
      refine q_getr (b := 6) (i := 15) rfl fl_D_21 rfl (xm_in rfl hn) rfl rfl ?_
      refine r_iload_n (i := 16) (k0 := 1) rfl rfl rfl ?_
      refine c_V1I (i := 17) rfl vm_Fg_styleOf lk_D_134 (t_Fg_styleOf hn (ok_bind hF)) (Nat.le_of_ble_eq_true rfl) (xm_in rfl hn) rfl rfl (Nat.le_of_ble_eq_true rfl) (fun p_3 hF => ?_)
      refine r_istore_n (i := 18) (Ls' := [(3, _), (0, _), (1, _), (2, _)]) rfl rfl (Nat.le_of_ble_eq_true rfl) rfl ?_
      refine r_aload_n (i := 19) (k0 := 1) rfl rfl rfl ?_
      refine q_getr (b := 6) (i := 20) rfl fl_D_21 rfl (xm_in rfl hn) rfl rfl ?_
      refine r_iload_n (i := 21) (k0 := 2) rfl rfl rfl ?_
      refine r_iload_n (i := 22) (k0 := 3) rfl rfl rfl ?_
      refine c_V2V (i := 23) rfl vm_Fg_setStyle lk_D_137 (t_Fg_setStyle hn (ok_bind hF)) (Nat.le_of_ble_eq_true rfl) (xm_in rfl hn) rfl rfl (Nat.le_of_ble_eq_true rfl) (fun p_4 hF => ?_)
      refine r_iload_n (i := 24) (k0 := 0) rfl rfl rfl ?_
      have hQ := hq _ (ok_some hF)
      exact r_ireturn (i := 25) rfl rfl rfl hQ
    have hF := ok_it hc hF
    refine r_ldc (i := 12) rfl ct_D_86 ?_
    have hQ := hq _ (ok_some hF)
    exact r_ireturn (i := 13) rfl rfl rfl hQ
  have hF := ok_it hc hF
  refine r_ldc (i := 5) rfl ct_D_100 ?_
  have hQ := hq _ (ok_some hF)
  exact r_ireturn (i := 6) rfl rfl rfl hQ
set_option maxHeartbeats 4000000 in
set_option maxRecDepth 100000 in
theorem t_D_style {x1 : Int32} {x2 : Int32} {n : Nat} {I : xm_I} {L : xm_L} {K : Int32 × xm_I → Prop} (hn : 86 ≤ n) (hF : ok (f_D_style x1 x2 I) K) : xm_C 2 mt_D_style [.ref 0, .int x1, .int x2] (I, L, RC n, n) 0 0 (pI (fun p : Int32 × xm_I => p.1) (fun p : Int32 × xm_I => (p.2, L, RC n, n)) K) := by
  unfold f_D_style at hF
  refine xm_enter (by decide +kernel) dv_D_style (Nat.le_of_ble_eq_true rfl) ?_
  exact t_D_style_b0 hn (fun p hp => ⟨p, rfl, rfl, hp⟩) hF

noncomputable def f_Fg_isHidden_b0 (x1 : Int32) (I : xm_I) : Option (Int32) :=
  if x1 < 0 then (
    some (0))
  else (
  if 9 < x1 then (
    some (0))
  else (
  gd (0 ≤ (x1).toInt ∧ (x1).toInt < 10) <|
  if (I 12 (Int32.toNatClampNeg x1)) = 0 then (
    some (0))
  else (
  some (1))))
noncomputable def f_Fg_isHidden (x1 : Int32) (I : xm_I) : Option (Int32) := f_Fg_isHidden_b0 x1 I
set_option maxHeartbeats 4000000 in
set_option maxRecDepth 100000 in
theorem t_Fg_isHidden_b0 {x1 : Int32} {n : Nat} {I : xm_I} {L : xm_L} {K : Int32 → Prop} {Q : Option Value → xm_H → Prop} (hn : 86 ≤ n) (hq : ∀ p : Int32, K p → Q (some (.int p)) (I, L, RC n, n)) (hF : ok (f_Fg_isHidden_b0 x1 I) K) : xm_J 0 mt_Fg_isHidden 0 [(0, .ref 6), (1, .int x1)] [] (I, L, RC n, n) 0 0 Q := by
  unfold f_Fg_isHidden_b0 at hF
  refine r_iload_n (i := 0) (k0 := 1) rfl rfl rfl ?_
  refine r_iflt (i := 1) (tgt := 23) rfl (by decide) (fun hc => ?_) (fun hc => ?_)
  · have hF := ok_it hc hF
    refine r_iconst (v := 0) (i := 12) rfl ki_0 ?_
    have hQ := hq _ (ok_some hF)
    exact r_ireturn (i := 13) rfl rfl rfl hQ
  have hF := ok_if hc hF
  refine r_iload_n (i := 2) (k0 := 1) rfl rfl rfl ?_
  refine r_bipush (v := 9) (i := 3) rfl kb_9 ?_
  refine r_icmpgt (i := 4) (tgt := 23) rfl (by decide) (fun hc => ?_) (fun hc => ?_)
  · have hF := ok_it hc hF
    refine r_iconst (v := 0) (i := 12) rfl ki_0 ?_
    have hQ := hq _ (ok_some hF)
    exact r_ireturn (i := 13) rfl rfl rfl hQ
  have hF := ok_if hc hF
  refine r_aload_n (i := 5) (k0 := 0) rfl rfl rfl ?_
  refine q_getr (b := 12) (i := 6) rfl fl_Fg_27 rfl (xm_in rfl hn) rfl rfl ?_
  refine r_iload_n (i := 7) (k0 := 1) rfl rfl rfl ?_
  obtain ⟨hi, hF⟩ := ok_gd hF
  refine q_baload (i := 8) rfl (xm_in rfl hn) rfl hi ?_
  refine r_ifeq (i := 9) (tgt := 23) rfl (by decide) (fun hc => ?_) (fun hc => ?_)
  · have hF := ok_it hc hF
    refine r_iconst (v := 0) (i := 12) rfl ki_0 ?_
    have hQ := hq _ (ok_some hF)
    exact r_ireturn (i := 13) rfl rfl rfl hQ
  have hF := ok_if hc hF
  refine r_iconst (v := 1) (i := 10) rfl ki_1 ?_
  refine r_goto (i := 11) (tgt := 24) rfl (by decide) ?_
  have hQ := hq _ (ok_some hF)
  exact r_ireturn (i := 13) rfl rfl rfl hQ
set_option maxHeartbeats 4000000 in
set_option maxRecDepth 100000 in
theorem t_Fg_isHidden {x1 : Int32} {n : Nat} {I : xm_I} {L : xm_L} {K : Int32 → Prop} (hn : 86 ≤ n) (hF : ok (f_Fg_isHidden x1 I) K) : xm_C 0 mt_Fg_isHidden [.ref 6, .int x1] (I, L, RC n, n) 0 0 (pI (fun p : Int32 => p) (fun p : Int32 => (I, L, RC n, n)) K) := by
  unfold f_Fg_isHidden at hF
  refine xm_enter (by decide +kernel) dv_Fg_isHidden (Nat.le_of_ble_eq_true rfl) ?_
  exact t_Fg_isHidden_b0 hn (fun p hp => ⟨p, rfl, rfl, hp⟩) hF

noncomputable def f_Fg_setHidden_b0 (x1 : Int32) (x2 : Int32) (I : xm_I) : Option (xm_I) :=
  if x1 < 0 then (
    some (I))
  else (
  if 9 < x1 then (
    some (I))
  else (
  gd (0 ≤ (x1).toInt ∧ (x1).toInt < 10) <|
  let I_1 : xm_I := up2 I 12 (Int32.toNatClampNeg x1) (x2 &&& 1)
  some (I_1)))
noncomputable def f_Fg_setHidden (x1 : Int32) (x2 : Int32) (I : xm_I) : Option (xm_I) := f_Fg_setHidden_b0 x1 x2 I
set_option maxHeartbeats 4000000 in
set_option maxRecDepth 100000 in
theorem t_Fg_setHidden_b0 {x1 : Int32} {x2 : Int32} {n : Nat} {I : xm_I} {L : xm_L} {K : xm_I → Prop} {Q : Option Value → xm_H → Prop} (hn : 86 ≤ n) (hq : ∀ p : xm_I, K p → Q none (p, L, RC n, n)) (hF : ok (f_Fg_setHidden_b0 x1 x2 I) K) : xm_J 0 mt_Fg_setHidden 0 [(0, .ref 6), (1, .int x1), (2, .int x2)] [] (I, L, RC n, n) 0 0 Q := by
  unfold f_Fg_setHidden_b0 at hF
  refine r_iload_n (i := 0) (k0 := 1) rfl rfl rfl ?_
  refine r_iflt (i := 1) (tgt := 17) rfl (by decide) (fun hc => ?_) (fun hc => ?_)
  · have hF := ok_it hc hF
    have hQ := hq _ (ok_some hF)
    exact r_return (i := 10) rfl rfl hQ
  have hF := ok_if hc hF
  refine r_iload_n (i := 2) (k0 := 1) rfl rfl rfl ?_
  refine r_bipush (v := 9) (i := 3) rfl kb_9 ?_
  refine r_icmpgt (i := 4) (tgt := 17) rfl (by decide) (fun hc => ?_) (fun hc => ?_)
  · have hF := ok_it hc hF
    have hQ := hq _ (ok_some hF)
    exact r_return (i := 10) rfl rfl hQ
  have hF := ok_if hc hF
  refine r_aload_n (i := 5) (k0 := 0) rfl rfl rfl ?_
  refine q_getr (b := 12) (i := 6) rfl fl_Fg_27 rfl (xm_in rfl hn) rfl rfl ?_
  refine r_iload_n (i := 7) (k0 := 1) rfl rfl rfl ?_
  refine r_iload_n (i := 8) (k0 := 2) rfl rfl rfl ?_
  obtain ⟨hi, hF⟩ := ok_gd hF
  refine q_bastore (i := 9) rfl (xm_in rfl hn) rfl hi ?_
  have hQ := hq _ (ok_some hF)
  exact r_return (i := 10) rfl rfl hQ
set_option maxHeartbeats 4000000 in
set_option maxRecDepth 100000 in
theorem t_Fg_setHidden {x1 : Int32} {x2 : Int32} {n : Nat} {I : xm_I} {L : xm_L} {K : xm_I → Prop} (hn : 86 ≤ n) (hF : ok (f_Fg_setHidden x1 x2 I) K) : xm_C 0 mt_Fg_setHidden [.ref 6, .int x1, .int x2] (I, L, RC n, n) 0 0 (pV (fun p : xm_I => (p, L, RC n, n)) K) := by
  unfold f_Fg_setHidden at hF
  refine xm_enter (by decide +kernel) dv_Fg_setHidden (Nat.le_of_ble_eq_true rfl) ?_
  exact t_Fg_setHidden_b0 hn (fun p hp => ⟨p, rfl, rfl, hp⟩) hF

noncomputable def f_D_hide_b29 (x1 : Int32) (x2 : Int32) (y0 : Int32) (I : xm_I) : Option (Int32 × xm_I) :=
  (f_Fg_setHidden x1 x2 I).bind fun p_1 =>
  some (y0, p_1)
noncomputable def f_D_hide_b0 (x1 : Int32) (x2 : Int32) (I : xm_I) : Option (Int32 × xm_I) :=
  (f_D_isWithin x1 0 9).bind fun p_1 =>
  if p_1 = 0 then (
    some ((-100002), I))
  else (
    (f_Fg_isHidden x1 I).bind fun p_2 =>
    if p_2 = 0 then (
      f_D_hide_b29 x1 x2 0 I)
    else (
    f_D_hide_b29 x1 x2 1 I))
noncomputable def f_D_hide (x1 : Int32) (x2 : Int32) (I : xm_I) : Option (Int32 × xm_I) := f_D_hide_b0 x1 x2 I
set_option maxHeartbeats 4000000 in
set_option maxRecDepth 100000 in
theorem t_D_hide_b29 {x1 : Int32} {x2 : Int32} {y0 : Int32} {n : Nat} {I : xm_I} {L : xm_L} {K : Int32 × xm_I → Prop} {Q : Option Value → xm_H → Prop} (hn : 86 ≤ n) (hq : ∀ p : Int32 × xm_I, K p → Q (some (.int p.1)) (p.2, L, RC n, n)) (hF : ok (f_D_hide_b29 x1 x2 y0 I) K) : xm_J 1 mt_D_hide 29 [(0, .ref 0), (1, .int x1), (2, .int x2)] [.int y0] (I, L, RC n, n) 0 0 Q := by
  unfold f_D_hide_b29 at hF
  refine r_istore_n (i := 15) (Ls' := [(3, _), (0, _), (1, _), (2, _)]) rfl rfl (Nat.le_of_ble_eq_true rfl) rfl ?_
  refine r_aload_n (i := 16) (k0 := 1) rfl rfl rfl ?_
  refine q_getr (b := 6) (i := 17) rfl fl_D_21 rfl (xm_in rfl hn) rfl rfl ?_
  refine r_iload_n (i := 18) (k0 := 2) rfl rfl rfl ?_
  refine r_iload_n (i := 19) (k0 := 3) rfl rfl rfl ?_
  refine c_V2V (i := 20) rfl vm_Fg_setHidden lk_D_144 (t_Fg_setHidden hn (ok_bind hF)) (Nat.le_of_ble_eq_true rfl) (xm_in rfl hn) rfl rfl (Nat.le_of_ble_eq_true rfl) (fun p_1 hF => ?_)
  refine r_iload_n (i := 21) (k0 := 0) rfl rfl rfl ?_
  have hQ := hq _ (ok_some hF)
  exact r_ireturn (i := 22) rfl rfl rfl hQ
set_option maxHeartbeats 4000000 in
set_option maxRecDepth 100000 in
theorem t_D_hide_b0 {x1 : Int32} {x2 : Int32} {n : Nat} {I : xm_I} {L : xm_L} {K : Int32 × xm_I → Prop} {Q : Option Value → xm_H → Prop} (hn : 86 ≤ n) (hq : ∀ p : Int32 × xm_I, K p → Q (some (.int p.1)) (p.2, L, RC n, n)) (hF : ok (f_D_hide_b0 x1 x2 I) K) : xm_J 1 mt_D_hide 0 [(0, .ref 0), (1, .int x1), (2, .int x2)] [] (I, L, RC n, n) 0 0 Q := by
  unfold f_D_hide_b0 at hF
  refine r_iload_n (i := 0) (k0 := 1) rfl rfl rfl ?_
  refine r_iconst (v := 0) (i := 1) rfl ki_0 ?_
  refine r_bipush (v := 9) (i := 2) rfl kb_9 ?_
  refine c_S3I (i := 3) rfl sm_D_isWithin lk_D_82 (t_D_isWithin hn (ok_bind hF)) (Nat.le_of_ble_eq_true rfl) rfl (Nat.le_of_ble_eq_true rfl) (fun p_1 hF => ?_)
  refine r_ifne (i := 4) (tgt := 13) rfl (by decide) (fun hc => ?_) (fun hc => ?_)
  · have hF := ok_if hc hF
    refine r_aload_n (i := 7) (k0 := 0) rfl rfl rfl ?_
    refine q_getr (b := 6) (i := 8) rfl fl_D_21 rfl (xm_in rfl hn) rfl rfl ?_
    refine r_iload_n (i := 9) (k0 := 1) rfl rfl rfl ?_
    refine c_V1I (i := 10) rfl vm_Fg_isHidden lk_D_141 (t_Fg_isHidden hn (ok_bind hF)) (Nat.le_of_ble_eq_true rfl) (xm_in rfl hn) rfl rfl (Nat.le_of_ble_eq_true rfl) (fun p_2 hF => ?_)
    refine r_ifeq (i := 11) (tgt := 28) rfl (by decide) (fun hc => ?_) (fun hc => ?_)
    · have hF := ok_it hc hF
      refine r_iconst (v := 0) (i := 14) rfl ki_0 ?_
      exact t_D_hide_b29 hn (fun p h => hq p h) hF
    have hF := ok_if hc hF
    refine r_iconst (v := 1) (i := 12) rfl ki_1 ?_
    refine r_goto (i := 13) (tgt := 29) rfl (by decide) ?_
    exact t_D_hide_b29 hn (fun p h => hq p h) hF
  have hF := ok_it hc hF
  refine r_ldc (i := 5) rfl ct_D_86 ?_
  have hQ := hq _ (ok_some hF)
  exact r_ireturn (i := 6) rfl rfl rfl hQ
set_option maxHeartbeats 4000000 in
set_option maxRecDepth 100000 in
theorem t_D_hide {x1 : Int32} {x2 : Int32} {n : Nat} {I : xm_I} {L : xm_L} {K : Int32 × xm_I → Prop} (hn : 86 ≤ n) (hF : ok (f_D_hide x1 x2 I) K) : xm_C 1 mt_D_hide [.ref 0, .int x1, .int x2] (I, L, RC n, n) 0 0 (pI (fun p : Int32 × xm_I => p.1) (fun p : Int32 × xm_I => (p.2, L, RC n, n)) K) := by
  unfold f_D_hide at hF
  refine xm_enter (by decide +kernel) dv_D_hide (Nat.le_of_ble_eq_true rfl) ?_
  exact t_D_hide_b0 hn (fun p hp => ⟨p, rfl, rfl, hp⟩) hF

noncomputable def f_Fg_cornersOf_b0 (x1 : Int32) (I : xm_I) : Option (Int32) :=
  (f_Fg_has x1 I).bind fun p_1 =>
  if p_1 = 0 then (
    some (0))
  else (
  gd (0 ≤ (x1).toInt ∧ (x1).toInt < 40) <|
  some (I 10 (Int32.toNatClampNeg x1)))
noncomputable def f_Fg_cornersOf (x1 : Int32) (I : xm_I) : Option (Int32) := f_Fg_cornersOf_b0 x1 I
set_option maxHeartbeats 4000000 in
set_option maxRecDepth 100000 in
theorem t_Fg_cornersOf_b0 {x1 : Int32} {n : Nat} {I : xm_I} {L : xm_L} {K : Int32 → Prop} {Q : Option Value → xm_H → Prop} (hn : 86 ≤ n) (hq : ∀ p : Int32, K p → Q (some (.int p)) (I, L, RC n, n)) (hF : ok (f_Fg_cornersOf_b0 x1 I) K) : xm_J 1 mt_Fg_cornersOf 0 [(0, .ref 6), (1, .int x1)] [] (I, L, RC n, n) 0 0 Q := by
  unfold f_Fg_cornersOf_b0 at hF
  refine r_aload_n (i := 0) (k0 := 0) rfl rfl rfl ?_
  refine r_iload_n (i := 1) (k0 := 1) rfl rfl rfl ?_
  refine c_V1I (i := 2) rfl vm_Fg_has lk_Fg_59 (t_Fg_has hn (ok_bind hF)) (Nat.le_of_ble_eq_true rfl) (xm_in rfl hn) rfl rfl (Nat.le_of_ble_eq_true rfl) (fun p_1 hF => ?_)
  refine r_ifeq (i := 3) (tgt := 17) rfl (by decide) (fun hc => ?_) (fun hc => ?_)
  · have hF := ok_it hc hF
    refine r_iconst (v := 0) (i := 9) rfl ki_0 ?_
    have hQ := hq _ (ok_some hF)
    exact r_ireturn (i := 10) rfl rfl rfl hQ
  have hF := ok_if hc hF
  refine r_aload_n (i := 4) (k0 := 0) rfl rfl rfl ?_
  refine q_getr (b := 10) (i := 5) rfl fl_Fg_21 rfl (xm_in rfl hn) rfl rfl ?_
  refine r_iload_n (i := 6) (k0 := 1) rfl rfl rfl ?_
  obtain ⟨hi, hF⟩ := ok_gd hF
  refine q_iaload (i := 7) rfl (xm_in rfl hn) rfl hi ?_
  refine r_goto (i := 8) (tgt := 18) rfl (by decide) ?_
  have hQ := hq _ (ok_some hF)
  exact r_ireturn (i := 10) rfl rfl rfl hQ
set_option maxHeartbeats 4000000 in
set_option maxRecDepth 100000 in
theorem t_Fg_cornersOf {x1 : Int32} {n : Nat} {I : xm_I} {L : xm_L} {K : Int32 → Prop} (hn : 86 ≤ n) (hF : ok (f_Fg_cornersOf x1 I) K) : xm_C 1 mt_Fg_cornersOf [.ref 6, .int x1] (I, L, RC n, n) 0 0 (pI (fun p : Int32 => p) (fun p : Int32 => (I, L, RC n, n)) K) := by
  unfold f_Fg_cornersOf at hF
  refine xm_enter (by decide +kernel) dv_Fg_cornersOf (Nat.le_of_ble_eq_true rfl) ?_
  exact t_Fg_cornersOf_b0 hn (fun p hp => ⟨p, rfl, rfl, hp⟩) hF

noncomputable def f_Fg_xOf_b0 (x1 : Int32) (x2 : Int32) (I : xm_I) : Option (Int32) :=
  if x2 < 0 then (
    some (0))
  else (
  (f_Fg_cornersOf x1 I).bind fun p_1 =>
  if p_1 ≤ x2 then (
    some (0))
  else (
  gd (0 ≤ ((x1 * 12) + x2).toInt ∧ ((x1 * 12) + x2).toInt < 480) <|
  (f_Pt_xNow (I 11 (Int32.toNatClampNeg ((x1 * 12) + x2))) I).bind fun p_2 =>
  some (p_2)))
noncomputable def f_Fg_xOf (x1 : Int32) (x2 : Int32) (I : xm_I) : Option (Int32) := f_Fg_xOf_b0 x1 x2 I
set_option maxHeartbeats 4000000 in
set_option maxRecDepth 100000 in
theorem t_Fg_xOf_b0 {x1 : Int32} {x2 : Int32} {n : Nat} {I : xm_I} {L : xm_L} {K : Int32 → Prop} {Q : Option Value → xm_H → Prop} (hn : 86 ≤ n) (hq : ∀ p : Int32, K p → Q (some (.int p)) (I, L, RC n, n)) (hF : ok (f_Fg_xOf_b0 x1 x2 I) K) : xm_J 2 mt_Fg_xOf 0 [(0, .ref 6), (1, .int x1), (2, .int x2)] [] (I, L, RC n, n) 0 0 Q := by
  unfold f_Fg_xOf_b0 at hF
  refine r_iload_n (i := 0) (k0 := 2) rfl rfl rfl ?_
  refine r_iflt (i := 1) (tgt := 34) rfl (by decide) (fun hc => ?_) (fun hc => ?_)
  · have hF := ok_it hc hF
    refine r_iconst (v := 0) (i := 19) rfl ki_0 ?_
    have hQ := hq _ (ok_some hF)
    exact r_ireturn (i := 20) rfl rfl rfl hQ
  have hF := ok_if hc hF
  refine r_iload_n (i := 2) (k0 := 2) rfl rfl rfl ?_
  refine r_aload_n (i := 3) (k0 := 0) rfl rfl rfl ?_
  refine r_iload_n (i := 4) (k0 := 1) rfl rfl rfl ?_
  refine c_V1I (i := 5) rfl vm_Fg_cornersOf lk_Fg_63 (t_Fg_cornersOf hn (ok_bind hF)) (Nat.le_of_ble_eq_true rfl) (xm_in rfl hn) rfl rfl (Nat.le_of_ble_eq_true rfl) (fun p_1 hF => ?_)
  refine r_icmpge (i := 6) (tgt := 34) rfl (by decide) (fun hc => ?_) (fun hc => ?_)
  · have hF := ok_it hc hF
    refine r_iconst (v := 0) (i := 19) rfl ki_0 ?_
    have hQ := hq _ (ok_some hF)
    exact r_ireturn (i := 20) rfl rfl rfl hQ
  have hF := ok_if hc hF
  refine r_aload_n (i := 7) (k0 := 0) rfl rfl rfl ?_
  refine q_getr (b := 1) (i := 8) rfl fl_Fg_34 rfl (xm_in rfl hn) rfl rfl ?_
  refine r_aload_n (i := 9) (k0 := 0) rfl rfl rfl ?_
  refine q_getr (b := 11) (i := 10) rfl fl_Fg_24 rfl (xm_in rfl hn) rfl rfl ?_
  refine r_iload_n (i := 11) (k0 := 1) rfl rfl rfl ?_
  refine r_bipush (v := 12) (i := 12) rfl kb_12 ?_
  refine r_imul (i := 13) rfl ?_
  refine r_iload_n (i := 14) (k0 := 2) rfl rfl rfl ?_
  refine r_iadd (i := 15) rfl ?_
  obtain ⟨hi, hF⟩ := ok_gd hF
  refine q_iaload (i := 16) rfl (xm_in rfl hn) rfl hi ?_
  refine c_V1I (i := 17) rfl vm_Pt_xNow lk_Fg_67 (t_Pt_xNow hn (ok_bind hF)) (Nat.le_of_ble_eq_true rfl) (xm_in rfl hn) rfl rfl (Nat.le_of_ble_eq_true rfl) (fun p_2 hF => ?_)
  refine r_goto (i := 18) (tgt := 35) rfl (by decide) ?_
  have hQ := hq _ (ok_some hF)
  exact r_ireturn (i := 20) rfl rfl rfl hQ
set_option maxHeartbeats 4000000 in
set_option maxRecDepth 100000 in
theorem t_Fg_xOf {x1 : Int32} {x2 : Int32} {n : Nat} {I : xm_I} {L : xm_L} {K : Int32 → Prop} (hn : 86 ≤ n) (hF : ok (f_Fg_xOf x1 x2 I) K) : xm_C 2 mt_Fg_xOf [.ref 6, .int x1, .int x2] (I, L, RC n, n) 0 0 (pI (fun p : Int32 => p) (fun p : Int32 => (I, L, RC n, n)) K) := by
  unfold f_Fg_xOf at hF
  refine xm_enter (by decide +kernel) dv_Fg_xOf (Nat.le_of_ble_eq_true rfl) ?_
  exact t_Fg_xOf_b0 hn (fun p hp => ⟨p, rfl, rfl, hp⟩) hF

noncomputable def f_Fg_yOf_b0 (x1 : Int32) (x2 : Int32) (I : xm_I) : Option (Int32) :=
  if x2 < 0 then (
    some (0))
  else (
  (f_Fg_cornersOf x1 I).bind fun p_1 =>
  if p_1 ≤ x2 then (
    some (0))
  else (
  gd (0 ≤ ((x1 * 12) + x2).toInt ∧ ((x1 * 12) + x2).toInt < 480) <|
  (f_Pt_yNow (I 11 (Int32.toNatClampNeg ((x1 * 12) + x2))) I).bind fun p_2 =>
  some (p_2)))
noncomputable def f_Fg_yOf (x1 : Int32) (x2 : Int32) (I : xm_I) : Option (Int32) := f_Fg_yOf_b0 x1 x2 I
set_option maxHeartbeats 4000000 in
set_option maxRecDepth 100000 in
theorem t_Fg_yOf_b0 {x1 : Int32} {x2 : Int32} {n : Nat} {I : xm_I} {L : xm_L} {K : Int32 → Prop} {Q : Option Value → xm_H → Prop} (hn : 86 ≤ n) (hq : ∀ p : Int32, K p → Q (some (.int p)) (I, L, RC n, n)) (hF : ok (f_Fg_yOf_b0 x1 x2 I) K) : xm_J 2 mt_Fg_yOf 0 [(0, .ref 6), (1, .int x1), (2, .int x2)] [] (I, L, RC n, n) 0 0 Q := by
  unfold f_Fg_yOf_b0 at hF
  refine r_iload_n (i := 0) (k0 := 2) rfl rfl rfl ?_
  refine r_iflt (i := 1) (tgt := 34) rfl (by decide) (fun hc => ?_) (fun hc => ?_)
  · have hF := ok_it hc hF
    refine r_iconst (v := 0) (i := 19) rfl ki_0 ?_
    have hQ := hq _ (ok_some hF)
    exact r_ireturn (i := 20) rfl rfl rfl hQ
  have hF := ok_if hc hF
  refine r_iload_n (i := 2) (k0 := 2) rfl rfl rfl ?_
  refine r_aload_n (i := 3) (k0 := 0) rfl rfl rfl ?_
  refine r_iload_n (i := 4) (k0 := 1) rfl rfl rfl ?_
  refine c_V1I (i := 5) rfl vm_Fg_cornersOf lk_Fg_63 (t_Fg_cornersOf hn (ok_bind hF)) (Nat.le_of_ble_eq_true rfl) (xm_in rfl hn) rfl rfl (Nat.le_of_ble_eq_true rfl) (fun p_1 hF => ?_)
  refine r_icmpge (i := 6) (tgt := 34) rfl (by decide) (fun hc => ?_) (fun hc => ?_)
  · have hF := ok_it hc hF
    refine r_iconst (v := 0) (i := 19) rfl ki_0 ?_
    have hQ := hq _ (ok_some hF)
    exact r_ireturn (i := 20) rfl rfl rfl hQ
  have hF := ok_if hc hF
  refine r_aload_n (i := 7) (k0 := 0) rfl rfl rfl ?_
  refine q_getr (b := 1) (i := 8) rfl fl_Fg_34 rfl (xm_in rfl hn) rfl rfl ?_
  refine r_aload_n (i := 9) (k0 := 0) rfl rfl rfl ?_
  refine q_getr (b := 11) (i := 10) rfl fl_Fg_24 rfl (xm_in rfl hn) rfl rfl ?_
  refine r_iload_n (i := 11) (k0 := 1) rfl rfl rfl ?_
  refine r_bipush (v := 12) (i := 12) rfl kb_12 ?_
  refine r_imul (i := 13) rfl ?_
  refine r_iload_n (i := 14) (k0 := 2) rfl rfl rfl ?_
  refine r_iadd (i := 15) rfl ?_
  obtain ⟨hi, hF⟩ := ok_gd hF
  refine q_iaload (i := 16) rfl (xm_in rfl hn) rfl hi ?_
  refine c_V1I (i := 17) rfl vm_Pt_yNow lk_Fg_72 (t_Pt_yNow hn (ok_bind hF)) (Nat.le_of_ble_eq_true rfl) (xm_in rfl hn) rfl rfl (Nat.le_of_ble_eq_true rfl) (fun p_2 hF => ?_)
  refine r_goto (i := 18) (tgt := 35) rfl (by decide) ?_
  have hQ := hq _ (ok_some hF)
  exact r_ireturn (i := 20) rfl rfl rfl hQ
set_option maxHeartbeats 4000000 in
set_option maxRecDepth 100000 in
theorem t_Fg_yOf {x1 : Int32} {x2 : Int32} {n : Nat} {I : xm_I} {L : xm_L} {K : Int32 → Prop} (hn : 86 ≤ n) (hF : ok (f_Fg_yOf x1 x2 I) K) : xm_C 2 mt_Fg_yOf [.ref 6, .int x1, .int x2] (I, L, RC n, n) 0 0 (pI (fun p : Int32 => p) (fun p : Int32 => (I, L, RC n, n)) K) := by
  unfold f_Fg_yOf at hF
  refine xm_enter (by decide +kernel) dv_Fg_yOf (Nat.le_of_ble_eq_true rfl) ?_
  exact t_Fg_yOf_b0 hn (fun p hp => ⟨p, rfl, rfl, hp⟩) hF

noncomputable def f_Fg_isAtOnePlace_b0 (x1 : Int32) (x2 : Int32) (x3 : Int32) (I : xm_I) : Option (Int32) :=
  (f_Fg_xOf x1 x2 I).bind fun p_1 =>
  (f_Fg_xOf x1 x3 I).bind fun p_2 =>
  if p_1 = p_2 then (
    (f_Fg_yOf x1 x2 I).bind fun p_3 =>
    (f_Fg_yOf x1 x3 I).bind fun p_4 =>
    if p_3 = p_4 then (
      some (1))
    else (
      some (0)))
  else (
    some (0))
noncomputable def f_Fg_isAtOnePlace (x1 : Int32) (x2 : Int32) (x3 : Int32) (I : xm_I) : Option (Int32) := f_Fg_isAtOnePlace_b0 x1 x2 x3 I
set_option maxHeartbeats 4000000 in
set_option maxRecDepth 100000 in
theorem t_Fg_isAtOnePlace_b0 {x1 : Int32} {x2 : Int32} {x3 : Int32} {n : Nat} {I : xm_I} {L : xm_L} {K : Int32 → Prop} {Q : Option Value → xm_H → Prop} (hn : 86 ≤ n) (hq : ∀ p : Int32, K p → Q (some (.int p)) (I, L, RC n, n)) (hF : ok (f_Fg_isAtOnePlace_b0 x1 x2 x3 I) K) : xm_J 3 mt_Fg_isAtOnePlace 0 [(0, .ref 6), (1, .int x1), (2, .int x2), (3, .int x3)] [] (I, L, RC n, n) 0 0 Q := by
  unfold f_Fg_isAtOnePlace_b0 at hF
  refine r_aload_n (i := 0) (k0 := 0) rfl rfl rfl ?_
  refine r_iload_n (i := 1) (k0 := 1) rfl rfl rfl ?_
  refine r_iload_n (i := 2) (k0 := 2) rfl rfl rfl ?_
  refine c_V2I (i := 3) rfl vm_Fg_xOf lk_Fg_92 (t_Fg_xOf hn (ok_bind hF)) (Nat.le_of_ble_eq_true rfl) (xm_in rfl hn) rfl rfl (Nat.le_of_ble_eq_true rfl) (fun p_1 hF => ?_)
  refine r_aload_n (i := 4) (k0 := 0) rfl rfl rfl ?_
  refine r_iload_n (i := 5) (k0 := 1) rfl rfl rfl ?_
  refine r_iload_n (i := 6) (k0 := 3) rfl rfl rfl ?_
  refine c_V2I (i := 7) rfl vm_Fg_xOf lk_Fg_92 (t_Fg_xOf hn (ok_bind hF)) (Nat.le_of_ble_eq_true rfl) (xm_in rfl hn) rfl rfl (Nat.le_of_ble_eq_true rfl) (fun p_2 hF => ?_)
  refine r_icmpne (i := 8) (tgt := 34) rfl (by decide) (fun hc => ?_) (fun hc => ?_)
  · have hF := ok_if hc hF
    refine r_iconst (v := 0) (i := 20) rfl ki_0 ?_
    have hQ := hq _ (ok_some hF)
    exact r_ireturn (i := 21) rfl rfl rfl hQ
  have hF := ok_it hc hF
  refine r_aload_n (i := 9) (k0 := 0) rfl rfl rfl ?_
  refine r_iload_n (i := 10) (k0 := 1) rfl rfl rfl ?_
  refine r_iload_n (i := 11) (k0 := 2) rfl rfl rfl ?_
  refine c_V2I (i := 12) rfl vm_Fg_yOf lk_Fg_96 (t_Fg_yOf hn (ok_bind hF)) (Nat.le_of_ble_eq_true rfl) (xm_in rfl hn) rfl rfl (Nat.le_of_ble_eq_true rfl) (fun p_3 hF => ?_)
  refine r_aload_n (i := 13) (k0 := 0) rfl rfl rfl ?_
  refine r_iload_n (i := 14) (k0 := 1) rfl rfl rfl ?_
  refine r_iload_n (i := 15) (k0 := 3) rfl rfl rfl ?_
  refine c_V2I (i := 16) rfl vm_Fg_yOf lk_Fg_96 (t_Fg_yOf hn (ok_bind hF)) (Nat.le_of_ble_eq_true rfl) (xm_in rfl hn) rfl rfl (Nat.le_of_ble_eq_true rfl) (fun p_4 hF => ?_)
  refine r_icmpne (i := 17) (tgt := 34) rfl (by decide) (fun hc => ?_) (fun hc => ?_)
  · have hF := ok_if hc hF
    refine r_iconst (v := 0) (i := 20) rfl ki_0 ?_
    have hQ := hq _ (ok_some hF)
    exact r_ireturn (i := 21) rfl rfl rfl hQ
  have hF := ok_it hc hF
  refine r_iconst (v := 1) (i := 18) rfl ki_1 ?_
  refine r_goto (i := 19) (tgt := 35) rfl (by decide) ?_
  have hQ := hq _ (ok_some hF)
  exact r_ireturn (i := 21) rfl rfl rfl hQ
set_option maxHeartbeats 4000000 in
set_option maxRecDepth 100000 in
theorem t_Fg_isAtOnePlace {x1 : Int32} {x2 : Int32} {x3 : Int32} {n : Nat} {I : xm_I} {L : xm_L} {K : Int32 → Prop} (hn : 86 ≤ n) (hF : ok (f_Fg_isAtOnePlace x1 x2 x3 I) K) : xm_C 3 mt_Fg_isAtOnePlace [.ref 6, .int x1, .int x2, .int x3] (I, L, RC n, n) 0 0 (pI (fun p : Int32 => p) (fun p : Int32 => (I, L, RC n, n)) K) := by
  unfold f_Fg_isAtOnePlace at hF
  refine xm_enter (by decide +kernel) dv_Fg_isAtOnePlace (Nat.le_of_ble_eq_true rfl) ?_
  exact t_Fg_isAtOnePlace_b0 hn (fun p hp => ⟨p, rfl, rfl, hp⟩) hF

noncomputable def f_Fg_kindOf_b0 (x1 : Int32) (I : xm_I) : Option (Int32) :=
  (f_Fg_has x1 I).bind fun p_1 =>
  if p_1 = 0 then (
    some ((-1)))
  else (
  gd (0 ≤ (x1).toInt ∧ (x1).toInt < 40) <|
  some (I 7 (Int32.toNatClampNeg x1)))
noncomputable def f_Fg_kindOf (x1 : Int32) (I : xm_I) : Option (Int32) := f_Fg_kindOf_b0 x1 I
set_option maxHeartbeats 4000000 in
set_option maxRecDepth 100000 in
theorem t_Fg_kindOf_b0 {x1 : Int32} {n : Nat} {I : xm_I} {L : xm_L} {K : Int32 → Prop} {Q : Option Value → xm_H → Prop} (hn : 86 ≤ n) (hq : ∀ p : Int32, K p → Q (some (.int p)) (I, L, RC n, n)) (hF : ok (f_Fg_kindOf_b0 x1 I) K) : xm_J 1 mt_Fg_kindOf 0 [(0, .ref 6), (1, .int x1)] [] (I, L, RC n, n) 0 0 Q := by
  unfold f_Fg_kindOf_b0 at hF
  refine r_aload_n (i := 0) (k0 := 0) rfl rfl rfl ?_
  refine r_iload_n (i := 1) (k0 := 1) rfl rfl rfl ?_
  refine c_V1I (i := 2) rfl vm_Fg_has lk_Fg_59 (t_Fg_has hn (ok_bind hF)) (Nat.le_of_ble_eq_true rfl) (xm_in rfl hn) rfl rfl (Nat.le_of_ble_eq_true rfl) (fun p_1 hF => ?_)
  refine r_ifeq (i := 3) (tgt := 17) rfl (by decide) (fun hc => ?_) (fun hc => ?_)
  · have hF := ok_it hc hF
    refine r_iconst (v := (-1)) (i := 9) rfl ki_m1 ?_
    have hQ := hq _ (ok_some hF)
    exact r_ireturn (i := 10) rfl rfl rfl hQ
  have hF := ok_if hc hF
  refine r_aload_n (i := 4) (k0 := 0) rfl rfl rfl ?_
  refine q_getr (b := 7) (i := 5) rfl fl_Fg_11 rfl (xm_in rfl hn) rfl rfl ?_
  refine r_iload_n (i := 6) (k0 := 1) rfl rfl rfl ?_
  obtain ⟨hi, hF⟩ := ok_gd hF
  refine q_iaload (i := 7) rfl (xm_in rfl hn) rfl hi ?_
  refine r_goto (i := 8) (tgt := 18) rfl (by decide) ?_
  have hQ := hq _ (ok_some hF)
  exact r_ireturn (i := 10) rfl rfl rfl hQ
set_option maxHeartbeats 4000000 in
set_option maxRecDepth 100000 in
theorem t_Fg_kindOf {x1 : Int32} {n : Nat} {I : xm_I} {L : xm_L} {K : Int32 → Prop} (hn : 86 ≤ n) (hF : ok (f_Fg_kindOf x1 I) K) : xm_C 1 mt_Fg_kindOf [.ref 6, .int x1] (I, L, RC n, n) 0 0 (pI (fun p : Int32 => p) (fun p : Int32 => (I, L, RC n, n)) K) := by
  unfold f_Fg_kindOf at hF
  refine xm_enter (by decide +kernel) dv_Fg_kindOf (Nat.le_of_ble_eq_true rfl) ?_
  exact t_Fg_kindOf_b0 hn (fun p hp => ⟨p, rfl, rfl, hp⟩) hF

noncomputable def f_Fg_turnOf_b33 (x1 : Int32) (x2 : Int32) (l3 : Int64) (x5 : Int32) (y0 : Int32) (I : xm_I) : Option ((Int64 × Int32) ⊕ (Int64)) :=
  (f_Fg_xOf x1 x5 I).bind fun p_1 =>
  (f_Fg_yOf x1 y0 I).bind fun p_2 =>
  (f_Fg_xOf x1 y0 I).bind fun p_3 =>
  (f_Fg_yOf x1 x5 I).bind fun p_4 =>
  let l3_5 : Int64 := l3 + (((Int32.toInt64 p_1) * (Int32.toInt64 p_2)) - ((Int32.toInt64 p_3) * (Int32.toInt64 p_4)))
  let x5_6 : Int32 := x5 + 1
  some (.inl (l3_5, x5_6))
noncomputable def f_Fg_turnOf_s11 (x1 : Int32) (x2 : Int32) (I : xm_I) (s : Int64 × Int32) : Option ((Int64 × Int32) ⊕ (Int64)) :=
  if x2 ≤ s.2 then (
    some (.inr (s.1)))
  else (
  if x2 ≤ (s.2 + 1) then (
    f_Fg_turnOf_b33 x1 x2 s.1 s.2 0 I)
  else (
  f_Fg_turnOf_b33 x1 x2 s.1 s.2 (s.2 + 1) I))
noncomputable def f_Fg_turnOf_b11 (x1 : Int32) (x2 : Int32) (I : xm_I) (s : Int64 × Int32) : Option (Int64) := lp (f_Fg_turnOf_s11 x1 x2 I) s
noncomputable def f_Fg_turnOf_b0 (x1 : Int32) (I : xm_I) : Option (Int64) :=
  (f_Fg_cornersOf x1 I).bind fun p_1 =>
  f_Fg_turnOf_b11 x1 p_1 I (0, 0)
noncomputable def f_Fg_turnOf (x1 : Int32) (I : xm_I) : Option (Int64) := f_Fg_turnOf_b0 x1 I
set_option maxHeartbeats 4000000 in
set_option maxRecDepth 100000 in
theorem t_Fg_turnOf_b33 {x1 : Int32} {x2 : Int32} {l3 : Int64} {x5 : Int32} {y0 : Int32} {n : Nat} {I : xm_I} {L : xm_L} {K : (Int64 × Int32) ⊕ (Int64) → Prop} {Q : Option Value → xm_H → Prop} (hn : 86 ≤ n) (hq : ∀ p : Int64, K (.inr p) → Q (some (.long p)) (I, L, RC n, n)) (hg0 : ∀ s : Int64 × Int32, K (.inl s) → xm_J 3 mt_Fg_turnOf 11 [(0, .ref 6), (1, .int x1), (2, .int x2), (3, .long s.1), (5, .int s.2)] [] (I, L, RC n, n) 0 0 Q) (hF : ok (f_Fg_turnOf_b33 x1 x2 l3 x5 y0 I) K) : xm_J 3 mt_Fg_turnOf 33 [(0, .ref 6), (1, .int x1), (2, .int x2), (3, .long l3), (5, .int x5)] [.int y0] (I, L, RC n, n) 0 0 Q := by
  unfold f_Fg_turnOf_b33 at hF
  refine r_istore (i := 21) (Ls' := [(6, _), (0, _), (1, _), (2, _), (3, _), (5, _)]) rfl (Nat.le_of_ble_eq_true rfl) rfl ?_
  refine r_lload_n (i := 22) (k0 := 4) rfl rfl rfl ?_
  refine r_aload_n (i := 23) (k0 := 1) rfl rfl rfl ?_
  refine r_iload_n (i := 24) (k0 := 2) rfl rfl rfl ?_
  refine r_iload (i := 25) (k0 := 5) rfl rfl ?_
  refine c_V2I (i := 26) rfl vm_Fg_xOf lk_Fg_92 (t_Fg_xOf hn (ok_bind hF)) (Nat.le_of_ble_eq_true rfl) (xm_in rfl hn) rfl rfl (Nat.le_of_ble_eq_true rfl) (fun p_1 hF => ?_)
  refine r_i2l (i := 27) rfl ?_
  refine r_aload_n (i := 28) (k0 := 1) rfl rfl rfl ?_
  refine r_iload_n (i := 29) (k0 := 2) rfl rfl rfl ?_
  refine r_iload (i := 30) (k0 := 0) rfl rfl ?_
  refine c_V2I (i := 31) rfl vm_Fg_yOf lk_Fg_96 (t_Fg_yOf hn (ok_bind hF)) (Nat.le_of_ble_eq_true rfl) (xm_in rfl hn) rfl rfl (Nat.le_of_ble_eq_true rfl) (fun p_2 hF => ?_)
  refine r_i2l (i := 32) rfl ?_
  refine r_lmul (i := 33) rfl ?_
  refine r_aload_n (i := 34) (k0 := 1) rfl rfl rfl ?_
  refine r_iload_n (i := 35) (k0 := 2) rfl rfl rfl ?_
  refine r_iload (i := 36) (k0 := 0) rfl rfl ?_
  refine c_V2I (i := 37) rfl vm_Fg_xOf lk_Fg_92 (t_Fg_xOf hn (ok_bind hF)) (Nat.le_of_ble_eq_true rfl) (xm_in rfl hn) rfl rfl (Nat.le_of_ble_eq_true rfl) (fun p_3 hF => ?_)
  refine r_i2l (i := 38) rfl ?_
  refine r_aload_n (i := 39) (k0 := 1) rfl rfl rfl ?_
  refine r_iload_n (i := 40) (k0 := 2) rfl rfl rfl ?_
  refine r_iload (i := 41) (k0 := 5) rfl rfl ?_
  refine c_V2I (i := 42) rfl vm_Fg_yOf lk_Fg_96 (t_Fg_yOf hn (ok_bind hF)) (Nat.le_of_ble_eq_true rfl) (xm_in rfl hn) rfl rfl (Nat.le_of_ble_eq_true rfl) (fun p_4 hF => ?_)
  refine r_i2l (i := 43) rfl ?_
  refine r_lmul (i := 44) rfl ?_
  refine r_lsub (i := 45) rfl ?_
  refine r_ladd (i := 46) rfl ?_
  refine r_lstore_n (i := 47) (Ls' := [(3, _), (6, _), (0, _), (1, _), (2, _), (5, _)]) rfl rfl (Nat.le_of_ble_eq_true rfl) rfl ?_
  refine q_iinc (i := 48) (k0 := 5) (Ls' := [(5, _), (3, _), (6, _), (0, _), (1, _), (2, _)]) rfl ki_1 rfl (Nat.le_of_ble_eq_true rfl) rfl ?_
  refine r_goto (i := 49) (tgt := 11) rfl (by decide) ?_
  refine xm_sub (Ls' := [(0, _), (1, _), (2, _), (3, _), (5, _)]) [3, 4, 5, 1, 0] rfl ?_
  have hJ := hg0 _ (ok_some hF)
  exact hJ
set_option maxHeartbeats 4000000 in
set_option maxRecDepth 100000 in
theorem t_Fg_turnOf_s11 {x1 : Int32} {x2 : Int32} {s : Int64 × Int32} {n : Nat} {I : xm_I} {L : xm_L} {K : (Int64 × Int32) ⊕ (Int64) → Prop} {Q : Option Value → xm_H → Prop} (hn : 86 ≤ n) (hq : ∀ p : Int64, K (.inr p) → Q (some (.long p)) (I, L, RC n, n)) (hg0 : ∀ s : Int64 × Int32, K (.inl s) → xm_J 3 mt_Fg_turnOf 11 [(0, .ref 6), (1, .int x1), (2, .int x2), (3, .long s.1), (5, .int s.2)] [] (I, L, RC n, n) 0 0 Q) (hF : ok (f_Fg_turnOf_s11 x1 x2 I s) K) : xm_J 3 mt_Fg_turnOf 11 [(0, .ref 6), (1, .int x1), (2, .int x2), (3, .long s.1), (5, .int s.2)] [] (I, L, RC n, n) 0 0 Q := by
  unfold f_Fg_turnOf_s11 at hF
  refine r_iload (i := 8) (k0 := 4) rfl rfl ?_
  refine r_iload_n (i := 9) (k0 := 2) rfl rfl rfl ?_
  refine r_icmpge (i := 10) (tgt := 79) rfl (by decide) (fun hc => ?_) (fun hc => ?_)
  · have hF := ok_it hc hF
    refine r_lload_n (i := 50) (k0 := 3) rfl rfl rfl ?_
    have hQ := hq _ (ok_some hF)
    exact r_lreturn (i := 51) rfl rfl hQ
  have hF := ok_if hc hF
  refine r_iload (i := 11) (k0 := 4) rfl rfl ?_
  refine r_iconst (v := 1) (i := 12) rfl ki_1 ?_
  refine r_iadd (i := 13) rfl ?_
  refine r_iload_n (i := 14) (k0 := 2) rfl rfl rfl ?_
  refine r_icmpge (i := 15) (tgt := 32) rfl (by decide) (fun hc => ?_) (fun hc => ?_)
  · have hF := ok_it hc hF
    refine r_iconst (v := 0) (i := 20) rfl ki_0 ?_
    exact t_Fg_turnOf_b33 hn (fun p h => hq p h) (fun z h => hg0 z h) hF
  have hF := ok_if hc hF
  refine r_iload (i := 16) (k0 := 4) rfl rfl ?_
  refine r_iconst (v := 1) (i := 17) rfl ki_1 ?_
  refine r_iadd (i := 18) rfl ?_
  refine r_goto (i := 19) (tgt := 33) rfl (by decide) ?_
  exact t_Fg_turnOf_b33 hn (fun p h => hq p h) (fun z h => hg0 z h) hF
set_option maxHeartbeats 4000000 in
set_option maxRecDepth 100000 in
theorem t_Fg_turnOf_b11 {x1 : Int32} {x2 : Int32} {s : Int64 × Int32} {n : Nat} {I : xm_I} {L : xm_L} {K : Int64 → Prop} {Q : Option Value → xm_H → Prop} (hn : 86 ≤ n) (hq : ∀ p : Int64, K p → Q (some (.long p)) (I, L, RC n, n)) (hF : ok (f_Fg_turnOf_b11 x1 x2 I s) K) : xm_J 3 mt_Fg_turnOf 11 [(0, .ref 6), (1, .int x1), (2, .int x2), (3, .long s.1), (5, .int s.2)] [] (I, L, RC n, n) 0 0 Q :=
  lp_J (G := fun z => xm_J 3 mt_Fg_turnOf 11 [(0, .ref 6), (1, .int x1), (2, .int x2), (3, .long z.1), (5, .int z.2)] [] (I, L, RC n, n) 0 0 Q) (fun z hF => t_Fg_turnOf_s11 hn (fun p h => hq p h) (fun z h => h) hF) s hF
set_option maxHeartbeats 4000000 in
set_option maxRecDepth 100000 in
theorem t_Fg_turnOf_b0 {x1 : Int32} {n : Nat} {I : xm_I} {L : xm_L} {K : Int64 → Prop} {Q : Option Value → xm_H → Prop} (hn : 86 ≤ n) (hq : ∀ p : Int64, K p → Q (some (.long p)) (I, L, RC n, n)) (hF : ok (f_Fg_turnOf_b0 x1 I) K) : xm_J 3 mt_Fg_turnOf 0 [(0, .ref 6), (1, .int x1)] [] (I, L, RC n, n) 0 0 Q := by
  unfold f_Fg_turnOf_b0 at hF
  refine r_aload_n (i := 0) (k0 := 0) rfl rfl rfl ?_
  refine r_iload_n (i := 1) (k0 := 1) rfl rfl rfl ?_
  refine c_V1I (i := 2) rfl vm_Fg_cornersOf lk_Fg_63 (t_Fg_cornersOf hn (ok_bind hF)) (Nat.le_of_ble_eq_true rfl) (xm_in rfl hn) rfl rfl (Nat.le_of_ble_eq_true rfl) (fun p_1 hF => ?_)
  refine r_istore_n (i := 3) (Ls' := [(2, _), (0, _), (1, _)]) rfl rfl (Nat.le_of_ble_eq_true rfl) rfl ?_
  refine r_lconst (v := 0) (i := 4) rfl rfl ?_
  refine r_lstore_n (i := 5) (Ls' := [(3, _), (2, _), (0, _), (1, _)]) rfl rfl (Nat.le_of_ble_eq_true rfl) rfl ?_
  refine r_iconst (v := 0) (i := 6) rfl ki_0 ?_
  refine r_istore (i := 7) (Ls' := [(5, _), (3, _), (2, _), (0, _), (1, _)]) rfl (Nat.le_of_ble_eq_true rfl) rfl ?_
  refine xm_sub (Ls' := [(0, _), (1, _), (2, _), (3, _), (5, _)]) [3, 4, 2, 1, 0] rfl ?_
  exact t_Fg_turnOf_b11 hn (fun p h => hq p h) hF
set_option maxHeartbeats 4000000 in
set_option maxRecDepth 100000 in
theorem t_Fg_turnOf {x1 : Int32} {n : Nat} {I : xm_I} {L : xm_L} {K : Int64 → Prop} (hn : 86 ≤ n) (hF : ok (f_Fg_turnOf x1 I) K) : xm_C 3 mt_Fg_turnOf [.ref 6, .int x1] (I, L, RC n, n) 0 0 (pL (fun p : Int64 => p) (fun p : Int64 => (I, L, RC n, n)) K) := by
  unfold f_Fg_turnOf at hF
  refine xm_enter (by decide +kernel) dv_Fg_turnOf (Nat.le_of_ble_eq_true rfl) ?_
  exact t_Fg_turnOf_b0 hn (fun p hp => ⟨p, rfl, rfl, hp⟩) hF

noncomputable def f_Fg_hasFallen_b0 (x1 : Int32) (I : xm_I) : Option (Int32) :=
  (f_Fg_kindOf x1 I).bind fun p_1 =>
  if p_1 = 0 then (
    some (0))
  else (
  if p_1 = 5 then (
    (f_Fg_isAtOnePlace x1 0 1 I).bind fun p_2 =>
    if p_2 = 0 then (
      (f_Fg_isAtOnePlace x1 2 1 I).bind fun p_3 =>
      if p_3 = 0 then (
        some (0))
      else (
      some (1)))
    else (
      some (1)))
  else (
  if p_1 = 7 then (
    (f_Fg_turnOf x1 I).bind fun p_4 =>
    if p_4 = 0 then (
      some (1))
    else (
      some (0)))
  else (
  (f_Fg_isAtOnePlace x1 0 1 I).bind fun p_5 =>
  gd (p_5 &&& 1 = p_5) <|
  some (p_5))))
noncomputable def f_Fg_hasFallen (x1 : Int32) (I : xm_I) : Option (Int32) := f_Fg_hasFallen_b0 x1 I
set_option maxHeartbeats 4000000 in
set_option maxRecDepth 100000 in
theorem t_Fg_hasFallen_b0 {x1 : Int32} {n : Nat} {I : xm_I} {L : xm_L} {K : Int32 → Prop} {Q : Option Value → xm_H → Prop} (hn : 86 ≤ n) (hq : ∀ p : Int32, K p → Q (some (.int p)) (I, L, RC n, n)) (hF : ok (f_Fg_hasFallen_b0 x1 I) K) : xm_J 4 mt_Fg_hasFallen 0 [(0, .ref 6), (1, .int x1)] [] (I, L, RC n, n) 0 0 Q := by
  unfold f_Fg_hasFallen_b0 at hF
  refine r_aload_n (i := 0) (k0 := 0) rfl rfl rfl ?_
  refine r_iload_n (i := 1) (k0 := 1) rfl rfl rfl ?_
  refine c_V1I (i := 2) rfl vm_Fg_kindOf lk_Fg_75 (t_Fg_kindOf hn (ok_bind hF)) (Nat.le_of_ble_eq_true rfl) (xm_in rfl hn) rfl rfl (Nat.le_of_ble_eq_true rfl) (fun p_1 hF => ?_)
  refine r_case 0 (fun hc0 => ?_) (fun hc0 => ?_)
  · have hF := ok_it hc0 hF
    refine r_ls (i := 3) (tgt := 40) rfl rfl rfl (by decide) ?_
    refine r_iconst (v := 0) (i := 4) rfl ki_0 ?_
    have hQ := hq _ (ok_some hF)
    exact r_ireturn (i := 5) rfl rfl rfl hQ
  have hF := ok_if hc0 hF
  refine r_case 5 (fun hc1 => ?_) (fun hc1 => ?_)
  · have hF := ok_it hc1 hF
    refine r_ls (i := 3) (tgt := 42) rfl rfl rfl (by decide) ?_
    refine r_aload_n (i := 6) (k0 := 0) rfl rfl rfl ?_
    refine r_iload_n (i := 7) (k0 := 1) rfl rfl rfl ?_
    refine r_iconst (v := 0) (i := 8) rfl ki_0 ?_
    refine r_iconst (v := 1) (i := 9) rfl ki_1 ?_
    refine c_V3I (i := 10) rfl vm_Fg_isAtOnePlace lk_Fg_78 (t_Fg_isAtOnePlace hn (ok_bind hF)) (Nat.le_of_ble_eq_true rfl) (xm_in rfl hn) rfl rfl (Nat.le_of_ble_eq_true rfl) (fun p_2 hF => ?_)
    refine r_ifne (i := 11) (tgt := 62) rfl (by decide) (fun hc => ?_) (fun hc => ?_)
    · have hF := ok_if hc hF
      refine r_iconst (v := 1) (i := 18) rfl ki_1 ?_
      refine r_goto (i := 19) (tgt := 67) rfl (by decide) ?_
      have hQ := hq _ (ok_some hF)
      exact r_ireturn (i := 21) rfl rfl rfl hQ
    have hF := ok_it hc hF
    refine r_aload_n (i := 12) (k0 := 0) rfl rfl rfl ?_
    refine r_iload_n (i := 13) (k0 := 1) rfl rfl rfl ?_
    refine r_iconst (v := 2) (i := 14) rfl ki_2 ?_
    refine r_iconst (v := 1) (i := 15) rfl ki_1 ?_
    refine c_V3I (i := 16) rfl vm_Fg_isAtOnePlace lk_Fg_78 (t_Fg_isAtOnePlace hn (ok_bind hF)) (Nat.le_of_ble_eq_true rfl) (xm_in rfl hn) rfl rfl (Nat.le_of_ble_eq_true rfl) (fun p_3 hF => ?_)
    refine r_ifeq (i := 17) (tgt := 66) rfl (by decide) (fun hc => ?_) (fun hc => ?_)
    · have hF := ok_it hc hF
      refine r_iconst (v := 0) (i := 20) rfl ki_0 ?_
      have hQ := hq _ (ok_some hF)
      exact r_ireturn (i := 21) rfl rfl rfl hQ
    have hF := ok_if hc hF
    refine r_iconst (v := 1) (i := 18) rfl ki_1 ?_
    refine r_goto (i := 19) (tgt := 67) rfl (by decide) ?_
    have hQ := hq _ (ok_some hF)
    exact r_ireturn (i := 21) rfl rfl rfl hQ
  have hF := ok_if hc1 hF
  refine r_case 7 (fun hc2 => ?_) (fun hc2 => ?_)
  · have hF := ok_it hc2 hF
    refine r_ls (i := 3) (tgt := 68) rfl rfl rfl (by decide) ?_
    refine r_aload_n (i := 22) (k0 := 0) rfl rfl rfl ?_
    refine r_iload_n (i := 23) (k0 := 1) rfl rfl rfl ?_
    refine c_V1L (i := 24) rfl vm_Fg_turnOf lk_Fg_82 (t_Fg_turnOf hn (ok_bind hF)) (Nat.le_of_ble_eq_true rfl) (xm_in rfl hn) rfl rfl (Nat.le_of_ble_eq_true rfl) (fun p_4 hF => ?_)
    refine r_lconst (v := 0) (i := 25) rfl rfl ?_
    refine r_lcmpne (i := 26) (j := 27) (tgt := 82) rfl rfl (by decide) (fun hc => ?_) (fun hc => ?_)
    · have hF := ok_if hc hF
      refine r_iconst (v := 0) (i := 30) rfl ki_0 ?_
      have hQ := hq _ (ok_some hF)
      exact r_ireturn (i := 31) rfl rfl rfl hQ
    have hF := ok_it hc hF
    refine r_iconst (v := 1) (i := 28) rfl ki_1 ?_
    refine r_goto (i := 29) (tgt := 83) rfl (by decide) ?_
    have hQ := hq _ (ok_some hF)
    exact r_ireturn (i := 31) rfl rfl rfl hQ
  have hF := ok_if hc2 hF
  refine r_ls (i := 3) (off := 79) (tgt := 84) rfl rfl (by rw [lv_osw hc0 (by decide), lv_osw hc1 (by decide), lv_osw hc2 (by decide)] <;> rfl) (by decide) ?_
  refine r_aload_n (i := 32) (k0 := 0) rfl rfl rfl ?_
  refine r_iload_n (i := 33) (k0 := 1) rfl rfl rfl ?_
  refine r_iconst (v := 0) (i := 34) rfl ki_0 ?_
  refine r_iconst (v := 1) (i := 35) rfl ki_1 ?_
  refine c_V3I (i := 36) rfl vm_Fg_isAtOnePlace lk_Fg_78 (t_Fg_isAtOnePlace hn (ok_bind hF)) (Nat.le_of_ble_eq_true rfl) (xm_in rfl hn) rfl rfl (Nat.le_of_ble_eq_true rfl) (fun p_5 hF => ?_)
  obtain ⟨hi, hF⟩ := ok_gd hF
  have hQ := hq _ (ok_some hF)
  exact r_ireturn (i := 37) rfl rfl (congrArg Value.int hi) hQ
set_option maxHeartbeats 4000000 in
set_option maxRecDepth 100000 in
theorem t_Fg_hasFallen {x1 : Int32} {n : Nat} {I : xm_I} {L : xm_L} {K : Int32 → Prop} (hn : 86 ≤ n) (hF : ok (f_Fg_hasFallen x1 I) K) : xm_C 4 mt_Fg_hasFallen [.ref 6, .int x1] (I, L, RC n, n) 0 0 (pI (fun p : Int32 => p) (fun p : Int32 => (I, L, RC n, n)) K) := by
  unfold f_Fg_hasFallen at hF
  refine xm_enter (by decide +kernel) dv_Fg_hasFallen (Nat.le_of_ble_eq_true rfl) ?_
  exact t_Fg_hasFallen_b0 hn (fun p hp => ⟨p, rfl, rfl, hp⟩) hF

noncomputable def f_D_fallen_b0 (x1 : Int32) (I : xm_I) : Option (Int32) :=
  (f_Fg_has x1 I).bind fun p_1 =>
  if p_1 = 0 then (
    some ((-100001)))
  else (
    (f_Fg_hasFallen x1 I).bind fun p_2 =>
    if p_2 = 0 then (
      some (0))
    else (
    some (1)))
noncomputable def f_D_fallen (x1 : Int32) (I : xm_I) : Option (Int32) := f_D_fallen_b0 x1 I
set_option maxHeartbeats 4000000 in
set_option maxRecDepth 100000 in
theorem t_D_fallen_b0 {x1 : Int32} {n : Nat} {I : xm_I} {L : xm_L} {K : Int32 → Prop} {Q : Option Value → xm_H → Prop} (hn : 86 ≤ n) (hq : ∀ p : Int32, K p → Q (some (.int p)) (I, L, RC n, n)) (hF : ok (f_D_fallen_b0 x1 I) K) : xm_J 5 mt_D_fallen 0 [(0, .ref 0), (1, .int x1)] [] (I, L, RC n, n) 0 0 Q := by
  unfold f_D_fallen_b0 at hF
  refine r_aload_n (i := 0) (k0 := 0) rfl rfl rfl ?_
  refine q_getr (b := 6) (i := 1) rfl fl_D_21 rfl (xm_in rfl hn) rfl rfl ?_
  refine r_iload_n (i := 2) (k0 := 1) rfl rfl rfl ?_
  refine c_V1I (i := 3) rfl vm_Fg_has lk_D_133 (t_Fg_has hn (ok_bind hF)) (Nat.le_of_ble_eq_true rfl) (xm_in rfl hn) rfl rfl (Nat.le_of_ble_eq_true rfl) (fun p_1 hF => ?_)
  refine r_ifne (i := 4) (tgt := 14) rfl (by decide) (fun hc => ?_) (fun hc => ?_)
  · have hF := ok_if hc hF
    refine r_aload_n (i := 7) (k0 := 0) rfl rfl rfl ?_
    refine q_getr (b := 6) (i := 8) rfl fl_D_21 rfl (xm_in rfl hn) rfl rfl ?_
    refine r_iload_n (i := 9) (k0 := 1) rfl rfl rfl ?_
    refine c_V1I (i := 10) rfl vm_Fg_hasFallen lk_D_148 (t_Fg_hasFallen hn (ok_bind hF)) (Nat.le_of_ble_eq_true rfl) (xm_in rfl hn) rfl rfl (Nat.le_of_ble_eq_true rfl) (fun p_2 hF => ?_)
    refine r_ifeq (i := 11) (tgt := 29) rfl (by decide) (fun hc => ?_) (fun hc => ?_)
    · have hF := ok_it hc hF
      refine r_iconst (v := 0) (i := 14) rfl ki_0 ?_
      have hQ := hq _ (ok_some hF)
      exact r_ireturn (i := 15) rfl rfl rfl hQ
    have hF := ok_if hc hF
    refine r_iconst (v := 1) (i := 12) rfl ki_1 ?_
    refine r_goto (i := 13) (tgt := 30) rfl (by decide) ?_
    have hQ := hq _ (ok_some hF)
    exact r_ireturn (i := 15) rfl rfl rfl hQ
  have hF := ok_it hc hF
  refine r_ldc (i := 5) rfl ct_D_100 ?_
  have hQ := hq _ (ok_some hF)
  exact r_ireturn (i := 6) rfl rfl rfl hQ
set_option maxHeartbeats 4000000 in
set_option maxRecDepth 100000 in
theorem t_D_fallen {x1 : Int32} {n : Nat} {I : xm_I} {L : xm_L} {K : Int32 → Prop} (hn : 86 ≤ n) (hF : ok (f_D_fallen x1 I) K) : xm_C 5 mt_D_fallen [.ref 0, .int x1] (I, L, RC n, n) 0 0 (pI (fun p : Int32 => p) (fun p : Int32 => (I, L, RC n, n)) K) := by
  unfold f_D_fallen at hF
  refine xm_enter (by decide +kernel) dv_D_fallen (Nat.le_of_ble_eq_true rfl) ?_
  exact t_D_fallen_b0 hn (fun p hp => ⟨p, rfl, rfl, hp⟩) hF

noncomputable def f_D_measure_b0 (x1 : Int32) (I : xm_I) : Option (Int64) :=
  (f_Fg_has x1 I).bind fun p_1 =>
  if p_1 = 0 then (
    some ((-100001)))
  else (
    (f_Fg_kindOf x1 I).bind fun p_2 =>
    if p_2 = 7 then (
      (f_Fg_turnOf x1 I).bind fun p_3 =>
      some (p_3))
    else (
      some (0)))
noncomputable def f_D_measure (x1 : Int32) (I : xm_I) : Option (Int64) := f_D_measure_b0 x1 I
set_option maxHeartbeats 4000000 in
set_option maxRecDepth 100000 in
theorem t_D_measure_b0 {x1 : Int32} {n : Nat} {I : xm_I} {L : xm_L} {K : Int64 → Prop} {Q : Option Value → xm_H → Prop} (hn : 86 ≤ n) (hq : ∀ p : Int64, K p → Q (some (.long p)) (I, L, RC n, n)) (hF : ok (f_D_measure_b0 x1 I) K) : xm_J 4 mt_D_measure 0 [(0, .ref 0), (1, .int x1)] [] (I, L, RC n, n) 0 0 Q := by
  unfold f_D_measure_b0 at hF
  refine r_aload_n (i := 0) (k0 := 0) rfl rfl rfl ?_
  refine q_getr (b := 6) (i := 1) rfl fl_D_21 rfl (xm_in rfl hn) rfl rfl ?_
  refine r_iload_n (i := 2) (k0 := 1) rfl rfl rfl ?_
  refine c_V1I (i := 3) rfl vm_Fg_has lk_D_133 (t_Fg_has hn (ok_bind hF)) (Nat.le_of_ble_eq_true rfl) (xm_in rfl hn) rfl rfl (Nat.le_of_ble_eq_true rfl) (fun p_1 hF => ?_)
  refine r_ifne (i := 4) (tgt := 15) rfl (by decide) (fun hc => ?_) (fun hc => ?_)
  · have hF := ok_if hc hF
    refine r_aload_n (i := 7) (k0 := 0) rfl rfl rfl ?_
    refine q_getr (b := 6) (i := 8) rfl fl_D_21 rfl (xm_in rfl hn) rfl rfl ?_
    refine r_iload_n (i := 9) (k0 := 1) rfl rfl rfl ?_
    refine c_V1I (i := 10) rfl vm_Fg_kindOf lk_D_153 (t_Fg_kindOf hn (ok_bind hF)) (Nat.le_of_ble_eq_true rfl) (xm_in rfl hn) rfl rfl (Nat.le_of_ble_eq_true rfl) (fun p_2 hF => ?_)
    refine r_bipush (v := 7) (i := 11) rfl kb_7 ?_
    refine r_icmpne (i := 12) (tgt := 39) rfl (by decide) (fun hc => ?_) (fun hc => ?_)
    · have hF := ok_if hc hF
      refine r_lconst (v := 0) (i := 18) rfl rfl ?_
      have hQ := hq _ (ok_some hF)
      exact r_lreturn (i := 19) rfl rfl hQ
    have hF := ok_it hc hF
    refine r_aload_n (i := 13) (k0 := 0) rfl rfl rfl ?_
    refine q_getr (b := 6) (i := 14) rfl fl_D_21 rfl (xm_in rfl hn) rfl rfl ?_
    refine r_iload_n (i := 15) (k0 := 1) rfl rfl rfl ?_
    refine c_V1L (i := 16) rfl vm_Fg_turnOf lk_D_156 (t_Fg_turnOf hn (ok_bind hF)) (Nat.le_of_ble_eq_true rfl) (xm_in rfl hn) rfl rfl (Nat.le_of_ble_eq_true rfl) (fun p_3 hF => ?_)
    refine r_goto (i := 17) (tgt := 40) rfl (by decide) ?_
    have hQ := hq _ (ok_some hF)
    exact r_lreturn (i := 19) rfl rfl hQ
  have hF := ok_it hc hF
  refine r_ldc2 (i := 5) rfl ct_D_151 ?_
  have hQ := hq _ (ok_some hF)
  exact r_lreturn (i := 6) rfl rfl hQ
set_option maxHeartbeats 4000000 in
set_option maxRecDepth 100000 in
theorem t_D_measure {x1 : Int32} {n : Nat} {I : xm_I} {L : xm_L} {K : Int64 → Prop} (hn : 86 ≤ n) (hF : ok (f_D_measure x1 I) K) : xm_C 4 mt_D_measure [.ref 0, .int x1] (I, L, RC n, n) 0 0 (pL (fun p : Int64 => p) (fun p : Int64 => (I, L, RC n, n)) K) := by
  unfold f_D_measure at hF
  refine xm_enter (by decide +kernel) dv_D_measure (Nat.le_of_ble_eq_true rfl) ?_
  exact t_D_measure_b0 hn (fun p hp => ⟨p, rfl, rfl, hp⟩) hF

noncomputable def f_Jm_abs_J_b0 (l0 : Int64) : Option (Int64) :=
  if 0 ≤ l0 then (
    some (l0))
  else (
  some (-l0))
noncomputable def f_Jm_abs_J (l0 : Int64) : Option (Int64) := f_Jm_abs_J_b0 l0
set_option maxHeartbeats 4000000 in
set_option maxRecDepth 100000 in
theorem t_Jm_abs_J_b0 {l0 : Int64} {n : Nat} {I : xm_I} {L : xm_L} {K : Int64 → Prop} {Q : Option Value → xm_H → Prop} (hn : 86 ≤ n) (hq : ∀ p : Int64, K p → Q (some (.long p)) (I, L, RC n, n)) (hF : ok (f_Jm_abs_J_b0 l0) K) : xm_J 0 mt_Jm_abs_J 0 [(0, .long l0)] [] (I, L, RC n, n) 0 0 Q := by
  unfold f_Jm_abs_J_b0 at hF
  refine r_lload_n (i := 0) (k0 := 0) rfl rfl rfl ?_
  refine r_lconst (v := 0) (i := 1) rfl rfl ?_
  refine r_lcmpge (i := 2) (j := 3) (tgt := 11) rfl rfl (by decide) (fun hc => ?_) (fun hc => ?_)
  · have hF := ok_it hc hF
    refine r_lload_n (i := 7) (k0 := 0) rfl rfl rfl ?_
    have hQ := hq _ (ok_some hF)
    exact r_lreturn (i := 8) rfl rfl hQ
  have hF := ok_if hc hF
  refine r_lload_n (i := 4) (k0 := 0) rfl rfl rfl ?_
  refine r_lneg (i := 5) rfl ?_
  refine r_goto (i := 6) (tgt := 12) rfl (by decide) ?_
  have hQ := hq _ (ok_some hF)
  exact r_lreturn (i := 8) rfl rfl hQ
set_option maxHeartbeats 4000000 in
set_option maxRecDepth 100000 in
theorem t_Jm_abs_J {l0 : Int64} {n : Nat} {I : xm_I} {L : xm_L} {K : Int64 → Prop} (hn : 86 ≤ n) (hF : ok (f_Jm_abs_J l0) K) : xm_C 0 mt_Jm_abs_J [.long l0] (I, L, RC n, n) 0 0 (pL (fun p : Int64 => p) (fun p : Int64 => (I, L, RC n, n)) K) := by
  unfold f_Jm_abs_J at hF
  refine xm_enter (by decide +kernel) dv_Jm_abs_J (Nat.le_of_ble_eq_true rfl) ?_
  exact t_Jm_abs_J_b0 hn (fun p hp => ⟨p, rfl, rfl, hp⟩) hF

noncomputable def f_D_commonDivisor_s15 (s : Int64 × Int64 × Int32) : Option ((Int64 × Int64 × Int32) ⊕ (Int64)) :=
  if 100 ≤ s.2.2 then (
    some (.inr (s.1)))
  else (
  if s.2.1 = 0 then (
    some (.inr (s.1)))
  else (
  gd (¬ s.2.1 = 0) <|
  let l9_1 : Int64 := s.1 - s.1 / s.2.1 * s.2.1
  let x8_2 : Int32 := s.2.2 + 1
  some (.inl (s.2.1, l9_1, x8_2))))
noncomputable def f_D_commonDivisor_b15 (s : Int64 × Int64 × Int32) : Option (Int64) := lp (f_D_commonDivisor_s15) s
noncomputable def f_D_commonDivisor_b0 (l0 : Int64) (l2 : Int64) : Option (Int64) :=
  (f_Jm_abs_J l0).bind fun p_1 =>
  (f_Jm_abs_J l2).bind fun p_2 =>
  f_D_commonDivisor_b15 (p_1, p_2, 0)
noncomputable def f_D_commonDivisor (l0 : Int64) (l2 : Int64) : Option (Int64) := f_D_commonDivisor_b0 l0 l2
set_option maxHeartbeats 4000000 in
set_option maxRecDepth 100000 in
theorem t_D_commonDivisor_s15 {s : Int64 × Int64 × Int32} {n : Nat} {I : xm_I} {L : xm_L} {K : (Int64 × Int64 × Int32) ⊕ (Int64) → Prop} {Q : Option Value → xm_H → Prop} (hn : 86 ≤ n) (hq : ∀ p : Int64, K (.inr p) → Q (some (.long p)) (I, L, RC n, n)) (hg0 : ∀ s : Int64 × Int64 × Int32, K (.inl s) → xm_J 1 mt_D_commonDivisor 15 [(4, .long s.1), (6, .long s.2.1), (8, .int s.2.2)] [] (I, L, RC n, n) 0 0 Q) (hF : ok (f_D_commonDivisor_s15 s) K) : xm_J 1 mt_D_commonDivisor 15 [(4, .long s.1), (6, .long s.2.1), (8, .int s.2.2)] [] (I, L, RC n, n) 0 0 Q := by
  unfold f_D_commonDivisor_s15 at hF
  refine r_iload (i := 8) (k0 := 2) rfl rfl ?_
  refine r_bipush (v := 100) (i := 9) rfl kb_100 ?_
  refine r_icmpge (i := 10) (tgt := 50) rfl (by decide) (fun hc => ?_) (fun hc => ?_)
  · have hF := ok_it hc hF
    refine r_lload (i := 25) (k0 := 0) rfl rfl ?_
    have hQ := hq _ (ok_some hF)
    exact r_lreturn (i := 26) rfl rfl hQ
  have hF := ok_if hc hF
  refine r_lload (i := 11) (k0 := 1) rfl rfl ?_
  refine r_lconst (v := 0) (i := 12) rfl rfl ?_
  refine r_lcmpeq (i := 13) (j := 14) (tgt := 50) rfl rfl (by decide) (fun hc => ?_) (fun hc => ?_)
  · have hF := ok_it hc hF
    refine r_lload (i := 25) (k0 := 0) rfl rfl ?_
    have hQ := hq _ (ok_some hF)
    exact r_lreturn (i := 26) rfl rfl hQ
  have hF := ok_if hc hF
  refine r_lload (i := 15) (k0 := 0) rfl rfl ?_
  refine r_lload (i := 16) (k0 := 1) rfl rfl ?_
  obtain ⟨hi, hF⟩ := ok_gd hF
  refine r_lrem (i := 17) rfl hi ?_
  refine r_lstore (i := 18) (Ls' := [(9, _), (4, _), (6, _), (8, _)]) rfl (Nat.le_of_ble_eq_true rfl) rfl ?_
  refine r_lload (i := 19) (k0 := 2) rfl rfl ?_
  refine r_lstore (i := 20) (Ls' := [(4, _), (9, _), (6, _), (8, _)]) rfl (Nat.le_of_ble_eq_true rfl) rfl ?_
  refine r_lload (i := 21) (k0 := 1) rfl rfl ?_
  refine r_lstore (i := 22) (Ls' := [(6, _), (4, _), (9, _), (8, _)]) rfl (Nat.le_of_ble_eq_true rfl) rfl ?_
  refine q_iinc (i := 23) (k0 := 3) (Ls' := [(8, _), (6, _), (4, _), (9, _)]) rfl ki_1 rfl (Nat.le_of_ble_eq_true rfl) rfl ?_
  refine r_goto (i := 24) (tgt := 15) rfl (by decide) ?_
  refine xm_sub (Ls' := [(4, _), (6, _), (8, _)]) [2, 1, 0] rfl ?_
  have hJ := hg0 _ (ok_some hF)
  exact hJ
set_option maxHeartbeats 4000000 in
set_option maxRecDepth 100000 in
theorem t_D_commonDivisor_b15 {s : Int64 × Int64 × Int32} {n : Nat} {I : xm_I} {L : xm_L} {K : Int64 → Prop} {Q : Option Value → xm_H → Prop} (hn : 86 ≤ n) (hq : ∀ p : Int64, K p → Q (some (.long p)) (I, L, RC n, n)) (hF : ok (f_D_commonDivisor_b15 s) K) : xm_J 1 mt_D_commonDivisor 15 [(4, .long s.1), (6, .long s.2.1), (8, .int s.2.2)] [] (I, L, RC n, n) 0 0 Q :=
  lp_J (G := fun z => xm_J 1 mt_D_commonDivisor 15 [(4, .long z.1), (6, .long z.2.1), (8, .int z.2.2)] [] (I, L, RC n, n) 0 0 Q) (fun z hF => t_D_commonDivisor_s15 hn (fun p h => hq p h) (fun z h => h) hF) s hF
set_option maxHeartbeats 4000000 in
set_option maxRecDepth 100000 in
theorem t_D_commonDivisor_b0 {l0 : Int64} {l2 : Int64} {n : Nat} {I : xm_I} {L : xm_L} {K : Int64 → Prop} {Q : Option Value → xm_H → Prop} (hn : 86 ≤ n) (hq : ∀ p : Int64, K p → Q (some (.long p)) (I, L, RC n, n)) (hF : ok (f_D_commonDivisor_b0 l0 l2) K) : xm_J 1 mt_D_commonDivisor 0 [(0, .long l0), (2, .long l2)] [] (I, L, RC n, n) 0 0 Q := by
  unfold f_D_commonDivisor_b0 at hF
  refine r_lload_n (i := 0) (k0 := 0) rfl rfl rfl ?_
  refine c_S1L (i := 1) rfl sm_Jm_abs_J lk_D_379 (t_Jm_abs_J hn (ok_bind hF)) (Nat.le_of_ble_eq_true rfl) rfl (Nat.le_of_ble_eq_true rfl) (fun p_1 hF => ?_)
  refine r_lstore (i := 2) (Ls' := [(4, _), (0, _), (2, _)]) rfl (Nat.le_of_ble_eq_true rfl) rfl ?_
  refine r_lload_n (i := 3) (k0 := 2) rfl rfl rfl ?_
  refine c_S1L (i := 4) rfl sm_Jm_abs_J lk_D_379 (t_Jm_abs_J hn (ok_bind hF)) (Nat.le_of_ble_eq_true rfl) rfl (Nat.le_of_ble_eq_true rfl) (fun p_2 hF => ?_)
  refine r_lstore (i := 5) (Ls' := [(6, _), (4, _), (0, _), (2, _)]) rfl (Nat.le_of_ble_eq_true rfl) rfl ?_
  refine r_iconst (v := 0) (i := 6) rfl ki_0 ?_
  refine r_istore (i := 7) (Ls' := [(8, _), (6, _), (4, _), (0, _), (2, _)]) rfl (Nat.le_of_ble_eq_true rfl) rfl ?_
  refine xm_sub (Ls' := [(4, _), (6, _), (8, _)]) [2, 1, 0] rfl ?_
  exact t_D_commonDivisor_b15 hn (fun p h => hq p h) hF
set_option maxHeartbeats 4000000 in
set_option maxRecDepth 100000 in
theorem t_D_commonDivisor {l0 : Int64} {l2 : Int64} {n : Nat} {I : xm_I} {L : xm_L} {K : Int64 → Prop} (hn : 86 ≤ n) (hF : ok (f_D_commonDivisor l0 l2) K) : xm_C 1 mt_D_commonDivisor [.long l0, .long l2] (I, L, RC n, n) 0 0 (pL (fun p : Int64 => p) (fun p : Int64 => (I, L, RC n, n)) K) := by
  unfold f_D_commonDivisor at hF
  refine xm_enter (by decide +kernel) dv_D_commonDivisor (Nat.le_of_ble_eq_true rfl) ?_
  exact t_D_commonDivisor_b0 hn (fun p hp => ⟨p, rfl, rfl, hp⟩) hF

noncomputable def f_Fr_rescale_b110 (x6 : Int32) (y0 : Int32) (I : xm_I) : Option (xm_I) :=
  (f_D_commonDivisor (Int32.toInt64 x6) (Int32.toInt64 y0)).bind fun p_1 =>
  let x8_2 : Int32 := Int64.toInt32 p_1
  if x8_2 ≤ 0 then (
    some (I))
  else (
  gd (¬ x8_2 = 0) <|
  let I_3 : xm_I := up2 I 14 9 (x6 / x8_2)
  gd (¬ x8_2 = 0) <|
  let I_4 : xm_I := up2 I_3 14 10 (y0 / x8_2)
  some (I_4))
noncomputable def f_Fr_rescale_b97 (x2 : Int32) (x4 : Int32) (x5 : Int32) (y0 : Int32) (I : xm_I) : Option (xm_I) :=
  if x5 = 0 then (
    f_Fr_rescale_b110 y0 x4 I)
  else (
  f_Fr_rescale_b110 y0 x2 I)
noncomputable def f_Fr_rescale_b85 (x1 : Int32) (x2 : Int32) (x3 : Int32) (x4 : Int32) (y0 : Int32) (I : xm_I) : Option (xm_I) :=
  if y0 = 0 then (
    f_Fr_rescale_b97 x2 x4 y0 x3 I)
  else (
  f_Fr_rescale_b97 x2 x4 y0 x1 I)
noncomputable def f_Fr_rescale_b0 (I : xm_I) : Option (xm_I) :=
  let x1_1 : Int32 := (I 14 4) - (2 * (I 14 6))
  let x2_2 : Int32 := (I 14 1) - (I 14 0)
  let x3_3 : Int32 := (I 14 5) - (2 * (I 14 6))
  let x4_4 : Int32 := (I 14 3) - (I 14 2)
  let I_5 : xm_I := up2 I 14 9 0
  let I_6 : xm_I := up2 I_5 14 10 0
  if x2_2 ≤ 0 then (
    some (I_6))
  else (
  if 0 < x4_4 then (
    if ((Int32.toInt64 x3_3) * (Int32.toInt64 x2_2)) < ((Int32.toInt64 x1_1) * (Int32.toInt64 x4_4)) then (
      f_Fr_rescale_b85 x1_1 x2_2 x3_3 x4_4 0 I_6)
    else (
    f_Fr_rescale_b85 x1_1 x2_2 x3_3 x4_4 1 I_6))
  else (
  some (I_6)))
noncomputable def f_Fr_rescale (I : xm_I) : Option (xm_I) := f_Fr_rescale_b0 I
set_option maxHeartbeats 4000000 in
set_option maxRecDepth 100000 in
theorem t_Fr_rescale_b110 {x6 : Int32} {y0 : Int32} {n : Nat} {I : xm_I} {L : xm_L} {K : xm_I → Prop} {Q : Option Value → xm_H → Prop} (hn : 86 ≤ n) (hq : ∀ p : xm_I, K p → Q none (p, L, RC n, n)) (hF : ok (f_Fr_rescale_b110 x6 y0 I) K) : xm_J 2 mt_Fr_rescale 110 [(0, .ref 14), (6, .int x6)] [.int y0] (I, L, RC n, n) 0 0 Q := by
  unfold f_Fr_rescale_b110 at hF
  refine r_istore (i := 66) (Ls' := [(7, _), (0, _), (6, _)]) rfl (Nat.le_of_ble_eq_true rfl) rfl ?_
  refine r_iload (i := 67) (k0 := 2) rfl rfl ?_
  refine r_i2l (i := 68) rfl ?_
  refine r_iload (i := 69) (k0 := 0) rfl rfl ?_
  refine r_i2l (i := 70) rfl ?_
  refine c_N2L (i := 71) rfl sm_D_commonDivisor lk_Fr_46 (t_D_commonDivisor hn (ok_bind hF)) (Nat.le_of_ble_eq_true rfl) rfl (Nat.le_of_ble_eq_true rfl) (fun p_1 hF => ?_)
  refine r_l2i (i := 72) rfl ?_
  refine r_istore (i := 73) (Ls' := [(8, _), (7, _), (0, _), (6, _)]) rfl (Nat.le_of_ble_eq_true rfl) rfl ?_
  refine r_iload (i := 74) (k0 := 0) rfl rfl ?_
  refine r_ifle (i := 75) (tgt := 147) rfl (by decide) (fun hc => ?_) (fun hc => ?_)
  · have hF := ok_it hc hF
    have hQ := hq _ (ok_some hF)
    exact r_return (i := 86) rfl rfl hQ
  have hF := ok_if hc hF
  refine r_aload_n (i := 76) (k0 := 2) rfl rfl rfl ?_
  refine r_iload (i := 77) (k0 := 3) rfl rfl ?_
  refine r_iload (i := 78) (k0 := 0) rfl rfl ?_
  obtain ⟨hi, hF⟩ := ok_gd hF
  refine r_idiv (i := 79) rfl hi ?_
  refine q_puti (i := 80) rfl fl_Fr_37 (fun h => Bool.noConfusion h) (xm_in rfl hn) rfl ?_
  refine r_aload_n (i := 81) (k0 := 2) rfl rfl rfl ?_
  refine r_iload (i := 82) (k0 := 1) rfl rfl ?_
  refine r_iload (i := 83) (k0 := 0) rfl rfl ?_
  obtain ⟨hi, hF⟩ := ok_gd hF
  refine r_idiv (i := 84) rfl hi ?_
  refine q_puti (i := 85) rfl fl_Fr_40 (fun h => Bool.noConfusion h) (xm_in rfl hn) rfl ?_
  have hQ := hq _ (ok_some hF)
  exact r_return (i := 86) rfl rfl hQ
set_option maxHeartbeats 4000000 in
set_option maxRecDepth 100000 in
theorem t_Fr_rescale_b97 {x2 : Int32} {x4 : Int32} {x5 : Int32} {y0 : Int32} {n : Nat} {I : xm_I} {L : xm_L} {K : xm_I → Prop} {Q : Option Value → xm_H → Prop} (hn : 86 ≤ n) (hq : ∀ p : xm_I, K p → Q none (p, L, RC n, n)) (hF : ok (f_Fr_rescale_b97 x2 x4 x5 y0 I) K) : xm_J 2 mt_Fr_rescale 97 [(0, .ref 14), (2, .int x2), (4, .int x4), (5, .int x5)] [.int y0] (I, L, RC n, n) 0 0 Q := by
  unfold f_Fr_rescale_b97 at hF
  refine r_istore (i := 60) (Ls' := [(6, _), (0, _), (2, _), (4, _), (5, _)]) rfl (Nat.le_of_ble_eq_true rfl) rfl ?_
  refine r_iload (i := 61) (k0 := 4) rfl rfl ?_
  refine r_ifeq (i := 62) (tgt := 108) rfl (by decide) (fun hc => ?_) (fun hc => ?_)
  · have hF := ok_it hc hF
    refine r_iload (i := 65) (k0 := 3) rfl rfl ?_
    refine xm_sub (Ls' := [(0, _), (6, _)]) [1, 0] rfl ?_
    exact t_Fr_rescale_b110 hn (fun p h => hq p h) hF
  have hF := ok_if hc hF
  refine r_iload_n (i := 63) (k0 := 2) rfl rfl rfl ?_
  refine r_goto (i := 64) (tgt := 110) rfl (by decide) ?_
  refine xm_sub (Ls' := [(0, _), (6, _)]) [1, 0] rfl ?_
  exact t_Fr_rescale_b110 hn (fun p h => hq p h) hF
set_option maxHeartbeats 4000000 in
set_option maxRecDepth 100000 in
theorem t_Fr_rescale_b85 {x1 : Int32} {x2 : Int32} {x3 : Int32} {x4 : Int32} {y0 : Int32} {n : Nat} {I : xm_I} {L : xm_L} {K : xm_I → Prop} {Q : Option Value → xm_H → Prop} (hn : 86 ≤ n) (hq : ∀ p : xm_I, K p → Q none (p, L, RC n, n)) (hF : ok (f_Fr_rescale_b85 x1 x2 x3 x4 y0 I) K) : xm_J 2 mt_Fr_rescale 85 [(0, .ref 14), (1, .int x1), (2, .int x2), (3, .int x3), (4, .int x4)] [.int y0] (I, L, RC n, n) 0 0 Q := by
  unfold f_Fr_rescale_b85 at hF
  refine r_istore (i := 54) (Ls' := [(5, _), (0, _), (1, _), (2, _), (3, _), (4, _)]) rfl (Nat.le_of_ble_eq_true rfl) rfl ?_
  refine r_iload (i := 55) (k0 := 0) rfl rfl ?_
  refine r_ifeq (i := 56) (tgt := 96) rfl (by decide) (fun hc => ?_) (fun hc => ?_)
  · have hF := ok_it hc hF
    refine r_iload_n (i := 59) (k0 := 4) rfl rfl rfl ?_
    refine xm_sub (Ls' := [(0, _), (2, _), (4, _), (5, _)]) [1, 3, 5, 0] rfl ?_
    exact t_Fr_rescale_b97 hn (fun p h => hq p h) hF
  have hF := ok_if hc hF
  refine r_iload_n (i := 57) (k0 := 2) rfl rfl rfl ?_
  refine r_goto (i := 58) (tgt := 97) rfl (by decide) ?_
  refine xm_sub (Ls' := [(0, _), (2, _), (4, _), (5, _)]) [1, 3, 5, 0] rfl ?_
  exact t_Fr_rescale_b97 hn (fun p h => hq p h) hF
set_option maxHeartbeats 4000000 in
set_option maxRecDepth 100000 in
theorem t_Fr_rescale_b0 {n : Nat} {I : xm_I} {L : xm_L} {K : xm_I → Prop} {Q : Option Value → xm_H → Prop} (hn : 86 ≤ n) (hq : ∀ p : xm_I, K p → Q none (p, L, RC n, n)) (hF : ok (f_Fr_rescale_b0 I) K) : xm_J 2 mt_Fr_rescale 0 [(0, .ref 14)] [] (I, L, RC n, n) 0 0 Q := by
  unfold f_Fr_rescale_b0 at hF
  refine r_aload_n (i := 0) (k0 := 0) rfl rfl rfl ?_
  refine q_geti (i := 1) rfl fl_Fr_22 (xm_in rfl hn) rfl ?_
  refine r_iconst (v := 2) (i := 2) rfl ki_2 ?_
  refine r_aload_n (i := 3) (k0 := 0) rfl rfl rfl ?_
  refine q_geti (i := 4) rfl fl_Fr_28 (xm_in rfl hn) rfl ?_
  refine r_imul (i := 5) rfl ?_
  refine r_isub (i := 6) rfl ?_
  refine r_istore_n (i := 7) (Ls' := [(1, _), (0, _)]) rfl rfl (Nat.le_of_ble_eq_true rfl) rfl ?_
  refine r_aload_n (i := 8) (k0 := 1) rfl rfl rfl ?_
  refine q_geti (i := 9) rfl fl_Fr_13 (xm_in rfl hn) rfl ?_
  refine r_aload_n (i := 10) (k0 := 1) rfl rfl rfl ?_
  refine q_geti (i := 11) rfl fl_Fr_7 (xm_in rfl hn) rfl ?_
  refine r_isub (i := 12) rfl ?_
  refine r_istore_n (i := 13) (Ls' := [(2, _), (1, _), (0, _)]) rfl rfl (Nat.le_of_ble_eq_true rfl) rfl ?_
  refine r_aload_n (i := 14) (k0 := 2) rfl rfl rfl ?_
  refine q_geti (i := 15) rfl fl_Fr_25 (xm_in rfl hn) rfl ?_
  refine r_iconst (v := 2) (i := 16) rfl ki_2 ?_
  refine r_aload_n (i := 17) (k0 := 2) rfl rfl rfl ?_
  refine q_geti (i := 18) rfl fl_Fr_28 (xm_in rfl hn) rfl ?_
  refine r_imul (i := 19) rfl ?_
  refine r_isub (i := 20) rfl ?_
  refine r_istore_n (i := 21) (Ls' := [(3, _), (2, _), (1, _), (0, _)]) rfl rfl (Nat.le_of_ble_eq_true rfl) rfl ?_
  refine r_aload_n (i := 22) (k0 := 3) rfl rfl rfl ?_
  refine q_geti (i := 23) rfl fl_Fr_19 (xm_in rfl hn) rfl ?_
  refine r_aload_n (i := 24) (k0 := 3) rfl rfl rfl ?_
  refine q_geti (i := 25) rfl fl_Fr_16 (xm_in rfl hn) rfl ?_
  refine r_isub (i := 26) rfl ?_
  refine r_istore (i := 27) (Ls' := [(4, _), (3, _), (2, _), (1, _), (0, _)]) rfl (Nat.le_of_ble_eq_true rfl) rfl ?_
  refine r_aload_n (i := 28) (k0 := 4) rfl rfl rfl ?_
  refine r_iconst (v := 0) (i := 29) rfl ki_0 ?_
  refine q_puti (i := 30) rfl fl_Fr_37 (fun h => Bool.noConfusion h) (xm_in rfl hn) rfl ?_
  refine r_aload_n (i := 31) (k0 := 4) rfl rfl rfl ?_
  refine r_iconst (v := 0) (i := 32) rfl ki_0 ?_
  refine q_puti (i := 33) rfl fl_Fr_40 (fun h => Bool.noConfusion h) (xm_in rfl hn) rfl ?_
  refine r_iload_n (i := 34) (k0 := 2) rfl rfl rfl ?_
  refine r_ifle (i := 35) (tgt := 64) rfl (by decide) (fun hc => ?_) (fun hc => ?_)
  · have hF := ok_it hc hF
    have hQ := hq _ (ok_some hF)
    exact r_return (i := 38) rfl rfl hQ
  have hF := ok_if hc hF
  refine r_iload (i := 36) (k0 := 0) rfl rfl ?_
  refine r_ifgt (i := 37) (tgt := 65) rfl (by decide) (fun hc => ?_) (fun hc => ?_)
  · have hF := ok_it hc hF
    refine r_iload_n (i := 39) (k0 := 3) rfl rfl rfl ?_
    refine r_i2l (i := 40) rfl ?_
    refine r_iload (i := 41) (k0 := 0) rfl rfl ?_
    refine r_i2l (i := 42) rfl ?_
    refine r_lmul (i := 43) rfl ?_
    refine r_iload_n (i := 44) (k0 := 1) rfl rfl rfl ?_
    refine r_i2l (i := 45) rfl ?_
    refine r_iload_n (i := 46) (k0 := 2) rfl rfl rfl ?_
    refine r_i2l (i := 47) rfl ?_
    refine r_lmul (i := 48) rfl ?_
    refine r_lcmpgt (i := 49) (j := 50) (tgt := 84) rfl rfl (by decide) (fun hc => ?_) (fun hc => ?_)
    · have hF := ok_it hc hF
      refine r_iconst (v := 0) (i := 53) rfl ki_0 ?_
      refine xm_sub (Ls' := [(0, _), (1, _), (2, _), (3, _), (4, _)]) [4, 3, 2, 1, 0] rfl ?_
      exact t_Fr_rescale_b85 hn (fun p h => hq p h) hF
    have hF := ok_if hc hF
    refine r_iconst (v := 1) (i := 51) rfl ki_1 ?_
    refine r_goto (i := 52) (tgt := 85) rfl (by decide) ?_
    refine xm_sub (Ls' := [(0, _), (1, _), (2, _), (3, _), (4, _)]) [4, 3, 2, 1, 0] rfl ?_
    exact t_Fr_rescale_b85 hn (fun p h => hq p h) hF
  have hF := ok_if hc hF
  have hQ := hq _ (ok_some hF)
  exact r_return (i := 38) rfl rfl hQ
set_option maxHeartbeats 4000000 in
set_option maxRecDepth 100000 in
theorem t_Fr_rescale {n : Nat} {I : xm_I} {L : xm_L} {K : xm_I → Prop} (hn : 86 ≤ n) (hF : ok (f_Fr_rescale I) K) : xm_C 2 mt_Fr_rescale [.ref 14] (I, L, RC n, n) 0 0 (pV (fun p : xm_I => (p, L, RC n, n)) K) := by
  unfold f_Fr_rescale at hF
  refine xm_enter (by decide +kernel) dv_Fr_rescale (Nat.le_of_ble_eq_true rfl) ?_
  exact t_Fr_rescale_b0 hn (fun p hp => ⟨p, rfl, rfl, hp⟩) hF

noncomputable def f_Fr_setWindow_b0 (x1 : Int32) (x2 : Int32) (x3 : Int32) (x4 : Int32) (I : xm_I) : Option (xm_I) :=
  let I_1 : xm_I := up2 I 14 0 x1
  let I_2 : xm_I := up2 I_1 14 1 x2
  let I_3 : xm_I := up2 I_2 14 2 x3
  let I_4 : xm_I := up2 I_3 14 3 x4
  (f_Fr_rescale I_4).bind fun p_5 =>
  some (p_5)
noncomputable def f_Fr_setWindow (x1 : Int32) (x2 : Int32) (x3 : Int32) (x4 : Int32) (I : xm_I) : Option (xm_I) := f_Fr_setWindow_b0 x1 x2 x3 x4 I
set_option maxHeartbeats 4000000 in
set_option maxRecDepth 100000 in
theorem t_Fr_setWindow_b0 {x1 : Int32} {x2 : Int32} {x3 : Int32} {x4 : Int32} {n : Nat} {I : xm_I} {L : xm_L} {K : xm_I → Prop} {Q : Option Value → xm_H → Prop} (hn : 86 ≤ n) (hq : ∀ p : xm_I, K p → Q none (p, L, RC n, n)) (hF : ok (f_Fr_setWindow_b0 x1 x2 x3 x4 I) K) : xm_J 3 mt_Fr_setWindow 0 [(0, .ref 14), (1, .int x1), (2, .int x2), (3, .int x3), (4, .int x4)] [] (I, L, RC n, n) 0 0 Q := by
  unfold f_Fr_setWindow_b0 at hF
  refine r_aload_n (i := 0) (k0 := 0) rfl rfl rfl ?_
  refine r_iload_n (i := 1) (k0 := 1) rfl rfl rfl ?_
  refine q_puti (i := 2) rfl fl_Fr_7 (fun h => Bool.noConfusion h) (xm_in rfl hn) rfl ?_
  refine r_aload_n (i := 3) (k0 := 0) rfl rfl rfl ?_
  refine r_iload_n (i := 4) (k0 := 2) rfl rfl rfl ?_
  refine q_puti (i := 5) rfl fl_Fr_13 (fun h => Bool.noConfusion h) (xm_in rfl hn) rfl ?_
  refine r_aload_n (i := 6) (k0 := 0) rfl rfl rfl ?_
  refine r_iload_n (i := 7) (k0 := 3) rfl rfl rfl ?_
  refine q_puti (i := 8) rfl fl_Fr_16 (fun h => Bool.noConfusion h) (xm_in rfl hn) rfl ?_
  refine r_aload_n (i := 9) (k0 := 0) rfl rfl rfl ?_
  refine r_iload (i := 10) (k0 := 4) rfl rfl ?_
  refine q_puti (i := 11) rfl fl_Fr_19 (fun h => Bool.noConfusion h) (xm_in rfl hn) rfl ?_
  refine r_aload_n (i := 12) (k0 := 0) rfl rfl rfl ?_
  refine c_V0V (i := 13) rfl vm_Fr_rescale lk_Fr_43 (t_Fr_rescale hn (ok_bind hF)) (Nat.le_of_ble_eq_true rfl) (xm_in rfl hn) rfl rfl (Nat.le_of_ble_eq_true rfl) (fun p_5 hF => ?_)
  have hQ := hq _ (ok_some hF)
  exact r_return (i := 14) rfl rfl hQ
set_option maxHeartbeats 4000000 in
set_option maxRecDepth 100000 in
theorem t_Fr_setWindow {x1 : Int32} {x2 : Int32} {x3 : Int32} {x4 : Int32} {n : Nat} {I : xm_I} {L : xm_L} {K : xm_I → Prop} (hn : 86 ≤ n) (hF : ok (f_Fr_setWindow x1 x2 x3 x4 I) K) : xm_C 3 mt_Fr_setWindow [.ref 14, .int x1, .int x2, .int x3, .int x4] (I, L, RC n, n) 0 0 (pV (fun p : xm_I => (p, L, RC n, n)) K) := by
  unfold f_Fr_setWindow at hF
  refine xm_enter (by decide +kernel) dv_Fr_setWindow (Nat.le_of_ble_eq_true rfl) ?_
  exact t_Fr_setWindow_b0 hn (fun p hp => ⟨p, rfl, rfl, hp⟩) hF

noncomputable def f_D_window_b58 (x1 : Int32) (x2 : Int32) (x3 : Int32) (x4 : Int32) (y0 : Int32) (I : xm_I) : Option (Int32 × xm_I) :=
  if y0 = 0 then (
    some ((-100002), I))
  else (
  if x2 < x1 then (
    some ((-100002), I))
  else (
  if x3 ≤ x4 then (
    (f_Fr_setWindow x1 x2 x3 x4 I).bind fun p_1 =>
    some (1, p_1))
  else (
  some ((-100002), I))))
noncomputable def f_D_window_b57 (x1 : Int32) (x2 : Int32) (x3 : Int32) (x4 : Int32) (I : xm_I) : Option (Int32 × xm_I) :=
  f_D_window_b58 x1 x2 x3 x4 0 I
noncomputable def f_D_window_b0 (x1 : Int32) (x2 : Int32) (x3 : Int32) (x4 : Int32) (I : xm_I) : Option (Int32 × xm_I) :=
  (f_D_isWithin x1 (-40000) 40000).bind fun p_1 =>
  if p_1 = 0 then (
    f_D_window_b57 x1 x2 x3 x4 I)
  else (
  (f_D_isWithin x2 (-40000) 40000).bind fun p_2 =>
  if p_2 = 0 then (
    f_D_window_b57 x1 x2 x3 x4 I)
  else (
  (f_D_isWithin x3 (-40000) 40000).bind fun p_3 =>
  if p_3 = 0 then (
    f_D_window_b57 x1 x2 x3 x4 I)
  else (
  (f_D_isWithin x4 (-40000) 40000).bind fun p_4 =>
  if p_4 = 0 then (
    f_D_window_b57 x1 x2 x3 x4 I)
  else (
  f_D_window_b58 x1 x2 x3 x4 1 I))))
noncomputable def f_D_window (x1 : Int32) (x2 : Int32) (x3 : Int32) (x4 : Int32) (I : xm_I) : Option (Int32 × xm_I) := f_D_window_b0 x1 x2 x3 x4 I
set_option maxHeartbeats 4000000 in
set_option maxRecDepth 100000 in
theorem t_D_window_b58 {x1 : Int32} {x2 : Int32} {x3 : Int32} {x4 : Int32} {y0 : Int32} {n : Nat} {I : xm_I} {L : xm_L} {K : Int32 × xm_I → Prop} {Q : Option Value → xm_H → Prop} (hn : 86 ≤ n) (hq : ∀ p : Int32 × xm_I, K p → Q (some (.int p.1)) (p.2, L, RC n, n)) (hF : ok (f_D_window_b58 x1 x2 x3 x4 y0 I) K) : xm_J 4 mt_D_window 58 [(0, .ref 0), (1, .int x1), (2, .int x2), (3, .int x3), (4, .int x4)] [.int y0] (I, L, RC n, n) 0 0 Q := by
  unfold f_D_window_b58 at hF
  refine r_istore (i := 29) (Ls' := [(6, _), (0, _), (1, _), (2, _), (3, _), (4, _)]) rfl (Nat.le_of_ble_eq_true rfl) rfl ?_
  refine r_iload (i := 30) (k0 := 0) rfl rfl ?_
  refine r_ifeq (i := 31) (tgt := 76) rfl (by decide) (fun hc => ?_) (fun hc => ?_)
  · have hF := ok_it hc hF
    refine r_ldc (i := 38) rfl ct_D_86 ?_
    have hQ := hq _ (ok_some hF)
    exact r_ireturn (i := 39) rfl rfl rfl hQ
  have hF := ok_if hc hF
  refine r_iload_n (i := 32) (k0 := 2) rfl rfl rfl ?_
  refine r_iload_n (i := 33) (k0 := 3) rfl rfl rfl ?_
  refine r_icmpgt (i := 34) (tgt := 76) rfl (by decide) (fun hc => ?_) (fun hc => ?_)
  · have hF := ok_it hc hF
    refine r_ldc (i := 38) rfl ct_D_86 ?_
    have hQ := hq _ (ok_some hF)
    exact r_ireturn (i := 39) rfl rfl rfl hQ
  have hF := ok_if hc hF
  refine r_iload_n (i := 35) (k0 := 4) rfl rfl rfl ?_
  refine r_iload (i := 36) (k0 := 5) rfl rfl ?_
  refine r_icmple (i := 37) (tgt := 79) rfl (by decide) (fun hc => ?_) (fun hc => ?_)
  · have hF := ok_it hc hF
    refine r_aload_n (i := 40) (k0 := 1) rfl rfl rfl ?_
    refine q_getr (b := 14) (i := 41) rfl fl_D_28 rfl (xm_in rfl hn) rfl rfl ?_
    refine r_iload_n (i := 42) (k0 := 2) rfl rfl rfl ?_
    refine r_iload_n (i := 43) (k0 := 3) rfl rfl rfl ?_
    refine r_iload_n (i := 44) (k0 := 4) rfl rfl rfl ?_
    refine r_iload (i := 45) (k0 := 5) rfl rfl ?_
    refine c_V4V (i := 46) rfl vm_Fr_setWindow lk_D_161 (t_Fr_setWindow hn (ok_bind hF)) (Nat.le_of_ble_eq_true rfl) (xm_in rfl hn) rfl rfl (Nat.le_of_ble_eq_true rfl) (fun p_1 hF => ?_)
    refine r_iconst (v := 1) (i := 47) rfl ki_1 ?_
    have hQ := hq _ (ok_some hF)
    exact r_ireturn (i := 48) rfl rfl rfl hQ
  have hF := ok_if hc hF
  refine r_ldc (i := 38) rfl ct_D_86 ?_
  have hQ := hq _ (ok_some hF)
  exact r_ireturn (i := 39) rfl rfl rfl hQ
set_option maxHeartbeats 4000000 in
set_option maxRecDepth 100000 in
theorem t_D_window_b57 {x1 : Int32} {x2 : Int32} {x3 : Int32} {x4 : Int32} {n : Nat} {I : xm_I} {L : xm_L} {K : Int32 × xm_I → Prop} {Q : Option Value → xm_H → Prop} (hn : 86 ≤ n) (hq : ∀ p : Int32 × xm_I, K p → Q (some (.int p.1)) (p.2, L, RC n, n)) (hF : ok (f_D_window_b57 x1 x2 x3 x4 I) K) : xm_J 4 mt_D_window 57 [(0, .ref 0), (1, .int x1), (2, .int x2), (3, .int x3), (4, .int x4)] [] (I, L, RC n, n) 0 0 Q := by
  unfold f_D_window_b57 at hF
  refine r_iconst (v := 0) (i := 28) rfl ki_0 ?_
  exact t_D_window_b58 hn (fun p h => hq p h) hF
set_option maxHeartbeats 4000000 in
set_option maxRecDepth 100000 in
theorem t_D_window_b0 {x1 : Int32} {x2 : Int32} {x3 : Int32} {x4 : Int32} {n : Nat} {I : xm_I} {L : xm_L} {K : Int32 × xm_I → Prop} {Q : Option Value → xm_H → Prop} (hn : 86 ≤ n) (hq : ∀ p : Int32 × xm_I, K p → Q (some (.int p.1)) (p.2, L, RC n, n)) (hF : ok (f_D_window_b0 x1 x2 x3 x4 I) K) : xm_J 4 mt_D_window 0 [(0, .ref 0), (1, .int x1), (2, .int x2), (3, .int x3), (4, .int x4)] [] (I, L, RC n, n) 0 0 Q := by
  unfold f_D_window_b0 at hF
  refine r_ldc (i := 0) rfl ct_D_160 ?_
  refine r_istore (i := 1) (Ls' := [(5, _), (0, _), (1, _), (2, _), (3, _), (4, _)]) rfl (Nat.le_of_ble_eq_true rfl) rfl ?_
  refine r_iload_n (i := 2) (k0 := 2) rfl rfl rfl ?_
  refine r_iload (i := 3) (k0 := 0) rfl rfl ?_
  refine r_ineg (i := 4) rfl ?_
  refine r_iload (i := 5) (k0 := 0) rfl rfl ?_
  refine c_S3I (i := 6) rfl sm_D_isWithin lk_D_82 (t_D_isWithin hn (ok_bind hF)) (Nat.le_of_ble_eq_true rfl) rfl (Nat.le_of_ble_eq_true rfl) (fun p_1 hF => ?_)
  refine r_ifeq (i := 7) (tgt := 57) rfl (by decide) (fun hc => ?_) (fun hc => ?_)
  · have hF := ok_it hc hF
    refine xm_sub (Ls' := [(0, _), (1, _), (2, _), (3, _), (4, _)]) [1, 2, 3, 4, 5] rfl ?_
    exact t_D_window_b57 hn (fun p h => hq p h) hF
  have hF := ok_if hc hF
  refine r_iload_n (i := 8) (k0 := 3) rfl rfl rfl ?_
  refine r_iload (i := 9) (k0 := 0) rfl rfl ?_
  refine r_ineg (i := 10) rfl ?_
  refine r_iload (i := 11) (k0 := 0) rfl rfl ?_
  refine c_S3I (i := 12) rfl sm_D_isWithin lk_D_82 (t_D_isWithin hn (ok_bind hF)) (Nat.le_of_ble_eq_true rfl) rfl (Nat.le_of_ble_eq_true rfl) (fun p_2 hF => ?_)
  refine r_ifeq (i := 13) (tgt := 57) rfl (by decide) (fun hc => ?_) (fun hc => ?_)
  · have hF := ok_it hc hF
    refine xm_sub (Ls' := [(0, _), (1, _), (2, _), (3, _), (4, _)]) [1, 2, 3, 4, 5] rfl ?_
    exact t_D_window_b57 hn (fun p h => hq p h) hF
  have hF := ok_if hc hF
  refine r_iload_n (i := 14) (k0 := 4) rfl rfl rfl ?_
  refine r_iload (i := 15) (k0 := 0) rfl rfl ?_
  refine r_ineg (i := 16) rfl ?_
  refine r_iload (i := 17) (k0 := 0) rfl rfl ?_
  refine c_S3I (i := 18) rfl sm_D_isWithin lk_D_82 (t_D_isWithin hn (ok_bind hF)) (Nat.le_of_ble_eq_true rfl) rfl (Nat.le_of_ble_eq_true rfl) (fun p_3 hF => ?_)
  refine r_ifeq (i := 19) (tgt := 57) rfl (by decide) (fun hc => ?_) (fun hc => ?_)
  · have hF := ok_it hc hF
    refine xm_sub (Ls' := [(0, _), (1, _), (2, _), (3, _), (4, _)]) [1, 2, 3, 4, 5] rfl ?_
    exact t_D_window_b57 hn (fun p h => hq p h) hF
  have hF := ok_if hc hF
  refine r_iload (i := 20) (k0 := 5) rfl rfl ?_
  refine r_iload (i := 21) (k0 := 0) rfl rfl ?_
  refine r_ineg (i := 22) rfl ?_
  refine r_iload (i := 23) (k0 := 0) rfl rfl ?_
  refine c_S3I (i := 24) rfl sm_D_isWithin lk_D_82 (t_D_isWithin hn (ok_bind hF)) (Nat.le_of_ble_eq_true rfl) rfl (Nat.le_of_ble_eq_true rfl) (fun p_4 hF => ?_)
  refine r_ifeq (i := 25) (tgt := 57) rfl (by decide) (fun hc => ?_) (fun hc => ?_)
  · have hF := ok_it hc hF
    refine xm_sub (Ls' := [(0, _), (1, _), (2, _), (3, _), (4, _)]) [1, 2, 3, 4, 5] rfl ?_
    exact t_D_window_b57 hn (fun p h => hq p h) hF
  have hF := ok_if hc hF
  refine r_iconst (v := 1) (i := 26) rfl ki_1 ?_
  refine r_goto (i := 27) (tgt := 58) rfl (by decide) ?_
  refine xm_sub (Ls' := [(0, _), (1, _), (2, _), (3, _), (4, _)]) [1, 2, 3, 4, 5] rfl ?_
  exact t_D_window_b58 hn (fun p h => hq p h) hF
set_option maxHeartbeats 4000000 in
set_option maxRecDepth 100000 in
theorem t_D_window {x1 : Int32} {x2 : Int32} {x3 : Int32} {x4 : Int32} {n : Nat} {I : xm_I} {L : xm_L} {K : Int32 × xm_I → Prop} (hn : 86 ≤ n) (hF : ok (f_D_window x1 x2 x3 x4 I) K) : xm_C 4 mt_D_window [.ref 0, .int x1, .int x2, .int x3, .int x4] (I, L, RC n, n) 0 0 (pI (fun p : Int32 × xm_I => p.1) (fun p : Int32 × xm_I => (p.2, L, RC n, n)) K) := by
  unfold f_D_window at hF
  refine xm_enter (by decide +kernel) dv_D_window (Nat.le_of_ble_eq_true rfl) ?_
  exact t_D_window_b0 hn (fun p hp => ⟨p, rfl, rfl, hp⟩) hF

noncomputable def f_Jm_max_I_b0 (x0 : Int32) (x1 : Int32) : Option (Int32) :=
  if x0 < x1 then (
    some (x1))
  else (
  some (x0))
noncomputable def f_Jm_max_I (x0 : Int32) (x1 : Int32) : Option (Int32) := f_Jm_max_I_b0 x0 x1
set_option maxHeartbeats 4000000 in
set_option maxRecDepth 100000 in
theorem t_Jm_max_I_b0 {x0 : Int32} {x1 : Int32} {n : Nat} {I : xm_I} {L : xm_L} {K : Int32 → Prop} {Q : Option Value → xm_H → Prop} (hn : 86 ≤ n) (hq : ∀ p : Int32, K p → Q (some (.int p)) (I, L, RC n, n)) (hF : ok (f_Jm_max_I_b0 x0 x1) K) : xm_J 0 mt_Jm_max_I 0 [(0, .int x0), (1, .int x1)] [] (I, L, RC n, n) 0 0 Q := by
  unfold f_Jm_max_I_b0 at hF
  refine r_iload_n (i := 0) (k0 := 0) rfl rfl rfl ?_
  refine r_iload_n (i := 1) (k0 := 1) rfl rfl rfl ?_
  refine r_icmplt (i := 2) (tgt := 9) rfl (by decide) (fun hc => ?_) (fun hc => ?_)
  · have hF := ok_it hc hF
    refine r_iload_n (i := 5) (k0 := 1) rfl rfl rfl ?_
    have hQ := hq _ (ok_some hF)
    exact r_ireturn (i := 6) rfl rfl rfl hQ
  have hF := ok_if hc hF
  refine r_iload_n (i := 3) (k0 := 0) rfl rfl rfl ?_
  refine r_goto (i := 4) (tgt := 10) rfl (by decide) ?_
  have hQ := hq _ (ok_some hF)
  exact r_ireturn (i := 6) rfl rfl rfl hQ
set_option maxHeartbeats 4000000 in
set_option maxRecDepth 100000 in
theorem t_Jm_max_I {x0 : Int32} {x1 : Int32} {n : Nat} {I : xm_I} {L : xm_L} {K : Int32 → Prop} (hn : 86 ≤ n) (hF : ok (f_Jm_max_I x0 x1) K) : xm_C 0 mt_Jm_max_I [.int x0, .int x1] (I, L, RC n, n) 0 0 (pI (fun p : Int32 => p) (fun p : Int32 => (I, L, RC n, n)) K) := by
  unfold f_Jm_max_I at hF
  refine xm_enter (by decide +kernel) dv_Jm_max_I (Nat.le_of_ble_eq_true rfl) ?_
  exact t_Jm_max_I_b0 hn (fun p hp => ⟨p, rfl, rfl, hp⟩) hF
