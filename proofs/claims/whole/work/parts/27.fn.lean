/-! ===== turned: M_corner M_area M_style M_hide M_cornerX M_cornerY M_measured M_isSame M_isFallen M_fallen M_measure M_isSide M_window M_fit M_side M_sheet M_grid M_hatch M_common M_hasScale M_scale M_floor M_topOn M_on M_single M_solid ===== -/
noncomputable def f_M_corner_b0 (x1 : Int32) (I : xm_I) : Option (Int32 × xm_I) :=
  (f_M_isPoint x1 I).bind fun p_1 =>
  if p_1 = 0 then (
    some ((-100001), I))
  else (
    if (I 49 13) = 12 then (
      some ((-100004), I))
    else (
      gd (0 ≤ (I 49 13).toInt ∧ (I 49 13).toInt < 12) <|
      let I_2 : xm_I := up2 I 59 (Int32.toNatClampNeg (I 49 13)) x1
      let I_3 : xm_I := up2 I_2 49 13 ((I_2 49 13) + 1)
      some (I_3 49 13, I_3)))
noncomputable def f_M_corner (x1 : Int32) (I : xm_I) : Option (Int32 × xm_I) := f_M_corner_b0 x1 I
set_option maxHeartbeats 4000000 in
set_option maxRecDepth 100000 in
theorem t_M_corner_b0 {x1 : Int32} {n : Nat} {I : xm_I} {L : xm_L} {K : Int32 × xm_I → Prop} {Q : Option Value → xm_H → Prop} (hn : 86 ≤ n) (hq : ∀ p : Int32 × xm_I, K p → Q (some (.int p.1)) (p.2, L, RC n, n)) (hF : ok (f_M_corner_b0 x1 I) K) : xm_J 1 mt_M_corner 0 [(0, .ref 49), (1, .int x1)] [] (I, L, RC n, n) 0 0 Q := by
  unfold f_M_corner_b0 at hF
  refine r_aload_n (i := 0) (k0 := 0) rfl rfl rfl ?_
  refine r_iload_n (i := 1) (k0 := 1) rfl rfl rfl ?_
  refine c_V1I (i := 2) rfl vm_M_isPoint lk_M_156 (t_M_isPoint hn (ok_bind hF)) (Nat.le_of_ble_eq_true rfl) (xm_in rfl hn) rfl rfl (Nat.le_of_ble_eq_true rfl) (fun p_1 hF => ?_)
  refine r_ifne (i := 3) (tgt := 11) rfl (by decide) (fun hc => ?_) (fun hc => ?_)
  · have hF := ok_if hc hF
    refine r_aload_n (i := 6) (k0 := 0) rfl rfl rfl ?_
    refine q_geti (i := 7) rfl fl_M_182 (xm_in rfl hn) rfl ?_
    refine r_bipush (v := 12) (i := 8) rfl kb_12 ?_
    refine r_icmpne (i := 9) (tgt := 23) rfl (by decide) (fun hc => ?_) (fun hc => ?_)
    · have hF := ok_if hc hF
      refine r_aload_n (i := 12) (k0 := 0) rfl rfl rfl ?_
      refine q_getr (b := 59) (i := 13) rfl fl_M_37 rfl (xm_in rfl hn) rfl rfl ?_
      refine r_aload_n (i := 14) (k0 := 0) rfl rfl rfl ?_
      refine q_geti (i := 15) rfl fl_M_182 (xm_in rfl hn) rfl ?_
      refine r_iload_n (i := 16) (k0 := 1) rfl rfl rfl ?_
      obtain ⟨hi, hF⟩ := ok_gd hF
      refine q_iastore (i := 17) rfl (xm_in rfl hn) rfl hi ?_
      refine r_aload_n (i := 18) (k0 := 0) rfl rfl rfl ?_
      refine r_dup (i := 19) rfl rfl ?_
      refine q_geti (i := 20) rfl fl_M_182 (xm_in rfl hn) rfl ?_
      refine r_iconst (v := 1) (i := 21) rfl ki_1 ?_
      refine r_iadd (i := 22) rfl ?_
      refine q_puti (i := 23) rfl fl_M_182 (fun h => Bool.noConfusion h) (xm_in rfl hn) rfl ?_
      refine r_aload_n (i := 24) (k0 := 0) rfl rfl rfl ?_
      refine q_geti (i := 25) rfl fl_M_182 (xm_in rfl hn) rfl ?_
      have hQ := hq _ (ok_some hF)
      exact r_ireturn (i := 26) rfl rfl rfl hQ
    have hF := ok_it hc hF
    refine r_ldc (i := 10) rfl ct_M_155 ?_
    have hQ := hq _ (ok_some hF)
    exact r_ireturn (i := 11) rfl rfl rfl hQ
  have hF := ok_it hc hF
  refine r_ldc (i := 4) rfl ct_M_160 ?_
  have hQ := hq _ (ok_some hF)
  exact r_ireturn (i := 5) rfl rfl rfl hQ
set_option maxHeartbeats 4000000 in
set_option maxRecDepth 100000 in
theorem t_M_corner {x1 : Int32} {n : Nat} {I : xm_I} {L : xm_L} {K : Int32 × xm_I → Prop} (hn : 86 ≤ n) (hF : ok (f_M_corner x1 I) K) : xm_C 1 mt_M_corner [.ref 49, .int x1] (I, L, RC n, n) 0 0 (pI (fun p : Int32 × xm_I => p.1) (fun p : Int32 × xm_I => (p.2, L, RC n, n)) K) := by
  unfold f_M_corner at hF
  refine xm_enter (by decide +kernel) dv_M_corner (Nat.le_of_ble_eq_true rfl) ?_
  exact t_M_corner_b0 hn (fun p hp => ⟨p, rfl, rfl, hp⟩) hF

noncomputable def f_M_area_s36 (s : Int32 × xm_I) : Option ((Int32 × xm_I) ⊕ (Int32 × xm_I)) :=
  if (s.2 49 13) ≤ s.1 then (
    gd (0 ≤ (s.2 49 11).toInt ∧ (s.2 49 11).toInt < 40) <|
    let I_1 : xm_I := up2 s.2 56 (Int32.toNatClampNeg (s.2 49 11)) (s.2 49 13)
    gd (0 ≤ (I_1 49 11).toInt ∧ (I_1 49 11).toInt < 40) <|
    let I_2 : xm_I := up2 I_1 57 (Int32.toNatClampNeg (I_1 49 11)) 0
    let I_3 : xm_I := up2 I_2 49 13 0
    let I_4 : xm_I := up2 I_3 49 11 ((I_3 49 11) + 1)
    some (.inr ((I_4 49 11) - 1, I_4)))
  else (
  gd (0 ≤ (s.1).toInt ∧ (s.1).toInt < 12) <|
  gd (0 ≤ ((12 * (s.2 49 11)) + s.1).toInt ∧ ((12 * (s.2 49 11)) + s.1).toInt < 480) <|
  let I_5 : xm_I := up2 s.2 55 (Int32.toNatClampNeg ((12 * (s.2 49 11)) + s.1)) (s.2 59 (Int32.toNatClampNeg s.1))
  let x1_6 : Int32 := s.1 + 1
  some (.inl (x1_6, I_5)))
noncomputable def f_M_area_b36 (s : Int32 × xm_I) : Option (Int32 × xm_I) := lp (f_M_area_s36) s
noncomputable def f_M_area_b0 (I : xm_I) : Option (Int32 × xm_I) :=
  if 3 ≤ (I 49 13) then (
    if (I 49 11) = 40 then (
      some ((-100004), I))
    else (
      gd (0 ≤ (I 49 11).toInt ∧ (I 49 11).toInt < 40) <|
      let I_1 : xm_I := up2 I 54 (Int32.toNatClampNeg (I 49 11)) 7
      f_M_area_b36 (0, I_1)))
  else (
  some ((-100003), I))
noncomputable def f_M_area (I : xm_I) : Option (Int32 × xm_I) := f_M_area_b0 I
set_option maxHeartbeats 4000000 in
set_option maxRecDepth 100000 in
theorem t_M_area_s36 {s : Int32 × xm_I} {n : Nat} {L : xm_L} {K : (Int32 × xm_I) ⊕ (Int32 × xm_I) → Prop} {Q : Option Value → xm_H → Prop} (hn : 86 ≤ n) (hq : ∀ p : Int32 × xm_I, K (.inr p) → Q (some (.int p.1)) (p.2, L, RC n, n)) (hg0 : ∀ s : Int32 × xm_I, K (.inl s) → xm_J 0 mt_M_area 36 [(0, .ref 49), (1, .int s.1)] [] (s.2, L, RC n, n) 0 0 Q) (hF : ok (f_M_area_s36 s) K) : xm_J 0 mt_M_area 36 [(0, .ref 49), (1, .int s.1)] [] (s.2, L, RC n, n) 0 0 Q := by
  unfold f_M_area_s36 at hF
  refine r_iload_n (i := 20) (k0 := 1) rfl rfl rfl ?_
  refine r_aload_n (i := 21) (k0 := 0) rfl rfl rfl ?_
  refine q_geti (i := 22) rfl fl_M_182 (xm_in rfl hn) rfl ?_
  refine r_icmpge (i := 23) (tgt := 70) rfl (by decide) (fun hc => ?_) (fun hc => ?_)
  · have hF := ok_it hc hF
    refine r_aload_n (i := 39) (k0 := 0) rfl rfl rfl ?_
    refine q_getr (b := 56) (i := 40) rfl fl_M_28 rfl (xm_in rfl hn) rfl rfl ?_
    refine r_aload_n (i := 41) (k0 := 0) rfl rfl rfl ?_
    refine q_geti (i := 42) rfl fl_M_140 (xm_in rfl hn) rfl ?_
    refine r_aload_n (i := 43) (k0 := 0) rfl rfl rfl ?_
    refine q_geti (i := 44) rfl fl_M_182 (xm_in rfl hn) rfl ?_
    obtain ⟨hi, hF⟩ := ok_gd hF
    refine q_iastore (i := 45) rfl (xm_in rfl hn) rfl hi ?_
    refine r_aload_n (i := 46) (k0 := 0) rfl rfl rfl ?_
    refine q_getr (b := 57) (i := 47) rfl fl_M_31 rfl (xm_in rfl hn) rfl rfl ?_
    refine r_aload_n (i := 48) (k0 := 0) rfl rfl rfl ?_
    refine q_geti (i := 49) rfl fl_M_140 (xm_in rfl hn) rfl ?_
    refine r_iconst (v := 0) (i := 50) rfl ki_0 ?_
    obtain ⟨hi, hF⟩ := ok_gd hF
    refine q_iastore (i := 51) rfl (xm_in rfl hn) rfl hi ?_
    refine r_aload_n (i := 52) (k0 := 0) rfl rfl rfl ?_
    refine r_iconst (v := 0) (i := 53) rfl ki_0 ?_
    refine q_puti (i := 54) rfl fl_M_182 (fun h => Bool.noConfusion h) (xm_in rfl hn) rfl ?_
    refine r_aload_n (i := 55) (k0 := 0) rfl rfl rfl ?_
    refine r_dup (i := 56) rfl rfl ?_
    refine q_geti (i := 57) rfl fl_M_140 (xm_in rfl hn) rfl ?_
    refine r_iconst (v := 1) (i := 58) rfl ki_1 ?_
    refine r_iadd (i := 59) rfl ?_
    refine q_puti (i := 60) rfl fl_M_140 (fun h => Bool.noConfusion h) (xm_in rfl hn) rfl ?_
    refine r_aload_n (i := 61) (k0 := 0) rfl rfl rfl ?_
    refine q_geti (i := 62) rfl fl_M_140 (xm_in rfl hn) rfl ?_
    refine r_iconst (v := 1) (i := 63) rfl ki_1 ?_
    refine r_isub (i := 64) rfl ?_
    have hQ := hq _ (ok_some hF)
    exact r_ireturn (i := 65) rfl rfl rfl hQ
  have hF := ok_if hc hF
  refine r_aload_n (i := 24) (k0 := 0) rfl rfl rfl ?_
  refine q_getr (b := 55) (i := 25) rfl fl_M_25 rfl (xm_in rfl hn) rfl rfl ?_
  refine r_bipush (v := 12) (i := 26) rfl kb_12 ?_
  refine r_aload_n (i := 27) (k0 := 0) rfl rfl rfl ?_
  refine q_geti (i := 28) rfl fl_M_140 (xm_in rfl hn) rfl ?_
  refine r_imul (i := 29) rfl ?_
  refine r_iload_n (i := 30) (k0 := 1) rfl rfl rfl ?_
  refine r_iadd (i := 31) rfl ?_
  refine r_aload_n (i := 32) (k0 := 0) rfl rfl rfl ?_
  refine q_getr (b := 59) (i := 33) rfl fl_M_37 rfl (xm_in rfl hn) rfl rfl ?_
  refine r_iload_n (i := 34) (k0 := 1) rfl rfl rfl ?_
  obtain ⟨hi, hF⟩ := ok_gd hF
  refine q_iaload (i := 35) rfl (xm_in rfl hn) rfl hi ?_
  obtain ⟨hi, hF⟩ := ok_gd hF
  refine q_iastore (i := 36) rfl (xm_in rfl hn) rfl hi ?_
  refine q_iinc (i := 37) (k0 := 1) (Ls' := [(1, _), (0, _)]) rfl ki_1 rfl (Nat.le_of_ble_eq_true rfl) rfl ?_
  refine r_goto (i := 38) (tgt := 36) rfl (by decide) ?_
  refine xm_sub (Ls' := [(0, _), (1, _)]) [1, 0] rfl ?_
  have hJ := hg0 _ (ok_some hF)
  exact hJ
set_option maxHeartbeats 4000000 in
set_option maxRecDepth 100000 in
theorem t_M_area_b36 {s : Int32 × xm_I} {n : Nat} {L : xm_L} {K : Int32 × xm_I → Prop} {Q : Option Value → xm_H → Prop} (hn : 86 ≤ n) (hq : ∀ p : Int32 × xm_I, K p → Q (some (.int p.1)) (p.2, L, RC n, n)) (hF : ok (f_M_area_b36 s) K) : xm_J 0 mt_M_area 36 [(0, .ref 49), (1, .int s.1)] [] (s.2, L, RC n, n) 0 0 Q :=
  lp_J (G := fun z => xm_J 0 mt_M_area 36 [(0, .ref 49), (1, .int z.1)] [] (z.2, L, RC n, n) 0 0 Q) (fun z hF => t_M_area_s36 hn (fun p h => hq p h) (fun z h => h) hF) s hF
set_option maxHeartbeats 4000000 in
set_option maxRecDepth 100000 in
theorem t_M_area_b0 {n : Nat} {I : xm_I} {L : xm_L} {K : Int32 × xm_I → Prop} {Q : Option Value → xm_H → Prop} (hn : 86 ≤ n) (hq : ∀ p : Int32 × xm_I, K p → Q (some (.int p.1)) (p.2, L, RC n, n)) (hF : ok (f_M_area_b0 I) K) : xm_J 0 mt_M_area 0 [(0, .ref 49)] [] (I, L, RC n, n) 0 0 Q := by
  unfold f_M_area_b0 at hF
  refine r_aload_n (i := 0) (k0 := 0) rfl rfl rfl ?_
  refine q_geti (i := 1) rfl fl_M_182 (xm_in rfl hn) rfl ?_
  refine r_iconst (v := 3) (i := 2) rfl ki_3 ?_
  refine r_icmpge (i := 3) (tgt := 11) rfl (by decide) (fun hc => ?_) (fun hc => ?_)
  · have hF := ok_it hc hF
    refine r_aload_n (i := 6) (k0 := 0) rfl rfl rfl ?_
    refine q_geti (i := 7) rfl fl_M_140 (xm_in rfl hn) rfl ?_
    refine r_bipush (v := 40) (i := 8) rfl kb_40 ?_
    refine r_icmpne (i := 9) (tgt := 23) rfl (by decide) (fun hc => ?_) (fun hc => ?_)
    · have hF := ok_if hc hF
      refine r_aload_n (i := 12) (k0 := 0) rfl rfl rfl ?_
      refine q_getr (b := 54) (i := 13) rfl fl_M_22 rfl (xm_in rfl hn) rfl rfl ?_
      refine r_aload_n (i := 14) (k0 := 0) rfl rfl rfl ?_
      refine q_geti (i := 15) rfl fl_M_140 (xm_in rfl hn) rfl ?_
      refine r_bipush (v := 7) (i := 16) rfl kb_7 ?_
      obtain ⟨hi, hF⟩ := ok_gd hF
      refine q_iastore (i := 17) rfl (xm_in rfl hn) rfl hi ?_
      refine r_iconst (v := 0) (i := 18) rfl ki_0 ?_
      refine r_istore_n (i := 19) (Ls' := [(1, _), (0, _)]) rfl rfl (Nat.le_of_ble_eq_true rfl) rfl ?_
      refine xm_sub (Ls' := [(0, _), (1, _)]) [1, 0] rfl ?_
      exact t_M_area_b36 hn (fun p h => hq p h) hF
    have hF := ok_it hc hF
    refine r_ldc (i := 10) rfl ct_M_155 ?_
    have hQ := hq _ (ok_some hF)
    exact r_ireturn (i := 11) rfl rfl rfl hQ
  have hF := ok_if hc hF
  refine r_ldc (i := 4) rfl ct_M_185 ?_
  have hQ := hq _ (ok_some hF)
  exact r_ireturn (i := 5) rfl rfl rfl hQ
set_option maxHeartbeats 4000000 in
set_option maxRecDepth 100000 in
theorem t_M_area {n : Nat} {I : xm_I} {L : xm_L} {K : Int32 × xm_I → Prop} (hn : 86 ≤ n) (hF : ok (f_M_area I) K) : xm_C 0 mt_M_area [.ref 49] (I, L, RC n, n) 0 0 (pI (fun p : Int32 × xm_I => p.1) (fun p : Int32 × xm_I => (p.2, L, RC n, n)) K) := by
  unfold f_M_area at hF
  refine xm_enter (by decide +kernel) dv_M_area (Nat.le_of_ble_eq_true rfl) ?_
  exact t_M_area_b0 hn (fun p hp => ⟨p, rfl, rfl, hp⟩) hF

noncomputable def f_M_style_b0 (x1 : Int32) (x2 : Int32) (I : xm_I) : Option (Int32 × xm_I) :=
  (f_M_isObject x1 I).bind fun p_1 =>
  if p_1 = 0 then (
    some ((-100001), I))
  else (
    (f_M_in (Int32.toInt64 x2) 0 2).bind fun p_2 =>
    if p_2 = 0 then (
      some ((-100002), I))
    else (
      gd (0 ≤ (x1).toInt ∧ (x1).toInt < 40) <|
      let x3_3 : Int32 := I 57 (Int32.toNatClampNeg x1)
      gd (0 ≤ (x1).toInt ∧ (x1).toInt < 40) <|
      let I_4 : xm_I := up2 I 57 (Int32.toNatClampNeg x1) x2
      some (x3_3, I_4)))
noncomputable def f_M_style (x1 : Int32) (x2 : Int32) (I : xm_I) : Option (Int32 × xm_I) := f_M_style_b0 x1 x2 I
set_option maxHeartbeats 4000000 in
set_option maxRecDepth 100000 in
theorem t_M_style_b0 {x1 : Int32} {x2 : Int32} {n : Nat} {I : xm_I} {L : xm_L} {K : Int32 × xm_I → Prop} {Q : Option Value → xm_H → Prop} (hn : 86 ≤ n) (hq : ∀ p : Int32 × xm_I, K p → Q (some (.int p.1)) (p.2, L, RC n, n)) (hF : ok (f_M_style_b0 x1 x2 I) K) : xm_J 1 mt_M_style 0 [(0, .ref 49), (1, .int x1), (2, .int x2)] [] (I, L, RC n, n) 0 0 Q := by
  unfold f_M_style_b0 at hF
  refine r_aload_n (i := 0) (k0 := 0) rfl rfl rfl ?_
  refine r_iload_n (i := 1) (k0 := 1) rfl rfl rfl ?_
  refine c_V1I (i := 2) rfl vm_M_isObject lk_M_186 (t_M_isObject hn (ok_bind hF)) (Nat.le_of_ble_eq_true rfl) (xm_in rfl hn) rfl rfl (Nat.le_of_ble_eq_true rfl) (fun p_1 hF => ?_)
  refine r_ifne (i := 3) (tgt := 11) rfl (by decide) (fun hc => ?_) (fun hc => ?_)
  · have hF := ok_if hc hF
    refine r_iload_n (i := 6) (k0 := 2) rfl rfl rfl ?_
    refine r_i2l (i := 7) rfl ?_
    refine r_lconst (v := 0) (i := 8) rfl rfl ?_
    refine r_ldc2 (i := 9) rfl ct_M_189 ?_
    refine c_S3I (i := 10) rfl sm_M_in lk_M_150 (t_M_in hn (ok_bind hF)) (Nat.le_of_ble_eq_true rfl) rfl (Nat.le_of_ble_eq_true rfl) (fun p_2 hF => ?_)
    refine r_ifne (i := 11) (tgt := 26) rfl (by decide) (fun hc => ?_) (fun hc => ?_)
    · have hF := ok_if hc hF
      refine r_aload_n (i := 14) (k0 := 0) rfl rfl rfl ?_
      refine q_getr (b := 57) (i := 15) rfl fl_M_31 rfl (xm_in rfl hn) rfl rfl ?_
      refine r_iload_n (i := 16) (k0 := 1) rfl rfl rfl ?_
      obtain ⟨hi, hF⟩ := ok_gd hF
      refine q_iaload (i := 17) rfl (xm_in rfl hn) rfl hi ?_
      refine r_istore_n (i := 18) (Ls' := [(3, _), (0, _), (1, _), (2, _)]) rfl rfl (Nat.le_of_ble_eq_true rfl) rfl ?_
      refine r_aload_n (i := 19) (k0 := 1) rfl rfl rfl ?_
      refine q_getr (b := 57) (i := 20) rfl fl_M_31 rfl (xm_in rfl hn) rfl rfl ?_
      refine r_iload_n (i := 21) (k0 := 2) rfl rfl rfl ?_
      refine r_iload_n (i := 22) (k0 := 3) rfl rfl rfl ?_
      obtain ⟨hi, hF⟩ := ok_gd hF
      refine q_iastore (i := 23) rfl (xm_in rfl hn) rfl hi ?_
      refine r_iload_n (i := 24) (k0 := 0) rfl rfl rfl ?_
      have hQ := hq _ (ok_some hF)
      exact r_ireturn (i := 25) rfl rfl rfl hQ
    have hF := ok_it hc hF
    refine r_ldc (i := 12) rfl ct_M_154 ?_
    have hQ := hq _ (ok_some hF)
    exact r_ireturn (i := 13) rfl rfl rfl hQ
  have hF := ok_it hc hF
  refine r_ldc (i := 4) rfl ct_M_160 ?_
  have hQ := hq _ (ok_some hF)
  exact r_ireturn (i := 5) rfl rfl rfl hQ
set_option maxHeartbeats 4000000 in
set_option maxRecDepth 100000 in
theorem t_M_style {x1 : Int32} {x2 : Int32} {n : Nat} {I : xm_I} {L : xm_L} {K : Int32 × xm_I → Prop} (hn : 86 ≤ n) (hF : ok (f_M_style x1 x2 I) K) : xm_C 1 mt_M_style [.ref 49, .int x1, .int x2] (I, L, RC n, n) 0 0 (pI (fun p : Int32 × xm_I => p.1) (fun p : Int32 × xm_I => (p.2, L, RC n, n)) K) := by
  unfold f_M_style at hF
  refine xm_enter (by decide +kernel) dv_M_style (Nat.le_of_ble_eq_true rfl) ?_
  exact t_M_style_b0 hn (fun p hp => ⟨p, rfl, rfl, hp⟩) hF

noncomputable def f_M_hide_b29 (x1 : Int32) (x2 : Int32) (y0 : Int32) (I : xm_I) : Option (Int32 × xm_I) :=
  gd (0 ≤ (x1).toInt ∧ (x1).toInt < 10) <|
  let I_1 : xm_I := up2 I 60 (Int32.toNatClampNeg x1) (x2 &&& 1)
  some (y0, I_1)
noncomputable def f_M_hide_b0 (x1 : Int32) (x2 : Int32) (I : xm_I) : Option (Int32 × xm_I) :=
  (f_M_in (Int32.toInt64 x1) 0 9).bind fun p_1 =>
  if p_1 = 0 then (
    some ((-100002), I))
  else (
    gd (0 ≤ (x1).toInt ∧ (x1).toInt < 10) <|
    if (I 60 (Int32.toNatClampNeg x1)) = 0 then (
      f_M_hide_b29 x1 x2 0 I)
    else (
    f_M_hide_b29 x1 x2 1 I))
noncomputable def f_M_hide (x1 : Int32) (x2 : Int32) (I : xm_I) : Option (Int32 × xm_I) := f_M_hide_b0 x1 x2 I
set_option maxHeartbeats 4000000 in
set_option maxRecDepth 100000 in
theorem t_M_hide_b29 {x1 : Int32} {x2 : Int32} {y0 : Int32} {n : Nat} {I : xm_I} {L : xm_L} {K : Int32 × xm_I → Prop} {Q : Option Value → xm_H → Prop} (hn : 86 ≤ n) (hq : ∀ p : Int32 × xm_I, K p → Q (some (.int p.1)) (p.2, L, RC n, n)) (hF : ok (f_M_hide_b29 x1 x2 y0 I) K) : xm_J 1 mt_M_hide 29 [(0, .ref 49), (1, .int x1), (2, .int x2)] [.int y0] (I, L, RC n, n) 0 0 Q := by
  unfold f_M_hide_b29 at hF
  refine r_istore_n (i := 16) (Ls' := [(3, _), (0, _), (1, _), (2, _)]) rfl rfl (Nat.le_of_ble_eq_true rfl) rfl ?_
  refine r_aload_n (i := 17) (k0 := 1) rfl rfl rfl ?_
  refine q_getr (b := 60) (i := 18) rfl fl_M_40 rfl (xm_in rfl hn) rfl rfl ?_
  refine r_iload_n (i := 19) (k0 := 2) rfl rfl rfl ?_
  refine r_iload_n (i := 20) (k0 := 3) rfl rfl rfl ?_
  obtain ⟨hi, hF⟩ := ok_gd hF
  refine q_bastore (i := 21) rfl (xm_in rfl hn) rfl hi ?_
  refine r_iload_n (i := 22) (k0 := 0) rfl rfl rfl ?_
  have hQ := hq _ (ok_some hF)
  exact r_ireturn (i := 23) rfl rfl rfl hQ
set_option maxHeartbeats 4000000 in
set_option maxRecDepth 100000 in
theorem t_M_hide_b0 {x1 : Int32} {x2 : Int32} {n : Nat} {I : xm_I} {L : xm_L} {K : Int32 × xm_I → Prop} {Q : Option Value → xm_H → Prop} (hn : 86 ≤ n) (hq : ∀ p : Int32 × xm_I, K p → Q (some (.int p.1)) (p.2, L, RC n, n)) (hF : ok (f_M_hide_b0 x1 x2 I) K) : xm_J 1 mt_M_hide 0 [(0, .ref 49), (1, .int x1), (2, .int x2)] [] (I, L, RC n, n) 0 0 Q := by
  unfold f_M_hide_b0 at hF
  refine r_iload_n (i := 0) (k0 := 1) rfl rfl rfl ?_
  refine r_i2l (i := 1) rfl ?_
  refine r_lconst (v := 0) (i := 2) rfl rfl ?_
  refine r_ldc2 (i := 3) rfl ct_M_191 ?_
  refine c_S3I (i := 4) rfl sm_M_in lk_M_150 (t_M_in hn (ok_bind hF)) (Nat.le_of_ble_eq_true rfl) rfl (Nat.le_of_ble_eq_true rfl) (fun p_1 hF => ?_)
  refine r_ifne (i := 5) (tgt := 15) rfl (by decide) (fun hc => ?_) (fun hc => ?_)
  · have hF := ok_if hc hF
    refine r_aload_n (i := 8) (k0 := 0) rfl rfl rfl ?_
    refine q_getr (b := 60) (i := 9) rfl fl_M_40 rfl (xm_in rfl hn) rfl rfl ?_
    refine r_iload_n (i := 10) (k0 := 1) rfl rfl rfl ?_
    obtain ⟨hi, hF⟩ := ok_gd hF
    refine q_baload (i := 11) rfl (xm_in rfl hn) rfl hi ?_
    refine r_ifeq (i := 12) (tgt := 28) rfl (by decide) (fun hc => ?_) (fun hc => ?_)
    · have hF := ok_it hc hF
      refine r_iconst (v := 0) (i := 15) rfl ki_0 ?_
      exact t_M_hide_b29 hn (fun p h => hq p h) hF
    have hF := ok_if hc hF
    refine r_iconst (v := 1) (i := 13) rfl ki_1 ?_
    refine r_goto (i := 14) (tgt := 29) rfl (by decide) ?_
    exact t_M_hide_b29 hn (fun p h => hq p h) hF
  have hF := ok_it hc hF
  refine r_ldc (i := 6) rfl ct_M_154 ?_
  have hQ := hq _ (ok_some hF)
  exact r_ireturn (i := 7) rfl rfl rfl hQ
set_option maxHeartbeats 4000000 in
set_option maxRecDepth 100000 in
theorem t_M_hide {x1 : Int32} {x2 : Int32} {n : Nat} {I : xm_I} {L : xm_L} {K : Int32 × xm_I → Prop} (hn : 86 ≤ n) (hF : ok (f_M_hide x1 x2 I) K) : xm_C 1 mt_M_hide [.ref 49, .int x1, .int x2] (I, L, RC n, n) 0 0 (pI (fun p : Int32 × xm_I => p.1) (fun p : Int32 × xm_I => (p.2, L, RC n, n)) K) := by
  unfold f_M_hide at hF
  refine xm_enter (by decide +kernel) dv_M_hide (Nat.le_of_ble_eq_true rfl) ?_
  exact t_M_hide_b0 hn (fun p hp => ⟨p, rfl, rfl, hp⟩) hF

noncomputable def f_M_cornerX_b0 (x1 : Int32) (x2 : Int32) (I : xm_I) : Option (Int32) :=
  gd (0 ≤ ((12 * x1) + x2).toInt ∧ ((12 * x1) + x2).toInt < 480) <|
  (f_M_nowX (I 55 (Int32.toNatClampNeg ((12 * x1) + x2))) I).bind fun p_1 =>
  some (p_1)
noncomputable def f_M_cornerX (x1 : Int32) (x2 : Int32) (I : xm_I) : Option (Int32) := f_M_cornerX_b0 x1 x2 I
set_option maxHeartbeats 4000000 in
set_option maxRecDepth 100000 in
theorem t_M_cornerX_b0 {x1 : Int32} {x2 : Int32} {n : Nat} {I : xm_I} {L : xm_L} {K : Int32 → Prop} {Q : Option Value → xm_H → Prop} (hn : 86 ≤ n) (hq : ∀ p : Int32, K p → Q (some (.int p)) (I, L, RC n, n)) (hF : ok (f_M_cornerX_b0 x1 x2 I) K) : xm_J 1 mt_M_cornerX 0 [(0, .ref 49), (1, .int x1), (2, .int x2)] [] (I, L, RC n, n) 0 0 Q := by
  unfold f_M_cornerX_b0 at hF
  refine r_aload_n (i := 0) (k0 := 0) rfl rfl rfl ?_
  refine r_aload_n (i := 1) (k0 := 0) rfl rfl rfl ?_
  refine q_getr (b := 55) (i := 2) rfl fl_M_25 rfl (xm_in rfl hn) rfl rfl ?_
  refine r_bipush (v := 12) (i := 3) rfl kb_12 ?_
  refine r_iload_n (i := 4) (k0 := 1) rfl rfl rfl ?_
  refine r_imul (i := 5) rfl ?_
  refine r_iload_n (i := 6) (k0 := 2) rfl rfl rfl ?_
  refine r_iadd (i := 7) rfl ?_
  obtain ⟨hi, hF⟩ := ok_gd hF
  refine q_iaload (i := 8) rfl (xm_in rfl hn) rfl hi ?_
  refine c_V1I (i := 9) rfl vm_M_nowX lk_M_168 (t_M_nowX hn (ok_bind hF)) (Nat.le_of_ble_eq_true rfl) (xm_in rfl hn) rfl rfl (Nat.le_of_ble_eq_true rfl) (fun p_1 hF => ?_)
  have hQ := hq _ (ok_some hF)
  exact r_ireturn (i := 10) rfl rfl rfl hQ
set_option maxHeartbeats 4000000 in
set_option maxRecDepth 100000 in
theorem t_M_cornerX {x1 : Int32} {x2 : Int32} {n : Nat} {I : xm_I} {L : xm_L} {K : Int32 → Prop} (hn : 86 ≤ n) (hF : ok (f_M_cornerX x1 x2 I) K) : xm_C 1 mt_M_cornerX [.ref 49, .int x1, .int x2] (I, L, RC n, n) 0 0 (pI (fun p : Int32 => p) (fun p : Int32 => (I, L, RC n, n)) K) := by
  unfold f_M_cornerX at hF
  refine xm_enter (by decide +kernel) dv_M_cornerX (Nat.le_of_ble_eq_true rfl) ?_
  exact t_M_cornerX_b0 hn (fun p hp => ⟨p, rfl, rfl, hp⟩) hF

noncomputable def f_M_cornerY_b0 (x1 : Int32) (x2 : Int32) (I : xm_I) : Option (Int32) :=
  gd (0 ≤ ((12 * x1) + x2).toInt ∧ ((12 * x1) + x2).toInt < 480) <|
  (f_M_nowY (I 55 (Int32.toNatClampNeg ((12 * x1) + x2))) I).bind fun p_1 =>
  some (p_1)
noncomputable def f_M_cornerY (x1 : Int32) (x2 : Int32) (I : xm_I) : Option (Int32) := f_M_cornerY_b0 x1 x2 I
set_option maxHeartbeats 4000000 in
set_option maxRecDepth 100000 in
theorem t_M_cornerY_b0 {x1 : Int32} {x2 : Int32} {n : Nat} {I : xm_I} {L : xm_L} {K : Int32 → Prop} {Q : Option Value → xm_H → Prop} (hn : 86 ≤ n) (hq : ∀ p : Int32, K p → Q (some (.int p)) (I, L, RC n, n)) (hF : ok (f_M_cornerY_b0 x1 x2 I) K) : xm_J 1 mt_M_cornerY 0 [(0, .ref 49), (1, .int x1), (2, .int x2)] [] (I, L, RC n, n) 0 0 Q := by
  unfold f_M_cornerY_b0 at hF
  refine r_aload_n (i := 0) (k0 := 0) rfl rfl rfl ?_
  refine r_aload_n (i := 1) (k0 := 0) rfl rfl rfl ?_
  refine q_getr (b := 55) (i := 2) rfl fl_M_25 rfl (xm_in rfl hn) rfl rfl ?_
  refine r_bipush (v := 12) (i := 3) rfl kb_12 ?_
  refine r_iload_n (i := 4) (k0 := 1) rfl rfl rfl ?_
  refine r_imul (i := 5) rfl ?_
  refine r_iload_n (i := 6) (k0 := 2) rfl rfl rfl ?_
  refine r_iadd (i := 7) rfl ?_
  obtain ⟨hi, hF⟩ := ok_gd hF
  refine q_iaload (i := 8) rfl (xm_in rfl hn) rfl hi ?_
  refine c_V1I (i := 9) rfl vm_M_nowY lk_M_172 (t_M_nowY hn (ok_bind hF)) (Nat.le_of_ble_eq_true rfl) (xm_in rfl hn) rfl rfl (Nat.le_of_ble_eq_true rfl) (fun p_1 hF => ?_)
  have hQ := hq _ (ok_some hF)
  exact r_ireturn (i := 10) rfl rfl rfl hQ
set_option maxHeartbeats 4000000 in
set_option maxRecDepth 100000 in
theorem t_M_cornerY {x1 : Int32} {x2 : Int32} {n : Nat} {I : xm_I} {L : xm_L} {K : Int32 → Prop} (hn : 86 ≤ n) (hF : ok (f_M_cornerY x1 x2 I) K) : xm_C 1 mt_M_cornerY [.ref 49, .int x1, .int x2] (I, L, RC n, n) 0 0 (pI (fun p : Int32 => p) (fun p : Int32 => (I, L, RC n, n)) K) := by
  unfold f_M_cornerY at hF
  refine xm_enter (by decide +kernel) dv_M_cornerY (Nat.le_of_ble_eq_true rfl) ?_
  exact t_M_cornerY_b0 hn (fun p hp => ⟨p, rfl, rfl, hp⟩) hF

noncomputable def f_M_measured_s5 (x1 : Int32) (I : xm_I) (s : Int64 × Int32) : Option ((Int64 × Int32) ⊕ (Int64)) :=
  gd (0 ≤ (x1).toInt ∧ (x1).toInt < 40) <|
  if (I 56 (Int32.toNatClampNeg x1)) ≤ s.2 then (
    some (.inr (s.1)))
  else (
  gd (0 ≤ (x1).toInt ∧ (x1).toInt < 40) <|
  gd (¬ (I 56 (Int32.toNatClampNeg x1)) = 0) <|
  let x5_1 : Int32 := (s.2 + 1) - (s.2 + 1) / (I 56 (Int32.toNatClampNeg x1)) * (I 56 (Int32.toNatClampNeg x1))
  (f_M_cornerX x1 s.2 I).bind fun p_2 =>
  (f_M_cornerY x1 x5_1 I).bind fun p_3 =>
  (f_M_cornerX x1 x5_1 I).bind fun p_4 =>
  (f_M_cornerY x1 s.2 I).bind fun p_5 =>
  let l2_6 : Int64 := s.1 + (((Int32.toInt64 p_2) * (Int32.toInt64 p_3)) - ((Int32.toInt64 p_4) * (Int32.toInt64 p_5)))
  let x4_7 : Int32 := s.2 + 1
  some (.inl (l2_6, x4_7)))
noncomputable def f_M_measured_b5 (x1 : Int32) (I : xm_I) (s : Int64 × Int32) : Option (Int64) := lp (f_M_measured_s5 x1 I) s
noncomputable def f_M_measured_b0 (x1 : Int32) (I : xm_I) : Option (Int64) :=
  f_M_measured_b5 x1 I (0, 0)
noncomputable def f_M_measured (x1 : Int32) (I : xm_I) : Option (Int64) := f_M_measured_b0 x1 I
set_option maxHeartbeats 4000000 in
set_option maxRecDepth 100000 in
theorem t_M_measured_s5 {x1 : Int32} {s : Int64 × Int32} {n : Nat} {I : xm_I} {L : xm_L} {K : (Int64 × Int32) ⊕ (Int64) → Prop} {Q : Option Value → xm_H → Prop} (hn : 86 ≤ n) (hq : ∀ p : Int64, K (.inr p) → Q (some (.long p)) (I, L, RC n, n)) (hg0 : ∀ s : Int64 × Int32, K (.inl s) → xm_J 2 mt_M_measured 5 [(0, .ref 49), (1, .int x1), (2, .long s.1), (4, .int s.2)] [] (I, L, RC n, n) 0 0 Q) (hF : ok (f_M_measured_s5 x1 I s) K) : xm_J 2 mt_M_measured 5 [(0, .ref 49), (1, .int x1), (2, .long s.1), (4, .int s.2)] [] (I, L, RC n, n) 0 0 Q := by
  unfold f_M_measured_s5 at hF
  refine r_iload (i := 4) (k0 := 3) rfl rfl ?_
  refine r_aload_n (i := 5) (k0 := 0) rfl rfl rfl ?_
  refine q_getr (b := 56) (i := 6) rfl fl_M_28 rfl (xm_in rfl hn) rfl rfl ?_
  refine r_iload_n (i := 7) (k0 := 1) rfl rfl rfl ?_
  obtain ⟨hi, hF⟩ := ok_gd hF
  refine q_iaload (i := 8) rfl (xm_in rfl hn) rfl hi ?_
  refine r_icmpge (i := 9) (tgt := 73) rfl (by decide) (fun hc => ?_) (fun hc => ?_)
  · have hF := ok_it hc hF
    refine r_lload_n (i := 47) (k0 := 2) rfl rfl rfl ?_
    have hQ := hq _ (ok_some hF)
    exact r_lreturn (i := 48) rfl rfl hQ
  have hF := ok_if hc hF
  refine r_iload (i := 10) (k0 := 3) rfl rfl ?_
  refine r_iconst (v := 1) (i := 11) rfl ki_1 ?_
  refine r_iadd (i := 12) rfl ?_
  refine r_aload_n (i := 13) (k0 := 0) rfl rfl rfl ?_
  refine q_getr (b := 56) (i := 14) rfl fl_M_28 rfl (xm_in rfl hn) rfl rfl ?_
  refine r_iload_n (i := 15) (k0 := 1) rfl rfl rfl ?_
  obtain ⟨hi, hF⟩ := ok_gd hF
  refine q_iaload (i := 16) rfl (xm_in rfl hn) rfl hi ?_
  obtain ⟨hi, hF⟩ := ok_gd hF
  refine r_irem (i := 17) rfl hi ?_
  refine r_istore (i := 18) (Ls' := [(5, _), (0, _), (1, _), (2, _), (4, _)]) rfl (Nat.le_of_ble_eq_true rfl) rfl ?_
  refine r_lload_n (i := 19) (k0 := 3) rfl rfl rfl ?_
  refine r_aload_n (i := 20) (k0 := 1) rfl rfl rfl ?_
  refine r_iload_n (i := 21) (k0 := 2) rfl rfl rfl ?_
  refine r_iload (i := 22) (k0 := 4) rfl rfl ?_
  refine c_V2I (i := 23) rfl vm_M_cornerX lk_M_193 (t_M_cornerX hn (ok_bind hF)) (Nat.le_of_ble_eq_true rfl) (xm_in rfl hn) rfl rfl (Nat.le_of_ble_eq_true rfl) (fun p_2 hF => ?_)
  refine r_i2l (i := 24) rfl ?_
  refine r_aload_n (i := 25) (k0 := 1) rfl rfl rfl ?_
  refine r_iload_n (i := 26) (k0 := 2) rfl rfl rfl ?_
  refine r_iload (i := 27) (k0 := 0) rfl rfl ?_
  refine c_V2I (i := 28) rfl vm_M_cornerY lk_M_197 (t_M_cornerY hn (ok_bind hF)) (Nat.le_of_ble_eq_true rfl) (xm_in rfl hn) rfl rfl (Nat.le_of_ble_eq_true rfl) (fun p_3 hF => ?_)
  refine r_i2l (i := 29) rfl ?_
  refine r_lmul (i := 30) rfl ?_
  refine r_aload_n (i := 31) (k0 := 1) rfl rfl rfl ?_
  refine r_iload_n (i := 32) (k0 := 2) rfl rfl rfl ?_
  refine r_iload (i := 33) (k0 := 0) rfl rfl ?_
  refine c_V2I (i := 34) rfl vm_M_cornerX lk_M_193 (t_M_cornerX hn (ok_bind hF)) (Nat.le_of_ble_eq_true rfl) (xm_in rfl hn) rfl rfl (Nat.le_of_ble_eq_true rfl) (fun p_4 hF => ?_)
  refine r_i2l (i := 35) rfl ?_
  refine r_aload_n (i := 36) (k0 := 1) rfl rfl rfl ?_
  refine r_iload_n (i := 37) (k0 := 2) rfl rfl rfl ?_
  refine r_iload (i := 38) (k0 := 4) rfl rfl ?_
  refine c_V2I (i := 39) rfl vm_M_cornerY lk_M_197 (t_M_cornerY hn (ok_bind hF)) (Nat.le_of_ble_eq_true rfl) (xm_in rfl hn) rfl rfl (Nat.le_of_ble_eq_true rfl) (fun p_5 hF => ?_)
  refine r_i2l (i := 40) rfl ?_
  refine r_lmul (i := 41) rfl ?_
  refine r_lsub (i := 42) rfl ?_
  refine r_ladd (i := 43) rfl ?_
  refine r_lstore_n (i := 44) (Ls' := [(2, _), (5, _), (0, _), (1, _), (4, _)]) rfl rfl (Nat.le_of_ble_eq_true rfl) rfl ?_
  refine q_iinc (i := 45) (k0 := 4) (Ls' := [(4, _), (2, _), (5, _), (0, _), (1, _)]) rfl ki_1 rfl (Nat.le_of_ble_eq_true rfl) rfl ?_
  refine r_goto (i := 46) (tgt := 5) rfl (by decide) ?_
  refine xm_sub (Ls' := [(0, _), (1, _), (2, _), (4, _)]) [3, 4, 1, 0] rfl ?_
  have hJ := hg0 _ (ok_some hF)
  exact hJ
set_option maxHeartbeats 4000000 in
set_option maxRecDepth 100000 in
theorem t_M_measured_b5 {x1 : Int32} {s : Int64 × Int32} {n : Nat} {I : xm_I} {L : xm_L} {K : Int64 → Prop} {Q : Option Value → xm_H → Prop} (hn : 86 ≤ n) (hq : ∀ p : Int64, K p → Q (some (.long p)) (I, L, RC n, n)) (hF : ok (f_M_measured_b5 x1 I s) K) : xm_J 2 mt_M_measured 5 [(0, .ref 49), (1, .int x1), (2, .long s.1), (4, .int s.2)] [] (I, L, RC n, n) 0 0 Q :=
  lp_J (G := fun z => xm_J 2 mt_M_measured 5 [(0, .ref 49), (1, .int x1), (2, .long z.1), (4, .int z.2)] [] (I, L, RC n, n) 0 0 Q) (fun z hF => t_M_measured_s5 hn (fun p h => hq p h) (fun z h => h) hF) s hF
set_option maxHeartbeats 4000000 in
set_option maxRecDepth 100000 in
theorem t_M_measured_b0 {x1 : Int32} {n : Nat} {I : xm_I} {L : xm_L} {K : Int64 → Prop} {Q : Option Value → xm_H → Prop} (hn : 86 ≤ n) (hq : ∀ p : Int64, K p → Q (some (.long p)) (I, L, RC n, n)) (hF : ok (f_M_measured_b0 x1 I) K) : xm_J 2 mt_M_measured 0 [(0, .ref 49), (1, .int x1)] [] (I, L, RC n, n) 0 0 Q := by
  unfold f_M_measured_b0 at hF
  refine r_lconst (v := 0) (i := 0) rfl rfl ?_
  refine r_lstore_n (i := 1) (Ls' := [(2, _), (0, _), (1, _)]) rfl rfl (Nat.le_of_ble_eq_true rfl) rfl ?_
  refine r_iconst (v := 0) (i := 2) rfl ki_0 ?_
  refine r_istore (i := 3) (Ls' := [(4, _), (2, _), (0, _), (1, _)]) rfl (Nat.le_of_ble_eq_true rfl) rfl ?_
  refine xm_sub (Ls' := [(0, _), (1, _), (2, _), (4, _)]) [2, 3, 1, 0] rfl ?_
  exact t_M_measured_b5 hn (fun p h => hq p h) hF
set_option maxHeartbeats 4000000 in
set_option maxRecDepth 100000 in
theorem t_M_measured {x1 : Int32} {n : Nat} {I : xm_I} {L : xm_L} {K : Int64 → Prop} (hn : 86 ≤ n) (hF : ok (f_M_measured x1 I) K) : xm_C 2 mt_M_measured [.ref 49, .int x1] (I, L, RC n, n) 0 0 (pL (fun p : Int64 => p) (fun p : Int64 => (I, L, RC n, n)) K) := by
  unfold f_M_measured at hF
  refine xm_enter (by decide +kernel) dv_M_measured (Nat.le_of_ble_eq_true rfl) ?_
  exact t_M_measured_b0 hn (fun p hp => ⟨p, rfl, rfl, hp⟩) hF

noncomputable def f_M_isSame_b0 (x1 : Int32) (x2 : Int32) (x3 : Int32) (I : xm_I) : Option (Int32) :=
  (f_M_cornerX x1 x2 I).bind fun p_1 =>
  (f_M_cornerX x1 x3 I).bind fun p_2 =>
  if p_1 = p_2 then (
    (f_M_cornerY x1 x2 I).bind fun p_3 =>
    (f_M_cornerY x1 x3 I).bind fun p_4 =>
    if p_3 = p_4 then (
      some (1))
    else (
      some (0)))
  else (
    some (0))
noncomputable def f_M_isSame (x1 : Int32) (x2 : Int32) (x3 : Int32) (I : xm_I) : Option (Int32) := f_M_isSame_b0 x1 x2 x3 I
set_option maxHeartbeats 4000000 in
set_option maxRecDepth 100000 in
theorem t_M_isSame_b0 {x1 : Int32} {x2 : Int32} {x3 : Int32} {n : Nat} {I : xm_I} {L : xm_L} {K : Int32 → Prop} {Q : Option Value → xm_H → Prop} (hn : 86 ≤ n) (hq : ∀ p : Int32, K p → Q (some (.int p)) (I, L, RC n, n)) (hF : ok (f_M_isSame_b0 x1 x2 x3 I) K) : xm_J 2 mt_M_isSame 0 [(0, .ref 49), (1, .int x1), (2, .int x2), (3, .int x3)] [] (I, L, RC n, n) 0 0 Q := by
  unfold f_M_isSame_b0 at hF
  refine r_aload_n (i := 0) (k0 := 0) rfl rfl rfl ?_
  refine r_iload_n (i := 1) (k0 := 1) rfl rfl rfl ?_
  refine r_iload_n (i := 2) (k0 := 2) rfl rfl rfl ?_
  refine c_V2I (i := 3) rfl vm_M_cornerX lk_M_193 (t_M_cornerX hn (ok_bind hF)) (Nat.le_of_ble_eq_true rfl) (xm_in rfl hn) rfl rfl (Nat.le_of_ble_eq_true rfl) (fun p_1 hF => ?_)
  refine r_aload_n (i := 4) (k0 := 0) rfl rfl rfl ?_
  refine r_iload_n (i := 5) (k0 := 1) rfl rfl rfl ?_
  refine r_iload_n (i := 6) (k0 := 3) rfl rfl rfl ?_
  refine c_V2I (i := 7) rfl vm_M_cornerX lk_M_193 (t_M_cornerX hn (ok_bind hF)) (Nat.le_of_ble_eq_true rfl) (xm_in rfl hn) rfl rfl (Nat.le_of_ble_eq_true rfl) (fun p_2 hF => ?_)
  refine r_icmpne (i := 8) (tgt := 34) rfl (by decide) (fun hc => ?_) (fun hc => ?_)
  · have hF := ok_if hc hF
    refine r_iconst (v := 0) (i := 20) rfl ki_0 ?_
    have hQ := hq _ (ok_some hF)
    exact r_ireturn (i := 21) rfl rfl rfl hQ
  have hF := ok_it hc hF
  refine r_aload_n (i := 9) (k0 := 0) rfl rfl rfl ?_
  refine r_iload_n (i := 10) (k0 := 1) rfl rfl rfl ?_
  refine r_iload_n (i := 11) (k0 := 2) rfl rfl rfl ?_
  refine c_V2I (i := 12) rfl vm_M_cornerY lk_M_197 (t_M_cornerY hn (ok_bind hF)) (Nat.le_of_ble_eq_true rfl) (xm_in rfl hn) rfl rfl (Nat.le_of_ble_eq_true rfl) (fun p_3 hF => ?_)
  refine r_aload_n (i := 13) (k0 := 0) rfl rfl rfl ?_
  refine r_iload_n (i := 14) (k0 := 1) rfl rfl rfl ?_
  refine r_iload_n (i := 15) (k0 := 3) rfl rfl rfl ?_
  refine c_V2I (i := 16) rfl vm_M_cornerY lk_M_197 (t_M_cornerY hn (ok_bind hF)) (Nat.le_of_ble_eq_true rfl) (xm_in rfl hn) rfl rfl (Nat.le_of_ble_eq_true rfl) (fun p_4 hF => ?_)
  refine r_icmpne (i := 17) (tgt := 34) rfl (by decide) (fun hc => ?_) (fun hc => ?_)
  · have hF := ok_if hc hF
    refine r_iconst (v := 0) (i := 20) rfl ki_0 ?_
    have hQ := hq _ (ok_some hF)
    exact r_ireturn (i := 21) rfl rfl rfl hQ
  have hF := ok_it hc hF
  refine r_iconst (v := 1) (i := 18) rfl ki_1 ?_
  refine r_goto (i := 19) (tgt := 35) rfl (by decide) ?_
  have hQ := hq _ (ok_some hF)
  exact r_ireturn (i := 21) rfl rfl rfl hQ
set_option maxHeartbeats 4000000 in
set_option maxRecDepth 100000 in
theorem t_M_isSame {x1 : Int32} {x2 : Int32} {x3 : Int32} {n : Nat} {I : xm_I} {L : xm_L} {K : Int32 → Prop} (hn : 86 ≤ n) (hF : ok (f_M_isSame x1 x2 x3 I) K) : xm_C 2 mt_M_isSame [.ref 49, .int x1, .int x2, .int x3] (I, L, RC n, n) 0 0 (pI (fun p : Int32 => p) (fun p : Int32 => (I, L, RC n, n)) K) := by
  unfold f_M_isSame at hF
  refine xm_enter (by decide +kernel) dv_M_isSame (Nat.le_of_ble_eq_true rfl) ?_
  exact t_M_isSame_b0 hn (fun p hp => ⟨p, rfl, rfl, hp⟩) hF

noncomputable def f_M_isFallen_b0 (x1 : Int32) (I : xm_I) : Option (Int32) :=
  gd (0 ≤ (x1).toInt ∧ (x1).toInt < 40) <|
  if (I 54 (Int32.toNatClampNeg x1)) = 0 then (
    some (0))
  else (
  if (I 54 (Int32.toNatClampNeg x1)) = 5 then (
    (f_M_isSame x1 0 1 I).bind fun p_1 =>
    if p_1 = 0 then (
      (f_M_isSame x1 2 1 I).bind fun p_2 =>
      if p_2 = 0 then (
        some (0))
      else (
      some (1)))
    else (
      some (1)))
  else (
  if (I 54 (Int32.toNatClampNeg x1)) = 7 then (
    (f_M_measured x1 I).bind fun p_3 =>
    if p_3 = 0 then (
      some (1))
    else (
      some (0)))
  else (
  (f_M_isSame x1 0 1 I).bind fun p_4 =>
  gd (p_4 &&& 1 = p_4) <|
  some (p_4))))
noncomputable def f_M_isFallen (x1 : Int32) (I : xm_I) : Option (Int32) := f_M_isFallen_b0 x1 I
set_option maxHeartbeats 4000000 in
set_option maxRecDepth 100000 in
theorem t_M_isFallen_b0 {x1 : Int32} {n : Nat} {I : xm_I} {L : xm_L} {K : Int32 → Prop} {Q : Option Value → xm_H → Prop} (hn : 86 ≤ n) (hq : ∀ p : Int32, K p → Q (some (.int p)) (I, L, RC n, n)) (hF : ok (f_M_isFallen_b0 x1 I) K) : xm_J 3 mt_M_isFallen 0 [(0, .ref 49), (1, .int x1)] [] (I, L, RC n, n) 0 0 Q := by
  unfold f_M_isFallen_b0 at hF
  refine r_aload_n (i := 0) (k0 := 0) rfl rfl rfl ?_
  refine q_getr (b := 54) (i := 1) rfl fl_M_22 rfl (xm_in rfl hn) rfl rfl ?_
  refine r_iload_n (i := 2) (k0 := 1) rfl rfl rfl ?_
  obtain ⟨hi, hF⟩ := ok_gd hF
  refine q_iaload (i := 3) rfl (xm_in rfl hn) rfl hi ?_
  refine r_case 0 (fun hc0 => ?_) (fun hc0 => ?_)
  · have hF := ok_it hc0 hF
    refine r_ls (i := 4) (tgt := 40) rfl rfl rfl (by decide) ?_
    refine r_iconst (v := 0) (i := 5) rfl ki_0 ?_
    have hQ := hq _ (ok_some hF)
    exact r_ireturn (i := 6) rfl rfl rfl hQ
  have hF := ok_if hc0 hF
  refine r_case 5 (fun hc1 => ?_) (fun hc1 => ?_)
  · have hF := ok_it hc1 hF
    refine r_ls (i := 4) (tgt := 42) rfl rfl rfl (by decide) ?_
    refine r_aload_n (i := 7) (k0 := 0) rfl rfl rfl ?_
    refine r_iload_n (i := 8) (k0 := 1) rfl rfl rfl ?_
    refine r_iconst (v := 0) (i := 9) rfl ki_0 ?_
    refine r_iconst (v := 1) (i := 10) rfl ki_1 ?_
    refine c_V3I (i := 11) rfl vm_M_isSame lk_M_200 (t_M_isSame hn (ok_bind hF)) (Nat.le_of_ble_eq_true rfl) (xm_in rfl hn) rfl rfl (Nat.le_of_ble_eq_true rfl) (fun p_1 hF => ?_)
    refine r_ifne (i := 12) (tgt := 62) rfl (by decide) (fun hc => ?_) (fun hc => ?_)
    · have hF := ok_if hc hF
      refine r_iconst (v := 1) (i := 19) rfl ki_1 ?_
      refine r_goto (i := 20) (tgt := 67) rfl (by decide) ?_
      have hQ := hq _ (ok_some hF)
      exact r_ireturn (i := 22) rfl rfl rfl hQ
    have hF := ok_it hc hF
    refine r_aload_n (i := 13) (k0 := 0) rfl rfl rfl ?_
    refine r_iload_n (i := 14) (k0 := 1) rfl rfl rfl ?_
    refine r_iconst (v := 2) (i := 15) rfl ki_2 ?_
    refine r_iconst (v := 1) (i := 16) rfl ki_1 ?_
    refine c_V3I (i := 17) rfl vm_M_isSame lk_M_200 (t_M_isSame hn (ok_bind hF)) (Nat.le_of_ble_eq_true rfl) (xm_in rfl hn) rfl rfl (Nat.le_of_ble_eq_true rfl) (fun p_2 hF => ?_)
    refine r_ifeq (i := 18) (tgt := 66) rfl (by decide) (fun hc => ?_) (fun hc => ?_)
    · have hF := ok_it hc hF
      refine r_iconst (v := 0) (i := 21) rfl ki_0 ?_
      have hQ := hq _ (ok_some hF)
      exact r_ireturn (i := 22) rfl rfl rfl hQ
    have hF := ok_if hc hF
    refine r_iconst (v := 1) (i := 19) rfl ki_1 ?_
    refine r_goto (i := 20) (tgt := 67) rfl (by decide) ?_
    have hQ := hq _ (ok_some hF)
    exact r_ireturn (i := 22) rfl rfl rfl hQ
  have hF := ok_if hc1 hF
  refine r_case 7 (fun hc2 => ?_) (fun hc2 => ?_)
  · have hF := ok_it hc2 hF
    refine r_ls (i := 4) (tgt := 68) rfl rfl rfl (by decide) ?_
    refine r_aload_n (i := 23) (k0 := 0) rfl rfl rfl ?_
    refine r_iload_n (i := 24) (k0 := 1) rfl rfl rfl ?_
    refine c_V1L (i := 25) rfl vm_M_measured lk_M_204 (t_M_measured hn (ok_bind hF)) (Nat.le_of_ble_eq_true rfl) (xm_in rfl hn) rfl rfl (Nat.le_of_ble_eq_true rfl) (fun p_3 hF => ?_)
    refine r_lconst (v := 0) (i := 26) rfl rfl ?_
    refine r_lcmpne (i := 27) (j := 28) (tgt := 82) rfl rfl (by decide) (fun hc => ?_) (fun hc => ?_)
    · have hF := ok_if hc hF
      refine r_iconst (v := 0) (i := 31) rfl ki_0 ?_
      have hQ := hq _ (ok_some hF)
      exact r_ireturn (i := 32) rfl rfl rfl hQ
    have hF := ok_it hc hF
    refine r_iconst (v := 1) (i := 29) rfl ki_1 ?_
    refine r_goto (i := 30) (tgt := 83) rfl (by decide) ?_
    have hQ := hq _ (ok_some hF)
    exact r_ireturn (i := 32) rfl rfl rfl hQ
  have hF := ok_if hc2 hF
  refine r_ls (i := 4) (off := 78) (tgt := 84) rfl rfl (by rw [lv_osw hc0 (by decide), lv_osw hc1 (by decide), lv_osw hc2 (by decide)] <;> rfl) (by decide) ?_
  refine r_aload_n (i := 33) (k0 := 0) rfl rfl rfl ?_
  refine r_iload_n (i := 34) (k0 := 1) rfl rfl rfl ?_
  refine r_iconst (v := 0) (i := 35) rfl ki_0 ?_
  refine r_iconst (v := 1) (i := 36) rfl ki_1 ?_
  refine c_V3I (i := 37) rfl vm_M_isSame lk_M_200 (t_M_isSame hn (ok_bind hF)) (Nat.le_of_ble_eq_true rfl) (xm_in rfl hn) rfl rfl (Nat.le_of_ble_eq_true rfl) (fun p_4 hF => ?_)
  obtain ⟨hi, hF⟩ := ok_gd hF
  have hQ := hq _ (ok_some hF)
  exact r_ireturn (i := 38) rfl rfl (congrArg Value.int hi) hQ
set_option maxHeartbeats 4000000 in
set_option maxRecDepth 100000 in
theorem t_M_isFallen {x1 : Int32} {n : Nat} {I : xm_I} {L : xm_L} {K : Int32 → Prop} (hn : 86 ≤ n) (hF : ok (f_M_isFallen x1 I) K) : xm_C 3 mt_M_isFallen [.ref 49, .int x1] (I, L, RC n, n) 0 0 (pI (fun p : Int32 => p) (fun p : Int32 => (I, L, RC n, n)) K) := by
  unfold f_M_isFallen at hF
  refine xm_enter (by decide +kernel) dv_M_isFallen (Nat.le_of_ble_eq_true rfl) ?_
  exact t_M_isFallen_b0 hn (fun p hp => ⟨p, rfl, rfl, hp⟩) hF

noncomputable def f_M_fallen_b0 (x1 : Int32) (I : xm_I) : Option (Int32) :=
  (f_M_isObject x1 I).bind fun p_1 =>
  if p_1 = 0 then (
    some ((-100001)))
  else (
    (f_M_isFallen x1 I).bind fun p_2 =>
    if p_2 = 0 then (
      some (0))
    else (
    some (1)))
noncomputable def f_M_fallen (x1 : Int32) (I : xm_I) : Option (Int32) := f_M_fallen_b0 x1 I
set_option maxHeartbeats 4000000 in
set_option maxRecDepth 100000 in
theorem t_M_fallen_b0 {x1 : Int32} {n : Nat} {I : xm_I} {L : xm_L} {K : Int32 → Prop} {Q : Option Value → xm_H → Prop} (hn : 86 ≤ n) (hq : ∀ p : Int32, K p → Q (some (.int p)) (I, L, RC n, n)) (hF : ok (f_M_fallen_b0 x1 I) K) : xm_J 4 mt_M_fallen 0 [(0, .ref 49), (1, .int x1)] [] (I, L, RC n, n) 0 0 Q := by
  unfold f_M_fallen_b0 at hF
  refine r_aload_n (i := 0) (k0 := 0) rfl rfl rfl ?_
  refine r_iload_n (i := 1) (k0 := 1) rfl rfl rfl ?_
  refine c_V1I (i := 2) rfl vm_M_isObject lk_M_186 (t_M_isObject hn (ok_bind hF)) (Nat.le_of_ble_eq_true rfl) (xm_in rfl hn) rfl rfl (Nat.le_of_ble_eq_true rfl) (fun p_1 hF => ?_)
  refine r_ifne (i := 3) (tgt := 13) rfl (by decide) (fun hc => ?_) (fun hc => ?_)
  · have hF := ok_if hc hF
    refine r_aload_n (i := 6) (k0 := 0) rfl rfl rfl ?_
    refine r_iload_n (i := 7) (k0 := 1) rfl rfl rfl ?_
    refine c_V1I (i := 8) rfl vm_M_isFallen lk_M_208 (t_M_isFallen hn (ok_bind hF)) (Nat.le_of_ble_eq_true rfl) (xm_in rfl hn) rfl rfl (Nat.le_of_ble_eq_true rfl) (fun p_2 hF => ?_)
    refine r_ifeq (i := 9) (tgt := 25) rfl (by decide) (fun hc => ?_) (fun hc => ?_)
    · have hF := ok_it hc hF
      refine r_iconst (v := 0) (i := 12) rfl ki_0 ?_
      have hQ := hq _ (ok_some hF)
      exact r_ireturn (i := 13) rfl rfl rfl hQ
    have hF := ok_if hc hF
    refine r_iconst (v := 1) (i := 10) rfl ki_1 ?_
    refine r_goto (i := 11) (tgt := 26) rfl (by decide) ?_
    have hQ := hq _ (ok_some hF)
    exact r_ireturn (i := 13) rfl rfl rfl hQ
  have hF := ok_it hc hF
  refine r_ldc (i := 4) rfl ct_M_160 ?_
  refine r_goto (i := 5) (tgt := 26) rfl (by decide) ?_
  have hQ := hq _ (ok_some hF)
  exact r_ireturn (i := 13) rfl rfl rfl hQ
set_option maxHeartbeats 4000000 in
set_option maxRecDepth 100000 in
theorem t_M_fallen {x1 : Int32} {n : Nat} {I : xm_I} {L : xm_L} {K : Int32 → Prop} (hn : 86 ≤ n) (hF : ok (f_M_fallen x1 I) K) : xm_C 4 mt_M_fallen [.ref 49, .int x1] (I, L, RC n, n) 0 0 (pI (fun p : Int32 => p) (fun p : Int32 => (I, L, RC n, n)) K) := by
  unfold f_M_fallen at hF
  refine xm_enter (by decide +kernel) dv_M_fallen (Nat.le_of_ble_eq_true rfl) ?_
  exact t_M_fallen_b0 hn (fun p hp => ⟨p, rfl, rfl, hp⟩) hF

noncomputable def f_M_measure_b0 (x1 : Int32) (I : xm_I) : Option (Int64) :=
  (f_M_isObject x1 I).bind fun p_1 =>
  if p_1 = 0 then (
    some ((-100001)))
  else (
    gd (0 ≤ (x1).toInt ∧ (x1).toInt < 40) <|
    if (I 54 (Int32.toNatClampNeg x1)) = 7 then (
      (f_M_measured x1 I).bind fun p_2 =>
      some (p_2))
    else (
      some (0)))
noncomputable def f_M_measure (x1 : Int32) (I : xm_I) : Option (Int64) := f_M_measure_b0 x1 I
set_option maxHeartbeats 4000000 in
set_option maxRecDepth 100000 in
theorem t_M_measure_b0 {x1 : Int32} {n : Nat} {I : xm_I} {L : xm_L} {K : Int64 → Prop} {Q : Option Value → xm_H → Prop} (hn : 86 ≤ n) (hq : ∀ p : Int64, K p → Q (some (.long p)) (I, L, RC n, n)) (hF : ok (f_M_measure_b0 x1 I) K) : xm_J 3 mt_M_measure 0 [(0, .ref 49), (1, .int x1)] [] (I, L, RC n, n) 0 0 Q := by
  unfold f_M_measure_b0 at hF
  refine r_aload_n (i := 0) (k0 := 0) rfl rfl rfl ?_
  refine r_iload_n (i := 1) (k0 := 1) rfl rfl rfl ?_
  refine c_V1I (i := 2) rfl vm_M_isObject lk_M_186 (t_M_isObject hn (ok_bind hF)) (Nat.le_of_ble_eq_true rfl) (xm_in rfl hn) rfl rfl (Nat.le_of_ble_eq_true rfl) (fun p_1 hF => ?_)
  refine r_ifne (i := 3) (tgt := 14) rfl (by decide) (fun hc => ?_) (fun hc => ?_)
  · have hF := ok_if hc hF
    refine r_aload_n (i := 6) (k0 := 0) rfl rfl rfl ?_
    refine q_getr (b := 54) (i := 7) rfl fl_M_22 rfl (xm_in rfl hn) rfl rfl ?_
    refine r_iload_n (i := 8) (k0 := 1) rfl rfl rfl ?_
    obtain ⟨hi, hF⟩ := ok_gd hF
    refine q_iaload (i := 9) rfl (xm_in rfl hn) rfl hi ?_
    refine r_bipush (v := 7) (i := 10) rfl kb_7 ?_
    refine r_icmpne (i := 11) (tgt := 33) rfl (by decide) (fun hc => ?_) (fun hc => ?_)
    · have hF := ok_if hc hF
      refine r_lconst (v := 0) (i := 16) rfl rfl ?_
      have hQ := hq _ (ok_some hF)
      exact r_lreturn (i := 17) rfl rfl hQ
    have hF := ok_it hc hF
    refine r_aload_n (i := 12) (k0 := 0) rfl rfl rfl ?_
    refine r_iload_n (i := 13) (k0 := 1) rfl rfl rfl ?_
    refine c_V1L (i := 14) rfl vm_M_measured lk_M_204 (t_M_measured hn (ok_bind hF)) (Nat.le_of_ble_eq_true rfl) (xm_in rfl hn) rfl rfl (Nat.le_of_ble_eq_true rfl) (fun p_2 hF => ?_)
    refine r_goto (i := 15) (tgt := 34) rfl (by decide) ?_
    have hQ := hq _ (ok_some hF)
    exact r_lreturn (i := 17) rfl rfl hQ
  have hF := ok_it hc hF
  refine r_ldc2 (i := 4) rfl ct_M_211 ?_
  refine r_goto (i := 5) (tgt := 34) rfl (by decide) ?_
  have hQ := hq _ (ok_some hF)
  exact r_lreturn (i := 17) rfl rfl hQ
set_option maxHeartbeats 4000000 in
set_option maxRecDepth 100000 in
theorem t_M_measure {x1 : Int32} {n : Nat} {I : xm_I} {L : xm_L} {K : Int64 → Prop} (hn : 86 ≤ n) (hF : ok (f_M_measure x1 I) K) : xm_C 3 mt_M_measure [.ref 49, .int x1] (I, L, RC n, n) 0 0 (pL (fun p : Int64 => p) (fun p : Int64 => (I, L, RC n, n)) K) := by
  unfold f_M_measure at hF
  refine xm_enter (by decide +kernel) dv_M_measure (Nat.le_of_ble_eq_true rfl) ?_
  exact t_M_measure_b0 hn (fun p hp => ⟨p, rfl, rfl, hp⟩) hF

noncomputable def f_M_isSide_b0 (x0 : Int32) : Option (Int32) :=
  if x0 < ((-40000)) then (
    some (0))
  else (
  if 40000 < x0 then (
    some (0))
  else (
  some (1)))
noncomputable def f_M_isSide (x0 : Int32) : Option (Int32) := f_M_isSide_b0 x0
set_option maxHeartbeats 4000000 in
set_option maxRecDepth 100000 in
theorem t_M_isSide_b0 {x0 : Int32} {n : Nat} {I : xm_I} {L : xm_L} {K : Int32 → Prop} {Q : Option Value → xm_H → Prop} (hn : 86 ≤ n) (hq : ∀ p : Int32, K p → Q (some (.int p)) (I, L, RC n, n)) (hF : ok (f_M_isSide_b0 x0) K) : xm_J 0 mt_M_isSide 0 [(0, .int x0)] [] (I, L, RC n, n) 0 0 Q := by
  unfold f_M_isSide_b0 at hF
  refine r_iload_n (i := 0) (k0 := 0) rfl rfl rfl ?_
  refine r_ldc (i := 1) rfl ct_M_213 ?_
  refine r_icmplt (i := 2) (tgt := 16) rfl (by decide) (fun hc => ?_) (fun hc => ?_)
  · have hF := ok_it hc hF
    refine r_iconst (v := 0) (i := 8) rfl ki_0 ?_
    have hQ := hq _ (ok_some hF)
    exact r_ireturn (i := 9) rfl rfl rfl hQ
  have hF := ok_if hc hF
  refine r_iload_n (i := 3) (k0 := 0) rfl rfl rfl ?_
  refine r_ldc (i := 4) rfl ct_M_214 ?_
  refine r_icmpgt (i := 5) (tgt := 16) rfl (by decide) (fun hc => ?_) (fun hc => ?_)
  · have hF := ok_it hc hF
    refine r_iconst (v := 0) (i := 8) rfl ki_0 ?_
    have hQ := hq _ (ok_some hF)
    exact r_ireturn (i := 9) rfl rfl rfl hQ
  have hF := ok_if hc hF
  refine r_iconst (v := 1) (i := 6) rfl ki_1 ?_
  refine r_goto (i := 7) (tgt := 17) rfl (by decide) ?_
  have hQ := hq _ (ok_some hF)
  exact r_ireturn (i := 9) rfl rfl rfl hQ
set_option maxHeartbeats 4000000 in
set_option maxRecDepth 100000 in
theorem t_M_isSide {x0 : Int32} {n : Nat} {I : xm_I} {L : xm_L} {K : Int32 → Prop} (hn : 86 ≤ n) (hF : ok (f_M_isSide x0) K) : xm_C 0 mt_M_isSide [.int x0] (I, L, RC n, n) 0 0 (pI (fun p : Int32 => p) (fun p : Int32 => (I, L, RC n, n)) K) := by
  unfold f_M_isSide at hF
  refine xm_enter (by decide +kernel) dv_M_isSide (Nat.le_of_ble_eq_true rfl) ?_
  exact t_M_isSide_b0 hn (fun p hp => ⟨p, rfl, rfl, hp⟩) hF

noncomputable def f_M_window_b0 (x1 : Int32) (x2 : Int32) (x3 : Int32) (x4 : Int32) (I : xm_I) : Option (Int32 × xm_I) :=
  (f_M_isSide x1).bind fun p_1 =>
  if p_1 = 0 then (
    some ((-100002), I))
  else (
  (f_M_isSide x2).bind fun p_2 =>
  if p_2 = 0 then (
    some ((-100002), I))
  else (
  (f_M_isSide x3).bind fun p_3 =>
  if p_3 = 0 then (
    some ((-100002), I))
  else (
  (f_M_isSide x4).bind fun p_4 =>
  if p_4 = 0 then (
    some ((-100002), I))
  else (
  if x2 < x1 then (
    some ((-100002), I))
  else (
  if x3 ≤ x4 then (
    let I_5 : xm_I := up2 I 49 15 x1
    let I_6 : xm_I := up2 I_5 49 16 x2
    let I_7 : xm_I := up2 I_6 49 17 x3
    let I_8 : xm_I := up2 I_7 49 18 x4
    some (1, I_8))
  else (
  some ((-100002), I)))))))
noncomputable def f_M_window (x1 : Int32) (x2 : Int32) (x3 : Int32) (x4 : Int32) (I : xm_I) : Option (Int32 × xm_I) := f_M_window_b0 x1 x2 x3 x4 I
set_option maxHeartbeats 4000000 in
set_option maxRecDepth 100000 in
theorem t_M_window_b0 {x1 : Int32} {x2 : Int32} {x3 : Int32} {x4 : Int32} {n : Nat} {I : xm_I} {L : xm_L} {K : Int32 × xm_I → Prop} {Q : Option Value → xm_H → Prop} (hn : 86 ≤ n) (hq : ∀ p : Int32 × xm_I, K p → Q (some (.int p.1)) (p.2, L, RC n, n)) (hF : ok (f_M_window_b0 x1 x2 x3 x4 I) K) : xm_J 1 mt_M_window 0 [(0, .ref 49), (1, .int x1), (2, .int x2), (3, .int x3), (4, .int x4)] [] (I, L, RC n, n) 0 0 Q := by
  unfold f_M_window_b0 at hF
  refine r_iload_n (i := 0) (k0 := 1) rfl rfl rfl ?_
  refine c_S1I (i := 1) rfl sm_M_isSide lk_M_215 (t_M_isSide hn (ok_bind hF)) (Nat.le_of_ble_eq_true rfl) rfl (Nat.le_of_ble_eq_true rfl) (fun p_1 hF => ?_)
  refine r_ifeq (i := 2) (tgt := 40) rfl (by decide) (fun hc => ?_) (fun hc => ?_)
  · have hF := ok_it hc hF
    refine r_ldc (i := 18) rfl ct_M_154 ?_
    have hQ := hq _ (ok_some hF)
    exact r_ireturn (i := 19) rfl rfl rfl hQ
  have hF := ok_if hc hF
  refine r_iload_n (i := 3) (k0 := 2) rfl rfl rfl ?_
  refine c_S1I (i := 4) rfl sm_M_isSide lk_M_215 (t_M_isSide hn (ok_bind hF)) (Nat.le_of_ble_eq_true rfl) rfl (Nat.le_of_ble_eq_true rfl) (fun p_2 hF => ?_)
  refine r_ifeq (i := 5) (tgt := 40) rfl (by decide) (fun hc => ?_) (fun hc => ?_)
  · have hF := ok_it hc hF
    refine r_ldc (i := 18) rfl ct_M_154 ?_
    have hQ := hq _ (ok_some hF)
    exact r_ireturn (i := 19) rfl rfl rfl hQ
  have hF := ok_if hc hF
  refine r_iload_n (i := 6) (k0 := 3) rfl rfl rfl ?_
  refine c_S1I (i := 7) rfl sm_M_isSide lk_M_215 (t_M_isSide hn (ok_bind hF)) (Nat.le_of_ble_eq_true rfl) rfl (Nat.le_of_ble_eq_true rfl) (fun p_3 hF => ?_)
  refine r_ifeq (i := 8) (tgt := 40) rfl (by decide) (fun hc => ?_) (fun hc => ?_)
  · have hF := ok_it hc hF
    refine r_ldc (i := 18) rfl ct_M_154 ?_
    have hQ := hq _ (ok_some hF)
    exact r_ireturn (i := 19) rfl rfl rfl hQ
  have hF := ok_if hc hF
  refine r_iload (i := 9) (k0 := 4) rfl rfl ?_
  refine c_S1I (i := 10) rfl sm_M_isSide lk_M_215 (t_M_isSide hn (ok_bind hF)) (Nat.le_of_ble_eq_true rfl) rfl (Nat.le_of_ble_eq_true rfl) (fun p_4 hF => ?_)
  refine r_ifeq (i := 11) (tgt := 40) rfl (by decide) (fun hc => ?_) (fun hc => ?_)
  · have hF := ok_it hc hF
    refine r_ldc (i := 18) rfl ct_M_154 ?_
    have hQ := hq _ (ok_some hF)
    exact r_ireturn (i := 19) rfl rfl rfl hQ
  have hF := ok_if hc hF
  refine r_iload_n (i := 12) (k0 := 1) rfl rfl rfl ?_
  refine r_iload_n (i := 13) (k0 := 2) rfl rfl rfl ?_
  refine r_icmpgt (i := 14) (tgt := 40) rfl (by decide) (fun hc => ?_) (fun hc => ?_)
  · have hF := ok_it hc hF
    refine r_ldc (i := 18) rfl ct_M_154 ?_
    have hQ := hq _ (ok_some hF)
    exact r_ireturn (i := 19) rfl rfl rfl hQ
  have hF := ok_if hc hF
  refine r_iload_n (i := 15) (k0 := 3) rfl rfl rfl ?_
  refine r_iload (i := 16) (k0 := 4) rfl rfl ?_
  refine r_icmple (i := 17) (tgt := 43) rfl (by decide) (fun hc => ?_) (fun hc => ?_)
  · have hF := ok_it hc hF
    refine r_aload_n (i := 20) (k0 := 0) rfl rfl rfl ?_
    refine r_iload_n (i := 21) (k0 := 1) rfl rfl rfl ?_
    refine q_puti (i := 22) rfl fl_M_218 (fun h => Bool.noConfusion h) (xm_in rfl hn) rfl ?_
    refine r_aload_n (i := 23) (k0 := 0) rfl rfl rfl ?_
    refine r_iload_n (i := 24) (k0 := 2) rfl rfl rfl ?_
    refine q_puti (i := 25) rfl fl_M_44 (fun h => Bool.noConfusion h) (xm_in rfl hn) rfl ?_
    refine r_aload_n (i := 26) (k0 := 0) rfl rfl rfl ?_
    refine r_iload_n (i := 27) (k0 := 3) rfl rfl rfl ?_
    refine q_puti (i := 28) rfl fl_M_221 (fun h => Bool.noConfusion h) (xm_in rfl hn) rfl ?_
    refine r_aload_n (i := 29) (k0 := 0) rfl rfl rfl ?_
    refine r_iload (i := 30) (k0 := 4) rfl rfl ?_
    refine q_puti (i := 31) rfl fl_M_48 (fun h => Bool.noConfusion h) (xm_in rfl hn) rfl ?_
    refine r_iconst (v := 1) (i := 32) rfl ki_1 ?_
    have hQ := hq _ (ok_some hF)
    exact r_ireturn (i := 33) rfl rfl rfl hQ
  have hF := ok_if hc hF
  refine r_ldc (i := 18) rfl ct_M_154 ?_
  have hQ := hq _ (ok_some hF)
  exact r_ireturn (i := 19) rfl rfl rfl hQ
set_option maxHeartbeats 4000000 in
set_option maxRecDepth 100000 in
theorem t_M_window {x1 : Int32} {x2 : Int32} {x3 : Int32} {x4 : Int32} {n : Nat} {I : xm_I} {L : xm_L} {K : Int32 × xm_I → Prop} (hn : 86 ≤ n) (hF : ok (f_M_window x1 x2 x3 x4 I) K) : xm_C 1 mt_M_window [.ref 49, .int x1, .int x2, .int x3, .int x4] (I, L, RC n, n) 0 0 (pI (fun p : Int32 × xm_I => p.1) (fun p : Int32 × xm_I => (p.2, L, RC n, n)) K) := by
  unfold f_M_window at hF
  refine xm_enter (by decide +kernel) dv_M_window (Nat.le_of_ble_eq_true rfl) ?_
  exact t_M_window_b0 hn (fun p hp => ⟨p, rfl, rfl, hp⟩) hF

noncomputable def f_M_fit_b180 (x1 : Int32) (x2 : Int32) (x3 : Int32) (x4 : Int32) (x5 : Int32) (x6 : Int32) (I : xm_I) : Option ((Int32 × Int32 × Int32 × Int32 × Int32 × Int32) ⊕ (Int32 × xm_I)) :=
  let x6_1 : Int32 := x6 + 1
  some (.inl (x1, x2, x3, x4, x5, x6_1))
noncomputable def f_M_fit_b169 (x1 : Int32) (x2 : Int32) (x3 : Int32) (x4 : Int32) (x6 : Int32) (x7 : Int32) (y0 : Int32) (I : xm_I) : Option ((Int32 × Int32 × Int32 × Int32 × Int32) ⊕ ((Int32 × Int32 × Int32 × Int32 × Int32 × Int32) ⊕ (Int32 × xm_I))) :=
  let x7_1 : Int32 := x7 + 1
  some (.inl (x2, x3, x4, y0, x7_1))
noncomputable def f_M_fit_b162 (x1 : Int32) (x2 : Int32) (x3 : Int32) (x4 : Int32) (x6 : Int32) (x7 : Int32) (x9 : Int32) (I : xm_I) : Option ((Int32 × Int32 × Int32 × Int32 × Int32) ⊕ ((Int32 × Int32 × Int32 × Int32 × Int32 × Int32) ⊕ (Int32 × xm_I))) :=
  f_M_fit_b169 x1 x2 x3 x4 x6 x7 x9 I
noncomputable def f_M_fit_b148 (x1 : Int32) (x2 : Int32) (x3 : Int32) (x5 : Int32) (x6 : Int32) (x7 : Int32) (x9 : Int32) (x10 : Int32) (y0 : Int32) (I : xm_I) : Option ((Int32 × Int32 × Int32 × Int32 × Int32) ⊕ ((Int32 × Int32 × Int32 × Int32 × Int32 × Int32) ⊕ (Int32 × xm_I))) :=
  if x10 = 0 then (
    if x9 ≤ x5 then (
      f_M_fit_b169 x1 x2 x3 y0 x6 x7 x5 I)
    else (
    f_M_fit_b162 x1 x2 x3 y0 x6 x7 x9 I))
  else (
    f_M_fit_b162 x1 x2 x3 y0 x6 x7 x9 I)
noncomputable def f_M_fit_b141 (x1 : Int32) (x2 : Int32) (x3 : Int32) (x5 : Int32) (x6 : Int32) (x7 : Int32) (x9 : Int32) (x10 : Int32) (I : xm_I) : Option ((Int32 × Int32 × Int32 × Int32 × Int32) ⊕ ((Int32 × Int32 × Int32 × Int32 × Int32 × Int32) ⊕ (Int32 × xm_I))) :=
  f_M_fit_b148 x1 x2 x3 x5 x6 x7 x9 x10 x9 I
noncomputable def f_M_fit_b128 (x1 : Int32) (x2 : Int32) (x4 : Int32) (x5 : Int32) (x6 : Int32) (x7 : Int32) (x9 : Int32) (x10 : Int32) (y0 : Int32) (I : xm_I) : Option ((Int32 × Int32 × Int32 × Int32 × Int32) ⊕ ((Int32 × Int32 × Int32 × Int32 × Int32 × Int32) ⊕ (Int32 × xm_I))) :=
  if x10 = 0 then (
    if x4 ≤ x9 then (
      f_M_fit_b148 x1 x2 y0 x5 x6 x7 x9 x10 x4 I)
    else (
    f_M_fit_b141 x1 x2 y0 x5 x6 x7 x9 x10 I))
  else (
    f_M_fit_b141 x1 x2 y0 x5 x6 x7 x9 x10 I)
noncomputable def f_M_fit_b122 (x1 : Int32) (x2 : Int32) (x4 : Int32) (x5 : Int32) (x6 : Int32) (x7 : Int32) (x8 : Int32) (x9 : Int32) (x10 : Int32) (I : xm_I) : Option ((Int32 × Int32 × Int32 × Int32 × Int32) ⊕ ((Int32 × Int32 × Int32 × Int32 × Int32 × Int32) ⊕ (Int32 × xm_I))) :=
  f_M_fit_b128 x1 x2 x4 x5 x6 x7 x9 x10 x8 I
noncomputable def f_M_fit_b110 (x1 : Int32) (x3 : Int32) (x4 : Int32) (x5 : Int32) (x6 : Int32) (x7 : Int32) (x8 : Int32) (x9 : Int32) (x10 : Int32) (y0 : Int32) (I : xm_I) : Option ((Int32 × Int32 × Int32 × Int32 × Int32) ⊕ ((Int32 × Int32 × Int32 × Int32 × Int32 × Int32) ⊕ (Int32 × xm_I))) :=
  if x10 = 0 then (
    if x8 ≤ x3 then (
      f_M_fit_b128 x1 y0 x4 x5 x6 x7 x9 x10 x3 I)
    else (
    f_M_fit_b122 x1 y0 x4 x5 x6 x7 x8 x9 x10 I))
  else (
    f_M_fit_b122 x1 y0 x4 x5 x6 x7 x8 x9 x10 I)
noncomputable def f_M_fit_b104 (x1 : Int32) (x3 : Int32) (x4 : Int32) (x5 : Int32) (x6 : Int32) (x7 : Int32) (x8 : Int32) (x9 : Int32) (x10 : Int32) (I : xm_I) : Option ((Int32 × Int32 × Int32 × Int32 × Int32) ⊕ ((Int32 × Int32 × Int32 × Int32 × Int32 × Int32) ⊕ (Int32 × xm_I))) :=
  f_M_fit_b110 x1 x3 x4 x5 x6 x7 x8 x9 x10 x8 I
noncomputable def f_M_fit_b91 (x1 : Int32) (x2 : Int32) (x3 : Int32) (x4 : Int32) (x5 : Int32) (x6 : Int32) (x7 : Int32) (x8 : Int32) (x9 : Int32) (y0 : Int32) (I : xm_I) : Option ((Int32 × Int32 × Int32 × Int32 × Int32) ⊕ ((Int32 × Int32 × Int32 × Int32 × Int32 × Int32) ⊕ (Int32 × xm_I))) :=
  if y0 = 0 then (
    if x2 ≤ x8 then (
      f_M_fit_b110 x1 x3 x4 x5 x6 x7 x8 x9 y0 x2 I)
    else (
    f_M_fit_b104 x1 x3 x4 x5 x6 x7 x8 x9 y0 I))
  else (
    f_M_fit_b104 x1 x3 x4 x5 x6 x7 x8 x9 y0 I)
noncomputable def f_M_fit_b90 (x1 : Int32) (x2 : Int32) (x3 : Int32) (x4 : Int32) (x5 : Int32) (x6 : Int32) (x7 : Int32) (x8 : Int32) (x9 : Int32) (I : xm_I) : Option ((Int32 × Int32 × Int32 × Int32 × Int32) ⊕ ((Int32 × Int32 × Int32 × Int32 × Int32 × Int32) ⊕ (Int32 × xm_I))) :=
  f_M_fit_b91 x1 x2 x3 x4 x5 x6 x7 x8 x9 0 I
noncomputable def f_M_fit_s45 (x1 : Int32) (x6 : Int32) (I : xm_I) (s : Int32 × Int32 × Int32 × Int32 × Int32) : Option ((Int32 × Int32 × Int32 × Int32 × Int32) ⊕ ((Int32 × Int32 × Int32 × Int32 × Int32 × Int32) ⊕ (Int32 × xm_I))) :=
  gd (0 ≤ (x6).toInt ∧ (x6).toInt < 40) <|
  if (I 56 (Int32.toNatClampNeg x6)) ≤ s.2.2.2.2 then (
    let x1_1 : Int32 := x1 + 1
    (f_M_fit_b180 x1_1 s.1 s.2.1 s.2.2.1 s.2.2.2.1 x6 I).map .inr)
  else (
  (f_M_cornerX x6 s.2.2.2.2 I).bind fun p_2 =>
  (f_M_cornerY x6 s.2.2.2.2 I).bind fun p_3 =>
  if x1 = 0 then (
    if s.2.2.2.2 = 0 then (
      f_M_fit_b91 x1 s.1 s.2.1 s.2.2.1 s.2.2.2.1 x6 s.2.2.2.2 p_2 p_3 1 I)
    else (
      f_M_fit_b90 x1 s.1 s.2.1 s.2.2.1 s.2.2.2.1 x6 s.2.2.2.2 p_2 p_3 I))
  else (
    f_M_fit_b90 x1 s.1 s.2.1 s.2.2.1 s.2.2.2.1 x6 s.2.2.2.2 p_2 p_3 I))
noncomputable def f_M_fit_b45 (x1 : Int32) (x6 : Int32) (I : xm_I) (s : Int32 × Int32 × Int32 × Int32 × Int32) : Option ((Int32 × Int32 × Int32 × Int32 × Int32 × Int32) ⊕ (Int32 × xm_I)) := lp (f_M_fit_s45 x1 x6 I) s
noncomputable def f_M_fit_s15 (I : xm_I) (s : Int32 × Int32 × Int32 × Int32 × Int32 × Int32) : Option ((Int32 × Int32 × Int32 × Int32 × Int32 × Int32) ⊕ (Int32 × xm_I)) :=
  if (I 49 11) ≤ s.2.2.2.2.2 then (
    if s.1 = 0 then (
      some (.inr ((-100003), I)))
    else (
      let I_1 : xm_I := up2 I 49 15 s.2.1
      let I_2 : xm_I := up2 I_1 49 16 s.2.2.1
      let I_3 : xm_I := up2 I_2 49 17 s.2.2.2.1
      let I_4 : xm_I := up2 I_3 49 18 s.2.2.2.2.1
      some (.inr (s.1, I_4))))
  else (
  gd (0 ≤ (s.2.2.2.2.2).toInt ∧ (s.2.2.2.2.2).toInt < 40) <|
  gd (0 ≤ (I 54 (Int32.toNatClampNeg s.2.2.2.2.2)).toInt ∧ (I 54 (Int32.toNatClampNeg s.2.2.2.2.2)).toInt < 10) <|
  if (I 60 (Int32.toNatClampNeg (I 54 (Int32.toNatClampNeg s.2.2.2.2.2)))) = 0 then (
    f_M_fit_b45 s.1 s.2.2.2.2.2 I (s.2.1, s.2.2.1, s.2.2.2.1, s.2.2.2.2.1, 0))
  else (
  f_M_fit_b180 s.1 s.2.1 s.2.2.1 s.2.2.2.1 s.2.2.2.2.1 s.2.2.2.2.2 I))
noncomputable def f_M_fit_b15 (I : xm_I) (s : Int32 × Int32 × Int32 × Int32 × Int32 × Int32) : Option (Int32 × xm_I) := lp (f_M_fit_s15 I) s
noncomputable def f_M_fit_b0 (I : xm_I) : Option (Int32 × xm_I) :=
  f_M_fit_b15 I (0, 0, 0, 0, 0, 0)
noncomputable def f_M_fit (I : xm_I) : Option (Int32 × xm_I) := f_M_fit_b0 I
set_option maxHeartbeats 4000000 in
set_option maxRecDepth 100000 in
theorem t_M_fit_b180 {x1 : Int32} {x2 : Int32} {x3 : Int32} {x4 : Int32} {x5 : Int32} {x6 : Int32} {n : Nat} {I : xm_I} {L : xm_L} {K : (Int32 × Int32 × Int32 × Int32 × Int32 × Int32) ⊕ (Int32 × xm_I) → Prop} {Q : Option Value → xm_H → Prop} (hn : 86 ≤ n) (hq : ∀ p : Int32 × xm_I, K (.inr p) → Q (some (.int p.1)) (p.2, L, RC n, n)) (hg0 : ∀ s : Int32 × Int32 × Int32 × Int32 × Int32 × Int32, K (.inl s) → xm_J 2 mt_M_fit 15 [(0, .ref 49), (1, .int s.1), (2, .int s.2.1), (3, .int s.2.2.1), (4, .int s.2.2.2.1), (5, .int s.2.2.2.2.1), (6, .int s.2.2.2.2.2)] [] (I, L, RC n, n) 0 0 Q) (hF : ok (f_M_fit_b180 x1 x2 x3 x4 x5 x6 I) K) : xm_J 2 mt_M_fit 180 [(0, .ref 49), (1, .int x1), (2, .int x2), (3, .int x3), (4, .int x4), (5, .int x5), (6, .int x6)] [] (I, L, RC n, n) 0 0 Q := by
  unfold f_M_fit_b180 at hF
  refine q_iinc (i := 90) (k0 := 6) (Ls' := [(6, _), (0, _), (1, _), (2, _), (3, _), (4, _), (5, _)]) rfl ki_1 rfl (Nat.le_of_ble_eq_true rfl) rfl ?_
  refine r_goto (i := 91) (tgt := 15) rfl (by decide) ?_
  refine xm_sub (Ls' := [(0, _), (1, _), (2, _), (3, _), (4, _), (5, _), (6, _)]) [1, 2, 3, 4, 5, 6, 0] rfl ?_
  have hJ := hg0 _ (ok_some hF)
  exact hJ
set_option maxHeartbeats 4000000 in
set_option maxRecDepth 100000 in
theorem t_M_fit_b169 {x1 : Int32} {x2 : Int32} {x3 : Int32} {x4 : Int32} {x6 : Int32} {x7 : Int32} {y0 : Int32} {n : Nat} {I : xm_I} {L : xm_L} {K : (Int32 × Int32 × Int32 × Int32 × Int32) ⊕ ((Int32 × Int32 × Int32 × Int32 × Int32 × Int32) ⊕ (Int32 × xm_I)) → Prop} {Q : Option Value → xm_H → Prop} (hn : 86 ≤ n) (hq : ∀ p : Int32 × xm_I, K (.inr (.inr p)) → Q (some (.int p.1)) (p.2, L, RC n, n)) (hg0 : ∀ s : Int32 × Int32 × Int32 × Int32 × Int32 × Int32, K (.inr (.inl s)) → xm_J 2 mt_M_fit 15 [(0, .ref 49), (1, .int s.1), (2, .int s.2.1), (3, .int s.2.2.1), (4, .int s.2.2.2.1), (5, .int s.2.2.2.2.1), (6, .int s.2.2.2.2.2)] [] (I, L, RC n, n) 0 0 Q) (hg1 : ∀ s : Int32 × Int32 × Int32 × Int32 × Int32, K (.inl s) → xm_J 2 mt_M_fit 45 [(0, .ref 49), (1, .int x1), (2, .int s.1), (3, .int s.2.1), (4, .int s.2.2.1), (5, .int s.2.2.2.1), (6, .int x6), (7, .int s.2.2.2.2)] [] (I, L, RC n, n) 0 0 Q) (hF : ok (f_M_fit_b169 x1 x2 x3 x4 x6 x7 y0 I) K) : xm_J 2 mt_M_fit 169 [(0, .ref 49), (1, .int x1), (2, .int x2), (3, .int x3), (4, .int x4), (6, .int x6), (7, .int x7)] [.int y0] (I, L, RC n, n) 0 0 Q := by
  unfold f_M_fit_b169 at hF
  refine r_istore (i := 86) (Ls' := [(5, _), (0, _), (1, _), (2, _), (3, _), (4, _), (6, _), (7, _)]) rfl (Nat.le_of_ble_eq_true rfl) rfl ?_
  refine q_iinc (i := 87) (k0 := 7) (Ls' := [(7, _), (5, _), (0, _), (1, _), (2, _), (3, _), (4, _), (6, _)]) rfl ki_1 rfl (Nat.le_of_ble_eq_true rfl) rfl ?_
  refine r_goto (i := 88) (tgt := 45) rfl (by decide) ?_
  refine xm_sub (Ls' := [(0, _), (1, _), (2, _), (3, _), (4, _), (5, _), (6, _), (7, _)]) [2, 3, 4, 5, 6, 1, 7, 0] rfl ?_
  have hJ := hg1 _ (ok_some hF)
  exact hJ
set_option maxHeartbeats 4000000 in
set_option maxRecDepth 100000 in
theorem t_M_fit_b162 {x1 : Int32} {x2 : Int32} {x3 : Int32} {x4 : Int32} {x6 : Int32} {x7 : Int32} {x9 : Int32} {n : Nat} {I : xm_I} {L : xm_L} {K : (Int32 × Int32 × Int32 × Int32 × Int32) ⊕ ((Int32 × Int32 × Int32 × Int32 × Int32 × Int32) ⊕ (Int32 × xm_I)) → Prop} {Q : Option Value → xm_H → Prop} (hn : 86 ≤ n) (hq : ∀ p : Int32 × xm_I, K (.inr (.inr p)) → Q (some (.int p.1)) (p.2, L, RC n, n)) (hg0 : ∀ s : Int32 × Int32 × Int32 × Int32 × Int32 × Int32, K (.inr (.inl s)) → xm_J 2 mt_M_fit 15 [(0, .ref 49), (1, .int s.1), (2, .int s.2.1), (3, .int s.2.2.1), (4, .int s.2.2.2.1), (5, .int s.2.2.2.2.1), (6, .int s.2.2.2.2.2)] [] (I, L, RC n, n) 0 0 Q) (hg1 : ∀ s : Int32 × Int32 × Int32 × Int32 × Int32, K (.inl s) → xm_J 2 mt_M_fit 45 [(0, .ref 49), (1, .int x1), (2, .int s.1), (3, .int s.2.1), (4, .int s.2.2.1), (5, .int s.2.2.2.1), (6, .int x6), (7, .int s.2.2.2.2)] [] (I, L, RC n, n) 0 0 Q) (hF : ok (f_M_fit_b162 x1 x2 x3 x4 x6 x7 x9 I) K) : xm_J 2 mt_M_fit 162 [(0, .ref 49), (1, .int x1), (2, .int x2), (3, .int x3), (4, .int x4), (6, .int x6), (7, .int x7), (9, .int x9)] [] (I, L, RC n, n) 0 0 Q := by
  unfold f_M_fit_b162 at hF
  refine r_iload (i := 83) (k0 := 7) rfl rfl ?_
  refine r_goto (i := 84) (tgt := 169) rfl (by decide) ?_
  refine xm_sub (Ls' := [(0, _), (1, _), (2, _), (3, _), (4, _), (6, _), (7, _)]) [0, 1, 2, 3, 4, 5, 6] rfl ?_
  exact t_M_fit_b169 hn (fun p h => hq p h) (fun z h => hg0 z h) (fun z h => hg1 z h) hF
set_option maxHeartbeats 4000000 in
set_option maxRecDepth 100000 in
theorem t_M_fit_b148 {x1 : Int32} {x2 : Int32} {x3 : Int32} {x5 : Int32} {x6 : Int32} {x7 : Int32} {x9 : Int32} {x10 : Int32} {y0 : Int32} {n : Nat} {I : xm_I} {L : xm_L} {K : (Int32 × Int32 × Int32 × Int32 × Int32) ⊕ ((Int32 × Int32 × Int32 × Int32 × Int32 × Int32) ⊕ (Int32 × xm_I)) → Prop} {Q : Option Value → xm_H → Prop} (hn : 86 ≤ n) (hq : ∀ p : Int32 × xm_I, K (.inr (.inr p)) → Q (some (.int p.1)) (p.2, L, RC n, n)) (hg0 : ∀ s : Int32 × Int32 × Int32 × Int32 × Int32 × Int32, K (.inr (.inl s)) → xm_J 2 mt_M_fit 15 [(0, .ref 49), (1, .int s.1), (2, .int s.2.1), (3, .int s.2.2.1), (4, .int s.2.2.2.1), (5, .int s.2.2.2.2.1), (6, .int s.2.2.2.2.2)] [] (I, L, RC n, n) 0 0 Q) (hg1 : ∀ s : Int32 × Int32 × Int32 × Int32 × Int32, K (.inl s) → xm_J 2 mt_M_fit 45 [(0, .ref 49), (1, .int x1), (2, .int s.1), (3, .int s.2.1), (4, .int s.2.2.1), (5, .int s.2.2.2.1), (6, .int x6), (7, .int s.2.2.2.2)] [] (I, L, RC n, n) 0 0 Q) (hF : ok (f_M_fit_b148 x1 x2 x3 x5 x6 x7 x9 x10 y0 I) K) : xm_J 2 mt_M_fit 148 [(0, .ref 49), (1, .int x1), (2, .int x2), (3, .int x3), (5, .int x5), (6, .int x6), (7, .int x7), (9, .int x9), (10, .int x10)] [.int y0] (I, L, RC n, n) 0 0 Q := by
  unfold f_M_fit_b148 at hF
  refine r_istore (i := 77) (Ls' := [(4, _), (0, _), (1, _), (2, _), (3, _), (5, _), (6, _), (7, _), (9, _), (10, _)]) rfl (Nat.le_of_ble_eq_true rfl) rfl ?_
  refine r_iload (i := 78) (k0 := 9) rfl rfl ?_
  refine r_ifne (i := 79) (tgt := 162) rfl (by decide) (fun hc => ?_) (fun hc => ?_)
  · have hF := ok_if hc hF
    refine xm_sub (Ls' := [(0, _), (1, _), (2, _), (3, _), (4, _), (6, _), (7, _), (9, _)]) [1, 2, 3, 4, 0, 6, 7, 8] rfl ?_
    exact t_M_fit_b162 hn (fun p h => hq p h) (fun z h => hg0 z h) (fun z h => hg1 z h) hF
  have hF := ok_it hc hF
  refine r_iload (i := 80) (k0 := 8) rfl rfl ?_
  refine r_iload (i := 81) (k0 := 5) rfl rfl ?_
  refine r_icmple (i := 82) (tgt := 167) rfl (by decide) (fun hc => ?_) (fun hc => ?_)
  · have hF := ok_it hc hF
    refine r_iload (i := 85) (k0 := 5) rfl rfl ?_
    refine xm_sub (Ls' := [(0, _), (1, _), (2, _), (3, _), (4, _), (6, _), (7, _)]) [1, 2, 3, 4, 0, 6, 7] rfl ?_
    exact t_M_fit_b169 hn (fun p h => hq p h) (fun z h => hg0 z h) (fun z h => hg1 z h) hF
  have hF := ok_if hc hF
  refine xm_sub (Ls' := [(0, _), (1, _), (2, _), (3, _), (4, _), (6, _), (7, _), (9, _)]) [1, 2, 3, 4, 0, 6, 7, 8] rfl ?_
  exact t_M_fit_b162 hn (fun p h => hq p h) (fun z h => hg0 z h) (fun z h => hg1 z h) hF
set_option maxHeartbeats 4000000 in
set_option maxRecDepth 100000 in
theorem t_M_fit_b141 {x1 : Int32} {x2 : Int32} {x3 : Int32} {x5 : Int32} {x6 : Int32} {x7 : Int32} {x9 : Int32} {x10 : Int32} {n : Nat} {I : xm_I} {L : xm_L} {K : (Int32 × Int32 × Int32 × Int32 × Int32) ⊕ ((Int32 × Int32 × Int32 × Int32 × Int32 × Int32) ⊕ (Int32 × xm_I)) → Prop} {Q : Option Value → xm_H → Prop} (hn : 86 ≤ n) (hq : ∀ p : Int32 × xm_I, K (.inr (.inr p)) → Q (some (.int p.1)) (p.2, L, RC n, n)) (hg0 : ∀ s : Int32 × Int32 × Int32 × Int32 × Int32 × Int32, K (.inr (.inl s)) → xm_J 2 mt_M_fit 15 [(0, .ref 49), (1, .int s.1), (2, .int s.2.1), (3, .int s.2.2.1), (4, .int s.2.2.2.1), (5, .int s.2.2.2.2.1), (6, .int s.2.2.2.2.2)] [] (I, L, RC n, n) 0 0 Q) (hg1 : ∀ s : Int32 × Int32 × Int32 × Int32 × Int32, K (.inl s) → xm_J 2 mt_M_fit 45 [(0, .ref 49), (1, .int x1), (2, .int s.1), (3, .int s.2.1), (4, .int s.2.2.1), (5, .int s.2.2.2.1), (6, .int x6), (7, .int s.2.2.2.2)] [] (I, L, RC n, n) 0 0 Q) (hF : ok (f_M_fit_b141 x1 x2 x3 x5 x6 x7 x9 x10 I) K) : xm_J 2 mt_M_fit 141 [(0, .ref 49), (1, .int x1), (2, .int x2), (3, .int x3), (5, .int x5), (6, .int x6), (7, .int x7), (9, .int x9), (10, .int x10)] [] (I, L, RC n, n) 0 0 Q := by
  unfold f_M_fit_b141 at hF
  refine r_iload (i := 74) (k0 := 7) rfl rfl ?_
  refine r_goto (i := 75) (tgt := 148) rfl (by decide) ?_
  exact t_M_fit_b148 hn (fun p h => hq p h) (fun z h => hg0 z h) (fun z h => hg1 z h) hF
set_option maxHeartbeats 4000000 in
set_option maxRecDepth 100000 in
theorem t_M_fit_b128 {x1 : Int32} {x2 : Int32} {x4 : Int32} {x5 : Int32} {x6 : Int32} {x7 : Int32} {x9 : Int32} {x10 : Int32} {y0 : Int32} {n : Nat} {I : xm_I} {L : xm_L} {K : (Int32 × Int32 × Int32 × Int32 × Int32) ⊕ ((Int32 × Int32 × Int32 × Int32 × Int32 × Int32) ⊕ (Int32 × xm_I)) → Prop} {Q : Option Value → xm_H → Prop} (hn : 86 ≤ n) (hq : ∀ p : Int32 × xm_I, K (.inr (.inr p)) → Q (some (.int p.1)) (p.2, L, RC n, n)) (hg0 : ∀ s : Int32 × Int32 × Int32 × Int32 × Int32 × Int32, K (.inr (.inl s)) → xm_J 2 mt_M_fit 15 [(0, .ref 49), (1, .int s.1), (2, .int s.2.1), (3, .int s.2.2.1), (4, .int s.2.2.2.1), (5, .int s.2.2.2.2.1), (6, .int s.2.2.2.2.2)] [] (I, L, RC n, n) 0 0 Q) (hg1 : ∀ s : Int32 × Int32 × Int32 × Int32 × Int32, K (.inl s) → xm_J 2 mt_M_fit 45 [(0, .ref 49), (1, .int x1), (2, .int s.1), (3, .int s.2.1), (4, .int s.2.2.1), (5, .int s.2.2.2.1), (6, .int x6), (7, .int s.2.2.2.2)] [] (I, L, RC n, n) 0 0 Q) (hF : ok (f_M_fit_b128 x1 x2 x4 x5 x6 x7 x9 x10 y0 I) K) : xm_J 2 mt_M_fit 128 [(0, .ref 49), (1, .int x1), (2, .int x2), (4, .int x4), (5, .int x5), (6, .int x6), (7, .int x7), (9, .int x9), (10, .int x10)] [.int y0] (I, L, RC n, n) 0 0 Q := by
  unfold f_M_fit_b128 at hF
  refine r_istore_n (i := 68) (Ls' := [(3, _), (0, _), (1, _), (2, _), (4, _), (5, _), (6, _), (7, _), (9, _), (10, _)]) rfl rfl (Nat.le_of_ble_eq_true rfl) rfl ?_
  refine r_iload (i := 69) (k0 := 9) rfl rfl ?_
  refine r_ifne (i := 70) (tgt := 141) rfl (by decide) (fun hc => ?_) (fun hc => ?_)
  · have hF := ok_if hc hF
    refine xm_sub (Ls' := [(0, _), (1, _), (2, _), (3, _), (5, _), (6, _), (7, _), (9, _), (10, _)]) [1, 2, 3, 0, 5, 6, 7, 8, 9] rfl ?_
    exact t_M_fit_b141 hn (fun p h => hq p h) (fun z h => hg0 z h) (fun z h => hg1 z h) hF
  have hF := ok_it hc hF
  refine r_iload (i := 71) (k0 := 8) rfl rfl ?_
  refine r_iload (i := 72) (k0 := 4) rfl rfl ?_
  refine r_icmpge (i := 73) (tgt := 146) rfl (by decide) (fun hc => ?_) (fun hc => ?_)
  · have hF := ok_it hc hF
    refine r_iload (i := 76) (k0 := 4) rfl rfl ?_
    refine xm_sub (Ls' := [(0, _), (1, _), (2, _), (3, _), (5, _), (6, _), (7, _), (9, _), (10, _)]) [1, 2, 3, 0, 5, 6, 7, 8, 9] rfl ?_
    exact t_M_fit_b148 hn (fun p h => hq p h) (fun z h => hg0 z h) (fun z h => hg1 z h) hF
  have hF := ok_if hc hF
  refine xm_sub (Ls' := [(0, _), (1, _), (2, _), (3, _), (5, _), (6, _), (7, _), (9, _), (10, _)]) [1, 2, 3, 0, 5, 6, 7, 8, 9] rfl ?_
  exact t_M_fit_b141 hn (fun p h => hq p h) (fun z h => hg0 z h) (fun z h => hg1 z h) hF
set_option maxHeartbeats 4000000 in
set_option maxRecDepth 100000 in
theorem t_M_fit_b122 {x1 : Int32} {x2 : Int32} {x4 : Int32} {x5 : Int32} {x6 : Int32} {x7 : Int32} {x8 : Int32} {x9 : Int32} {x10 : Int32} {n : Nat} {I : xm_I} {L : xm_L} {K : (Int32 × Int32 × Int32 × Int32 × Int32) ⊕ ((Int32 × Int32 × Int32 × Int32 × Int32 × Int32) ⊕ (Int32 × xm_I)) → Prop} {Q : Option Value → xm_H → Prop} (hn : 86 ≤ n) (hq : ∀ p : Int32 × xm_I, K (.inr (.inr p)) → Q (some (.int p.1)) (p.2, L, RC n, n)) (hg0 : ∀ s : Int32 × Int32 × Int32 × Int32 × Int32 × Int32, K (.inr (.inl s)) → xm_J 2 mt_M_fit 15 [(0, .ref 49), (1, .int s.1), (2, .int s.2.1), (3, .int s.2.2.1), (4, .int s.2.2.2.1), (5, .int s.2.2.2.2.1), (6, .int s.2.2.2.2.2)] [] (I, L, RC n, n) 0 0 Q) (hg1 : ∀ s : Int32 × Int32 × Int32 × Int32 × Int32, K (.inl s) → xm_J 2 mt_M_fit 45 [(0, .ref 49), (1, .int x1), (2, .int s.1), (3, .int s.2.1), (4, .int s.2.2.1), (5, .int s.2.2.2.1), (6, .int x6), (7, .int s.2.2.2.2)] [] (I, L, RC n, n) 0 0 Q) (hF : ok (f_M_fit_b122 x1 x2 x4 x5 x6 x7 x8 x9 x10 I) K) : xm_J 2 mt_M_fit 122 [(0, .ref 49), (1, .int x1), (2, .int x2), (4, .int x4), (5, .int x5), (6, .int x6), (7, .int x7), (8, .int x8), (9, .int x9), (10, .int x10)] [] (I, L, RC n, n) 0 0 Q := by
  unfold f_M_fit_b122 at hF
  refine r_iload (i := 65) (k0 := 7) rfl rfl ?_
  refine r_goto (i := 66) (tgt := 128) rfl (by decide) ?_
  refine xm_sub (Ls' := [(0, _), (1, _), (2, _), (4, _), (5, _), (6, _), (7, _), (9, _), (10, _)]) [0, 1, 2, 3, 4, 5, 6, 8, 9] rfl ?_
  exact t_M_fit_b128 hn (fun p h => hq p h) (fun z h => hg0 z h) (fun z h => hg1 z h) hF
set_option maxHeartbeats 4000000 in
set_option maxRecDepth 100000 in
theorem t_M_fit_b110 {x1 : Int32} {x3 : Int32} {x4 : Int32} {x5 : Int32} {x6 : Int32} {x7 : Int32} {x8 : Int32} {x9 : Int32} {x10 : Int32} {y0 : Int32} {n : Nat} {I : xm_I} {L : xm_L} {K : (Int32 × Int32 × Int32 × Int32 × Int32) ⊕ ((Int32 × Int32 × Int32 × Int32 × Int32 × Int32) ⊕ (Int32 × xm_I)) → Prop} {Q : Option Value → xm_H → Prop} (hn : 86 ≤ n) (hq : ∀ p : Int32 × xm_I, K (.inr (.inr p)) → Q (some (.int p.1)) (p.2, L, RC n, n)) (hg0 : ∀ s : Int32 × Int32 × Int32 × Int32 × Int32 × Int32, K (.inr (.inl s)) → xm_J 2 mt_M_fit 15 [(0, .ref 49), (1, .int s.1), (2, .int s.2.1), (3, .int s.2.2.1), (4, .int s.2.2.2.1), (5, .int s.2.2.2.2.1), (6, .int s.2.2.2.2.2)] [] (I, L, RC n, n) 0 0 Q) (hg1 : ∀ s : Int32 × Int32 × Int32 × Int32 × Int32, K (.inl s) → xm_J 2 mt_M_fit 45 [(0, .ref 49), (1, .int x1), (2, .int s.1), (3, .int s.2.1), (4, .int s.2.2.1), (5, .int s.2.2.2.1), (6, .int x6), (7, .int s.2.2.2.2)] [] (I, L, RC n, n) 0 0 Q) (hF : ok (f_M_fit_b110 x1 x3 x4 x5 x6 x7 x8 x9 x10 y0 I) K) : xm_J 2 mt_M_fit 110 [(0, .ref 49), (1, .int x1), (3, .int x3), (4, .int x4), (5, .int x5), (6, .int x6), (7, .int x7), (8, .int x8), (9, .int x9), (10, .int x10)] [.int y0] (I, L, RC n, n) 0 0 Q := by
  unfold f_M_fit_b110 at hF
  refine r_istore_n (i := 59) (Ls' := [(2, _), (0, _), (1, _), (3, _), (4, _), (5, _), (6, _), (7, _), (8, _), (9, _), (10, _)]) rfl rfl (Nat.le_of_ble_eq_true rfl) rfl ?_
  refine r_iload (i := 60) (k0 := 10) rfl rfl ?_
  refine r_ifne (i := 61) (tgt := 122) rfl (by decide) (fun hc => ?_) (fun hc => ?_)
  · have hF := ok_if hc hF
    refine xm_sub (Ls' := [(0, _), (1, _), (2, _), (4, _), (5, _), (6, _), (7, _), (8, _), (9, _), (10, _)]) [1, 2, 0, 4, 5, 6, 7, 8, 9, 10] rfl ?_
    exact t_M_fit_b122 hn (fun p h => hq p h) (fun z h => hg0 z h) (fun z h => hg1 z h) hF
  have hF := ok_it hc hF
  refine r_iload (i := 62) (k0 := 8) rfl rfl ?_
  refine r_iload_n (i := 63) (k0 := 3) rfl rfl rfl ?_
  refine r_icmple (i := 64) (tgt := 127) rfl (by decide) (fun hc => ?_) (fun hc => ?_)
  · have hF := ok_it hc hF
    refine r_iload_n (i := 67) (k0 := 3) rfl rfl rfl ?_
    refine xm_sub (Ls' := [(0, _), (1, _), (2, _), (4, _), (5, _), (6, _), (7, _), (9, _), (10, _)]) [1, 2, 0, 4, 5, 6, 7, 9, 10] rfl ?_
    exact t_M_fit_b128 hn (fun p h => hq p h) (fun z h => hg0 z h) (fun z h => hg1 z h) hF
  have hF := ok_if hc hF
  refine xm_sub (Ls' := [(0, _), (1, _), (2, _), (4, _), (5, _), (6, _), (7, _), (8, _), (9, _), (10, _)]) [1, 2, 0, 4, 5, 6, 7, 8, 9, 10] rfl ?_
  exact t_M_fit_b122 hn (fun p h => hq p h) (fun z h => hg0 z h) (fun z h => hg1 z h) hF
set_option maxHeartbeats 4000000 in
set_option maxRecDepth 100000 in
theorem t_M_fit_b104 {x1 : Int32} {x3 : Int32} {x4 : Int32} {x5 : Int32} {x6 : Int32} {x7 : Int32} {x8 : Int32} {x9 : Int32} {x10 : Int32} {n : Nat} {I : xm_I} {L : xm_L} {K : (Int32 × Int32 × Int32 × Int32 × Int32) ⊕ ((Int32 × Int32 × Int32 × Int32 × Int32 × Int32) ⊕ (Int32 × xm_I)) → Prop} {Q : Option Value → xm_H → Prop} (hn : 86 ≤ n) (hq : ∀ p : Int32 × xm_I, K (.inr (.inr p)) → Q (some (.int p.1)) (p.2, L, RC n, n)) (hg0 : ∀ s : Int32 × Int32 × Int32 × Int32 × Int32 × Int32, K (.inr (.inl s)) → xm_J 2 mt_M_fit 15 [(0, .ref 49), (1, .int s.1), (2, .int s.2.1), (3, .int s.2.2.1), (4, .int s.2.2.2.1), (5, .int s.2.2.2.2.1), (6, .int s.2.2.2.2.2)] [] (I, L, RC n, n) 0 0 Q) (hg1 : ∀ s : Int32 × Int32 × Int32 × Int32 × Int32, K (.inl s) → xm_J 2 mt_M_fit 45 [(0, .ref 49), (1, .int x1), (2, .int s.1), (3, .int s.2.1), (4, .int s.2.2.1), (5, .int s.2.2.2.1), (6, .int x6), (7, .int s.2.2.2.2)] [] (I, L, RC n, n) 0 0 Q) (hF : ok (f_M_fit_b104 x1 x3 x4 x5 x6 x7 x8 x9 x10 I) K) : xm_J 2 mt_M_fit 104 [(0, .ref 49), (1, .int x1), (3, .int x3), (4, .int x4), (5, .int x5), (6, .int x6), (7, .int x7), (8, .int x8), (9, .int x9), (10, .int x10)] [] (I, L, RC n, n) 0 0 Q := by
  unfold f_M_fit_b104 at hF
  refine r_iload (i := 56) (k0 := 7) rfl rfl ?_
  refine r_goto (i := 57) (tgt := 110) rfl (by decide) ?_
  exact t_M_fit_b110 hn (fun p h => hq p h) (fun z h => hg0 z h) (fun z h => hg1 z h) hF
set_option maxHeartbeats 4000000 in
set_option maxRecDepth 100000 in
theorem t_M_fit_b91 {x1 : Int32} {x2 : Int32} {x3 : Int32} {x4 : Int32} {x5 : Int32} {x6 : Int32} {x7 : Int32} {x8 : Int32} {x9 : Int32} {y0 : Int32} {n : Nat} {I : xm_I} {L : xm_L} {K : (Int32 × Int32 × Int32 × Int32 × Int32) ⊕ ((Int32 × Int32 × Int32 × Int32 × Int32 × Int32) ⊕ (Int32 × xm_I)) → Prop} {Q : Option Value → xm_H → Prop} (hn : 86 ≤ n) (hq : ∀ p : Int32 × xm_I, K (.inr (.inr p)) → Q (some (.int p.1)) (p.2, L, RC n, n)) (hg0 : ∀ s : Int32 × Int32 × Int32 × Int32 × Int32 × Int32, K (.inr (.inl s)) → xm_J 2 mt_M_fit 15 [(0, .ref 49), (1, .int s.1), (2, .int s.2.1), (3, .int s.2.2.1), (4, .int s.2.2.2.1), (5, .int s.2.2.2.2.1), (6, .int s.2.2.2.2.2)] [] (I, L, RC n, n) 0 0 Q) (hg1 : ∀ s : Int32 × Int32 × Int32 × Int32 × Int32, K (.inl s) → xm_J 2 mt_M_fit 45 [(0, .ref 49), (1, .int x1), (2, .int s.1), (3, .int s.2.1), (4, .int s.2.2.1), (5, .int s.2.2.2.1), (6, .int x6), (7, .int s.2.2.2.2)] [] (I, L, RC n, n) 0 0 Q) (hF : ok (f_M_fit_b91 x1 x2 x3 x4 x5 x6 x7 x8 x9 y0 I) K) : xm_J 2 mt_M_fit 91 [(0, .ref 49), (1, .int x1), (2, .int x2), (3, .int x3), (4, .int x4), (5, .int x5), (6, .int x6), (7, .int x7), (8, .int x8), (9, .int x9)] [.int y0] (I, L, RC n, n) 0 0 Q := by
  unfold f_M_fit_b91 at hF
  refine r_istore (i := 50) (Ls' := [(10, _), (0, _), (1, _), (2, _), (3, _), (4, _), (5, _), (6, _), (7, _), (8, _), (9, _)]) rfl (Nat.le_of_ble_eq_true rfl) rfl ?_
  refine r_iload (i := 51) (k0 := 0) rfl rfl ?_
  refine r_ifne (i := 52) (tgt := 104) rfl (by decide) (fun hc => ?_) (fun hc => ?_)
  · have hF := ok_if hc hF
    refine xm_sub (Ls' := [(0, _), (1, _), (3, _), (4, _), (5, _), (6, _), (7, _), (8, _), (9, _), (10, _)]) [1, 2, 4, 5, 6, 7, 8, 9, 10, 0] rfl ?_
    exact t_M_fit_b104 hn (fun p h => hq p h) (fun z h => hg0 z h) (fun z h => hg1 z h) hF
  have hF := ok_it hc hF
  refine r_iload (i := 53) (k0 := 9) rfl rfl ?_
  refine r_iload_n (i := 54) (k0 := 3) rfl rfl rfl ?_
  refine r_icmpge (i := 55) (tgt := 109) rfl (by decide) (fun hc => ?_) (fun hc => ?_)
  · have hF := ok_it hc hF
    refine r_iload_n (i := 58) (k0 := 3) rfl rfl rfl ?_
    refine xm_sub (Ls' := [(0, _), (1, _), (3, _), (4, _), (5, _), (6, _), (7, _), (8, _), (9, _), (10, _)]) [1, 2, 4, 5, 6, 7, 8, 9, 10, 0] rfl ?_
    exact t_M_fit_b110 hn (fun p h => hq p h) (fun z h => hg0 z h) (fun z h => hg1 z h) hF
  have hF := ok_if hc hF
  refine xm_sub (Ls' := [(0, _), (1, _), (3, _), (4, _), (5, _), (6, _), (7, _), (8, _), (9, _), (10, _)]) [1, 2, 4, 5, 6, 7, 8, 9, 10, 0] rfl ?_
  exact t_M_fit_b104 hn (fun p h => hq p h) (fun z h => hg0 z h) (fun z h => hg1 z h) hF
set_option maxHeartbeats 4000000 in
set_option maxRecDepth 100000 in
theorem t_M_fit_b90 {x1 : Int32} {x2 : Int32} {x3 : Int32} {x4 : Int32} {x5 : Int32} {x6 : Int32} {x7 : Int32} {x8 : Int32} {x9 : Int32} {n : Nat} {I : xm_I} {L : xm_L} {K : (Int32 × Int32 × Int32 × Int32 × Int32) ⊕ ((Int32 × Int32 × Int32 × Int32 × Int32 × Int32) ⊕ (Int32 × xm_I)) → Prop} {Q : Option Value → xm_H → Prop} (hn : 86 ≤ n) (hq : ∀ p : Int32 × xm_I, K (.inr (.inr p)) → Q (some (.int p.1)) (p.2, L, RC n, n)) (hg0 : ∀ s : Int32 × Int32 × Int32 × Int32 × Int32 × Int32, K (.inr (.inl s)) → xm_J 2 mt_M_fit 15 [(0, .ref 49), (1, .int s.1), (2, .int s.2.1), (3, .int s.2.2.1), (4, .int s.2.2.2.1), (5, .int s.2.2.2.2.1), (6, .int s.2.2.2.2.2)] [] (I, L, RC n, n) 0 0 Q) (hg1 : ∀ s : Int32 × Int32 × Int32 × Int32 × Int32, K (.inl s) → xm_J 2 mt_M_fit 45 [(0, .ref 49), (1, .int x1), (2, .int s.1), (3, .int s.2.1), (4, .int s.2.2.1), (5, .int s.2.2.2.1), (6, .int x6), (7, .int s.2.2.2.2)] [] (I, L, RC n, n) 0 0 Q) (hF : ok (f_M_fit_b90 x1 x2 x3 x4 x5 x6 x7 x8 x9 I) K) : xm_J 2 mt_M_fit 90 [(0, .ref 49), (1, .int x1), (2, .int x2), (3, .int x3), (4, .int x4), (5, .int x5), (6, .int x6), (7, .int x7), (8, .int x8), (9, .int x9)] [] (I, L, RC n, n) 0 0 Q := by
  unfold f_M_fit_b90 at hF
  refine r_iconst (v := 0) (i := 49) rfl ki_0 ?_
  exact t_M_fit_b91 hn (fun p h => hq p h) (fun z h => hg0 z h) (fun z h => hg1 z h) hF
set_option maxHeartbeats 4000000 in
set_option maxRecDepth 100000 in
theorem t_M_fit_s45 {x1 : Int32} {x6 : Int32} {s : Int32 × Int32 × Int32 × Int32 × Int32} {n : Nat} {I : xm_I} {L : xm_L} {K : (Int32 × Int32 × Int32 × Int32 × Int32) ⊕ ((Int32 × Int32 × Int32 × Int32 × Int32 × Int32) ⊕ (Int32 × xm_I)) → Prop} {Q : Option Value → xm_H → Prop} (hn : 86 ≤ n) (hq : ∀ p : Int32 × xm_I, K (.inr (.inr p)) → Q (some (.int p.1)) (p.2, L, RC n, n)) (hg0 : ∀ s : Int32 × Int32 × Int32 × Int32 × Int32 × Int32, K (.inr (.inl s)) → xm_J 2 mt_M_fit 15 [(0, .ref 49), (1, .int s.1), (2, .int s.2.1), (3, .int s.2.2.1), (4, .int s.2.2.2.1), (5, .int s.2.2.2.2.1), (6, .int s.2.2.2.2.2)] [] (I, L, RC n, n) 0 0 Q) (hg1 : ∀ s : Int32 × Int32 × Int32 × Int32 × Int32, K (.inl s) → xm_J 2 mt_M_fit 45 [(0, .ref 49), (1, .int x1), (2, .int s.1), (3, .int s.2.1), (4, .int s.2.2.1), (5, .int s.2.2.2.1), (6, .int x6), (7, .int s.2.2.2.2)] [] (I, L, RC n, n) 0 0 Q) (hF : ok (f_M_fit_s45 x1 x6 I s) K) : xm_J 2 mt_M_fit 45 [(0, .ref 49), (1, .int x1), (2, .int s.1), (3, .int s.2.1), (4, .int s.2.2.1), (5, .int s.2.2.2.1), (6, .int x6), (7, .int s.2.2.2.2)] [] (I, L, RC n, n) 0 0 Q := by
  unfold f_M_fit_s45 at hF
  refine r_iload (i := 27) (k0 := 7) rfl rfl ?_
  refine r_aload_n (i := 28) (k0 := 0) rfl rfl rfl ?_
  refine q_getr (b := 56) (i := 29) rfl fl_M_28 rfl (xm_in rfl hn) rfl rfl ?_
  refine r_iload (i := 30) (k0 := 6) rfl rfl ?_
  obtain ⟨hi, hF⟩ := ok_gd hF
  refine q_iaload (i := 31) rfl (xm_in rfl hn) rfl hi ?_
  refine r_icmpge (i := 32) (tgt := 177) rfl (by decide) (fun hc => ?_) (fun hc => ?_)
  · have hF := ok_it hc hF
    refine q_iinc (i := 89) (k0 := 1) (Ls' := [(1, _), (0, _), (2, _), (3, _), (4, _), (5, _), (6, _), (7, _)]) rfl ki_1 rfl (Nat.le_of_ble_eq_true rfl) rfl ?_
    refine xm_sub (Ls' := [(0, _), (1, _), (2, _), (3, _), (4, _), (5, _), (6, _)]) [1, 0, 2, 3, 4, 5, 6] rfl ?_
    exact t_M_fit_b180 hn (fun p h => hq p h) (fun z h => hg0 z h) (ok_map hF)
  have hF := ok_if hc hF
  refine r_aload_n (i := 33) (k0 := 0) rfl rfl rfl ?_
  refine r_iload (i := 34) (k0 := 6) rfl rfl ?_
  refine r_iload (i := 35) (k0 := 7) rfl rfl ?_
  refine c_V2I (i := 36) rfl vm_M_cornerX lk_M_193 (t_M_cornerX hn (ok_bind hF)) (Nat.le_of_ble_eq_true rfl) (xm_in rfl hn) rfl rfl (Nat.le_of_ble_eq_true rfl) (fun p_2 hF => ?_)
  refine r_istore (i := 37) (Ls' := [(8, _), (0, _), (1, _), (2, _), (3, _), (4, _), (5, _), (6, _), (7, _)]) rfl (Nat.le_of_ble_eq_true rfl) rfl ?_
  refine r_aload_n (i := 38) (k0 := 1) rfl rfl rfl ?_
  refine r_iload (i := 39) (k0 := 7) rfl rfl ?_
  refine r_iload (i := 40) (k0 := 8) rfl rfl ?_
  refine c_V2I (i := 41) rfl vm_M_cornerY lk_M_197 (t_M_cornerY hn (ok_bind hF)) (Nat.le_of_ble_eq_true rfl) (xm_in rfl hn) rfl rfl (Nat.le_of_ble_eq_true rfl) (fun p_3 hF => ?_)
  refine r_istore (i := 42) (Ls' := [(9, _), (8, _), (0, _), (1, _), (2, _), (3, _), (4, _), (5, _), (6, _), (7, _)]) rfl (Nat.le_of_ble_eq_true rfl) rfl ?_
  refine r_iload_n (i := 43) (k0 := 3) rfl rfl rfl ?_
  refine r_ifne (i := 44) (tgt := 90) rfl (by decide) (fun hc => ?_) (fun hc => ?_)
  · have hF := ok_if hc hF
    refine xm_sub (Ls' := [(0, _), (1, _), (2, _), (3, _), (4, _), (5, _), (6, _), (7, _), (8, _), (9, _)]) [2, 3, 4, 5, 6, 7, 8, 9, 1, 0] rfl ?_
    exact t_M_fit_b90 hn (fun p h => hq p h) (fun z h => hg0 z h) (fun z h => hg1 z h) hF
  have hF := ok_it hc hF
  refine r_iload (i := 45) (k0 := 9) rfl rfl ?_
  refine r_ifne (i := 46) (tgt := 90) rfl (by decide) (fun hc => ?_) (fun hc => ?_)
  · have hF := ok_if hc hF
    refine xm_sub (Ls' := [(0, _), (1, _), (2, _), (3, _), (4, _), (5, _), (6, _), (7, _), (8, _), (9, _)]) [2, 3, 4, 5, 6, 7, 8, 9, 1, 0] rfl ?_
    exact t_M_fit_b90 hn (fun p h => hq p h) (fun z h => hg0 z h) (fun z h => hg1 z h) hF
  have hF := ok_it hc hF
  refine r_iconst (v := 1) (i := 47) rfl ki_1 ?_
  refine r_goto (i := 48) (tgt := 91) rfl (by decide) ?_
  refine xm_sub (Ls' := [(0, _), (1, _), (2, _), (3, _), (4, _), (5, _), (6, _), (7, _), (8, _), (9, _)]) [2, 3, 4, 5, 6, 7, 8, 9, 1, 0] rfl ?_
  exact t_M_fit_b91 hn (fun p h => hq p h) (fun z h => hg0 z h) (fun z h => hg1 z h) hF
set_option maxHeartbeats 4000000 in
set_option maxRecDepth 100000 in
theorem t_M_fit_b45 {x1 : Int32} {x6 : Int32} {s : Int32 × Int32 × Int32 × Int32 × Int32} {n : Nat} {I : xm_I} {L : xm_L} {K : (Int32 × Int32 × Int32 × Int32 × Int32 × Int32) ⊕ (Int32 × xm_I) → Prop} {Q : Option Value → xm_H → Prop} (hn : 86 ≤ n) (hq : ∀ p : Int32 × xm_I, K (.inr p) → Q (some (.int p.1)) (p.2, L, RC n, n)) (hg0 : ∀ s : Int32 × Int32 × Int32 × Int32 × Int32 × Int32, K (.inl s) → xm_J 2 mt_M_fit 15 [(0, .ref 49), (1, .int s.1), (2, .int s.2.1), (3, .int s.2.2.1), (4, .int s.2.2.2.1), (5, .int s.2.2.2.2.1), (6, .int s.2.2.2.2.2)] [] (I, L, RC n, n) 0 0 Q) (hF : ok (f_M_fit_b45 x1 x6 I s) K) : xm_J 2 mt_M_fit 45 [(0, .ref 49), (1, .int x1), (2, .int s.1), (3, .int s.2.1), (4, .int s.2.2.1), (5, .int s.2.2.2.1), (6, .int x6), (7, .int s.2.2.2.2)] [] (I, L, RC n, n) 0 0 Q :=
  lp_J (G := fun z => xm_J 2 mt_M_fit 45 [(0, .ref 49), (1, .int x1), (2, .int z.1), (3, .int z.2.1), (4, .int z.2.2.1), (5, .int z.2.2.2.1), (6, .int x6), (7, .int z.2.2.2.2)] [] (I, L, RC n, n) 0 0 Q) (fun z hF => t_M_fit_s45 hn (fun p h => hq p h) (fun z h => hg0 z h) (fun z h => h) hF) s hF
set_option maxHeartbeats 4000000 in
set_option maxRecDepth 100000 in
theorem t_M_fit_s15 {s : Int32 × Int32 × Int32 × Int32 × Int32 × Int32} {n : Nat} {I : xm_I} {L : xm_L} {K : (Int32 × Int32 × Int32 × Int32 × Int32 × Int32) ⊕ (Int32 × xm_I) → Prop} {Q : Option Value → xm_H → Prop} (hn : 86 ≤ n) (hq : ∀ p : Int32 × xm_I, K (.inr p) → Q (some (.int p.1)) (p.2, L, RC n, n)) (hg0 : ∀ s : Int32 × Int32 × Int32 × Int32 × Int32 × Int32, K (.inl s) → xm_J 2 mt_M_fit 15 [(0, .ref 49), (1, .int s.1), (2, .int s.2.1), (3, .int s.2.2.1), (4, .int s.2.2.2.1), (5, .int s.2.2.2.2.1), (6, .int s.2.2.2.2.2)] [] (I, L, RC n, n) 0 0 Q) (hF : ok (f_M_fit_s15 I s) K) : xm_J 2 mt_M_fit 15 [(0, .ref 49), (1, .int s.1), (2, .int s.2.1), (3, .int s.2.2.1), (4, .int s.2.2.2.1), (5, .int s.2.2.2.2.1), (6, .int s.2.2.2.2.2)] [] (I, L, RC n, n) 0 0 Q := by
  unfold f_M_fit_s15 at hF
  refine r_iload (i := 12) (k0 := 6) rfl rfl ?_
  refine r_aload_n (i := 13) (k0 := 0) rfl rfl rfl ?_
  refine q_geti (i := 14) rfl fl_M_140 (xm_in rfl hn) rfl ?_
  refine r_icmpge (i := 15) (tgt := 186) rfl (by decide) (fun hc => ?_) (fun hc => ?_)
  · have hF := ok_it hc hF
    refine r_iload_n (i := 92) (k0 := 1) rfl rfl rfl ?_
    refine r_ifne (i := 93) (tgt := 193) rfl (by decide) (fun hc => ?_) (fun hc => ?_)
    · have hF := ok_if hc hF
      refine r_aload_n (i := 96) (k0 := 0) rfl rfl rfl ?_
      refine r_iload_n (i := 97) (k0 := 2) rfl rfl rfl ?_
      refine q_puti (i := 98) rfl fl_M_218 (fun h => Bool.noConfusion h) (xm_in rfl hn) rfl ?_
      refine r_aload_n (i := 99) (k0 := 0) rfl rfl rfl ?_
      refine r_iload_n (i := 100) (k0 := 3) rfl rfl rfl ?_
      refine q_puti (i := 101) rfl fl_M_44 (fun h => Bool.noConfusion h) (xm_in rfl hn) rfl ?_
      refine r_aload_n (i := 102) (k0 := 0) rfl rfl rfl ?_
      refine r_iload (i := 103) (k0 := 4) rfl rfl ?_
      refine q_puti (i := 104) rfl fl_M_221 (fun h => Bool.noConfusion h) (xm_in rfl hn) rfl ?_
      refine r_aload_n (i := 105) (k0 := 0) rfl rfl rfl ?_
      refine r_iload (i := 106) (k0 := 5) rfl rfl ?_
      refine q_puti (i := 107) rfl fl_M_48 (fun h => Bool.noConfusion h) (xm_in rfl hn) rfl ?_
      refine r_iload_n (i := 108) (k0 := 1) rfl rfl rfl ?_
      have hQ := hq _ (ok_some hF)
      exact r_ireturn (i := 109) rfl rfl rfl hQ
    have hF := ok_it hc hF
    refine r_ldc (i := 94) rfl ct_M_185 ?_
    have hQ := hq _ (ok_some hF)
    exact r_ireturn (i := 95) rfl rfl rfl hQ
  have hF := ok_if hc hF
  refine r_aload_n (i := 16) (k0 := 0) rfl rfl rfl ?_
  refine q_getr (b := 60) (i := 17) rfl fl_M_40 rfl (xm_in rfl hn) rfl rfl ?_
  refine r_aload_n (i := 18) (k0 := 0) rfl rfl rfl ?_
  refine q_getr (b := 54) (i := 19) rfl fl_M_22 rfl (xm_in rfl hn) rfl rfl ?_
  refine r_iload (i := 20) (k0 := 6) rfl rfl ?_
  obtain ⟨hi, hF⟩ := ok_gd hF
  refine q_iaload (i := 21) rfl (xm_in rfl hn) rfl hi ?_
  obtain ⟨hi, hF⟩ := ok_gd hF
  refine q_baload (i := 22) rfl (xm_in rfl hn) rfl hi ?_
  refine r_ifeq (i := 23) (tgt := 42) rfl (by decide) (fun hc => ?_) (fun hc => ?_)
  · have hF := ok_it hc hF
    refine r_iconst (v := 0) (i := 25) rfl ki_0 ?_
    refine r_istore (i := 26) (Ls' := [(7, _), (0, _), (1, _), (2, _), (3, _), (4, _), (5, _), (6, _)]) rfl (Nat.le_of_ble_eq_true rfl) rfl ?_
    refine xm_sub (Ls' := [(0, _), (1, _), (2, _), (3, _), (4, _), (5, _), (6, _), (7, _)]) [1, 2, 3, 4, 5, 6, 7, 0] rfl ?_
    exact t_M_fit_b45 hn (fun p h => hq p h) (fun z h => hg0 z h) hF
  have hF := ok_if hc hF
  refine r_goto (i := 24) (tgt := 180) rfl (by decide) ?_
  exact t_M_fit_b180 hn (fun p h => hq p h) (fun z h => hg0 z h) hF
set_option maxHeartbeats 4000000 in
set_option maxRecDepth 100000 in
theorem t_M_fit_b15 {s : Int32 × Int32 × Int32 × Int32 × Int32 × Int32} {n : Nat} {I : xm_I} {L : xm_L} {K : Int32 × xm_I → Prop} {Q : Option Value → xm_H → Prop} (hn : 86 ≤ n) (hq : ∀ p : Int32 × xm_I, K p → Q (some (.int p.1)) (p.2, L, RC n, n)) (hF : ok (f_M_fit_b15 I s) K) : xm_J 2 mt_M_fit 15 [(0, .ref 49), (1, .int s.1), (2, .int s.2.1), (3, .int s.2.2.1), (4, .int s.2.2.2.1), (5, .int s.2.2.2.2.1), (6, .int s.2.2.2.2.2)] [] (I, L, RC n, n) 0 0 Q :=
  lp_J (G := fun z => xm_J 2 mt_M_fit 15 [(0, .ref 49), (1, .int z.1), (2, .int z.2.1), (3, .int z.2.2.1), (4, .int z.2.2.2.1), (5, .int z.2.2.2.2.1), (6, .int z.2.2.2.2.2)] [] (I, L, RC n, n) 0 0 Q) (fun z hF => t_M_fit_s15 hn (fun p h => hq p h) (fun z h => h) hF) s hF
set_option maxHeartbeats 4000000 in
set_option maxRecDepth 100000 in
theorem t_M_fit_b0 {n : Nat} {I : xm_I} {L : xm_L} {K : Int32 × xm_I → Prop} {Q : Option Value → xm_H → Prop} (hn : 86 ≤ n) (hq : ∀ p : Int32 × xm_I, K p → Q (some (.int p.1)) (p.2, L, RC n, n)) (hF : ok (f_M_fit_b0 I) K) : xm_J 2 mt_M_fit 0 [(0, .ref 49)] [] (I, L, RC n, n) 0 0 Q := by
  unfold f_M_fit_b0 at hF
  refine r_iconst (v := 0) (i := 0) rfl ki_0 ?_
  refine r_istore_n (i := 1) (Ls' := [(1, _), (0, _)]) rfl rfl (Nat.le_of_ble_eq_true rfl) rfl ?_
  refine r_iconst (v := 0) (i := 2) rfl ki_0 ?_
  refine r_istore_n (i := 3) (Ls' := [(2, _), (1, _), (0, _)]) rfl rfl (Nat.le_of_ble_eq_true rfl) rfl ?_
  refine r_iconst (v := 0) (i := 4) rfl ki_0 ?_
  refine r_istore_n (i := 5) (Ls' := [(3, _), (2, _), (1, _), (0, _)]) rfl rfl (Nat.le_of_ble_eq_true rfl) rfl ?_
  refine r_iconst (v := 0) (i := 6) rfl ki_0 ?_
  refine r_istore (i := 7) (Ls' := [(4, _), (3, _), (2, _), (1, _), (0, _)]) rfl (Nat.le_of_ble_eq_true rfl) rfl ?_
  refine r_iconst (v := 0) (i := 8) rfl ki_0 ?_
  refine r_istore (i := 9) (Ls' := [(5, _), (4, _), (3, _), (2, _), (1, _), (0, _)]) rfl (Nat.le_of_ble_eq_true rfl) rfl ?_
  refine r_iconst (v := 0) (i := 10) rfl ki_0 ?_
  refine r_istore (i := 11) (Ls' := [(6, _), (5, _), (4, _), (3, _), (2, _), (1, _), (0, _)]) rfl (Nat.le_of_ble_eq_true rfl) rfl ?_
  refine xm_sub (Ls' := [(0, _), (1, _), (2, _), (3, _), (4, _), (5, _), (6, _)]) [6, 5, 4, 3, 2, 1, 0] rfl ?_
  exact t_M_fit_b15 hn (fun p h => hq p h) hF
set_option maxHeartbeats 4000000 in
set_option maxRecDepth 100000 in
theorem t_M_fit {n : Nat} {I : xm_I} {L : xm_L} {K : Int32 × xm_I → Prop} (hn : 86 ≤ n) (hF : ok (f_M_fit I) K) : xm_C 2 mt_M_fit [.ref 49] (I, L, RC n, n) 0 0 (pI (fun p : Int32 × xm_I => p.1) (fun p : Int32 × xm_I => (p.2, L, RC n, n)) K) := by
  unfold f_M_fit at hF
  refine xm_enter (by decide +kernel) dv_M_fit (Nat.le_of_ble_eq_true rfl) ?_
  exact t_M_fit_b0 hn (fun p hp => ⟨p, rfl, rfl, hp⟩) hF

noncomputable def f_M_side_b0 (x1 : Int32) (I : xm_I) : Option (Int32) :=
  if x1 = 0 then (
    some (I 49 15))
  else (
    if x1 = 1 then (
      some (I 49 16))
    else (
      if x1 = 2 then (
        some (I 49 17))
      else (
        if x1 = 3 then (
          some (I 49 18))
        else (
          some ((-100002))))))
noncomputable def f_M_side (x1 : Int32) (I : xm_I) : Option (Int32) := f_M_side_b0 x1 I
set_option maxHeartbeats 4000000 in
set_option maxRecDepth 100000 in
theorem t_M_side_b0 {x1 : Int32} {n : Nat} {I : xm_I} {L : xm_L} {K : Int32 → Prop} {Q : Option Value → xm_H → Prop} (hn : 86 ≤ n) (hq : ∀ p : Int32, K p → Q (some (.int p)) (I, L, RC n, n)) (hF : ok (f_M_side_b0 x1 I) K) : xm_J 0 mt_M_side 0 [(0, .ref 49), (1, .int x1)] [] (I, L, RC n, n) 0 0 Q := by
  unfold f_M_side_b0 at hF
  refine r_iload_n (i := 0) (k0 := 1) rfl rfl rfl ?_
  refine r_ifne (i := 1) (tgt := 11) rfl (by decide) (fun hc => ?_) (fun hc => ?_)
  · have hF := ok_if hc hF
    refine r_iload_n (i := 5) (k0 := 1) rfl rfl rfl ?_
    refine r_iconst (v := 1) (i := 6) rfl ki_1 ?_
    refine r_icmpne (i := 7) (tgt := 23) rfl (by decide) (fun hc => ?_) (fun hc => ?_)
    · have hF := ok_if hc hF
      refine r_iload_n (i := 11) (k0 := 1) rfl rfl rfl ?_
      refine r_iconst (v := 2) (i := 12) rfl ki_2 ?_
      refine r_icmpne (i := 13) (tgt := 35) rfl (by decide) (fun hc => ?_) (fun hc => ?_)
      · have hF := ok_if hc hF
        refine r_iload_n (i := 17) (k0 := 1) rfl rfl rfl ?_
        refine r_iconst (v := 3) (i := 18) rfl ki_3 ?_
        refine r_icmpne (i := 19) (tgt := 47) rfl (by decide) (fun hc => ?_) (fun hc => ?_)
        · have hF := ok_if hc hF
          refine r_ldc (i := 23) rfl ct_M_154 ?_
          have hQ := hq _ (ok_some hF)
          exact r_ireturn (i := 24) rfl rfl rfl hQ
        have hF := ok_it hc hF
        refine r_aload_n (i := 20) (k0 := 0) rfl rfl rfl ?_
        refine q_geti (i := 21) rfl fl_M_48 (xm_in rfl hn) rfl ?_
        refine r_goto (i := 22) (tgt := 49) rfl (by decide) ?_
        have hQ := hq _ (ok_some hF)
        exact r_ireturn (i := 24) rfl rfl rfl hQ
      have hF := ok_it hc hF
      refine r_aload_n (i := 14) (k0 := 0) rfl rfl rfl ?_
      refine q_geti (i := 15) rfl fl_M_221 (xm_in rfl hn) rfl ?_
      refine r_goto (i := 16) (tgt := 49) rfl (by decide) ?_
      have hQ := hq _ (ok_some hF)
      exact r_ireturn (i := 24) rfl rfl rfl hQ
    have hF := ok_it hc hF
    refine r_aload_n (i := 8) (k0 := 0) rfl rfl rfl ?_
    refine q_geti (i := 9) rfl fl_M_44 (xm_in rfl hn) rfl ?_
    refine r_goto (i := 10) (tgt := 49) rfl (by decide) ?_
    have hQ := hq _ (ok_some hF)
    exact r_ireturn (i := 24) rfl rfl rfl hQ
  have hF := ok_it hc hF
  refine r_aload_n (i := 2) (k0 := 0) rfl rfl rfl ?_
  refine q_geti (i := 3) rfl fl_M_218 (xm_in rfl hn) rfl ?_
  refine r_goto (i := 4) (tgt := 49) rfl (by decide) ?_
  have hQ := hq _ (ok_some hF)
  exact r_ireturn (i := 24) rfl rfl rfl hQ
set_option maxHeartbeats 4000000 in
set_option maxRecDepth 100000 in
theorem t_M_side {x1 : Int32} {n : Nat} {I : xm_I} {L : xm_L} {K : Int32 → Prop} (hn : 86 ≤ n) (hF : ok (f_M_side x1 I) K) : xm_C 0 mt_M_side [.ref 49, .int x1] (I, L, RC n, n) 0 0 (pI (fun p : Int32 => p) (fun p : Int32 => (I, L, RC n, n)) K) := by
  unfold f_M_side at hF
  refine xm_enter (by decide +kernel) dv_M_side (Nat.le_of_ble_eq_true rfl) ?_
  exact t_M_side_b0 hn (fun p hp => ⟨p, rfl, rfl, hp⟩) hF

noncomputable def f_M_sheet_b0 (x1 : Int32) (x2 : Int32) (x3 : Int32) (I : xm_I) : Option (Int32 × xm_I) :=
  (f_M_in (Int32.toInt64 x1) 16 400).bind fun p_1 =>
  if p_1 = 0 then (
    some ((-100002), I))
  else (
  (f_M_in (Int32.toInt64 x2) 16 400).bind fun p_2 =>
  if p_2 = 0 then (
    some ((-100002), I))
  else (
  (f_M_in (Int32.toInt64 x3) 0 7).bind fun p_3 =>
  if p_3 = 0 then (
    some ((-100002), I))
  else (
    let I_4 : xm_I := up2 I 49 19 x1
    let I_5 : xm_I := up2 I_4 49 20 x2
    let I_6 : xm_I := up2 I_5 49 21 x3
    some (1, I_6))))
noncomputable def f_M_sheet (x1 : Int32) (x2 : Int32) (x3 : Int32) (I : xm_I) : Option (Int32 × xm_I) := f_M_sheet_b0 x1 x2 x3 I
set_option maxHeartbeats 4000000 in
set_option maxRecDepth 100000 in
theorem t_M_sheet_b0 {x1 : Int32} {x2 : Int32} {x3 : Int32} {n : Nat} {I : xm_I} {L : xm_L} {K : Int32 × xm_I → Prop} {Q : Option Value → xm_H → Prop} (hn : 86 ≤ n) (hq : ∀ p : Int32 × xm_I, K p → Q (some (.int p.1)) (p.2, L, RC n, n)) (hF : ok (f_M_sheet_b0 x1 x2 x3 I) K) : xm_J 1 mt_M_sheet 0 [(0, .ref 49), (1, .int x1), (2, .int x2), (3, .int x3)] [] (I, L, RC n, n) 0 0 Q := by
  unfold f_M_sheet_b0 at hF
  refine r_iload_n (i := 0) (k0 := 1) rfl rfl rfl ?_
  refine r_i2l (i := 1) rfl ?_
  refine r_ldc2 (i := 2) rfl ct_M_224 ?_
  refine r_ldc2 (i := 3) rfl ct_M_226 ?_
  refine c_S3I (i := 4) rfl sm_M_in lk_M_150 (t_M_in hn (ok_bind hF)) (Nat.le_of_ble_eq_true rfl) rfl (Nat.le_of_ble_eq_true rfl) (fun p_1 hF => ?_)
  refine r_ifeq (i := 5) (tgt := 40) rfl (by decide) (fun hc => ?_) (fun hc => ?_)
  · have hF := ok_it hc hF
    refine r_ldc (i := 18) rfl ct_M_154 ?_
    have hQ := hq _ (ok_some hF)
    exact r_ireturn (i := 19) rfl rfl rfl hQ
  have hF := ok_if hc hF
  refine r_iload_n (i := 6) (k0 := 2) rfl rfl rfl ?_
  refine r_i2l (i := 7) rfl ?_
  refine r_ldc2 (i := 8) rfl ct_M_224 ?_
  refine r_ldc2 (i := 9) rfl ct_M_226 ?_
  refine c_S3I (i := 10) rfl sm_M_in lk_M_150 (t_M_in hn (ok_bind hF)) (Nat.le_of_ble_eq_true rfl) rfl (Nat.le_of_ble_eq_true rfl) (fun p_2 hF => ?_)
  refine r_ifeq (i := 11) (tgt := 40) rfl (by decide) (fun hc => ?_) (fun hc => ?_)
  · have hF := ok_it hc hF
    refine r_ldc (i := 18) rfl ct_M_154 ?_
    have hQ := hq _ (ok_some hF)
    exact r_ireturn (i := 19) rfl rfl rfl hQ
  have hF := ok_if hc hF
  refine r_iload_n (i := 12) (k0 := 3) rfl rfl rfl ?_
  refine r_i2l (i := 13) rfl ?_
  refine r_lconst (v := 0) (i := 14) rfl rfl ?_
  refine r_ldc2 (i := 15) rfl ct_M_228 ?_
  refine c_S3I (i := 16) rfl sm_M_in lk_M_150 (t_M_in hn (ok_bind hF)) (Nat.le_of_ble_eq_true rfl) rfl (Nat.le_of_ble_eq_true rfl) (fun p_3 hF => ?_)
  refine r_ifne (i := 17) (tgt := 43) rfl (by decide) (fun hc => ?_) (fun hc => ?_)
  · have hF := ok_if hc hF
    refine r_aload_n (i := 20) (k0 := 0) rfl rfl rfl ?_
    refine r_iload_n (i := 21) (k0 := 1) rfl rfl rfl ?_
    refine q_puti (i := 22) rfl fl_M_51 (fun h => Bool.noConfusion h) (xm_in rfl hn) rfl ?_
    refine r_aload_n (i := 23) (k0 := 0) rfl rfl rfl ?_
    refine r_iload_n (i := 24) (k0 := 2) rfl rfl rfl ?_
    refine q_puti (i := 25) rfl fl_M_54 (fun h => Bool.noConfusion h) (xm_in rfl hn) rfl ?_
    refine r_aload_n (i := 26) (k0 := 0) rfl rfl rfl ?_
    refine r_iload_n (i := 27) (k0 := 3) rfl rfl rfl ?_
    refine q_puti (i := 28) rfl fl_M_230 (fun h => Bool.noConfusion h) (xm_in rfl hn) rfl ?_
    refine r_iconst (v := 1) (i := 29) rfl ki_1 ?_
    have hQ := hq _ (ok_some hF)
    exact r_ireturn (i := 30) rfl rfl rfl hQ
  have hF := ok_it hc hF
  refine r_ldc (i := 18) rfl ct_M_154 ?_
  have hQ := hq _ (ok_some hF)
  exact r_ireturn (i := 19) rfl rfl rfl hQ
set_option maxHeartbeats 4000000 in
set_option maxRecDepth 100000 in
theorem t_M_sheet {x1 : Int32} {x2 : Int32} {x3 : Int32} {n : Nat} {I : xm_I} {L : xm_L} {K : Int32 × xm_I → Prop} (hn : 86 ≤ n) (hF : ok (f_M_sheet x1 x2 x3 I) K) : xm_C 1 mt_M_sheet [.ref 49, .int x1, .int x2, .int x3] (I, L, RC n, n) 0 0 (pI (fun p : Int32 × xm_I => p.1) (fun p : Int32 × xm_I => (p.2, L, RC n, n)) K) := by
  unfold f_M_sheet at hF
  refine xm_enter (by decide +kernel) dv_M_sheet (Nat.le_of_ble_eq_true rfl) ?_
  exact t_M_sheet_b0 hn (fun p hp => ⟨p, rfl, rfl, hp⟩) hF

noncomputable def f_M_grid_b0 (x1 : Int32) (I : xm_I) : Option (Int32 × xm_I) :=
  (f_M_in (Int32.toInt64 x1) 0 40000).bind fun p_1 =>
  if p_1 = 0 then (
    some ((-100002), I))
  else (
    let x2_2 : Int32 := I 49 22
    let I_3 : xm_I := up2 I 49 22 x1
    some (x2_2, I_3))
noncomputable def f_M_grid (x1 : Int32) (I : xm_I) : Option (Int32 × xm_I) := f_M_grid_b0 x1 I
set_option maxHeartbeats 4000000 in
set_option maxRecDepth 100000 in
theorem t_M_grid_b0 {x1 : Int32} {n : Nat} {I : xm_I} {L : xm_L} {K : Int32 × xm_I → Prop} {Q : Option Value → xm_H → Prop} (hn : 86 ≤ n) (hq : ∀ p : Int32 × xm_I, K p → Q (some (.int p.1)) (p.2, L, RC n, n)) (hF : ok (f_M_grid_b0 x1 I) K) : xm_J 1 mt_M_grid 0 [(0, .ref 49), (1, .int x1)] [] (I, L, RC n, n) 0 0 Q := by
  unfold f_M_grid_b0 at hF
  refine r_iload_n (i := 0) (k0 := 1) rfl rfl rfl ?_
  refine r_i2l (i := 1) rfl ?_
  refine r_lconst (v := 0) (i := 2) rfl rfl ?_
  refine r_ldc2 (i := 3) rfl ct_M_233 ?_
  refine c_S3I (i := 4) rfl sm_M_in lk_M_150 (t_M_in hn (ok_bind hF)) (Nat.le_of_ble_eq_true rfl) rfl (Nat.le_of_ble_eq_true rfl) (fun p_1 hF => ?_)
  refine r_ifne (i := 5) (tgt := 15) rfl (by decide) (fun hc => ?_) (fun hc => ?_)
  · have hF := ok_if hc hF
    refine r_aload_n (i := 8) (k0 := 0) rfl rfl rfl ?_
    refine q_geti (i := 9) rfl fl_M_235 (xm_in rfl hn) rfl ?_
    refine r_istore_n (i := 10) (Ls' := [(2, _), (0, _), (1, _)]) rfl rfl (Nat.le_of_ble_eq_true rfl) rfl ?_
    refine r_aload_n (i := 11) (k0 := 1) rfl rfl rfl ?_
    refine r_iload_n (i := 12) (k0 := 2) rfl rfl rfl ?_
    refine q_puti (i := 13) rfl fl_M_235 (fun h => Bool.noConfusion h) (xm_in rfl hn) rfl ?_
    refine r_iload_n (i := 14) (k0 := 0) rfl rfl rfl ?_
    have hQ := hq _ (ok_some hF)
    exact r_ireturn (i := 15) rfl rfl rfl hQ
  have hF := ok_it hc hF
  refine r_ldc (i := 6) rfl ct_M_154 ?_
  have hQ := hq _ (ok_some hF)
  exact r_ireturn (i := 7) rfl rfl rfl hQ
set_option maxHeartbeats 4000000 in
set_option maxRecDepth 100000 in
theorem t_M_grid {x1 : Int32} {n : Nat} {I : xm_I} {L : xm_L} {K : Int32 × xm_I → Prop} (hn : 86 ≤ n) (hF : ok (f_M_grid x1 I) K) : xm_C 1 mt_M_grid [.ref 49, .int x1] (I, L, RC n, n) 0 0 (pI (fun p : Int32 × xm_I => p.1) (fun p : Int32 × xm_I => (p.2, L, RC n, n)) K) := by
  unfold f_M_grid at hF
  refine xm_enter (by decide +kernel) dv_M_grid (Nat.le_of_ble_eq_true rfl) ?_
  exact t_M_grid_b0 hn (fun p hp => ⟨p, rfl, rfl, hp⟩) hF

noncomputable def f_M_hatch_b0 (x1 : Int32) (I : xm_I) : Option (Int32 × xm_I) :=
  (f_M_in (Int32.toInt64 x1) 10 1000).bind fun p_1 =>
  if p_1 = 0 then (
    some ((-100002), I))
  else (
    let x2_2 : Int32 := I 49 23
    let I_3 : xm_I := up2 I 49 23 x1
    some (x2_2, I_3))
noncomputable def f_M_hatch (x1 : Int32) (I : xm_I) : Option (Int32 × xm_I) := f_M_hatch_b0 x1 I
set_option maxHeartbeats 4000000 in
set_option maxRecDepth 100000 in
theorem t_M_hatch_b0 {x1 : Int32} {n : Nat} {I : xm_I} {L : xm_L} {K : Int32 × xm_I → Prop} {Q : Option Value → xm_H → Prop} (hn : 86 ≤ n) (hq : ∀ p : Int32 × xm_I, K p → Q (some (.int p.1)) (p.2, L, RC n, n)) (hF : ok (f_M_hatch_b0 x1 I) K) : xm_J 1 mt_M_hatch 0 [(0, .ref 49), (1, .int x1)] [] (I, L, RC n, n) 0 0 Q := by
  unfold f_M_hatch_b0 at hF
  refine r_iload_n (i := 0) (k0 := 1) rfl rfl rfl ?_
  refine r_i2l (i := 1) rfl ?_
  refine r_ldc2 (i := 2) rfl ct_M_238 ?_
  refine r_ldc2 (i := 3) rfl ct_M_240 ?_
  refine c_S3I (i := 4) rfl sm_M_in lk_M_150 (t_M_in hn (ok_bind hF)) (Nat.le_of_ble_eq_true rfl) rfl (Nat.le_of_ble_eq_true rfl) (fun p_1 hF => ?_)
  refine r_ifne (i := 5) (tgt := 17) rfl (by decide) (fun hc => ?_) (fun hc => ?_)
  · have hF := ok_if hc hF
    refine r_aload_n (i := 8) (k0 := 0) rfl rfl rfl ?_
    refine q_geti (i := 9) rfl fl_M_57 (xm_in rfl hn) rfl ?_
    refine r_istore_n (i := 10) (Ls' := [(2, _), (0, _), (1, _)]) rfl rfl (Nat.le_of_ble_eq_true rfl) rfl ?_
    refine r_aload_n (i := 11) (k0 := 1) rfl rfl rfl ?_
    refine r_iload_n (i := 12) (k0 := 2) rfl rfl rfl ?_
    refine q_puti (i := 13) rfl fl_M_57 (fun h => Bool.noConfusion h) (xm_in rfl hn) rfl ?_
    refine r_iload_n (i := 14) (k0 := 0) rfl rfl rfl ?_
    have hQ := hq _ (ok_some hF)
    exact r_ireturn (i := 15) rfl rfl rfl hQ
  have hF := ok_it hc hF
  refine r_ldc (i := 6) rfl ct_M_154 ?_
  have hQ := hq _ (ok_some hF)
  exact r_ireturn (i := 7) rfl rfl rfl hQ
set_option maxHeartbeats 4000000 in
set_option maxRecDepth 100000 in
theorem t_M_hatch {x1 : Int32} {n : Nat} {I : xm_I} {L : xm_L} {K : Int32 × xm_I → Prop} (hn : 86 ≤ n) (hF : ok (f_M_hatch x1 I) K) : xm_C 1 mt_M_hatch [.ref 49, .int x1] (I, L, RC n, n) 0 0 (pI (fun p : Int32 × xm_I => p.1) (fun p : Int32 × xm_I => (p.2, L, RC n, n)) K) := by
  unfold f_M_hatch at hF
  refine xm_enter (by decide +kernel) dv_M_hatch (Nat.le_of_ble_eq_true rfl) ?_
  exact t_M_hatch_b0 hn (fun p hp => ⟨p, rfl, rfl, hp⟩) hF

noncomputable def f_M_common_s28 (s : Int64 × Int64) : Option ((Int64 × Int64) ⊕ (Int64)) :=
  if s.2 = 0 then (
    some (.inr (s.1)))
  else (
  gd (¬ s.2 = 0) <|
  let l8_1 : Int64 := s.1 - s.1 / s.2 * s.2
  some (.inl (s.2, l8_1)))
noncomputable def f_M_common_b28 (s : Int64 × Int64) : Option (Int64) := lp (f_M_common_s28) s
noncomputable def f_M_common_b26 (l4 : Int64) (y0 : Int64) : Option (Int64) :=
  f_M_common_b28 (l4, y0)
noncomputable def f_M_common_b12 (l2 : Int64) (y0 : Int64) : Option (Int64) :=
  if 0 ≤ l2 then (
    f_M_common_b26 y0 l2)
  else (
  f_M_common_b26 y0 (-l2))
noncomputable def f_M_common_b0 (l0 : Int64) (l2 : Int64) : Option (Int64) :=
  if 0 ≤ l0 then (
    f_M_common_b12 l2 l0)
  else (
  f_M_common_b12 l2 (-l0))
noncomputable def f_M_common (l0 : Int64) (l2 : Int64) : Option (Int64) := f_M_common_b0 l0 l2
set_option maxHeartbeats 4000000 in
set_option maxRecDepth 100000 in
theorem t_M_common_s28 {s : Int64 × Int64} {n : Nat} {I : xm_I} {L : xm_L} {K : (Int64 × Int64) ⊕ (Int64) → Prop} {Q : Option Value → xm_H → Prop} (hn : 86 ≤ n) (hq : ∀ p : Int64, K (.inr p) → Q (some (.long p)) (I, L, RC n, n)) (hg0 : ∀ s : Int64 × Int64, K (.inl s) → xm_J 0 mt_M_common 28 [(4, .long s.1), (6, .long s.2)] [] (I, L, RC n, n) 0 0 Q) (hF : ok (f_M_common_s28 s) K) : xm_J 0 mt_M_common 28 [(4, .long s.1), (6, .long s.2)] [] (I, L, RC n, n) 0 0 Q := by
  unfold f_M_common_s28 at hF
  refine r_lload (i := 18) (k0 := 1) rfl rfl ?_
  refine r_lconst (v := 0) (i := 19) rfl rfl ?_
  refine r_lcmpeq (i := 20) (j := 21) (tgt := 53) rfl rfl (by decide) (fun hc => ?_) (fun hc => ?_)
  · have hF := ok_it hc hF
    refine r_lload (i := 31) (k0 := 0) rfl rfl ?_
    have hQ := hq _ (ok_some hF)
    exact r_lreturn (i := 32) rfl rfl hQ
  have hF := ok_if hc hF
  refine r_lload (i := 22) (k0 := 0) rfl rfl ?_
  refine r_lload (i := 23) (k0 := 1) rfl rfl ?_
  obtain ⟨hi, hF⟩ := ok_gd hF
  refine r_lrem (i := 24) rfl hi ?_
  refine r_lstore (i := 25) (Ls' := [(8, _), (4, _), (6, _)]) rfl (Nat.le_of_ble_eq_true rfl) rfl ?_
  refine r_lload (i := 26) (k0 := 2) rfl rfl ?_
  refine r_lstore (i := 27) (Ls' := [(4, _), (8, _), (6, _)]) rfl (Nat.le_of_ble_eq_true rfl) rfl ?_
  refine r_lload (i := 28) (k0 := 1) rfl rfl ?_
  refine r_lstore (i := 29) (Ls' := [(6, _), (4, _), (8, _)]) rfl (Nat.le_of_ble_eq_true rfl) rfl ?_
  refine r_goto (i := 30) (tgt := 28) rfl (by decide) ?_
  refine xm_sub (Ls' := [(4, _), (6, _)]) [1, 0] rfl ?_
  have hJ := hg0 _ (ok_some hF)
  exact hJ
set_option maxHeartbeats 4000000 in
set_option maxRecDepth 100000 in
theorem t_M_common_b28 {s : Int64 × Int64} {n : Nat} {I : xm_I} {L : xm_L} {K : Int64 → Prop} {Q : Option Value → xm_H → Prop} (hn : 86 ≤ n) (hq : ∀ p : Int64, K p → Q (some (.long p)) (I, L, RC n, n)) (hF : ok (f_M_common_b28 s) K) : xm_J 0 mt_M_common 28 [(4, .long s.1), (6, .long s.2)] [] (I, L, RC n, n) 0 0 Q :=
  lp_J (G := fun z => xm_J 0 mt_M_common 28 [(4, .long z.1), (6, .long z.2)] [] (I, L, RC n, n) 0 0 Q) (fun z hF => t_M_common_s28 hn (fun p h => hq p h) (fun z h => h) hF) s hF
set_option maxHeartbeats 4000000 in
set_option maxRecDepth 100000 in
theorem t_M_common_b26 {l4 : Int64} {y0 : Int64} {n : Nat} {I : xm_I} {L : xm_L} {K : Int64 → Prop} {Q : Option Value → xm_H → Prop} (hn : 86 ≤ n) (hq : ∀ p : Int64, K p → Q (some (.long p)) (I, L, RC n, n)) (hF : ok (f_M_common_b26 l4 y0) K) : xm_J 0 mt_M_common 26 [(4, .long l4)] [.long y0] (I, L, RC n, n) 0 0 Q := by
  unfold f_M_common_b26 at hF
  refine r_lstore (i := 17) (Ls' := [(6, _), (4, _)]) rfl (Nat.le_of_ble_eq_true rfl) rfl ?_
  refine xm_sub (Ls' := [(4, _), (6, _)]) [1, 0] rfl ?_
  exact t_M_common_b28 hn (fun p h => hq p h) hF
set_option maxHeartbeats 4000000 in
set_option maxRecDepth 100000 in
theorem t_M_common_b12 {l2 : Int64} {y0 : Int64} {n : Nat} {I : xm_I} {L : xm_L} {K : Int64 → Prop} {Q : Option Value → xm_H → Prop} (hn : 86 ≤ n) (hq : ∀ p : Int64, K p → Q (some (.long p)) (I, L, RC n, n)) (hF : ok (f_M_common_b12 l2 y0) K) : xm_J 0 mt_M_common 12 [(2, .long l2)] [.long y0] (I, L, RC n, n) 0 0 Q := by
  unfold f_M_common_b12 at hF
  refine r_lstore (i := 8) (Ls' := [(4, _), (2, _)]) rfl (Nat.le_of_ble_eq_true rfl) rfl ?_
  refine r_lload_n (i := 9) (k0 := 1) rfl rfl rfl ?_
  refine r_lconst (v := 0) (i := 10) rfl rfl ?_
  refine r_lcmpge (i := 11) (j := 12) (tgt := 25) rfl rfl (by decide) (fun hc => ?_) (fun hc => ?_)
  · have hF := ok_it hc hF
    refine r_lload_n (i := 16) (k0 := 1) rfl rfl rfl ?_
    refine xm_sub (Ls' := [(4, _)]) [0] rfl ?_
    exact t_M_common_b26 hn (fun p h => hq p h) hF
  have hF := ok_if hc hF
  refine r_lload_n (i := 13) (k0 := 1) rfl rfl rfl ?_
  refine r_lneg (i := 14) rfl ?_
  refine r_goto (i := 15) (tgt := 26) rfl (by decide) ?_
  refine xm_sub (Ls' := [(4, _)]) [0] rfl ?_
  exact t_M_common_b26 hn (fun p h => hq p h) hF
set_option maxHeartbeats 4000000 in
set_option maxRecDepth 100000 in
theorem t_M_common_b0 {l0 : Int64} {l2 : Int64} {n : Nat} {I : xm_I} {L : xm_L} {K : Int64 → Prop} {Q : Option Value → xm_H → Prop} (hn : 86 ≤ n) (hq : ∀ p : Int64, K p → Q (some (.long p)) (I, L, RC n, n)) (hF : ok (f_M_common_b0 l0 l2) K) : xm_J 0 mt_M_common 0 [(0, .long l0), (2, .long l2)] [] (I, L, RC n, n) 0 0 Q := by
  unfold f_M_common_b0 at hF
  refine r_lload_n (i := 0) (k0 := 0) rfl rfl rfl ?_
  refine r_lconst (v := 0) (i := 1) rfl rfl ?_
  refine r_lcmpge (i := 2) (j := 3) (tgt := 11) rfl rfl (by decide) (fun hc => ?_) (fun hc => ?_)
  · have hF := ok_it hc hF
    refine r_lload_n (i := 7) (k0 := 0) rfl rfl rfl ?_
    refine xm_sub (Ls' := [(2, _)]) [1] rfl ?_
    exact t_M_common_b12 hn (fun p h => hq p h) hF
  have hF := ok_if hc hF
  refine r_lload_n (i := 4) (k0 := 0) rfl rfl rfl ?_
  refine r_lneg (i := 5) rfl ?_
  refine r_goto (i := 6) (tgt := 12) rfl (by decide) ?_
  refine xm_sub (Ls' := [(2, _)]) [1] rfl ?_
  exact t_M_common_b12 hn (fun p h => hq p h) hF
set_option maxHeartbeats 4000000 in
set_option maxRecDepth 100000 in
theorem t_M_common {l0 : Int64} {l2 : Int64} {n : Nat} {I : xm_I} {L : xm_L} {K : Int64 → Prop} (hn : 86 ≤ n) (hF : ok (f_M_common l0 l2) K) : xm_C 0 mt_M_common [.long l0, .long l2] (I, L, RC n, n) 0 0 (pL (fun p : Int64 => p) (fun p : Int64 => (I, L, RC n, n)) K) := by
  unfold f_M_common at hF
  refine xm_enter (by decide +kernel) dv_M_common (Nat.le_of_ble_eq_true rfl) ?_
  exact t_M_common_b0 hn (fun p hp => ⟨p, rfl, rfl, hp⟩) hF

noncomputable def f_M_hasScale_b117 (l10 : Int64) (y0 : Int64) (I : xm_I) (L : xm_L) : Option (Int32 × xm_L) :=
  (f_M_common l10 y0).bind fun p_1 =>
  gd (¬ p_1 = 0) <|
  let L_2 : xm_L := up2 L 49 39 (l10 / p_1)
  gd (¬ p_1 = 0) <|
  let L_3 : xm_L := up2 L_2 49 40 (y0 / p_1)
  some (1, L_3)
noncomputable def f_M_hasScale_b104 (l3 : Int64) (l7 : Int64) (x9 : Int32) (y0 : Int64) (I : xm_I) (L : xm_L) : Option (Int32 × xm_L) :=
  if x9 = 0 then (
    f_M_hasScale_b117 y0 l7 I L)
  else (
  f_M_hasScale_b117 y0 l3 I L)
noncomputable def f_M_hasScale_b91 (l1 : Int64) (l3 : Int64) (l5 : Int64) (l7 : Int64) (y0 : Int32) (I : xm_I) (L : xm_L) : Option (Int32 × xm_L) :=
  if y0 = 0 then (
    f_M_hasScale_b104 l3 l7 y0 l5 I L)
  else (
  f_M_hasScale_b104 l3 l7 y0 l1 I L)
noncomputable def f_M_hasScale_b0 (I : xm_I) (L : xm_L) : Option (Int32 × xm_L) :=
  if (I 49 15) = (I 49 16) then (
    some (0, L))
  else (
  if (I 49 17) = (I 49 18) then (
    some (0, L))
  else (
    let l1_1 : Int64 := Int32.toInt64 ((I 49 19) - (2 * (I 49 21)))
    let l3_2 : Int64 := Int32.toInt64 ((I 49 16) - (I 49 15))
    let l5_3 : Int64 := Int32.toInt64 ((I 49 20) - (2 * (I 49 21)))
    let l7_4 : Int64 := Int32.toInt64 ((I 49 18) - (I 49 17))
    if (l5_3 * l3_2) < (l1_1 * l7_4) then (
      f_M_hasScale_b91 l1_1 l3_2 l5_3 l7_4 0 I L)
    else (
    f_M_hasScale_b91 l1_1 l3_2 l5_3 l7_4 1 I L)))
noncomputable def f_M_hasScale (I : xm_I) (L : xm_L) : Option (Int32 × xm_L) := f_M_hasScale_b0 I L
set_option maxHeartbeats 4000000 in
set_option maxRecDepth 100000 in
theorem t_M_hasScale_b117 {l10 : Int64} {y0 : Int64} {n : Nat} {I : xm_I} {L : xm_L} {K : Int32 × xm_L → Prop} {Q : Option Value → xm_H → Prop} (hn : 86 ≤ n) (hq : ∀ p : Int32 × xm_L, K p → Q (some (.int p.1)) (I, p.2, RC n, n)) (hF : ok (f_M_hasScale_b117 l10 y0 I L) K) : xm_J 1 mt_M_hasScale 117 [(0, .ref 49), (10, .long l10)] [.long y0] (I, L, RC n, n) 0 0 Q := by
  unfold f_M_hasScale_b117 at hF
  refine r_lstore (i := 67) (Ls' := [(12, _), (0, _), (10, _)]) rfl (Nat.le_of_ble_eq_true rfl) rfl ?_
  refine r_lload (i := 68) (k0 := 2) rfl rfl ?_
  refine r_lload (i := 69) (k0 := 0) rfl rfl ?_
  refine c_S2L (i := 70) rfl sm_M_common lk_M_242 (t_M_common hn (ok_bind hF)) (Nat.le_of_ble_eq_true rfl) rfl (Nat.le_of_ble_eq_true rfl) (fun p_1 hF => ?_)
  refine r_lstore (i := 71) (Ls' := [(14, _), (12, _), (0, _), (10, _)]) rfl (Nat.le_of_ble_eq_true rfl) rfl ?_
  refine r_aload_n (i := 72) (k0 := 2) rfl rfl rfl ?_
  refine r_lload (i := 73) (k0 := 3) rfl rfl ?_
  refine r_lload (i := 74) (k0 := 0) rfl rfl ?_
  obtain ⟨hi, hF⟩ := ok_gd hF
  refine r_ldiv (i := 75) rfl hi ?_
  refine q_putl (i := 76) rfl fl_M_246 (fun h => Bool.noConfusion h) (xm_in rfl hn) rfl ?_
  refine r_aload_n (i := 77) (k0 := 2) rfl rfl rfl ?_
  refine r_lload (i := 78) (k0 := 1) rfl rfl ?_
  refine r_lload (i := 79) (k0 := 0) rfl rfl ?_
  obtain ⟨hi, hF⟩ := ok_gd hF
  refine r_ldiv (i := 80) rfl hi ?_
  refine q_putl (i := 81) rfl fl_M_250 (fun h => Bool.noConfusion h) (xm_in rfl hn) rfl ?_
  refine r_iconst (v := 1) (i := 82) rfl ki_1 ?_
  have hQ := hq _ (ok_some hF)
  exact r_ireturn (i := 83) rfl rfl rfl hQ
set_option maxHeartbeats 4000000 in
set_option maxRecDepth 100000 in
theorem t_M_hasScale_b104 {l3 : Int64} {l7 : Int64} {x9 : Int32} {y0 : Int64} {n : Nat} {I : xm_I} {L : xm_L} {K : Int32 × xm_L → Prop} {Q : Option Value → xm_H → Prop} (hn : 86 ≤ n) (hq : ∀ p : Int32 × xm_L, K p → Q (some (.int p.1)) (I, p.2, RC n, n)) (hF : ok (f_M_hasScale_b104 l3 l7 x9 y0 I L) K) : xm_J 1 mt_M_hasScale 104 [(0, .ref 49), (3, .long l3), (7, .long l7), (9, .int x9)] [.long y0] (I, L, RC n, n) 0 0 Q := by
  unfold f_M_hasScale_b104 at hF
  refine r_lstore (i := 61) (Ls' := [(10, _), (0, _), (3, _), (7, _), (9, _)]) rfl (Nat.le_of_ble_eq_true rfl) rfl ?_
  refine r_iload (i := 62) (k0 := 4) rfl rfl ?_
  refine r_ifeq (i := 63) (tgt := 115) rfl (by decide) (fun hc => ?_) (fun hc => ?_)
  · have hF := ok_it hc hF
    refine r_lload (i := 66) (k0 := 3) rfl rfl ?_
    refine xm_sub (Ls' := [(0, _), (10, _)]) [1, 0] rfl ?_
    exact t_M_hasScale_b117 hn (fun p h => hq p h) hF
  have hF := ok_if hc hF
  refine r_lload_n (i := 64) (k0 := 2) rfl rfl rfl ?_
  refine r_goto (i := 65) (tgt := 117) rfl (by decide) ?_
  refine xm_sub (Ls' := [(0, _), (10, _)]) [1, 0] rfl ?_
  exact t_M_hasScale_b117 hn (fun p h => hq p h) hF
set_option maxHeartbeats 4000000 in
set_option maxRecDepth 100000 in
theorem t_M_hasScale_b91 {l1 : Int64} {l3 : Int64} {l5 : Int64} {l7 : Int64} {y0 : Int32} {n : Nat} {I : xm_I} {L : xm_L} {K : Int32 × xm_L → Prop} {Q : Option Value → xm_H → Prop} (hn : 86 ≤ n) (hq : ∀ p : Int32 × xm_L, K p → Q (some (.int p.1)) (I, p.2, RC n, n)) (hF : ok (f_M_hasScale_b91 l1 l3 l5 l7 y0 I L) K) : xm_J 1 mt_M_hasScale 91 [(0, .ref 49), (1, .long l1), (3, .long l3), (5, .long l5), (7, .long l7)] [.int y0] (I, L, RC n, n) 0 0 Q := by
  unfold f_M_hasScale_b91 at hF
  refine r_istore (i := 55) (Ls' := [(9, _), (0, _), (1, _), (3, _), (5, _), (7, _)]) rfl (Nat.le_of_ble_eq_true rfl) rfl ?_
  refine r_iload (i := 56) (k0 := 0) rfl rfl ?_
  refine r_ifeq (i := 57) (tgt := 102) rfl (by decide) (fun hc => ?_) (fun hc => ?_)
  · have hF := ok_it hc hF
    refine r_lload (i := 60) (k0 := 4) rfl rfl ?_
    refine xm_sub (Ls' := [(0, _), (3, _), (7, _), (9, _)]) [1, 3, 5, 0] rfl ?_
    exact t_M_hasScale_b104 hn (fun p h => hq p h) hF
  have hF := ok_if hc hF
  refine r_lload_n (i := 58) (k0 := 2) rfl rfl rfl ?_
  refine r_goto (i := 59) (tgt := 104) rfl (by decide) ?_
  refine xm_sub (Ls' := [(0, _), (3, _), (7, _), (9, _)]) [1, 3, 5, 0] rfl ?_
  exact t_M_hasScale_b104 hn (fun p h => hq p h) hF
set_option maxHeartbeats 4000000 in
set_option maxRecDepth 100000 in
theorem t_M_hasScale_b0 {n : Nat} {I : xm_I} {L : xm_L} {K : Int32 × xm_L → Prop} {Q : Option Value → xm_H → Prop} (hn : 86 ≤ n) (hq : ∀ p : Int32 × xm_L, K p → Q (some (.int p.1)) (I, p.2, RC n, n)) (hF : ok (f_M_hasScale_b0 I L) K) : xm_J 1 mt_M_hasScale 0 [(0, .ref 49)] [] (I, L, RC n, n) 0 0 Q := by
  unfold f_M_hasScale_b0 at hF
  refine r_aload_n (i := 0) (k0 := 0) rfl rfl rfl ?_
  refine q_geti (i := 1) rfl fl_M_218 (xm_in rfl hn) rfl ?_
  refine r_aload_n (i := 2) (k0 := 0) rfl rfl rfl ?_
  refine q_geti (i := 3) rfl fl_M_44 (xm_in rfl hn) rfl ?_
  refine r_icmpeq (i := 4) (tgt := 22) rfl (by decide) (fun hc => ?_) (fun hc => ?_)
  · have hF := ok_it hc hF
    refine r_iconst (v := 0) (i := 10) rfl ki_0 ?_
    have hQ := hq _ (ok_some hF)
    exact r_ireturn (i := 11) rfl rfl rfl hQ
  have hF := ok_if hc hF
  refine r_aload_n (i := 5) (k0 := 0) rfl rfl rfl ?_
  refine q_geti (i := 6) rfl fl_M_221 (xm_in rfl hn) rfl ?_
  refine r_aload_n (i := 7) (k0 := 0) rfl rfl rfl ?_
  refine q_geti (i := 8) rfl fl_M_48 (xm_in rfl hn) rfl ?_
  refine r_icmpne (i := 9) (tgt := 24) rfl (by decide) (fun hc => ?_) (fun hc => ?_)
  · have hF := ok_if hc hF
    refine r_aload_n (i := 12) (k0 := 0) rfl rfl rfl ?_
    refine q_geti (i := 13) rfl fl_M_51 (xm_in rfl hn) rfl ?_
    refine r_iconst (v := 2) (i := 14) rfl ki_2 ?_
    refine r_aload_n (i := 15) (k0 := 0) rfl rfl rfl ?_
    refine q_geti (i := 16) rfl fl_M_230 (xm_in rfl hn) rfl ?_
    refine r_imul (i := 17) rfl ?_
    refine r_isub (i := 18) rfl ?_
    refine r_i2l (i := 19) rfl ?_
    refine r_lstore_n (i := 20) (Ls' := [(1, _), (0, _)]) rfl rfl (Nat.le_of_ble_eq_true rfl) rfl ?_
    refine r_aload_n (i := 21) (k0 := 1) rfl rfl rfl ?_
    refine q_geti (i := 22) rfl fl_M_44 (xm_in rfl hn) rfl ?_
    refine r_aload_n (i := 23) (k0 := 1) rfl rfl rfl ?_
    refine q_geti (i := 24) rfl fl_M_218 (xm_in rfl hn) rfl ?_
    refine r_isub (i := 25) rfl ?_
    refine r_i2l (i := 26) rfl ?_
    refine r_lstore_n (i := 27) (Ls' := [(3, _), (1, _), (0, _)]) rfl rfl (Nat.le_of_ble_eq_true rfl) rfl ?_
    refine r_aload_n (i := 28) (k0 := 2) rfl rfl rfl ?_
    refine q_geti (i := 29) rfl fl_M_54 (xm_in rfl hn) rfl ?_
    refine r_iconst (v := 2) (i := 30) rfl ki_2 ?_
    refine r_aload_n (i := 31) (k0 := 2) rfl rfl rfl ?_
    refine q_geti (i := 32) rfl fl_M_230 (xm_in rfl hn) rfl ?_
    refine r_imul (i := 33) rfl ?_
    refine r_isub (i := 34) rfl ?_
    refine r_i2l (i := 35) rfl ?_
    refine r_lstore (i := 36) (Ls' := [(5, _), (3, _), (1, _), (0, _)]) rfl (Nat.le_of_ble_eq_true rfl) rfl ?_
    refine r_aload_n (i := 37) (k0 := 3) rfl rfl rfl ?_
    refine q_geti (i := 38) rfl fl_M_48 (xm_in rfl hn) rfl ?_
    refine r_aload_n (i := 39) (k0 := 3) rfl rfl rfl ?_
    refine q_geti (i := 40) rfl fl_M_221 (xm_in rfl hn) rfl ?_
    refine r_isub (i := 41) rfl ?_
    refine r_i2l (i := 42) rfl ?_
    refine r_lstore (i := 43) (Ls' := [(7, _), (5, _), (3, _), (1, _), (0, _)]) rfl (Nat.le_of_ble_eq_true rfl) rfl ?_
    refine r_lload_n (i := 44) (k0 := 3) rfl rfl rfl ?_
    refine r_lload (i := 45) (k0 := 0) rfl rfl ?_
    refine r_lmul (i := 46) rfl ?_
    refine r_lload (i := 47) (k0 := 1) rfl rfl ?_
    refine r_lload_n (i := 48) (k0 := 2) rfl rfl rfl ?_
    refine r_lmul (i := 49) rfl ?_
    refine r_lcmpgt (i := 50) (j := 51) (tgt := 90) rfl rfl (by decide) (fun hc => ?_) (fun hc => ?_)
    · have hF := ok_it hc hF
      refine r_iconst (v := 0) (i := 54) rfl ki_0 ?_
      refine xm_sub (Ls' := [(0, _), (1, _), (3, _), (5, _), (7, _)]) [4, 3, 2, 1, 0] rfl ?_
      exact t_M_hasScale_b91 hn (fun p h => hq p h) hF
    have hF := ok_if hc hF
    refine r_iconst (v := 1) (i := 52) rfl ki_1 ?_
    refine r_goto (i := 53) (tgt := 91) rfl (by decide) ?_
    refine xm_sub (Ls' := [(0, _), (1, _), (3, _), (5, _), (7, _)]) [4, 3, 2, 1, 0] rfl ?_
    exact t_M_hasScale_b91 hn (fun p h => hq p h) hF
  have hF := ok_it hc hF
  refine r_iconst (v := 0) (i := 10) rfl ki_0 ?_
  have hQ := hq _ (ok_some hF)
  exact r_ireturn (i := 11) rfl rfl rfl hQ
set_option maxHeartbeats 4000000 in
set_option maxRecDepth 100000 in
theorem t_M_hasScale {n : Nat} {I : xm_I} {L : xm_L} {K : Int32 × xm_L → Prop} (hn : 86 ≤ n) (hF : ok (f_M_hasScale I L) K) : xm_C 1 mt_M_hasScale [.ref 49] (I, L, RC n, n) 0 0 (pI (fun p : Int32 × xm_L => p.1) (fun p : Int32 × xm_L => (I, p.2, RC n, n)) K) := by
  unfold f_M_hasScale at hF
  refine xm_enter (by decide +kernel) dv_M_hasScale (Nat.le_of_ble_eq_true rfl) ?_
  exact t_M_hasScale_b0 hn (fun p hp => ⟨p, rfl, rfl, hp⟩) hF

noncomputable def f_M_scale_b14 (x1 : Int32) (y1 : Int32) (I : xm_I) (L : xm_L) : Option (Int32 × xm_I × xm_L) :=
  let I_1 : xm_I := up2 I 49 38 y1
  if (I_1 49 38) ≤ 0 then (
    if x1 = 0 then (
      some (Int64.toInt32 (L 49 40), I_1, L))
    else (
    some (Int64.toInt32 (L 49 39), I_1, L)))
  else (
  some (0, I_1, L))
noncomputable def f_M_scale_b0 (x1 : Int32) (I : xm_I) (L : xm_L) : Option (Int32 × xm_I × xm_L) :=
  (f_M_hasScale I L).bind fun p_1 =>
  if p_1.1 = 0 then (
    f_M_scale_b14 x1 6 I p_1.2)
  else (
  f_M_scale_b14 x1 0 I p_1.2)
noncomputable def f_M_scale (x1 : Int32) (I : xm_I) (L : xm_L) : Option (Int32 × xm_I × xm_L) := f_M_scale_b0 x1 I L
set_option maxHeartbeats 4000000 in
set_option maxRecDepth 100000 in
theorem t_M_scale_b14 {x1 : Int32} {y1 : Int32} {n : Nat} {I : xm_I} {L : xm_L} {K : Int32 × xm_I × xm_L → Prop} {Q : Option Value → xm_H → Prop} (hn : 86 ≤ n) (hq : ∀ p : Int32 × xm_I × xm_L, K p → Q (some (.int p.1)) (p.2.1, p.2.2, RC n, n)) (hF : ok (f_M_scale_b14 x1 y1 I L) K) : xm_J 2 mt_M_scale 14 [(0, .ref 49), (1, .int x1)] [.int y1, .ref 49] (I, L, RC n, n) 0 0 Q := by
  unfold f_M_scale_b14 at hF
  refine q_puti (i := 7) rfl fl_M_257 (fun h => Bool.noConfusion h) (xm_in rfl hn) rfl ?_
  refine r_aload_n (i := 8) (k0 := 0) rfl rfl rfl ?_
  refine q_geti (i := 9) rfl fl_M_257 (xm_in rfl hn) rfl ?_
  refine r_ifle (i := 10) (tgt := 28) rfl (by decide) (fun hc => ?_) (fun hc => ?_)
  · have hF := ok_it hc hF
    refine r_iload_n (i := 13) (k0 := 1) rfl rfl rfl ?_
    refine r_ifeq (i := 14) (tgt := 39) rfl (by decide) (fun hc => ?_) (fun hc => ?_)
    · have hF := ok_it hc hF
      refine r_aload_n (i := 18) (k0 := 0) rfl rfl rfl ?_
      refine q_getl (i := 19) rfl fl_M_250 (xm_in rfl hn) rfl ?_
      refine r_l2i (i := 20) rfl ?_
      have hQ := hq _ (ok_some hF)
      exact r_ireturn (i := 21) rfl rfl rfl hQ
    have hF := ok_if hc hF
    refine r_aload_n (i := 15) (k0 := 0) rfl rfl rfl ?_
    refine q_getl (i := 16) rfl fl_M_246 (xm_in rfl hn) rfl ?_
    refine r_goto (i := 17) (tgt := 43) rfl (by decide) ?_
    refine r_l2i (i := 20) rfl ?_
    have hQ := hq _ (ok_some hF)
    exact r_ireturn (i := 21) rfl rfl rfl hQ
  have hF := ok_if hc hF
  refine r_iconst (v := 0) (i := 11) rfl ki_0 ?_
  refine r_goto (i := 12) (tgt := 44) rfl (by decide) ?_
  have hQ := hq _ (ok_some hF)
  exact r_ireturn (i := 21) rfl rfl rfl hQ
set_option maxHeartbeats 4000000 in
set_option maxRecDepth 100000 in
theorem t_M_scale_b0 {x1 : Int32} {n : Nat} {I : xm_I} {L : xm_L} {K : Int32 × xm_I × xm_L → Prop} {Q : Option Value → xm_H → Prop} (hn : 86 ≤ n) (hq : ∀ p : Int32 × xm_I × xm_L, K p → Q (some (.int p.1)) (p.2.1, p.2.2, RC n, n)) (hF : ok (f_M_scale_b0 x1 I L) K) : xm_J 2 mt_M_scale 0 [(0, .ref 49), (1, .int x1)] [] (I, L, RC n, n) 0 0 Q := by
  unfold f_M_scale_b0 at hF
  refine r_aload_n (i := 0) (k0 := 0) rfl rfl rfl ?_
  refine r_aload_n (i := 1) (k0 := 0) rfl rfl rfl ?_
  refine c_V0I (i := 2) rfl vm_M_hasScale lk_M_253 (t_M_hasScale hn (ok_bind hF)) (Nat.le_of_ble_eq_true rfl) (xm_in rfl hn) rfl rfl (Nat.le_of_ble_eq_true rfl) (fun p_1 hF => ?_)
  refine r_ifeq (i := 3) (tgt := 12) rfl (by decide) (fun hc => ?_) (fun hc => ?_)
  · have hF := ok_it hc hF
    refine r_bipush (v := 6) (i := 6) rfl kb_6 ?_
    exact t_M_scale_b14 hn (fun p h => hq p h) hF
  have hF := ok_if hc hF
  refine r_iconst (v := 0) (i := 4) rfl ki_0 ?_
  refine r_goto (i := 5) (tgt := 14) rfl (by decide) ?_
  exact t_M_scale_b14 hn (fun p h => hq p h) hF
set_option maxHeartbeats 4000000 in
set_option maxRecDepth 100000 in
theorem t_M_scale {x1 : Int32} {n : Nat} {I : xm_I} {L : xm_L} {K : Int32 × xm_I × xm_L → Prop} (hn : 86 ≤ n) (hF : ok (f_M_scale x1 I L) K) : xm_C 2 mt_M_scale [.ref 49, .int x1] (I, L, RC n, n) 0 0 (pI (fun p : Int32 × xm_I × xm_L => p.1) (fun p : Int32 × xm_I × xm_L => (p.2.1, p.2.2, RC n, n)) K) := by
  unfold f_M_scale at hF
  refine xm_enter (by decide +kernel) dv_M_scale (Nat.le_of_ble_eq_true rfl) ?_
  exact t_M_scale_b0 hn (fun p hp => ⟨p, rfl, rfl, hp⟩) hF

noncomputable def f_M_floor_b0 (l0 : Int64) (l2 : Int64) : Option (Int64) :=
  gd (¬ l2 = 0) <|
  let l4_1 : Int64 := l0 / l2
  gd (¬ l2 = 0) <|
  if (l0 - l0 / l2 * l2) = 0 then (
    some (l4_1))
  else (
  if 0 ≤ l0 then (
    some (l4_1))
  else (
  some (l4_1 - 1)))
noncomputable def f_M_floor (l0 : Int64) (l2 : Int64) : Option (Int64) := f_M_floor_b0 l0 l2
set_option maxHeartbeats 4000000 in
set_option maxRecDepth 100000 in
theorem t_M_floor_b0 {l0 : Int64} {l2 : Int64} {n : Nat} {I : xm_I} {L : xm_L} {K : Int64 → Prop} {Q : Option Value → xm_H → Prop} (hn : 86 ≤ n) (hq : ∀ p : Int64, K p → Q (some (.long p)) (I, L, RC n, n)) (hF : ok (f_M_floor_b0 l0 l2) K) : xm_J 0 mt_M_floor 0 [(0, .long l0), (2, .long l2)] [] (I, L, RC n, n) 0 0 Q := by
  unfold f_M_floor_b0 at hF
  refine r_lload_n (i := 0) (k0 := 0) rfl rfl rfl ?_
  refine r_lload_n (i := 1) (k0 := 1) rfl rfl rfl ?_
  obtain ⟨hi, hF⟩ := ok_gd hF
  refine r_ldiv (i := 2) rfl hi ?_
  refine r_lstore (i := 3) (Ls' := [(4, _), (0, _), (2, _)]) rfl (Nat.le_of_ble_eq_true rfl) rfl ?_
  refine r_lload_n (i := 4) (k0 := 1) rfl rfl rfl ?_
  refine r_lload_n (i := 5) (k0 := 2) rfl rfl rfl ?_
  obtain ⟨hi, hF⟩ := ok_gd hF
  refine r_lrem (i := 6) rfl hi ?_
  refine r_lconst (v := 0) (i := 7) rfl rfl ?_
  refine r_lcmpeq (i := 8) (j := 9) (tgt := 26) rfl rfl (by decide) (fun hc => ?_) (fun hc => ?_)
  · have hF := ok_it hc hF
    refine r_lload (i := 18) (k0 := 0) rfl rfl ?_
    have hQ := hq _ (ok_some hF)
    exact r_lreturn (i := 19) rfl rfl hQ
  have hF := ok_if hc hF
  refine r_lload_n (i := 10) (k0 := 1) rfl rfl rfl ?_
  refine r_lconst (v := 0) (i := 11) rfl rfl ?_
  refine r_lcmpge (i := 12) (j := 13) (tgt := 26) rfl rfl (by decide) (fun hc => ?_) (fun hc => ?_)
  · have hF := ok_it hc hF
    refine r_lload (i := 18) (k0 := 0) rfl rfl ?_
    have hQ := hq _ (ok_some hF)
    exact r_lreturn (i := 19) rfl rfl hQ
  have hF := ok_if hc hF
  refine r_lload (i := 14) (k0 := 0) rfl rfl ?_
  refine r_lconst (v := 1) (i := 15) rfl rfl ?_
  refine r_lsub (i := 16) rfl ?_
  refine r_goto (i := 17) (tgt := 28) rfl (by decide) ?_
  have hQ := hq _ (ok_some hF)
  exact r_lreturn (i := 19) rfl rfl hQ
set_option maxHeartbeats 4000000 in
set_option maxRecDepth 100000 in
theorem t_M_floor {l0 : Int64} {l2 : Int64} {n : Nat} {I : xm_I} {L : xm_L} {K : Int64 → Prop} (hn : 86 ≤ n) (hF : ok (f_M_floor l0 l2) K) : xm_C 0 mt_M_floor [.long l0, .long l2] (I, L, RC n, n) 0 0 (pL (fun p : Int64 => p) (fun p : Int64 => (I, L, RC n, n)) K) := by
  unfold f_M_floor at hF
  refine xm_enter (by decide +kernel) dv_M_floor (Nat.le_of_ble_eq_true rfl) ?_
  exact t_M_floor_b0 hn (fun p hp => ⟨p, rfl, rfl, hp⟩) hF

noncomputable def f_M_topOn_b30 (l1 : Int64) (l3 : Int64) (x5 : Int32) (y0 : Int64) (I : xm_I) (L : xm_L) : Option (Int64) :=
  let l8_1 : Int64 := ((2 * l1) - (y0 * l3)) * (L 49 39)
  if x5 = 0 then (
    some ((((Int32.toInt64 (I 49 20)) * l3) * (L 49 40)) - l8_1))
  else (
  some ((((Int32.toInt64 (I 49 19)) * l3) * (L 49 40)) + l8_1))
noncomputable def f_M_topOn_b0 (l1 : Int64) (l3 : Int64) (x5 : Int32) (I : xm_I) (L : xm_L) : Option (Int64) :=
  if x5 = 0 then (
    f_M_topOn_b30 l1 l3 x5 ((Int32.toInt64 (I 49 17)) + (Int32.toInt64 (I 49 18))) I L)
  else (
  f_M_topOn_b30 l1 l3 x5 ((Int32.toInt64 (I 49 15)) + (Int32.toInt64 (I 49 16))) I L)
noncomputable def f_M_topOn (l1 : Int64) (l3 : Int64) (x5 : Int32) (I : xm_I) (L : xm_L) : Option (Int64) := f_M_topOn_b0 l1 l3 x5 I L
set_option maxHeartbeats 4000000 in
set_option maxRecDepth 100000 in
theorem t_M_topOn_b30 {l1 : Int64} {l3 : Int64} {x5 : Int32} {y0 : Int64} {n : Nat} {I : xm_I} {L : xm_L} {K : Int64 → Prop} {Q : Option Value → xm_H → Prop} (hn : 86 ≤ n) (hq : ∀ p : Int64, K p → Q (some (.long p)) (I, L, RC n, n)) (hF : ok (f_M_topOn_b30 l1 l3 x5 y0 I L) K) : xm_J 0 mt_M_topOn 30 [(0, .ref 49), (1, .long l1), (3, .long l3), (5, .int x5)] [.long y0] (I, L, RC n, n) 0 0 Q := by
  unfold f_M_topOn_b30 at hF
  refine r_lstore (i := 17) (Ls' := [(6, _), (0, _), (1, _), (3, _), (5, _)]) rfl (Nat.le_of_ble_eq_true rfl) rfl ?_
  refine r_ldc2 (i := 18) rfl ct_M_189 ?_
  refine r_lload_n (i := 19) (k0 := 2) rfl rfl rfl ?_
  refine r_lmul (i := 20) rfl ?_
  refine r_lload (i := 21) (k0 := 0) rfl rfl ?_
  refine r_lload_n (i := 22) (k0 := 3) rfl rfl rfl ?_
  refine r_lmul (i := 23) rfl ?_
  refine r_lsub (i := 24) rfl ?_
  refine r_aload_n (i := 25) (k0 := 1) rfl rfl rfl ?_
  refine q_getl (i := 26) rfl fl_M_246 (xm_in rfl hn) rfl ?_
  refine r_lmul (i := 27) rfl ?_
  refine r_lstore (i := 28) (Ls' := [(8, _), (6, _), (0, _), (1, _), (3, _), (5, _)]) rfl (Nat.le_of_ble_eq_true rfl) rfl ?_
  refine r_iload (i := 29) (k0 := 5) rfl rfl ?_
  refine r_ifeq (i := 30) (tgt := 72) rfl (by decide) (fun hc => ?_) (fun hc => ?_)
  · have hF := ok_it hc hF
    refine r_aload_n (i := 42) (k0 := 2) rfl rfl rfl ?_
    refine q_geti (i := 43) rfl fl_M_54 (xm_in rfl hn) rfl ?_
    refine r_i2l (i := 44) rfl ?_
    refine r_lload_n (i := 45) (k0 := 4) rfl rfl rfl ?_
    refine r_lmul (i := 46) rfl ?_
    refine r_aload_n (i := 47) (k0 := 2) rfl rfl rfl ?_
    refine q_getl (i := 48) rfl fl_M_250 (xm_in rfl hn) rfl ?_
    refine r_lmul (i := 49) rfl ?_
    refine r_lload (i := 50) (k0 := 0) rfl rfl ?_
    refine r_lsub (i := 51) rfl ?_
    have hQ := hq _ (ok_some hF)
    exact r_lreturn (i := 52) rfl rfl hQ
  have hF := ok_if hc hF
  refine r_aload_n (i := 31) (k0 := 2) rfl rfl rfl ?_
  refine q_geti (i := 32) rfl fl_M_51 (xm_in rfl hn) rfl ?_
  refine r_i2l (i := 33) rfl ?_
  refine r_lload_n (i := 34) (k0 := 4) rfl rfl rfl ?_
  refine r_lmul (i := 35) rfl ?_
  refine r_aload_n (i := 36) (k0 := 2) rfl rfl rfl ?_
  refine q_getl (i := 37) rfl fl_M_250 (xm_in rfl hn) rfl ?_
  refine r_lmul (i := 38) rfl ?_
  refine r_lload (i := 39) (k0 := 0) rfl rfl ?_
  refine r_ladd (i := 40) rfl ?_
  refine r_goto (i := 41) (tgt := 87) rfl (by decide) ?_
  have hQ := hq _ (ok_some hF)
  exact r_lreturn (i := 52) rfl rfl hQ
set_option maxHeartbeats 4000000 in
set_option maxRecDepth 100000 in
theorem t_M_topOn_b0 {l1 : Int64} {l3 : Int64} {x5 : Int32} {n : Nat} {I : xm_I} {L : xm_L} {K : Int64 → Prop} {Q : Option Value → xm_H → Prop} (hn : 86 ≤ n) (hq : ∀ p : Int64, K p → Q (some (.long p)) (I, L, RC n, n)) (hF : ok (f_M_topOn_b0 l1 l3 x5 I L) K) : xm_J 0 mt_M_topOn 0 [(0, .ref 49), (1, .long l1), (3, .long l3), (5, .int x5)] [] (I, L, RC n, n) 0 0 Q := by
  unfold f_M_topOn_b0 at hF
  refine r_iload (i := 0) (k0 := 3) rfl rfl ?_
  refine r_ifeq (i := 1) (tgt := 19) rfl (by decide) (fun hc => ?_) (fun hc => ?_)
  · have hF := ok_it hc hF
    refine r_aload_n (i := 10) (k0 := 0) rfl rfl rfl ?_
    refine q_geti (i := 11) rfl fl_M_221 (xm_in rfl hn) rfl ?_
    refine r_i2l (i := 12) rfl ?_
    refine r_aload_n (i := 13) (k0 := 0) rfl rfl rfl ?_
    refine q_geti (i := 14) rfl fl_M_48 (xm_in rfl hn) rfl ?_
    refine r_i2l (i := 15) rfl ?_
    refine r_ladd (i := 16) rfl ?_
    exact t_M_topOn_b30 hn (fun p h => hq p h) hF
  have hF := ok_if hc hF
  refine r_aload_n (i := 2) (k0 := 0) rfl rfl rfl ?_
  refine q_geti (i := 3) rfl fl_M_218 (xm_in rfl hn) rfl ?_
  refine r_i2l (i := 4) rfl ?_
  refine r_aload_n (i := 5) (k0 := 0) rfl rfl rfl ?_
  refine q_geti (i := 6) rfl fl_M_44 (xm_in rfl hn) rfl ?_
  refine r_i2l (i := 7) rfl ?_
  refine r_ladd (i := 8) rfl ?_
  refine r_goto (i := 9) (tgt := 30) rfl (by decide) ?_
  exact t_M_topOn_b30 hn (fun p h => hq p h) hF
set_option maxHeartbeats 4000000 in
set_option maxRecDepth 100000 in
theorem t_M_topOn {l1 : Int64} {l3 : Int64} {x5 : Int32} {n : Nat} {I : xm_I} {L : xm_L} {K : Int64 → Prop} (hn : 86 ≤ n) (hF : ok (f_M_topOn l1 l3 x5 I L) K) : xm_C 0 mt_M_topOn [.ref 49, .long l1, .long l3, .int x5] (I, L, RC n, n) 0 0 (pL (fun p : Int64 => p) (fun p : Int64 => (I, L, RC n, n)) K) := by
  unfold f_M_topOn at hF
  refine xm_enter (by decide +kernel) dv_M_topOn (Nat.le_of_ble_eq_true rfl) ?_
  exact t_M_topOn_b0 hn (fun p hp => ⟨p, rfl, rfl, hp⟩) hF

noncomputable def f_M_on_b0 (l1 : Int64) (l3 : Int64) (x5 : Int32) (I : xm_I) (L : xm_L) : Option (Int32) :=
  let l6_1 : Int64 := (2 * l3) * (L 49 40)
  (f_M_topOn l1 l3 x5 I L).bind fun p_2 =>
  (f_M_floor ((2 * p_2) + l6_1) (2 * l6_1)).bind fun p_3 =>
  some (Int64.toInt32 p_3)
noncomputable def f_M_on (l1 : Int64) (l3 : Int64) (x5 : Int32) (I : xm_I) (L : xm_L) : Option (Int32) := f_M_on_b0 l1 l3 x5 I L
set_option maxHeartbeats 4000000 in
set_option maxRecDepth 100000 in
theorem t_M_on_b0 {l1 : Int64} {l3 : Int64} {x5 : Int32} {n : Nat} {I : xm_I} {L : xm_L} {K : Int32 → Prop} {Q : Option Value → xm_H → Prop} (hn : 86 ≤ n) (hq : ∀ p : Int32, K p → Q (some (.int p)) (I, L, RC n, n)) (hF : ok (f_M_on_b0 l1 l3 x5 I L) K) : xm_J 1 mt_M_on 0 [(0, .ref 49), (1, .long l1), (3, .long l3), (5, .int x5)] [] (I, L, RC n, n) 0 0 Q := by
  unfold f_M_on_b0 at hF
  refine r_ldc2 (i := 0) rfl ct_M_189 ?_
  refine r_lload_n (i := 1) (k0 := 2) rfl rfl rfl ?_
  refine r_lmul (i := 2) rfl ?_
  refine r_aload_n (i := 3) (k0 := 0) rfl rfl rfl ?_
  refine q_getl (i := 4) rfl fl_M_250 (xm_in rfl hn) rfl ?_
  refine r_lmul (i := 5) rfl ?_
  refine r_lstore (i := 6) (Ls' := [(6, _), (0, _), (1, _), (3, _), (5, _)]) rfl (Nat.le_of_ble_eq_true rfl) rfl ?_
  refine r_ldc2 (i := 7) rfl ct_M_189 ?_
  refine r_aload_n (i := 8) (k0 := 1) rfl rfl rfl ?_
  refine r_lload_n (i := 9) (k0 := 2) rfl rfl rfl ?_
  refine r_lload_n (i := 10) (k0 := 3) rfl rfl rfl ?_
  refine r_iload (i := 11) (k0 := 4) rfl rfl ?_
  refine c_V3L (i := 12) rfl vm_M_topOn lk_M_260 (t_M_topOn hn (ok_bind hF)) (Nat.le_of_ble_eq_true rfl) (xm_in rfl hn) rfl rfl (Nat.le_of_ble_eq_true rfl) (fun p_2 hF => ?_)
  refine r_lmul (i := 13) rfl ?_
  refine r_lload (i := 14) (k0 := 0) rfl rfl ?_
  refine r_ladd (i := 15) rfl ?_
  refine r_ldc2 (i := 16) rfl ct_M_189 ?_
  refine r_lload (i := 17) (k0 := 0) rfl rfl ?_
  refine r_lmul (i := 18) rfl ?_
  refine c_S2L (i := 19) rfl sm_M_floor lk_M_264 (t_M_floor hn (ok_bind hF)) (Nat.le_of_ble_eq_true rfl) rfl (Nat.le_of_ble_eq_true rfl) (fun p_3 hF => ?_)
  refine r_l2i (i := 20) rfl ?_
  have hQ := hq _ (ok_some hF)
  exact r_ireturn (i := 21) rfl rfl rfl hQ
set_option maxHeartbeats 4000000 in
set_option maxRecDepth 100000 in
theorem t_M_on {l1 : Int64} {l3 : Int64} {x5 : Int32} {n : Nat} {I : xm_I} {L : xm_L} {K : Int32 → Prop} (hn : 86 ≤ n) (hF : ok (f_M_on l1 l3 x5 I L) K) : xm_C 1 mt_M_on [.ref 49, .long l1, .long l3, .int x5] (I, L, RC n, n) 0 0 (pI (fun p : Int32 => p) (fun p : Int32 => (I, L, RC n, n)) K) := by
  unfold f_M_on at hF
  refine xm_enter (by decide +kernel) dv_M_on (Nat.le_of_ble_eq_true rfl) ?_
  exact t_M_on_b0 hn (fun p hp => ⟨p, rfl, rfl, hp⟩) hF

noncomputable def f_M_single_b141 (y1 : Int64) (y2 : Int64) (y3 : Int32) (I : xm_I) (L : xm_L) : Option (UInt32 × xm_I × xm_L) :=
  (f_M_topOn y1 y2 y3 I L).bind fun p_1 =>
  let l5_2 : Int64 := 2 * (L 49 40)
  (f_M_common p_1 l5_2).bind fun p_3 =>
  gd (¬ p_3 = 0) <|
  gd (¬ p_3 = 0) <|
  some (FP.fdiv (FP.l2f (p_1 / p_3)) (FP.l2f (l5_2 / p_3)), I, L)
noncomputable def f_M_single_b131 (x2 : Int32) (y1 : Int64) (I : xm_I) (L : xm_L) : Option (UInt32 × xm_I × xm_L) :=
  if x2 = 0 then (
    f_M_single_b141 y1 1 1 I L)
  else (
    f_M_single_b141 y1 1 0 I L)
noncomputable def f_M_single_b81 (l3 : Int64) (y0 : Int32) (y1 : Int32) (I : xm_I) (L : xm_L) : Option (UInt32 × xm_I × xm_L) :=
  let l5_1 : Int64 := Int32.toInt64 (y0 - y1)
  some (FP.l2f ((l3 * l3) + (l5_1 * l5_1)), I, L)
noncomputable def f_M_single_b58 (x1 : Int32) (y0 : Int32) (y1 : Int32) (I : xm_I) (L : xm_L) : Option (UInt32 × xm_I × xm_L) :=
  let l3_1 : Int64 := Int32.toInt64 (y0 - y1)
  (f_M_nowY x1 I).bind fun p_2 =>
  if x1 ≤ 0 then (
    f_M_single_b81 l3_1 p_2 0 I L)
  else (
  (f_M_nowY (x1 - 1) I).bind fun p_3 =>
  f_M_single_b81 l3_1 p_2 p_3 I L)
noncomputable def f_M_single_b0 (x1 : Int32) (x2 : Int32) (I : xm_I) (L : xm_L) : Option (UInt32 × xm_I × xm_L) :=
  (f_M_isPoint x1 I).bind fun p_1 =>
  if p_1 = 0 then (
    some (3351466112, I, L))
  else (
    (f_M_in (Int32.toInt64 x2) 0 2).bind fun p_2 =>
    if p_2 = 0 then (
      some (3351466240, I, L))
    else (
      let I_3 : xm_I := up2 I 49 38 0
      if x2 = 2 then (
        (f_M_nowX x1 I_3).bind fun p_8 =>
        if x1 ≤ 0 then (
          f_M_single_b58 x1 p_8 0 I_3 L)
        else (
        (f_M_nowX (x1 - 1) I_3).bind fun p_9 =>
        f_M_single_b58 x1 p_8 p_9 I_3 L))
      else (
        (f_M_hasScale I_3 L).bind fun p_4 =>
        if p_4.1 = 0 then (
          let I_7 : xm_I := up2 I_3 49 38 6
          some (FP.fconst0, I_7, p_4.2))
        else (
          if x2 = 0 then (
            (f_M_nowX x1 I_3).bind fun p_6 =>
            f_M_single_b131 x2 (Int32.toInt64 p_6) I_3 p_4.2)
          else (
            (f_M_nowY x1 I_3).bind fun p_5 =>
            f_M_single_b131 x2 (Int32.toInt64 p_5) I_3 p_4.2)))))
noncomputable def f_M_single (x1 : Int32) (x2 : Int32) (I : xm_I) (L : xm_L) : Option (UInt32 × xm_I × xm_L) := f_M_single_b0 x1 x2 I L
set_option maxHeartbeats 4000000 in
set_option maxRecDepth 100000 in
theorem t_M_single_b141 {y1 : Int64} {y2 : Int64} {y3 : Int32} {n : Nat} {I : xm_I} {L : xm_L} {K : UInt32 × xm_I × xm_L → Prop} {Q : Option Value → xm_H → Prop} (hn : 86 ≤ n) (hq : ∀ (p : UInt32 × xm_I × xm_L) (r : UInt32), alike32 r (p.1) = true → K p → Q (some (.float r)) (p.2.1, p.2.2, RC n, n)) (hF : ok (f_M_single_b141 y1 y2 y3 I L) K) : xm_J 2 mt_M_single 141 [(0, .ref 49)] [.int y3, .long y2, .long y1, .ref 49] (I, L, RC n, n) 0 0 Q := by
  unfold f_M_single_b141 at hF
  refine c_V3L (i := 85) rfl vm_M_topOn lk_M_260 (t_M_topOn hn (ok_bind hF)) (Nat.le_of_ble_eq_true rfl) (xm_in rfl hn) rfl rfl (Nat.le_of_ble_eq_true rfl) (fun p_1 hF => ?_)
  refine r_lstore_n (i := 86) (Ls' := [(3, _), (0, _)]) rfl rfl (Nat.le_of_ble_eq_true rfl) rfl ?_
  refine r_ldc2 (i := 87) rfl ct_M_189 ?_
  refine r_aload_n (i := 88) (k0 := 1) rfl rfl rfl ?_
  refine q_getl (i := 89) rfl fl_M_250 (xm_in rfl hn) rfl ?_
  refine r_lmul (i := 90) rfl ?_
  refine r_lstore (i := 91) (Ls' := [(5, _), (3, _), (0, _)]) rfl (Nat.le_of_ble_eq_true rfl) rfl ?_
  refine r_lload_n (i := 92) (k0 := 1) rfl rfl rfl ?_
  refine r_lload (i := 93) (k0 := 0) rfl rfl ?_
  refine c_S2L (i := 94) rfl sm_M_common lk_M_242 (t_M_common hn (ok_bind hF)) (Nat.le_of_ble_eq_true rfl) rfl (Nat.le_of_ble_eq_true rfl) (fun p_3 hF => ?_)
  refine r_lstore (i := 95) (Ls' := [(7, _), (5, _), (3, _), (0, _)]) rfl (Nat.le_of_ble_eq_true rfl) rfl ?_
  refine r_lload_n (i := 96) (k0 := 2) rfl rfl rfl ?_
  refine r_lload (i := 97) (k0 := 0) rfl rfl ?_
  obtain ⟨hi, hF⟩ := ok_gd hF
  refine r_ldiv (i := 98) rfl hi ?_
  refine r_l2f (i := 99) rfl ?_
  refine r_lload (i := 100) (k0 := 1) rfl rfl ?_
  refine r_lload (i := 101) (k0 := 0) rfl rfl ?_
  obtain ⟨hi, hF⟩ := ok_gd hF
  refine r_ldiv (i := 102) rfl hi ?_
  refine r_l2f (i := 103) rfl ?_
  refine r_fdiv (i := 104) rfl (fun r hal => ?_)
  exact r_freturn (i := 105) rfl rfl (hq _ _ hal (ok_some hF))
set_option maxHeartbeats 4000000 in
set_option maxRecDepth 100000 in
theorem t_M_single_b131 {x2 : Int32} {y1 : Int64} {n : Nat} {I : xm_I} {L : xm_L} {K : UInt32 × xm_I × xm_L → Prop} {Q : Option Value → xm_H → Prop} (hn : 86 ≤ n) (hq : ∀ (p : UInt32 × xm_I × xm_L) (r : UInt32), alike32 r (p.1) = true → K p → Q (some (.float r)) (p.2.1, p.2.2, RC n, n)) (hF : ok (f_M_single_b131 x2 y1 I L) K) : xm_J 2 mt_M_single 131 [(0, .ref 49), (2, .int x2)] [.long y1, .ref 49] (I, L, RC n, n) 0 0 Q := by
  unfold f_M_single_b131 at hF
  refine r_lconst (v := 1) (i := 79) rfl rfl ?_
  refine r_iload_n (i := 80) (k0 := 1) rfl rfl rfl ?_
  refine r_ifne (i := 81) (tgt := 140) rfl (by decide) (fun hc => ?_) (fun hc => ?_)
  · have hF := ok_if hc hF
    refine r_iconst (v := 0) (i := 84) rfl ki_0 ?_
    refine xm_sub (Ls' := [(0, _)]) [0] rfl ?_
    exact t_M_single_b141 hn (fun p r hr h => hq p r hr h) hF
  have hF := ok_it hc hF
  refine r_iconst (v := 1) (i := 82) rfl ki_1 ?_
  refine r_goto (i := 83) (tgt := 141) rfl (by decide) ?_
  refine xm_sub (Ls' := [(0, _)]) [0] rfl ?_
  exact t_M_single_b141 hn (fun p r hr h => hq p r hr h) hF
set_option maxHeartbeats 4000000 in
set_option maxRecDepth 100000 in
theorem t_M_single_b81 {l3 : Int64} {y0 : Int32} {y1 : Int32} {n : Nat} {I : xm_I} {L : xm_L} {K : UInt32 × xm_I × xm_L → Prop} {Q : Option Value → xm_H → Prop} (hn : 86 ≤ n) (hq : ∀ (p : UInt32 × xm_I × xm_L) (r : UInt32), alike32 r (p.1) = true → K p → Q (some (.float r)) (p.2.1, p.2.2, RC n, n)) (hF : ok (f_M_single_b81 l3 y0 y1 I L) K) : xm_J 2 mt_M_single 81 [(3, .long l3)] [.int y1, .int y0] (I, L, RC n, n) 0 0 Q := by
  unfold f_M_single_b81 at hF
  refine r_isub (i := 47) rfl ?_
  refine r_i2l (i := 48) rfl ?_
  refine r_lstore (i := 49) (Ls' := [(5, _), (3, _)]) rfl (Nat.le_of_ble_eq_true rfl) rfl ?_
  refine r_lload_n (i := 50) (k0 := 1) rfl rfl rfl ?_
  refine r_lload_n (i := 51) (k0 := 1) rfl rfl rfl ?_
  refine r_lmul (i := 52) rfl ?_
  refine r_lload (i := 53) (k0 := 0) rfl rfl ?_
  refine r_lload (i := 54) (k0 := 0) rfl rfl ?_
  refine r_lmul (i := 55) rfl ?_
  refine r_ladd (i := 56) rfl ?_
  refine r_l2f (i := 57) rfl ?_
  exact r_freturn (i := 58) rfl rfl (hq _ _ (xm_al32 _) (ok_some hF))
set_option maxHeartbeats 4000000 in
set_option maxRecDepth 100000 in
theorem t_M_single_b58 {x1 : Int32} {y0 : Int32} {y1 : Int32} {n : Nat} {I : xm_I} {L : xm_L} {K : UInt32 × xm_I × xm_L → Prop} {Q : Option Value → xm_H → Prop} (hn : 86 ≤ n) (hq : ∀ (p : UInt32 × xm_I × xm_L) (r : UInt32), alike32 r (p.1) = true → K p → Q (some (.float r)) (p.2.1, p.2.2, RC n, n)) (hF : ok (f_M_single_b58 x1 y0 y1 I L) K) : xm_J 2 mt_M_single 58 [(0, .ref 49), (1, .int x1)] [.int y1, .int y0] (I, L, RC n, n) 0 0 Q := by
  unfold f_M_single_b58 at hF
  refine r_isub (i := 32) rfl ?_
  refine r_i2l (i := 33) rfl ?_
  refine r_lstore_n (i := 34) (Ls' := [(3, _), (0, _), (1, _)]) rfl rfl (Nat.le_of_ble_eq_true rfl) rfl ?_
  refine r_aload_n (i := 35) (k0 := 1) rfl rfl rfl ?_
  refine r_iload_n (i := 36) (k0 := 2) rfl rfl rfl ?_
  refine c_V1I (i := 37) rfl vm_M_nowY lk_M_172 (t_M_nowY hn (ok_bind hF)) (Nat.le_of_ble_eq_true rfl) (xm_in rfl hn) rfl rfl (Nat.le_of_ble_eq_true rfl) (fun p_2 hF => ?_)
  refine r_iload_n (i := 38) (k0 := 2) rfl rfl rfl ?_
  refine r_ifle (i := 39) (tgt := 80) rfl (by decide) (fun hc => ?_) (fun hc => ?_)
  · have hF := ok_it hc hF
    refine r_iconst (v := 0) (i := 46) rfl ki_0 ?_
    refine xm_sub (Ls' := [(3, _)]) [0] rfl ?_
    exact t_M_single_b81 hn (fun p r hr h => hq p r hr h) hF
  have hF := ok_if hc hF
  refine r_aload_n (i := 40) (k0 := 1) rfl rfl rfl ?_
  refine r_iload_n (i := 41) (k0 := 2) rfl rfl rfl ?_
  refine r_iconst (v := 1) (i := 42) rfl ki_1 ?_
  refine r_isub (i := 43) rfl ?_
  refine c_V1I (i := 44) rfl vm_M_nowY lk_M_172 (t_M_nowY hn (ok_bind hF)) (Nat.le_of_ble_eq_true rfl) (xm_in rfl hn) rfl rfl (Nat.le_of_ble_eq_true rfl) (fun p_3 hF => ?_)
  refine r_goto (i := 45) (tgt := 81) rfl (by decide) ?_
  refine xm_sub (Ls' := [(3, _)]) [0] rfl ?_
  exact t_M_single_b81 hn (fun p r hr h => hq p r hr h) hF
set_option maxHeartbeats 4000000 in
set_option maxRecDepth 100000 in
theorem t_M_single_b0 {x1 : Int32} {x2 : Int32} {n : Nat} {I : xm_I} {L : xm_L} {K : UInt32 × xm_I × xm_L → Prop} {Q : Option Value → xm_H → Prop} (hn : 86 ≤ n) (hq : ∀ (p : UInt32 × xm_I × xm_L) (r : UInt32), alike32 r (p.1) = true → K p → Q (some (.float r)) (p.2.1, p.2.2, RC n, n)) (hF : ok (f_M_single_b0 x1 x2 I L) K) : xm_J 2 mt_M_single 0 [(0, .ref 49), (1, .int x1), (2, .int x2)] [] (I, L, RC n, n) 0 0 Q := by
  unfold f_M_single_b0 at hF
  refine r_aload_n (i := 0) (k0 := 0) rfl rfl rfl ?_
  refine r_iload_n (i := 1) (k0 := 1) rfl rfl rfl ?_
  refine c_V1I (i := 2) rfl vm_M_isPoint lk_M_156 (t_M_isPoint hn (ok_bind hF)) (Nat.le_of_ble_eq_true rfl) (xm_in rfl hn) rfl rfl (Nat.le_of_ble_eq_true rfl) (fun p_1 hF => ?_)
  refine r_ifne (i := 3) (tgt := 12) rfl (by decide) (fun hc => ?_) (fun hc => ?_)
  · have hF := ok_if hc hF
    refine r_iload_n (i := 6) (k0 := 2) rfl rfl rfl ?_
    refine r_i2l (i := 7) rfl ?_
    refine r_lconst (v := 0) (i := 8) rfl rfl ?_
    refine r_ldc2 (i := 9) rfl ct_M_189 ?_
    refine c_S3I (i := 10) rfl sm_M_in lk_M_150 (t_M_in hn (ok_bind hF)) (Nat.le_of_ble_eq_true rfl) rfl (Nat.le_of_ble_eq_true rfl) (fun p_2 hF => ?_)
    refine r_ifne (i := 11) (tgt := 28) rfl (by decide) (fun hc => ?_) (fun hc => ?_)
    · have hF := ok_if hc hF
      refine r_aload_n (i := 14) (k0 := 0) rfl rfl rfl ?_
      refine r_iconst (v := 0) (i := 15) rfl ki_0 ?_
      refine q_puti (i := 16) rfl fl_M_257 (fun h => Bool.noConfusion h) (xm_in rfl hn) rfl ?_
      refine r_iload_n (i := 17) (k0 := 2) rfl rfl rfl ?_
      refine r_iconst (v := 2) (i := 18) rfl ki_2 ?_
      refine r_icmpne (i := 19) (tgt := 96) rfl (by decide) (fun hc => ?_) (fun hc => ?_)
      · have hF := ok_if hc hF
        refine r_aload_n (i := 59) (k0 := 0) rfl rfl rfl ?_
        refine c_V0I (i := 60) rfl vm_M_hasScale lk_M_253 (t_M_hasScale hn (ok_bind hF)) (Nat.le_of_ble_eq_true rfl) (xm_in rfl hn) rfl rfl (Nat.le_of_ble_eq_true rfl) (fun p_4 hF => ?_)
        refine r_ifne (i := 61) (tgt := 111) rfl (by decide) (fun hc => ?_) (fun hc => ?_)
        · have hF := ok_if hc hF
          refine r_aload_n (i := 67) (k0 := 0) rfl rfl rfl ?_
          refine r_iload_n (i := 68) (k0 := 2) rfl rfl rfl ?_
          refine r_ifne (i := 69) (tgt := 125) rfl (by decide) (fun hc => ?_) (fun hc => ?_)
          · have hF := ok_if hc hF
            refine r_aload_n (i := 75) (k0 := 0) rfl rfl rfl ?_
            refine r_iload_n (i := 76) (k0 := 1) rfl rfl rfl ?_
            refine c_V1I (i := 77) rfl vm_M_nowY lk_M_172 (t_M_nowY hn (ok_bind hF)) (Nat.le_of_ble_eq_true rfl) (xm_in rfl hn) rfl rfl (Nat.le_of_ble_eq_true rfl) (fun p_5 hF => ?_)
            refine r_i2l (i := 78) rfl ?_
            refine xm_sub (Ls' := [(0, _), (2, _)]) [0, 2] rfl ?_
            exact t_M_single_b131 hn (fun p r hr h => hq p r hr h) hF
          have hF := ok_it hc hF
          refine r_aload_n (i := 70) (k0 := 0) rfl rfl rfl ?_
          refine r_iload_n (i := 71) (k0 := 1) rfl rfl rfl ?_
          refine c_V1I (i := 72) rfl vm_M_nowX lk_M_168 (t_M_nowX hn (ok_bind hF)) (Nat.le_of_ble_eq_true rfl) (xm_in rfl hn) rfl rfl (Nat.le_of_ble_eq_true rfl) (fun p_6 hF => ?_)
          refine r_i2l (i := 73) rfl ?_
          refine r_goto (i := 74) (tgt := 131) rfl (by decide) ?_
          refine xm_sub (Ls' := [(0, _), (2, _)]) [0, 2] rfl ?_
          exact t_M_single_b131 hn (fun p r hr h => hq p r hr h) hF
        have hF := ok_it hc hF
        refine r_aload_n (i := 62) (k0 := 0) rfl rfl rfl ?_
        refine r_bipush (v := 6) (i := 63) rfl kb_6 ?_
        refine q_puti (i := 64) rfl fl_M_257 (fun h => Bool.noConfusion h) (xm_in rfl hn) rfl ?_
        refine r_fconst0 (i := 65) rfl ?_
        exact r_freturn (i := 66) rfl rfl (hq _ _ (xm_al32 _) (ok_some hF))
      have hF := ok_it hc hF
      refine r_aload_n (i := 20) (k0 := 0) rfl rfl rfl ?_
      refine r_iload_n (i := 21) (k0 := 1) rfl rfl rfl ?_
      refine c_V1I (i := 22) rfl vm_M_nowX lk_M_168 (t_M_nowX hn (ok_bind hF)) (Nat.le_of_ble_eq_true rfl) (xm_in rfl hn) rfl rfl (Nat.le_of_ble_eq_true rfl) (fun p_8 hF => ?_)
      refine r_iload_n (i := 23) (k0 := 1) rfl rfl rfl ?_
      refine r_ifle (i := 24) (tgt := 57) rfl (by decide) (fun hc => ?_) (fun hc => ?_)
      · have hF := ok_it hc hF
        refine r_iconst (v := 0) (i := 31) rfl ki_0 ?_
        refine xm_sub (Ls' := [(0, _), (1, _)]) [0, 1] rfl ?_
        exact t_M_single_b58 hn (fun p r hr h => hq p r hr h) hF
      have hF := ok_if hc hF
      refine r_aload_n (i := 25) (k0 := 0) rfl rfl rfl ?_
      refine r_iload_n (i := 26) (k0 := 1) rfl rfl rfl ?_
      refine r_iconst (v := 1) (i := 27) rfl ki_1 ?_
      refine r_isub (i := 28) rfl ?_
      refine c_V1I (i := 29) rfl vm_M_nowX lk_M_168 (t_M_nowX hn (ok_bind hF)) (Nat.le_of_ble_eq_true rfl) (xm_in rfl hn) rfl rfl (Nat.le_of_ble_eq_true rfl) (fun p_9 hF => ?_)
      refine r_goto (i := 30) (tgt := 58) rfl (by decide) ?_
      refine xm_sub (Ls' := [(0, _), (1, _)]) [0, 1] rfl ?_
      exact t_M_single_b58 hn (fun p r hr h => hq p r hr h) hF
    have hF := ok_it hc hF
    refine r_ldcwf (i := 12) rfl ct_M_268 ?_
    exact r_freturn (i := 13) rfl rfl (hq _ _ (xm_al32 _) (ok_some hF))
  have hF := ok_it hc hF
  refine r_ldcwf (i := 4) rfl ct_M_267 ?_
  exact r_freturn (i := 5) rfl rfl (hq _ _ (xm_al32 _) (ok_some hF))
set_option maxHeartbeats 4000000 in
set_option maxRecDepth 100000 in
theorem t_M_single {x1 : Int32} {x2 : Int32} {n : Nat} {I : xm_I} {L : xm_L} {K : UInt32 × xm_I × xm_L → Prop} (hn : 86 ≤ n) (hF : ok (f_M_single x1 x2 I L) K) : xm_C 2 mt_M_single [.ref 49, .int x1, .int x2] (I, L, RC n, n) 0 0 (pF (fun p : UInt32 × xm_I × xm_L => p.1) (fun p : UInt32 × xm_I × xm_L => (p.2.1, p.2.2, RC n, n)) K) := by
  unfold f_M_single at hF
  refine xm_enter (by decide +kernel) dv_M_single (Nat.le_of_ble_eq_true rfl) ?_
  exact t_M_single_b0 hn (fun p r hr hp => ⟨p, r, rfl, hr, rfl, hp⟩) hF

noncomputable def f_M_solid_b0 (x1 : Int32) (x2 : Int32) (I : xm_I) : Option (Int32 × xm_I) :=
  (f_M_isPoint x1 I).bind fun p_1 =>
  if p_1 = 0 then (
    some ((-100001), I))
  else (
    (f_M_in (Int32.toInt64 x2) 1 50).bind fun p_2 =>
    if p_2 = 0 then (
      some ((-100002), I))
    else (
      if (I 49 31) = 4 then (
        some ((-100004), I))
      else (
        gd (0 ≤ (I 49 31).toInt ∧ (I 49 31).toInt < 4) <|
        let I_3 : xm_I := up2 I 61 (Int32.toNatClampNeg (I 49 31)) x1
        gd (0 ≤ (I_3 49 31).toInt ∧ (I_3 49 31).toInt < 4) <|
        let I_4 : xm_I := up2 I_3 62 (Int32.toNatClampNeg (I_3 49 31)) x2
        let I_5 : xm_I := up2 I_4 49 31 ((I_4 49 31) + 1)
        some ((I_5 49 31) - 1, I_5))))
noncomputable def f_M_solid (x1 : Int32) (x2 : Int32) (I : xm_I) : Option (Int32 × xm_I) := f_M_solid_b0 x1 x2 I
set_option maxHeartbeats 4000000 in
set_option maxRecDepth 100000 in
theorem t_M_solid_b0 {x1 : Int32} {x2 : Int32} {n : Nat} {I : xm_I} {L : xm_L} {K : Int32 × xm_I → Prop} {Q : Option Value → xm_H → Prop} (hn : 86 ≤ n) (hq : ∀ p : Int32 × xm_I, K p → Q (some (.int p.1)) (p.2, L, RC n, n)) (hF : ok (f_M_solid_b0 x1 x2 I) K) : xm_J 1 mt_M_solid 0 [(0, .ref 49), (1, .int x1), (2, .int x2)] [] (I, L, RC n, n) 0 0 Q := by
  unfold f_M_solid_b0 at hF
  refine r_aload_n (i := 0) (k0 := 0) rfl rfl rfl ?_
  refine r_iload_n (i := 1) (k0 := 1) rfl rfl rfl ?_
  refine c_V1I (i := 2) rfl vm_M_isPoint lk_M_156 (t_M_isPoint hn (ok_bind hF)) (Nat.le_of_ble_eq_true rfl) (xm_in rfl hn) rfl rfl (Nat.le_of_ble_eq_true rfl) (fun p_1 hF => ?_)
  refine r_ifne (i := 3) (tgt := 11) rfl (by decide) (fun hc => ?_) (fun hc => ?_)
  · have hF := ok_if hc hF
    refine r_iload_n (i := 6) (k0 := 2) rfl rfl rfl ?_
    refine r_i2l (i := 7) rfl ?_
    refine r_lconst (v := 1) (i := 8) rfl rfl ?_
    refine r_ldc2 (i := 9) rfl ct_M_269 ?_
    refine c_S3I (i := 10) rfl sm_M_in lk_M_150 (t_M_in hn (ok_bind hF)) (Nat.le_of_ble_eq_true rfl) rfl (Nat.le_of_ble_eq_true rfl) (fun p_2 hF => ?_)
    refine r_ifne (i := 11) (tgt := 26) rfl (by decide) (fun hc => ?_) (fun hc => ?_)
    · have hF := ok_if hc hF
      refine r_aload_n (i := 14) (k0 := 0) rfl rfl rfl ?_
      refine q_geti (i := 15) rfl fl_M_143 (xm_in rfl hn) rfl ?_
      refine r_iconst (v := 4) (i := 16) rfl ki_4 ?_
      refine r_icmpne (i := 17) (tgt := 37) rfl (by decide) (fun hc => ?_) (fun hc => ?_)
      · have hF := ok_if hc hF
        refine r_aload_n (i := 20) (k0 := 0) rfl rfl rfl ?_
        refine q_getr (b := 61) (i := 21) rfl fl_M_60 rfl (xm_in rfl hn) rfl rfl ?_
        refine r_aload_n (i := 22) (k0 := 0) rfl rfl rfl ?_
        refine q_geti (i := 23) rfl fl_M_143 (xm_in rfl hn) rfl ?_
        refine r_iload_n (i := 24) (k0 := 1) rfl rfl rfl ?_
        obtain ⟨hi, hF⟩ := ok_gd hF
        refine q_iastore (i := 25) rfl (xm_in rfl hn) rfl hi ?_
        refine r_aload_n (i := 26) (k0 := 0) rfl rfl rfl ?_
        refine q_getr (b := 62) (i := 27) rfl fl_M_63 rfl (xm_in rfl hn) rfl rfl ?_
        refine r_aload_n (i := 28) (k0 := 0) rfl rfl rfl ?_
        refine q_geti (i := 29) rfl fl_M_143 (xm_in rfl hn) rfl ?_
        refine r_iload_n (i := 30) (k0 := 2) rfl rfl rfl ?_
        obtain ⟨hi, hF⟩ := ok_gd hF
        refine q_iastore (i := 31) rfl (xm_in rfl hn) rfl hi ?_
        refine r_aload_n (i := 32) (k0 := 0) rfl rfl rfl ?_
        refine r_dup (i := 33) rfl rfl ?_
        refine q_geti (i := 34) rfl fl_M_143 (xm_in rfl hn) rfl ?_
        refine r_iconst (v := 1) (i := 35) rfl ki_1 ?_
        refine r_iadd (i := 36) rfl ?_
        refine q_puti (i := 37) rfl fl_M_143 (fun h => Bool.noConfusion h) (xm_in rfl hn) rfl ?_
        refine r_aload_n (i := 38) (k0 := 0) rfl rfl rfl ?_
        refine q_geti (i := 39) rfl fl_M_143 (xm_in rfl hn) rfl ?_
        refine r_iconst (v := 1) (i := 40) rfl ki_1 ?_
        refine r_isub (i := 41) rfl ?_
        have hQ := hq _ (ok_some hF)
        exact r_ireturn (i := 42) rfl rfl rfl hQ
      have hF := ok_it hc hF
      refine r_ldc (i := 18) rfl ct_M_155 ?_
      have hQ := hq _ (ok_some hF)
      exact r_ireturn (i := 19) rfl rfl rfl hQ
    have hF := ok_it hc hF
    refine r_ldc (i := 12) rfl ct_M_154 ?_
    have hQ := hq _ (ok_some hF)
    exact r_ireturn (i := 13) rfl rfl rfl hQ
  have hF := ok_it hc hF
  refine r_ldc (i := 4) rfl ct_M_160 ?_
  have hQ := hq _ (ok_some hF)
  exact r_ireturn (i := 5) rfl rfl rfl hQ
set_option maxHeartbeats 4000000 in
set_option maxRecDepth 100000 in
theorem t_M_solid {x1 : Int32} {x2 : Int32} {n : Nat} {I : xm_I} {L : xm_L} {K : Int32 × xm_I → Prop} (hn : 86 ≤ n) (hF : ok (f_M_solid x1 x2 I) K) : xm_C 1 mt_M_solid [.ref 49, .int x1, .int x2] (I, L, RC n, n) 0 0 (pI (fun p : Int32 × xm_I => p.1) (fun p : Int32 × xm_I => (p.2, L, RC n, n)) K) := by
  unfold f_M_solid at hF
  refine xm_enter (by decide +kernel) dv_M_solid (Nat.le_of_ble_eq_true rfl) ?_
  exact t_M_solid_b0 hn (fun p hp => ⟨p, rfl, rfl, hp⟩) hF
