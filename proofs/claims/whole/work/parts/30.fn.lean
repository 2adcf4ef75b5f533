/-! ===== turned: M_drawTicks M_drawObject M_flatX M_flatY M_drawSolid M_isDrawable M_numbersOf M_octet0 M_lay M_boxLeft M_boxTop M_cost M_costsOf M_outsOf M_isBetter M_meet ===== -/
noncomputable def f_M_drawTicks_b0 (x1 : Int32) (I : xm_I) (L : xm_L) : Option (xm_I) :=
  (f_M_cornerX x1 0 I).bind fun p_1 =>
  (f_M_cornerX x1 1 I).bind fun p_2 =>
  let x2_3 : Int32 := p_1 + p_2
  (f_M_cornerY x1 0 I).bind fun p_4 =>
  (f_M_cornerY x1 1 I).bind fun p_5 =>
  let x3_6 : Int32 := p_4 + p_5
  if x2_3 < (2 * (I 49 15)) then (
    some (I))
  else (
  if (2 * (I 49 16)) < x2_3 then (
    some (I))
  else (
  if x3_6 < (2 * (I 49 17)) then (
    some (I))
  else (
  if x3_6 ≤ (2 * (I 49 18)) then (
    (f_M_on (Int32.toInt64 x2_3) 2 1 I L).bind fun p_7 =>
    (f_M_on (Int32.toInt64 x3_6) 2 0 I L).bind fun p_8 =>
    gd (0 ≤ (x1).toInt ∧ (x1).toInt < 40) <|
    (f_M_cornerX x1 1 I).bind fun p_9 =>
    (f_M_cornerX x1 0 I).bind fun p_10 =>
    (f_M_cornerY x1 1 I).bind fun p_11 =>
    (f_M_cornerY x1 0 I).bind fun p_12 =>
    (f_M_octant (p_9 - p_10) (p_11 - p_12)).bind fun p_13 =>
    (f_M_add 84 p_7 p_8 (I 58 (Int32.toNatClampNeg x1)) p_13 0 I).bind fun p_14 =>
    (f_M_show x1 p_7 p_8 p_14).bind fun p_15 =>
    some (p_15))
  else (
  some (I)))))
noncomputable def f_M_drawTicks (x1 : Int32) (I : xm_I) (L : xm_L) : Option (xm_I) := f_M_drawTicks_b0 x1 I L
set_option maxHeartbeats 4000000 in
set_option maxRecDepth 100000 in
theorem t_M_drawTicks_b0 {x1 : Int32} {n : Nat} {I : xm_I} {L : xm_L} {K : xm_I → Prop} {Q : Option Value → xm_H → Prop} (hn : 86 ≤ n) (hq : ∀ p : xm_I, K p → Q none (p, L, RC n, n)) (hF : ok (f_M_drawTicks_b0 x1 I L) K) : xm_J 2 mt_M_drawTicks 0 [(0, .ref 49), (1, .int x1)] [] (I, L, RC n, n) 0 0 Q := by
  unfold f_M_drawTicks_b0 at hF
  refine r_aload_n (i := 0) (k0 := 0) rfl rfl rfl ?_
  refine r_iload_n (i := 1) (k0 := 1) rfl rfl rfl ?_
  refine r_iconst (v := 0) (i := 2) rfl ki_0 ?_
  refine c_V2I (i := 3) rfl vm_M_cornerX lk_M_193 (t_M_cornerX hn (ok_bind hF)) (Nat.le_of_ble_eq_true rfl) (xm_in rfl hn) rfl rfl (Nat.le_of_ble_eq_true rfl) (fun p_1 hF => ?_)
  refine r_aload_n (i := 4) (k0 := 0) rfl rfl rfl ?_
  refine r_iload_n (i := 5) (k0 := 1) rfl rfl rfl ?_
  refine r_iconst (v := 1) (i := 6) rfl ki_1 ?_
  refine c_V2I (i := 7) rfl vm_M_cornerX lk_M_193 (t_M_cornerX hn (ok_bind hF)) (Nat.le_of_ble_eq_true rfl) (xm_in rfl hn) rfl rfl (Nat.le_of_ble_eq_true rfl) (fun p_2 hF => ?_)
  refine r_iadd (i := 8) rfl ?_
  refine r_istore_n (i := 9) (Ls' := [(2, _), (0, _), (1, _)]) rfl rfl (Nat.le_of_ble_eq_true rfl) rfl ?_
  refine r_aload_n (i := 10) (k0 := 1) rfl rfl rfl ?_
  refine r_iload_n (i := 11) (k0 := 2) rfl rfl rfl ?_
  refine r_iconst (v := 0) (i := 12) rfl ki_0 ?_
  refine c_V2I (i := 13) rfl vm_M_cornerY lk_M_197 (t_M_cornerY hn (ok_bind hF)) (Nat.le_of_ble_eq_true rfl) (xm_in rfl hn) rfl rfl (Nat.le_of_ble_eq_true rfl) (fun p_4 hF => ?_)
  refine r_aload_n (i := 14) (k0 := 1) rfl rfl rfl ?_
  refine r_iload_n (i := 15) (k0 := 2) rfl rfl rfl ?_
  refine r_iconst (v := 1) (i := 16) rfl ki_1 ?_
  refine c_V2I (i := 17) rfl vm_M_cornerY lk_M_197 (t_M_cornerY hn (ok_bind hF)) (Nat.le_of_ble_eq_true rfl) (xm_in rfl hn) rfl rfl (Nat.le_of_ble_eq_true rfl) (fun p_5 hF => ?_)
  refine r_iadd (i := 18) rfl ?_
  refine r_istore_n (i := 19) (Ls' := [(3, _), (2, _), (0, _), (1, _)]) rfl rfl (Nat.le_of_ble_eq_true rfl) rfl ?_
  refine r_iload_n (i := 20) (k0 := 1) rfl rfl rfl ?_
  refine r_iconst (v := 2) (i := 21) rfl ki_2 ?_
  refine r_aload_n (i := 22) (k0 := 2) rfl rfl rfl ?_
  refine q_geti (i := 23) rfl fl_M_218 (xm_in rfl hn) rfl ?_
  refine r_imul (i := 24) rfl ?_
  refine r_icmplt (i := 25) (tgt := 68) rfl (by decide) (fun hc => ?_) (fun hc => ?_)
  · have hF := ok_it hc hF
    have hQ := hq _ (ok_some hF)
    exact r_return (i := 44) rfl rfl hQ
  have hF := ok_if hc hF
  refine r_iload_n (i := 26) (k0 := 1) rfl rfl rfl ?_
  refine r_iconst (v := 2) (i := 27) rfl ki_2 ?_
  refine r_aload_n (i := 28) (k0 := 2) rfl rfl rfl ?_
  refine q_geti (i := 29) rfl fl_M_44 (xm_in rfl hn) rfl ?_
  refine r_imul (i := 30) rfl ?_
  refine r_icmpgt (i := 31) (tgt := 68) rfl (by decide) (fun hc => ?_) (fun hc => ?_)
  · have hF := ok_it hc hF
    have hQ := hq _ (ok_some hF)
    exact r_return (i := 44) rfl rfl hQ
  have hF := ok_if hc hF
  refine r_iload_n (i := 32) (k0 := 0) rfl rfl rfl ?_
  refine r_iconst (v := 2) (i := 33) rfl ki_2 ?_
  refine r_aload_n (i := 34) (k0 := 2) rfl rfl rfl ?_
  refine q_geti (i := 35) rfl fl_M_221 (xm_in rfl hn) rfl ?_
  refine r_imul (i := 36) rfl ?_
  refine r_icmplt (i := 37) (tgt := 68) rfl (by decide) (fun hc => ?_) (fun hc => ?_)
  · have hF := ok_it hc hF
    have hQ := hq _ (ok_some hF)
    exact r_return (i := 44) rfl rfl hQ
  have hF := ok_if hc hF
  refine r_iload_n (i := 38) (k0 := 0) rfl rfl rfl ?_
  refine r_iconst (v := 2) (i := 39) rfl ki_2 ?_
  refine r_aload_n (i := 40) (k0 := 2) rfl rfl rfl ?_
  refine q_geti (i := 41) rfl fl_M_48 (xm_in rfl hn) rfl ?_
  refine r_imul (i := 42) rfl ?_
  refine r_icmple (i := 43) (tgt := 69) rfl (by decide) (fun hc => ?_) (fun hc => ?_)
  · have hF := ok_it hc hF
    refine r_aload_n (i := 45) (k0 := 2) rfl rfl rfl ?_
    refine r_iload_n (i := 46) (k0 := 1) rfl rfl rfl ?_
    refine r_i2l (i := 47) rfl ?_
    refine r_ldc2 (i := 48) rfl ct_M_189 ?_
    refine r_iconst (v := 1) (i := 49) rfl ki_1 ?_
    refine c_V3I (i := 50) rfl vm_M_on lk_M_327 (t_M_on hn (ok_bind hF)) (Nat.le_of_ble_eq_true rfl) (xm_in rfl hn) rfl rfl (Nat.le_of_ble_eq_true rfl) (fun p_7 hF => ?_)
    refine r_istore (i := 51) (Ls' := [(4, _), (3, _), (2, _), (0, _), (1, _)]) rfl (Nat.le_of_ble_eq_true rfl) rfl ?_
    refine r_aload_n (i := 52) (k0 := 3) rfl rfl rfl ?_
    refine r_iload_n (i := 53) (k0 := 1) rfl rfl rfl ?_
    refine r_i2l (i := 54) rfl ?_
    refine r_ldc2 (i := 55) rfl ct_M_189 ?_
    refine r_iconst (v := 0) (i := 56) rfl ki_0 ?_
    refine c_V3I (i := 57) rfl vm_M_on lk_M_327 (t_M_on hn (ok_bind hF)) (Nat.le_of_ble_eq_true rfl) (xm_in rfl hn) rfl rfl (Nat.le_of_ble_eq_true rfl) (fun p_8 hF => ?_)
    refine r_istore (i := 58) (Ls' := [(5, _), (4, _), (3, _), (2, _), (0, _), (1, _)]) rfl (Nat.le_of_ble_eq_true rfl) rfl ?_
    refine r_aload_n (i := 59) (k0 := 4) rfl rfl rfl ?_
    refine r_bipush (v := 84) (i := 60) rfl kb_84 ?_
    refine r_iload (i := 61) (k0 := 1) rfl rfl ?_
    refine r_iload (i := 62) (k0 := 0) rfl rfl ?_
    refine r_aload_n (i := 63) (k0 := 4) rfl rfl rfl ?_
    refine q_getr (b := 58) (i := 64) rfl fl_M_34 rfl (xm_in rfl hn) rfl rfl ?_
    refine r_iload_n (i := 65) (k0 := 5) rfl rfl rfl ?_
    obtain ⟨hi, hF⟩ := ok_gd hF
    refine q_iaload (i := 66) rfl (xm_in rfl hn) rfl hi ?_
    refine r_aload_n (i := 67) (k0 := 4) rfl rfl rfl ?_
    refine r_iload_n (i := 68) (k0 := 5) rfl rfl rfl ?_
    refine r_iconst (v := 1) (i := 69) rfl ki_1 ?_
    refine c_V2I (i := 70) rfl vm_M_cornerX lk_M_193 (t_M_cornerX hn (ok_bind hF)) (Nat.le_of_ble_eq_true rfl) (xm_in rfl hn) rfl rfl (Nat.le_of_ble_eq_true rfl) (fun p_9 hF => ?_)
    refine r_aload_n (i := 71) (k0 := 4) rfl rfl rfl ?_
    refine r_iload_n (i := 72) (k0 := 5) rfl rfl rfl ?_
    refine r_iconst (v := 0) (i := 73) rfl ki_0 ?_
    refine c_V2I (i := 74) rfl vm_M_cornerX lk_M_193 (t_M_cornerX hn (ok_bind hF)) (Nat.le_of_ble_eq_true rfl) (xm_in rfl hn) rfl rfl (Nat.le_of_ble_eq_true rfl) (fun p_10 hF => ?_)
    refine r_isub (i := 75) rfl ?_
    refine r_aload_n (i := 76) (k0 := 4) rfl rfl rfl ?_
    refine r_iload_n (i := 77) (k0 := 5) rfl rfl rfl ?_
    refine r_iconst (v := 1) (i := 78) rfl ki_1 ?_
    refine c_V2I (i := 79) rfl vm_M_cornerY lk_M_197 (t_M_cornerY hn (ok_bind hF)) (Nat.le_of_ble_eq_true rfl) (xm_in rfl hn) rfl rfl (Nat.le_of_ble_eq_true rfl) (fun p_11 hF => ?_)
    refine r_aload_n (i := 80) (k0 := 4) rfl rfl rfl ?_
    refine r_iload_n (i := 81) (k0 := 5) rfl rfl rfl ?_
    refine r_iconst (v := 0) (i := 82) rfl ki_0 ?_
    refine c_V2I (i := 83) rfl vm_M_cornerY lk_M_197 (t_M_cornerY hn (ok_bind hF)) (Nat.le_of_ble_eq_true rfl) (xm_in rfl hn) rfl rfl (Nat.le_of_ble_eq_true rfl) (fun p_12 hF => ?_)
    refine r_isub (i := 84) rfl ?_
    refine c_S2I (i := 85) rfl sm_M_octant lk_M_388 (t_M_octant hn (ok_bind hF)) (Nat.le_of_ble_eq_true rfl) rfl (Nat.le_of_ble_eq_true rfl) (fun p_13 hF => ?_)
    refine r_iconst (v := 0) (i := 86) rfl ki_0 ?_
    refine c_V6V (i := 87) rfl vm_M_add lk_M_343 (t_M_add hn (ok_bind hF)) (Nat.le_of_ble_eq_true rfl) (xm_in rfl hn) rfl rfl (Nat.le_of_ble_eq_true rfl) (fun p_14 hF => ?_)
    refine r_aload_n (i := 88) (k0 := 4) rfl rfl rfl ?_
    refine r_iload_n (i := 89) (k0 := 5) rfl rfl rfl ?_
    refine r_iload (i := 90) (k0 := 1) rfl rfl ?_
    refine r_iload (i := 91) (k0 := 0) rfl rfl ?_
    refine c_V3V (i := 92) rfl vm_M_show lk_M_365 (t_M_show hn (ok_bind hF)) (Nat.le_of_ble_eq_true rfl) (xm_in rfl hn) rfl rfl (Nat.le_of_ble_eq_true rfl) (fun p_15 hF => ?_)
    have hQ := hq _ (ok_some hF)
    exact r_return (i := 93) rfl rfl hQ
  have hF := ok_if hc hF
  have hQ := hq _ (ok_some hF)
  exact r_return (i := 44) rfl rfl hQ
set_option maxHeartbeats 4000000 in
set_option maxRecDepth 100000 in
theorem t_M_drawTicks {x1 : Int32} {n : Nat} {I : xm_I} {L : xm_L} {K : xm_I → Prop} (hn : 86 ≤ n) (hF : ok (f_M_drawTicks x1 I L) K) : xm_C 2 mt_M_drawTicks [.ref 49, .int x1] (I, L, RC n, n) 0 0 (pV (fun p : xm_I => (p, L, RC n, n)) K) := by
  unfold f_M_drawTicks at hF
  refine xm_enter (by decide +kernel) dv_M_drawTicks (Nat.le_of_ble_eq_true rfl) ?_
  exact t_M_drawTicks_b0 hn (fun p hp => ⟨p, rfl, rfl, hp⟩) hF

noncomputable def f_M_drawObject_b192 (x1 : Int32) (y1 : Int32) (y2 : Int32) (y3 : Int32) (y4 : Int32) (y5 : Int32) (y6 : Int32) (I : xm_I) (L : xm_L) : Option (xm_I × xm_L) :=
  gd (0 ≤ (x1).toInt ∧ (x1).toInt < 40) <|
  (f_M_way y1 y2 y3 y4 y5 y6 (I 57 (Int32.toNatClampNeg x1)) I L).bind fun p_1 =>
  if p_1.1 = 0 then (
    some (p_1.2.1, p_1.2.2))
  else (
  (f_M_floor ((Int32.toInt64 (p_1.2.1 49 61)) + (Int32.toInt64 (p_1.2.1 49 63))) 2).bind fun p_2 =>
  (f_M_floor ((Int32.toInt64 (p_1.2.1 49 62)) + (Int32.toInt64 (p_1.2.1 49 64))) 2).bind fun p_3 =>
  (f_M_show x1 (Int64.toInt32 p_2) (Int64.toInt32 p_3) p_1.2.1).bind fun p_4 =>
  some (p_4, p_1.2.2))
noncomputable def f_M_drawObject_b177 (x1 : Int32) (y1 : Int32) (y2 : Int32) (y3 : Int32) (y4 : Int32) (y5 : Int32) (I : xm_I) (L : xm_L) : Option (xm_I × xm_L) :=
  gd (0 ≤ (x1).toInt ∧ (x1).toInt < 40) <|
  if (I 54 (Int32.toNatClampNeg x1)) = 1 then (
    f_M_drawObject_b192 x1 y1 y2 y3 y4 y5 1 I L)
  else (
    f_M_drawObject_b192 x1 y1 y2 y3 y4 y5 0 I L)
noncomputable def f_M_drawObject_b147 (x1 : Int32) (x2 : Int32) (x3 : Int32) (I : xm_I) (L : xm_L) : Option (xm_I × xm_L) :=
  (f_M_cornerX x1 1 I).bind fun p_1 =>
  (f_M_cornerY x1 1 I).bind fun p_2 =>
  gd (0 ≤ (x1).toInt ∧ (x1).toInt < 40) <|
  if (I 54 (Int32.toNatClampNeg x1)) = 2 then (
    f_M_drawObject_b177 x1 x2 x3 p_1 p_2 0 I L)
  else (
  f_M_drawObject_b177 x1 x2 x3 p_1 p_2 1 I L)
noncomputable def f_M_drawObject_b0 (x1 : Int32) (I : xm_I) (L : xm_L) : Option (xm_I × xm_L) :=
  (f_M_cornerX x1 0 I).bind fun p_1 =>
  (f_M_cornerY x1 0 I).bind fun p_2 =>
  gd (0 ≤ (x1).toInt ∧ (x1).toInt < 40) <|
  if (I 54 (Int32.toNatClampNeg x1)) = 0 then (
    (f_M_has p_1 p_2 I).bind fun p_3 =>
    if p_3 = 0 then (
      some (I, L))
    else (
    (f_M_on (Int32.toInt64 p_1) 1 1 I L).bind fun p_4 =>
    (f_M_on (Int32.toInt64 p_2) 1 0 I L).bind fun p_5 =>
    gd (0 ≤ (x1).toInt ∧ (x1).toInt < 40) <|
    (f_M_add 68 p_4 p_5 (I 57 (Int32.toNatClampNeg x1)) 0 0 I).bind fun p_6 =>
    (f_M_show x1 p_4 p_5 p_6).bind fun p_7 =>
    some (p_7, L)))
  else (
  if (I 54 (Int32.toNatClampNeg x1)) = 1 then (
    f_M_drawObject_b147 x1 p_1 p_2 I L)
  else (
  if (I 54 (Int32.toNatClampNeg x1)) = 2 then (
    f_M_drawObject_b147 x1 p_1 p_2 I L)
  else (
  if (I 54 (Int32.toNatClampNeg x1)) = 3 then (
    f_M_drawObject_b147 x1 p_1 p_2 I L)
  else (
  if (I 54 (Int32.toNatClampNeg x1)) = 4 then (
    (f_M_drawCircle x1 I L).bind fun p_8 =>
    some (p_8, L))
  else (
  if (I 54 (Int32.toNatClampNeg x1)) = 5 then (
    (f_M_drawAngle x1 I L).bind fun p_9 =>
    some (p_9, L))
  else (
  if (I 54 (Int32.toNatClampNeg x1)) = 6 then (
    (f_M_drawTicks x1 I L).bind fun p_10 =>
    some (p_10, L))
  else (
  f_M_drawObject_b147 x1 p_1 p_2 I L)))))))
noncomputable def f_M_drawObject (x1 : Int32) (I : xm_I) (L : xm_L) : Option (xm_I × xm_L) := f_M_drawObject_b0 x1 I L
set_option maxHeartbeats 4000000 in
set_option maxRecDepth 100000 in
theorem t_M_drawObject_b192 {x1 : Int32} {y1 : Int32} {y2 : Int32} {y3 : Int32} {y4 : Int32} {y5 : Int32} {y6 : Int32} {n : Nat} {I : xm_I} {L : xm_L} {K : xm_I × xm_L → Prop} {Q : Option Value → xm_H → Prop} (hn : 86 ≤ n) (hq : ∀ p : xm_I × xm_L, K p → Q none (p.1, p.2, RC n, n)) (hF : ok (f_M_drawObject_b192 x1 y1 y2 y3 y4 y5 y6 I L) K) : xm_J 4 mt_M_drawObject 192 [(0, .ref 49), (1, .int x1)] [.int y6, .int y5, .int y4, .int y3, .int y2, .int y1, .ref 49] (I, L, RC n, n) 0 0 Q := by
  unfold f_M_drawObject_b192 at hF
  refine r_aload_n (i := 92) (k0 := 0) rfl rfl rfl ?_
  refine q_getr (b := 57) (i := 93) rfl fl_M_31 rfl (xm_in rfl hn) rfl rfl ?_
  refine r_iload_n (i := 94) (k0 := 1) rfl rfl rfl ?_
  obtain ⟨hi, hF⟩ := ok_gd hF
  refine q_iaload (i := 95) rfl (xm_in rfl hn) rfl hi ?_
  refine c_V7I (i := 96) rfl vm_M_way lk_M_400 (t_M_way hn (ok_bind hF)) (Nat.le_of_ble_eq_true rfl) (xm_in rfl hn) rfl rfl (Nat.le_of_ble_eq_true rfl) (fun p_1 hF => ?_)
  refine r_ifeq (i := 97) (tgt := 245) rfl (by decide) (fun hc => ?_) (fun hc => ?_)
  · have hF := ok_it hc hF
    have hQ := hq _ (ok_some hF)
    exact r_return (i := 121) rfl rfl hQ
  have hF := ok_if hc hF
  refine r_aload_n (i := 98) (k0 := 0) rfl rfl rfl ?_
  refine r_iload_n (i := 99) (k0 := 1) rfl rfl rfl ?_
  refine r_aload_n (i := 100) (k0 := 0) rfl rfl rfl ?_
  refine q_geti (i := 101) rfl fl_M_331 (xm_in rfl hn) rfl ?_
  refine r_i2l (i := 102) rfl ?_
  refine r_aload_n (i := 103) (k0 := 0) rfl rfl rfl ?_
  refine q_geti (i := 104) rfl fl_M_337 (xm_in rfl hn) rfl ?_
  refine r_i2l (i := 105) rfl ?_
  refine r_ladd (i := 106) rfl ?_
  refine r_ldc2 (i := 107) rfl ct_M_189 ?_
  refine c_S2L (i := 108) rfl sm_M_floor lk_M_264 (t_M_floor hn (ok_bind hF)) (Nat.le_of_ble_eq_true rfl) rfl (Nat.le_of_ble_eq_true rfl) (fun p_2 hF => ?_)
  refine r_l2i (i := 109) rfl ?_
  refine r_aload_n (i := 110) (k0 := 0) rfl rfl rfl ?_
  refine q_geti (i := 111) rfl fl_M_334 (xm_in rfl hn) rfl ?_
  refine r_i2l (i := 112) rfl ?_
  refine r_aload_n (i := 113) (k0 := 0) rfl rfl rfl ?_
  refine q_geti (i := 114) rfl fl_M_340 (xm_in rfl hn) rfl ?_
  refine r_i2l (i := 115) rfl ?_
  refine r_ladd (i := 116) rfl ?_
  refine r_ldc2 (i := 117) rfl ct_M_189 ?_
  refine c_S2L (i := 118) rfl sm_M_floor lk_M_264 (t_M_floor hn (ok_bind hF)) (Nat.le_of_ble_eq_true rfl) rfl (Nat.le_of_ble_eq_true rfl) (fun p_3 hF => ?_)
  refine r_l2i (i := 119) rfl ?_
  refine c_V3V (i := 120) rfl vm_M_show lk_M_365 (t_M_show hn (ok_bind hF)) (Nat.le_of_ble_eq_true rfl) (xm_in rfl hn) rfl rfl (Nat.le_of_ble_eq_true rfl) (fun p_4 hF => ?_)
  have hQ := hq _ (ok_some hF)
  exact r_return (i := 121) rfl rfl hQ
set_option maxHeartbeats 4000000 in
set_option maxRecDepth 100000 in
theorem t_M_drawObject_b177 {x1 : Int32} {y1 : Int32} {y2 : Int32} {y3 : Int32} {y4 : Int32} {y5 : Int32} {n : Nat} {I : xm_I} {L : xm_L} {K : xm_I × xm_L → Prop} {Q : Option Value → xm_H → Prop} (hn : 86 ≤ n) (hq : ∀ p : xm_I × xm_L, K p → Q none (p.1, p.2, RC n, n)) (hF : ok (f_M_drawObject_b177 x1 y1 y2 y3 y4 y5 I L) K) : xm_J 4 mt_M_drawObject 177 [(0, .ref 49), (1, .int x1)] [.int y5, .int y4, .int y3, .int y2, .int y1, .ref 49] (I, L, RC n, n) 0 0 Q := by
  unfold f_M_drawObject_b177 at hF
  refine r_aload_n (i := 83) (k0 := 0) rfl rfl rfl ?_
  refine q_getr (b := 54) (i := 84) rfl fl_M_22 rfl (xm_in rfl hn) rfl rfl ?_
  refine r_iload_n (i := 85) (k0 := 1) rfl rfl rfl ?_
  obtain ⟨hi, hF⟩ := ok_gd hF
  refine q_iaload (i := 86) rfl (xm_in rfl hn) rfl hi ?_
  refine r_iconst (v := 1) (i := 87) rfl ki_1 ?_
  refine r_icmpne (i := 88) (tgt := 191) rfl (by decide) (fun hc => ?_) (fun hc => ?_)
  · have hF := ok_if hc hF
    refine r_iconst (v := 0) (i := 91) rfl ki_0 ?_
    exact t_M_drawObject_b192 hn (fun p h => hq p h) hF
  have hF := ok_it hc hF
  refine r_iconst (v := 1) (i := 89) rfl ki_1 ?_
  refine r_goto (i := 90) (tgt := 192) rfl (by decide) ?_
  exact t_M_drawObject_b192 hn (fun p h => hq p h) hF
set_option maxHeartbeats 4000000 in
set_option maxRecDepth 100000 in
theorem t_M_drawObject_b147 {x1 : Int32} {x2 : Int32} {x3 : Int32} {n : Nat} {I : xm_I} {L : xm_L} {K : xm_I × xm_L → Prop} {Q : Option Value → xm_H → Prop} (hn : 86 ≤ n) (hq : ∀ p : xm_I × xm_L, K p → Q none (p.1, p.2, RC n, n)) (hF : ok (f_M_drawObject_b147 x1 x2 x3 I L) K) : xm_J 4 mt_M_drawObject 147 [(0, .ref 49), (1, .int x1), (2, .int x2), (3, .int x3)] [] (I, L, RC n, n) 0 0 Q := by
  unfold f_M_drawObject_b147 at hF
  refine r_aload_n (i := 63) (k0 := 0) rfl rfl rfl ?_
  refine r_iload_n (i := 64) (k0 := 2) rfl rfl rfl ?_
  refine r_iload_n (i := 65) (k0 := 3) rfl rfl rfl ?_
  refine r_aload_n (i := 66) (k0 := 0) rfl rfl rfl ?_
  refine r_iload_n (i := 67) (k0 := 1) rfl rfl rfl ?_
  refine r_iconst (v := 1) (i := 68) rfl ki_1 ?_
  refine c_V2I (i := 69) rfl vm_M_cornerX lk_M_193 (t_M_cornerX hn (ok_bind hF)) (Nat.le_of_ble_eq_true rfl) (xm_in rfl hn) rfl rfl (Nat.le_of_ble_eq_true rfl) (fun p_1 hF => ?_)
  refine r_aload_n (i := 70) (k0 := 0) rfl rfl rfl ?_
  refine r_iload_n (i := 71) (k0 := 1) rfl rfl rfl ?_
  refine r_iconst (v := 1) (i := 72) rfl ki_1 ?_
  refine c_V2I (i := 73) rfl vm_M_cornerY lk_M_197 (t_M_cornerY hn (ok_bind hF)) (Nat.le_of_ble_eq_true rfl) (xm_in rfl hn) rfl rfl (Nat.le_of_ble_eq_true rfl) (fun p_2 hF => ?_)
  refine r_aload_n (i := 74) (k0 := 0) rfl rfl rfl ?_
  refine q_getr (b := 54) (i := 75) rfl fl_M_22 rfl (xm_in rfl hn) rfl rfl ?_
  refine r_iload_n (i := 76) (k0 := 1) rfl rfl rfl ?_
  obtain ⟨hi, hF⟩ := ok_gd hF
  refine q_iaload (i := 77) rfl (xm_in rfl hn) rfl hi ?_
  refine r_iconst (v := 2) (i := 78) rfl ki_2 ?_
  refine r_icmpeq (i := 79) (tgt := 176) rfl (by decide) (fun hc => ?_) (fun hc => ?_)
  · have hF := ok_it hc hF
    refine r_iconst (v := 0) (i := 82) rfl ki_0 ?_
    refine xm_sub (Ls' := [(0, _), (1, _)]) [0, 1] rfl ?_
    exact t_M_drawObject_b177 hn (fun p h => hq p h) hF
  have hF := ok_if hc hF
  refine r_iconst (v := 1) (i := 80) rfl ki_1 ?_
  refine r_goto (i := 81) (tgt := 177) rfl (by decide) ?_
  refine xm_sub (Ls' := [(0, _), (1, _)]) [0, 1] rfl ?_
  exact t_M_drawObject_b177 hn (fun p h => hq p h) hF
set_option maxHeartbeats 4000000 in
set_option maxRecDepth 100000 in
theorem t_M_drawObject_b0 {x1 : Int32} {n : Nat} {I : xm_I} {L : xm_L} {K : xm_I × xm_L → Prop} {Q : Option Value → xm_H → Prop} (hn : 86 ≤ n) (hq : ∀ p : xm_I × xm_L, K p → Q none (p.1, p.2, RC n, n)) (hF : ok (f_M_drawObject_b0 x1 I L) K) : xm_J 4 mt_M_drawObject 0 [(0, .ref 49), (1, .int x1)] [] (I, L, RC n, n) 0 0 Q := by
  unfold f_M_drawObject_b0 at hF
  refine r_aload_n (i := 0) (k0 := 0) rfl rfl rfl ?_
  refine r_iload_n (i := 1) (k0 := 1) rfl rfl rfl ?_
  refine r_iconst (v := 0) (i := 2) rfl ki_0 ?_
  refine c_V2I (i := 3) rfl vm_M_cornerX lk_M_193 (t_M_cornerX hn (ok_bind hF)) (Nat.le_of_ble_eq_true rfl) (xm_in rfl hn) rfl rfl (Nat.le_of_ble_eq_true rfl) (fun p_1 hF => ?_)
  refine r_istore_n (i := 4) (Ls' := [(2, _), (0, _), (1, _)]) rfl rfl (Nat.le_of_ble_eq_true rfl) rfl ?_
  refine r_aload_n (i := 5) (k0 := 1) rfl rfl rfl ?_
  refine r_iload_n (i := 6) (k0 := 2) rfl rfl rfl ?_
  refine r_iconst (v := 0) (i := 7) rfl ki_0 ?_
  refine c_V2I (i := 8) rfl vm_M_cornerY lk_M_197 (t_M_cornerY hn (ok_bind hF)) (Nat.le_of_ble_eq_true rfl) (xm_in rfl hn) rfl rfl (Nat.le_of_ble_eq_true rfl) (fun p_2 hF => ?_)
  refine r_istore_n (i := 9) (Ls' := [(3, _), (2, _), (0, _), (1, _)]) rfl rfl (Nat.le_of_ble_eq_true rfl) rfl ?_
  refine r_aload_n (i := 10) (k0 := 2) rfl rfl rfl ?_
  refine q_getr (b := 54) (i := 11) rfl fl_M_22 rfl (xm_in rfl hn) rfl rfl ?_
  refine r_iload_n (i := 12) (k0 := 3) rfl rfl rfl ?_
  obtain ⟨hi, hF⟩ := ok_gd hF
  refine q_iaload (i := 13) rfl (xm_in rfl hn) rfl hi ?_
  refine r_case 0 (fun hc0 => ?_) (fun hc0 => ?_)
  · have hF := ok_it hc0 hF
    refine r_tsIn (i := 14) (tgt := 64) rfl (by decide) (by decide) rfl (by decide) ?_
    refine r_aload_n (i := 15) (k0 := 2) rfl rfl rfl ?_
    refine r_iload_n (i := 16) (k0 := 1) rfl rfl rfl ?_
    refine r_iload_n (i := 17) (k0 := 0) rfl rfl rfl ?_
    refine c_V2I (i := 18) rfl vm_M_has lk_M_385 (t_M_has hn (ok_bind hF)) (Nat.le_of_ble_eq_true rfl) (xm_in rfl hn) rfl rfl (Nat.le_of_ble_eq_true rfl) (fun p_3 hF => ?_)
    refine r_ifeq (i := 19) (tgt := 245) rfl (by decide) (fun hc => ?_) (fun hc => ?_)
    · have hF := ok_it hc hF
      have hQ := hq _ (ok_some hF)
      exact r_return (i := 121) rfl rfl hQ
    have hF := ok_if hc hF
    refine r_aload_n (i := 20) (k0 := 2) rfl rfl rfl ?_
    refine r_iload_n (i := 21) (k0 := 1) rfl rfl rfl ?_
    refine r_i2l (i := 22) rfl ?_
    refine r_lconst (v := 1) (i := 23) rfl rfl ?_
    refine r_iconst (v := 1) (i := 24) rfl ki_1 ?_
    refine c_V3I (i := 25) rfl vm_M_on lk_M_327 (t_M_on hn (ok_bind hF)) (Nat.le_of_ble_eq_true rfl) (xm_in rfl hn) rfl rfl (Nat.le_of_ble_eq_true rfl) (fun p_4 hF => ?_)
    refine r_istore (i := 26) (Ls' := [(4, _), (3, _), (2, _), (0, _), (1, _)]) rfl (Nat.le_of_ble_eq_true rfl) rfl ?_
    refine r_aload_n (i := 27) (k0 := 3) rfl rfl rfl ?_
    refine r_iload_n (i := 28) (k0 := 1) rfl rfl rfl ?_
    refine r_i2l (i := 29) rfl ?_
    refine r_lconst (v := 1) (i := 30) rfl rfl ?_
    refine r_iconst (v := 0) (i := 31) rfl ki_0 ?_
    refine c_V3I (i := 32) rfl vm_M_on lk_M_327 (t_M_on hn (ok_bind hF)) (Nat.le_of_ble_eq_true rfl) (xm_in rfl hn) rfl rfl (Nat.le_of_ble_eq_true rfl) (fun p_5 hF => ?_)
    refine r_istore (i := 33) (Ls' := [(5, _), (4, _), (3, _), (2, _), (0, _), (1, _)]) rfl (Nat.le_of_ble_eq_true rfl) rfl ?_
    refine r_aload_n (i := 34) (k0 := 4) rfl rfl rfl ?_
    refine r_bipush (v := 68) (i := 35) rfl kb_68 ?_
    refine r_iload (i := 36) (k0 := 1) rfl rfl ?_
    refine r_iload (i := 37) (k0 := 0) rfl rfl ?_
    refine r_aload_n (i := 38) (k0 := 4) rfl rfl rfl ?_
    refine q_getr (b := 57) (i := 39) rfl fl_M_31 rfl (xm_in rfl hn) rfl rfl ?_
    refine r_iload_n (i := 40) (k0 := 5) rfl rfl rfl ?_
    obtain ⟨hi, hF⟩ := ok_gd hF
    refine q_iaload (i := 41) rfl (xm_in rfl hn) rfl hi ?_
    refine r_iconst (v := 0) (i := 42) rfl ki_0 ?_
    refine r_iconst (v := 0) (i := 43) rfl ki_0 ?_
    refine c_V6V (i := 44) rfl vm_M_add lk_M_343 (t_M_add hn (ok_bind hF)) (Nat.le_of_ble_eq_true rfl) (xm_in rfl hn) rfl rfl (Nat.le_of_ble_eq_true rfl) (fun p_6 hF => ?_)
    refine r_aload_n (i := 45) (k0 := 4) rfl rfl rfl ?_
    refine r_iload_n (i := 46) (k0 := 5) rfl rfl rfl ?_
    refine r_iload (i := 47) (k0 := 1) rfl rfl ?_
    refine r_iload (i := 48) (k0 := 0) rfl rfl ?_
    refine c_V3V (i := 49) rfl vm_M_show lk_M_365 (t_M_show hn (ok_bind hF)) (Nat.le_of_ble_eq_true rfl) (xm_in rfl hn) rfl rfl (Nat.le_of_ble_eq_true rfl) (fun p_7 hF => ?_)
    refine r_goto (i := 50) (tgt := 245) rfl (by decide) ?_
    have hQ := hq _ (ok_some hF)
    exact r_return (i := 121) rfl rfl hQ
  have hF := ok_if hc0 hF
  refine r_case 1 (fun hc1 => ?_) (fun hc1 => ?_)
  · have hF := ok_it hc1 hF
    refine r_tsIn (i := 14) (tgt := 147) rfl (by decide) (by decide) rfl (by decide) ?_
    refine xm_sub (Ls' := [(0, _), (1, _), (2, _), (3, _)]) [2, 3, 1, 0] rfl ?_
    exact t_M_drawObject_b147 hn (fun p h => hq p h) hF
  have hF := ok_if hc1 hF
  refine r_case 2 (fun hc2 => ?_) (fun hc2 => ?_)
  · have hF := ok_it hc2 hF
    refine r_tsIn (i := 14) (tgt := 147) rfl (by decide) (by decide) rfl (by decide) ?_
    refine xm_sub (Ls' := [(0, _), (1, _), (2, _), (3, _)]) [2, 3, 1, 0] rfl ?_
    exact t_M_drawObject_b147 hn (fun p h => hq p h) hF
  have hF := ok_if hc2 hF
  refine r_case 3 (fun hc3 => ?_) (fun hc3 => ?_)
  · have hF := ok_it hc3 hF
    refine r_tsIn (i := 14) (tgt := 147) rfl (by decide) (by decide) rfl (by decide) ?_
    refine xm_sub (Ls' := [(0, _), (1, _), (2, _), (3, _)]) [2, 3, 1, 0] rfl ?_
    exact t_M_drawObject_b147 hn (fun p h => hq p h) hF
  have hF := ok_if hc3 hF
  refine r_case 4 (fun hc4 => ?_) (fun hc4 => ?_)
  · have hF := ok_it hc4 hF
    refine r_tsIn (i := 14) (tgt := 123) rfl (by decide) (by decide) rfl (by decide) ?_
    refine r_aload_n (i := 51) (k0 := 2) rfl rfl rfl ?_
    refine r_iload_n (i := 52) (k0 := 3) rfl rfl rfl ?_
    refine c_V1V (i := 53) rfl vm_M_drawCircle lk_M_391 (t_M_drawCircle hn (ok_bind hF)) (Nat.le_of_ble_eq_true rfl) (xm_in rfl hn) rfl rfl (Nat.le_of_ble_eq_true rfl) (fun p_8 hF => ?_)
    refine r_goto (i := 54) (tgt := 245) rfl (by decide) ?_
    have hQ := hq _ (ok_some hF)
    exact r_return (i := 121) rfl rfl hQ
  have hF := ok_if hc4 hF
  refine r_case 5 (fun hc5 => ?_) (fun hc5 => ?_)
  · have hF := ok_it hc5 hF
    refine r_tsIn (i := 14) (tgt := 131) rfl (by decide) (by decide) rfl (by decide) ?_
    refine r_aload_n (i := 55) (k0 := 2) rfl rfl rfl ?_
    refine r_iload_n (i := 56) (k0 := 3) rfl rfl rfl ?_
    refine c_V1V (i := 57) rfl vm_M_drawAngle lk_M_394 (t_M_drawAngle hn (ok_bind hF)) (Nat.le_of_ble_eq_true rfl) (xm_in rfl hn) rfl rfl (Nat.le_of_ble_eq_true rfl) (fun p_9 hF => ?_)
    refine r_goto (i := 58) (tgt := 245) rfl (by decide) ?_
    have hQ := hq _ (ok_some hF)
    exact r_return (i := 121) rfl rfl hQ
  have hF := ok_if hc5 hF
  refine r_case 6 (fun hc6 => ?_) (fun hc6 => ?_)
  · have hF := ok_it hc6 hF
    refine r_tsIn (i := 14) (tgt := 139) rfl (by decide) (by decide) rfl (by decide) ?_
    refine r_aload_n (i := 59) (k0 := 2) rfl rfl rfl ?_
    refine r_iload_n (i := 60) (k0 := 3) rfl rfl rfl ?_
    refine c_V1V (i := 61) rfl vm_M_drawTicks lk_M_397 (t_M_drawTicks hn (ok_bind hF)) (Nat.le_of_ble_eq_true rfl) (xm_in rfl hn) rfl rfl (Nat.le_of_ble_eq_true rfl) (fun p_10 hF => ?_)
    refine r_goto (i := 62) (tgt := 245) rfl (by decide) ?_
    have hQ := hq _ (ok_some hF)
    exact r_return (i := 121) rfl rfl hQ
  have hF := ok_if hc6 hF
  refine r_tsOut (i := 14) (tgt := 147) rfl (by have e0 := lv_neT hc0 (a := 0) (by decide); have e1 := lv_neT hc1 (a := 1) (by decide); have e2 := lv_neT hc2 (a := 2) (by decide); have e3 := lv_neT hc3 (a := 3) (by decide); have e4 := lv_neT hc4 (a := 4) (by decide); have e5 := lv_neT hc5 (a := 5) (by decide); have e6 := lv_neT hc6 (a := 6) (by decide); omega) (by decide) ?_
  refine xm_sub (Ls' := [(0, _), (1, _), (2, _), (3, _)]) [2, 3, 1, 0] rfl ?_
  exact t_M_drawObject_b147 hn (fun p h => hq p h) hF
set_option maxHeartbeats 4000000 in
set_option maxRecDepth 100000 in
theorem t_M_drawObject {x1 : Int32} {n : Nat} {I : xm_I} {L : xm_L} {K : xm_I × xm_L → Prop} (hn : 86 ≤ n) (hF : ok (f_M_drawObject x1 I L) K) : xm_C 4 mt_M_drawObject [.ref 49, .int x1] (I, L, RC n, n) 0 0 (pV (fun p : xm_I × xm_L => (p.1, p.2, RC n, n)) K) := by
  unfold f_M_drawObject at hF
  refine xm_enter (by decide +kernel) dv_M_drawObject (Nat.le_of_ble_eq_true rfl) ?_
  exact t_M_drawObject_b0 hn (fun p hp => ⟨p, rfl, rfl, hp⟩) hF

noncomputable def f_M_flatX_b78 (x1 : Int32) (y0 : Int32) (I : xm_I) : Option (Int32) :=
  gd (0 ≤ (x1).toInt ∧ (x1).toInt < 4) <|
  (f_M_nowX (I 61 (Int32.toNatClampNeg x1)) I).bind fun p_1 =>
  gd (0 ≤ (x1).toInt ∧ (x1).toInt < 4) <|
  some (p_1 + ((I 62 (Int32.toNatClampNeg x1)) * y0))
noncomputable def f_M_flatX_b0 (x1 : Int32) (x2 : Int32) (I : xm_I) : Option (Int32) :=
  gd (0 ≤ ((36 * x1) + (3 * x2)).toInt ∧ ((36 * x1) + (3 * x2)).toInt < 144) <|
  let x3_1 : Int32 := I 64 (Int32.toNatClampNeg ((36 * x1) + (3 * x2)))
  gd (0 ≤ (((36 * x1) + (3 * x2)) + 2).toInt ∧ (((36 * x1) + (3 * x2)) + 2).toInt < 144) <|
  let x4_2 : Int32 := I 64 (Int32.toNatClampNeg (((36 * x1) + (3 * x2)) + 2))
  if 2 ≤ (I 49 32) then (
    if (I 49 32) = 2 then (
      f_M_flatX_b78 x1 (-x4_2) I)
    else (
      if (I 49 32) = 3 then (
        f_M_flatX_b78 x1 ((2 * x3_1) - x4_2) I)
      else (
        f_M_flatX_b78 x1 (x3_1 - x4_2) I)))
  else (
  f_M_flatX_b78 x1 x3_1 I)
noncomputable def f_M_flatX (x1 : Int32) (x2 : Int32) (I : xm_I) : Option (Int32) := f_M_flatX_b0 x1 x2 I
set_option maxHeartbeats 4000000 in
set_option maxRecDepth 100000 in
theorem t_M_flatX_b78 {x1 : Int32} {y0 : Int32} {n : Nat} {I : xm_I} {L : xm_L} {K : Int32 → Prop} {Q : Option Value → xm_H → Prop} (hn : 86 ≤ n) (hq : ∀ p : Int32, K p → Q (some (.int p)) (I, L, RC n, n)) (hF : ok (f_M_flatX_b78 x1 y0 I) K) : xm_J 1 mt_M_flatX 78 [(0, .ref 49), (1, .int x1)] [.int y0] (I, L, RC n, n) 0 0 Q := by
  unfold f_M_flatX_b78 at hF
  refine r_istore (i := 50) (Ls' := [(5, _), (0, _), (1, _)]) rfl (Nat.le_of_ble_eq_true rfl) rfl ?_
  refine r_aload_n (i := 51) (k0 := 1) rfl rfl rfl ?_
  refine r_aload_n (i := 52) (k0 := 1) rfl rfl rfl ?_
  refine q_getr (b := 61) (i := 53) rfl fl_M_60 rfl (xm_in rfl hn) rfl rfl ?_
  refine r_iload_n (i := 54) (k0 := 2) rfl rfl rfl ?_
  obtain ⟨hi, hF⟩ := ok_gd hF
  refine q_iaload (i := 55) rfl (xm_in rfl hn) rfl hi ?_
  refine c_V1I (i := 56) rfl vm_M_nowX lk_M_168 (t_M_nowX hn (ok_bind hF)) (Nat.le_of_ble_eq_true rfl) (xm_in rfl hn) rfl rfl (Nat.le_of_ble_eq_true rfl) (fun p_1 hF => ?_)
  refine r_aload_n (i := 57) (k0 := 1) rfl rfl rfl ?_
  refine q_getr (b := 62) (i := 58) rfl fl_M_63 rfl (xm_in rfl hn) rfl rfl ?_
  refine r_iload_n (i := 59) (k0 := 2) rfl rfl rfl ?_
  obtain ⟨hi, hF⟩ := ok_gd hF
  refine q_iaload (i := 60) rfl (xm_in rfl hn) rfl hi ?_
  refine r_iload (i := 61) (k0 := 0) rfl rfl ?_
  refine r_imul (i := 62) rfl ?_
  refine r_iadd (i := 63) rfl ?_
  have hQ := hq _ (ok_some hF)
  exact r_ireturn (i := 64) rfl rfl rfl hQ
set_option maxHeartbeats 4000000 in
set_option maxRecDepth 100000 in
theorem t_M_flatX_b0 {x1 : Int32} {x2 : Int32} {n : Nat} {I : xm_I} {L : xm_L} {K : Int32 → Prop} {Q : Option Value → xm_H → Prop} (hn : 86 ≤ n) (hq : ∀ p : Int32, K p → Q (some (.int p)) (I, L, RC n, n)) (hF : ok (f_M_flatX_b0 x1 x2 I) K) : xm_J 1 mt_M_flatX 0 [(0, .ref 49), (1, .int x1), (2, .int x2)] [] (I, L, RC n, n) 0 0 Q := by
  unfold f_M_flatX_b0 at hF
  refine r_aload_n (i := 0) (k0 := 0) rfl rfl rfl ?_
  refine q_getr (b := 64) (i := 1) rfl fl_M_69 rfl (xm_in rfl hn) rfl rfl ?_
  refine r_bipush (v := 36) (i := 2) rfl kb_36 ?_
  refine r_iload_n (i := 3) (k0 := 1) rfl rfl rfl ?_
  refine r_imul (i := 4) rfl ?_
  refine r_iconst (v := 3) (i := 5) rfl ki_3 ?_
  refine r_iload_n (i := 6) (k0 := 2) rfl rfl rfl ?_
  refine r_imul (i := 7) rfl ?_
  refine r_iadd (i := 8) rfl ?_
  obtain ⟨hi, hF⟩ := ok_gd hF
  refine q_iaload (i := 9) rfl (xm_in rfl hn) rfl hi ?_
  refine r_istore_n (i := 10) (Ls' := [(3, _), (0, _), (1, _), (2, _)]) rfl rfl (Nat.le_of_ble_eq_true rfl) rfl ?_
  refine r_aload_n (i := 11) (k0 := 1) rfl rfl rfl ?_
  refine q_getr (b := 64) (i := 12) rfl fl_M_69 rfl (xm_in rfl hn) rfl rfl ?_
  refine r_bipush (v := 36) (i := 13) rfl kb_36 ?_
  refine r_iload_n (i := 14) (k0 := 2) rfl rfl rfl ?_
  refine r_imul (i := 15) rfl ?_
  refine r_iconst (v := 3) (i := 16) rfl ki_3 ?_
  refine r_iload_n (i := 17) (k0 := 3) rfl rfl rfl ?_
  refine r_imul (i := 18) rfl ?_
  refine r_iadd (i := 19) rfl ?_
  refine r_iconst (v := 2) (i := 20) rfl ki_2 ?_
  refine r_iadd (i := 21) rfl ?_
  obtain ⟨hi, hF⟩ := ok_gd hF
  refine q_iaload (i := 22) rfl (xm_in rfl hn) rfl hi ?_
  refine r_istore (i := 23) (Ls' := [(4, _), (3, _), (0, _), (1, _), (2, _)]) rfl (Nat.le_of_ble_eq_true rfl) rfl ?_
  refine r_aload_n (i := 24) (k0 := 2) rfl rfl rfl ?_
  refine q_geti (i := 25) rfl fl_M_276 (xm_in rfl hn) rfl ?_
  refine r_iconst (v := 2) (i := 26) rfl ki_2 ?_
  refine r_icmpge (i := 27) (tgt := 43) rfl (by decide) (fun hc => ?_) (fun hc => ?_)
  · have hF := ok_it hc hF
    refine r_aload_n (i := 30) (k0 := 2) rfl rfl rfl ?_
    refine q_geti (i := 31) rfl fl_M_276 (xm_in rfl hn) rfl ?_
    refine r_iconst (v := 2) (i := 32) rfl ki_2 ?_
    refine r_icmpne (i := 33) (tgt := 57) rfl (by decide) (fun hc => ?_) (fun hc => ?_)
    · have hF := ok_if hc hF
      refine r_aload_n (i := 37) (k0 := 2) rfl rfl rfl ?_
      refine q_geti (i := 38) rfl fl_M_276 (xm_in rfl hn) rfl ?_
      refine r_iconst (v := 3) (i := 39) rfl ki_3 ?_
      refine r_icmpne (i := 40) (tgt := 74) rfl (by decide) (fun hc => ?_) (fun hc => ?_)
      · have hF := ok_if hc hF
        refine r_iload_n (i := 47) (k0 := 1) rfl rfl rfl ?_
        refine r_iload (i := 48) (k0 := 0) rfl rfl ?_
        refine r_isub (i := 49) rfl ?_
        refine xm_sub (Ls' := [(0, _), (1, _)]) [2, 3] rfl ?_
        exact t_M_flatX_b78 hn (fun p h => hq p h) hF
      have hF := ok_it hc hF
      refine r_iconst (v := 2) (i := 41) rfl ki_2 ?_
      refine r_iload_n (i := 42) (k0 := 1) rfl rfl rfl ?_
      refine r_imul (i := 43) rfl ?_
      refine r_iload (i := 44) (k0 := 0) rfl rfl ?_
      refine r_isub (i := 45) rfl ?_
      refine r_goto (i := 46) (tgt := 78) rfl (by decide) ?_
      refine xm_sub (Ls' := [(0, _), (1, _)]) [2, 3] rfl ?_
      exact t_M_flatX_b78 hn (fun p h => hq p h) hF
    have hF := ok_it hc hF
    refine r_iload (i := 34) (k0 := 0) rfl rfl ?_
    refine r_ineg (i := 35) rfl ?_
    refine r_goto (i := 36) (tgt := 78) rfl (by decide) ?_
    refine xm_sub (Ls' := [(0, _), (1, _)]) [2, 3] rfl ?_
    exact t_M_flatX_b78 hn (fun p h => hq p h) hF
  have hF := ok_if hc hF
  refine r_iload_n (i := 28) (k0 := 1) rfl rfl rfl ?_
  refine r_goto (i := 29) (tgt := 78) rfl (by decide) ?_
  refine xm_sub (Ls' := [(0, _), (1, _)]) [2, 3] rfl ?_
  exact t_M_flatX_b78 hn (fun p h => hq p h) hF
set_option maxHeartbeats 4000000 in
set_option maxRecDepth 100000 in
theorem t_M_flatX {x1 : Int32} {x2 : Int32} {n : Nat} {I : xm_I} {L : xm_L} {K : Int32 → Prop} (hn : 86 ≤ n) (hF : ok (f_M_flatX x1 x2 I) K) : xm_C 1 mt_M_flatX [.ref 49, .int x1, .int x2] (I, L, RC n, n) 0 0 (pI (fun p : Int32 => p) (fun p : Int32 => (I, L, RC n, n)) K) := by
  unfold f_M_flatX at hF
  refine xm_enter (by decide +kernel) dv_M_flatX (Nat.le_of_ble_eq_true rfl) ?_
  exact t_M_flatX_b0 hn (fun p hp => ⟨p, rfl, rfl, hp⟩) hF

noncomputable def f_M_flatY_b102 (x1 : Int32) (y0 : Int32) (I : xm_I) : Option (Int32) :=
  gd (0 ≤ (x1).toInt ∧ (x1).toInt < 4) <|
  (f_M_nowY (I 61 (Int32.toNatClampNeg x1)) I).bind fun p_1 =>
  gd (0 ≤ (x1).toInt ∧ (x1).toInt < 4) <|
  some (p_1 + ((I 62 (Int32.toNatClampNeg x1)) * y0))
noncomputable def f_M_flatY_b0 (x1 : Int32) (x2 : Int32) (I : xm_I) : Option (Int32) :=
  gd (0 ≤ ((36 * x1) + (3 * x2)).toInt ∧ ((36 * x1) + (3 * x2)).toInt < 144) <|
  let x3_1 : Int32 := I 64 (Int32.toNatClampNeg ((36 * x1) + (3 * x2)))
  gd (0 ≤ (((36 * x1) + (3 * x2)) + 1).toInt ∧ (((36 * x1) + (3 * x2)) + 1).toInt < 144) <|
  let x4_2 : Int32 := I 64 (Int32.toNatClampNeg (((36 * x1) + (3 * x2)) + 1))
  gd (0 ≤ (((36 * x1) + (3 * x2)) + 2).toInt ∧ (((36 * x1) + (3 * x2)) + 2).toInt < 144) <|
  let x5_3 : Int32 := I 64 (Int32.toNatClampNeg (((36 * x1) + (3 * x2)) + 2))
  if (I 49 32) = 1 then (
    f_M_flatY_b102 x1 (-x5_3) I)
  else (
    if (I 49 32) = 3 then (
      f_M_flatY_b102 x1 ((2 * x4_2) - x5_3) I)
    else (
      if (I 49 32) = 4 then (
        f_M_flatY_b102 x1 (((2 * x4_2) - x3_1) - x5_3) I)
      else (
        f_M_flatY_b102 x1 x4_2 I)))
noncomputable def f_M_flatY (x1 : Int32) (x2 : Int32) (I : xm_I) : Option (Int32) := f_M_flatY_b0 x1 x2 I
set_option maxHeartbeats 4000000 in
set_option maxRecDepth 100000 in
theorem t_M_flatY_b102 {x1 : Int32} {y0 : Int32} {n : Nat} {I : xm_I} {L : xm_L} {K : Int32 → Prop} {Q : Option Value → xm_H → Prop} (hn : 86 ≤ n) (hq : ∀ p : Int32, K p → Q (some (.int p)) (I, L, RC n, n)) (hF : ok (f_M_flatY_b102 x1 y0 I) K) : xm_J 1 mt_M_flatY 102 [(0, .ref 49), (1, .int x1)] [.int y0] (I, L, RC n, n) 0 0 Q := by
  unfold f_M_flatY_b102 at hF
  refine r_istore (i := 67) (Ls' := [(6, _), (0, _), (1, _)]) rfl (Nat.le_of_ble_eq_true rfl) rfl ?_
  refine r_aload_n (i := 68) (k0 := 1) rfl rfl rfl ?_
  refine r_aload_n (i := 69) (k0 := 1) rfl rfl rfl ?_
  refine q_getr (b := 61) (i := 70) rfl fl_M_60 rfl (xm_in rfl hn) rfl rfl ?_
  refine r_iload_n (i := 71) (k0 := 2) rfl rfl rfl ?_
  obtain ⟨hi, hF⟩ := ok_gd hF
  refine q_iaload (i := 72) rfl (xm_in rfl hn) rfl hi ?_
  refine c_V1I (i := 73) rfl vm_M_nowY lk_M_172 (t_M_nowY hn (ok_bind hF)) (Nat.le_of_ble_eq_true rfl) (xm_in rfl hn) rfl rfl (Nat.le_of_ble_eq_true rfl) (fun p_1 hF => ?_)
  refine r_aload_n (i := 74) (k0 := 1) rfl rfl rfl ?_
  refine q_getr (b := 62) (i := 75) rfl fl_M_63 rfl (xm_in rfl hn) rfl rfl ?_
  refine r_iload_n (i := 76) (k0 := 2) rfl rfl rfl ?_
  obtain ⟨hi, hF⟩ := ok_gd hF
  refine q_iaload (i := 77) rfl (xm_in rfl hn) rfl hi ?_
  refine r_iload (i := 78) (k0 := 0) rfl rfl ?_
  refine r_imul (i := 79) rfl ?_
  refine r_iadd (i := 80) rfl ?_
  have hQ := hq _ (ok_some hF)
  exact r_ireturn (i := 81) rfl rfl rfl hQ
set_option maxHeartbeats 4000000 in
set_option maxRecDepth 100000 in
theorem t_M_flatY_b0 {x1 : Int32} {x2 : Int32} {n : Nat} {I : xm_I} {L : xm_L} {K : Int32 → Prop} {Q : Option Value → xm_H → Prop} (hn : 86 ≤ n) (hq : ∀ p : Int32, K p → Q (some (.int p)) (I, L, RC n, n)) (hF : ok (f_M_flatY_b0 x1 x2 I) K) : xm_J 1 mt_M_flatY 0 [(0, .ref 49), (1, .int x1), (2, .int x2)] [] (I, L, RC n, n) 0 0 Q := by
  unfold f_M_flatY_b0 at hF
  refine r_aload_n (i := 0) (k0 := 0) rfl rfl rfl ?_
  refine q_getr (b := 64) (i := 1) rfl fl_M_69 rfl (xm_in rfl hn) rfl rfl ?_
  refine r_bipush (v := 36) (i := 2) rfl kb_36 ?_
  refine r_iload_n (i := 3) (k0 := 1) rfl rfl rfl ?_
  refine r_imul (i := 4) rfl ?_
  refine r_iconst (v := 3) (i := 5) rfl ki_3 ?_
  refine r_iload_n (i := 6) (k0 := 2) rfl rfl rfl ?_
  refine r_imul (i := 7) rfl ?_
  refine r_iadd (i := 8) rfl ?_
  obtain ⟨hi, hF⟩ := ok_gd hF
  refine q_iaload (i := 9) rfl (xm_in rfl hn) rfl hi ?_
  refine r_istore_n (i := 10) (Ls' := [(3, _), (0, _), (1, _), (2, _)]) rfl rfl (Nat.le_of_ble_eq_true rfl) rfl ?_
  refine r_aload_n (i := 11) (k0 := 1) rfl rfl rfl ?_
  refine q_getr (b := 64) (i := 12) rfl fl_M_69 rfl (xm_in rfl hn) rfl rfl ?_
  refine r_bipush (v := 36) (i := 13) rfl kb_36 ?_
  refine r_iload_n (i := 14) (k0 := 2) rfl rfl rfl ?_
  refine r_imul (i := 15) rfl ?_
  refine r_iconst (v := 3) (i := 16) rfl ki_3 ?_
  refine r_iload_n (i := 17) (k0 := 3) rfl rfl rfl ?_
  refine r_imul (i := 18) rfl ?_
  refine r_iadd (i := 19) rfl ?_
  refine r_iconst (v := 1) (i := 20) rfl ki_1 ?_
  refine r_iadd (i := 21) rfl ?_
  obtain ⟨hi, hF⟩ := ok_gd hF
  refine q_iaload (i := 22) rfl (xm_in rfl hn) rfl hi ?_
  refine r_istore (i := 23) (Ls' := [(4, _), (3, _), (0, _), (1, _), (2, _)]) rfl (Nat.le_of_ble_eq_true rfl) rfl ?_
  refine r_aload_n (i := 24) (k0 := 2) rfl rfl rfl ?_
  refine q_getr (b := 64) (i := 25) rfl fl_M_69 rfl (xm_in rfl hn) rfl rfl ?_
  refine r_bipush (v := 36) (i := 26) rfl kb_36 ?_
  refine r_iload_n (i := 27) (k0 := 3) rfl rfl rfl ?_
  refine r_imul (i := 28) rfl ?_
  refine r_iconst (v := 3) (i := 29) rfl ki_3 ?_
  refine r_iload_n (i := 30) (k0 := 4) rfl rfl rfl ?_
  refine r_imul (i := 31) rfl ?_
  refine r_iadd (i := 32) rfl ?_
  refine r_iconst (v := 2) (i := 33) rfl ki_2 ?_
  refine r_iadd (i := 34) rfl ?_
  obtain ⟨hi, hF⟩ := ok_gd hF
  refine q_iaload (i := 35) rfl (xm_in rfl hn) rfl hi ?_
  refine r_istore (i := 36) (Ls' := [(5, _), (4, _), (3, _), (0, _), (1, _), (2, _)]) rfl (Nat.le_of_ble_eq_true rfl) rfl ?_
  refine r_aload_n (i := 37) (k0 := 3) rfl rfl rfl ?_
  refine q_geti (i := 38) rfl fl_M_276 (xm_in rfl hn) rfl ?_
  refine r_iconst (v := 1) (i := 39) rfl ki_1 ?_
  refine r_icmpne (i := 40) (tgt := 62) rfl (by decide) (fun hc => ?_) (fun hc => ?_)
  · have hF := ok_if hc hF
    refine r_aload_n (i := 44) (k0 := 3) rfl rfl rfl ?_
    refine q_geti (i := 45) rfl fl_M_276 (xm_in rfl hn) rfl ?_
    refine r_iconst (v := 3) (i := 46) rfl ki_3 ?_
    refine r_icmpne (i := 47) (tgt := 80) rfl (by decide) (fun hc => ?_) (fun hc => ?_)
    · have hF := ok_if hc hF
      refine r_aload_n (i := 54) (k0 := 3) rfl rfl rfl ?_
      refine q_geti (i := 55) rfl fl_M_276 (xm_in rfl hn) rfl ?_
      refine r_iconst (v := 4) (i := 56) rfl ki_4 ?_
      refine r_icmpne (i := 57) (tgt := 100) rfl (by decide) (fun hc => ?_) (fun hc => ?_)
      · have hF := ok_if hc hF
        refine r_iload (i := 66) (k0 := 1) rfl rfl ?_
        refine xm_sub (Ls' := [(0, _), (1, _)]) [3, 4] rfl ?_
        exact t_M_flatY_b102 hn (fun p h => hq p h) hF
      have hF := ok_it hc hF
      refine r_iconst (v := 2) (i := 58) rfl ki_2 ?_
      refine r_iload (i := 59) (k0 := 1) rfl rfl ?_
      refine r_imul (i := 60) rfl ?_
      refine r_iload_n (i := 61) (k0 := 2) rfl rfl rfl ?_
      refine r_isub (i := 62) rfl ?_
      refine r_iload (i := 63) (k0 := 0) rfl rfl ?_
      refine r_isub (i := 64) rfl ?_
      refine r_goto (i := 65) (tgt := 102) rfl (by decide) ?_
      refine xm_sub (Ls' := [(0, _), (1, _)]) [3, 4] rfl ?_
      exact t_M_flatY_b102 hn (fun p h => hq p h) hF
    have hF := ok_it hc hF
    refine r_iconst (v := 2) (i := 48) rfl ki_2 ?_
    refine r_iload (i := 49) (k0 := 1) rfl rfl ?_
    refine r_imul (i := 50) rfl ?_
    refine r_iload (i := 51) (k0 := 0) rfl rfl ?_
    refine r_isub (i := 52) rfl ?_
    refine r_goto (i := 53) (tgt := 102) rfl (by decide) ?_
    refine xm_sub (Ls' := [(0, _), (1, _)]) [3, 4] rfl ?_
    exact t_M_flatY_b102 hn (fun p h => hq p h) hF
  have hF := ok_it hc hF
  refine r_iload (i := 41) (k0 := 0) rfl rfl ?_
  refine r_ineg (i := 42) rfl ?_
  refine r_goto (i := 43) (tgt := 102) rfl (by decide) ?_
  refine xm_sub (Ls' := [(0, _), (1, _)]) [3, 4] rfl ?_
  exact t_M_flatY_b102 hn (fun p h => hq p h) hF
set_option maxHeartbeats 4000000 in
set_option maxRecDepth 100000 in
theorem t_M_flatY {x1 : Int32} {x2 : Int32} {n : Nat} {I : xm_I} {L : xm_L} {K : Int32 → Prop} (hn : 86 ≤ n) (hF : ok (f_M_flatY x1 x2 I) K) : xm_C 1 mt_M_flatY [.ref 49, .int x1, .int x2] (I, L, RC n, n) 0 0 (pI (fun p : Int32 => p) (fun p : Int32 => (I, L, RC n, n)) K) := by
  unfold f_M_flatY at hF
  refine xm_enter (by decide +kernel) dv_M_flatY (Nat.le_of_ble_eq_true rfl) ?_
  exact t_M_flatY_b0 hn (fun p hp => ⟨p, rfl, rfl, hp⟩) hF

noncomputable def f_M_drawSolid_b146 (x1 : Int32) (x2 : Int32) (I : xm_I) (L : xm_L) : Option ((Int32 × xm_I × xm_L) ⊕ (xm_I × xm_L)) :=
  let x2_1 : Int32 := x2 + 1
  some (.inl (x2_1, I, L))
noncomputable def f_M_drawSolid_b141 (x1 : Int32) (x2 : Int32) (y1 : Int32) (y2 : Int32) (y3 : Int32) (y4 : Int32) (y5 : Int32) (y6 : Int32) (y7 : Int32) (I : xm_I) (L : xm_L) : Option ((Int32 × xm_I × xm_L) ⊕ (xm_I × xm_L)) :=
  (f_M_way y1 y2 y3 y4 y5 y6 y7 I L).bind fun p_1 =>
  f_M_drawSolid_b146 x1 x2 p_1.2.1 p_1.2.2
noncomputable def f_M_drawSolid_b120 (x1 : Int32) (x2 : Int32) (x5 : Int32) (x6 : Int32) (x7 : Int32) (x8 : Int32) (x9 : Int32) (I : xm_I) (L : xm_L) : Option ((Int32 × xm_I × xm_L) ⊕ (xm_I × xm_L)) :=
  if x5 = 0 then (
    f_M_drawSolid_b141 x1 x2 x6 x7 x8 x9 1 1 0 I L)
  else (
  f_M_drawSolid_b141 x1 x2 x6 x7 x8 x9 1 1 1 I L)
noncomputable def f_M_drawSolid_b105 (x1 : Int32) (x2 : Int32) (x5 : Int32) (x6 : Int32) (x7 : Int32) (x8 : Int32) (x9 : Int32) (I : xm_I) (L : xm_L) : Option ((Int32 × xm_I × xm_L) ⊕ (xm_I × xm_L)) :=
  if x5 = 0 then (
    f_M_drawSolid_b120 x1 x2 x5 x6 x7 x8 x9 I L)
  else (
  if (I 60 (Int32.toNatClampNeg 9)) = 0 then (
    f_M_drawSolid_b120 x1 x2 x5 x6 x7 x8 x9 I L)
  else (
    f_M_drawSolid_b146 x1 x2 I L))
noncomputable def f_M_drawSolid_b55 (x1 : Int32) (x2 : Int32) (x3 : Int32) (x4 : Int32) (y0 : Int32) (I : xm_I) (L : xm_L) : Option ((Int32 × xm_I × xm_L) ⊕ (xm_I × xm_L)) :=
  (f_M_flatX x1 x3 I).bind fun p_1 =>
  (f_M_flatY x1 x3 I).bind fun p_2 =>
  (f_M_flatX x1 x4 I).bind fun p_3 =>
  (f_M_flatY x1 x4 I).bind fun p_4 =>
  if p_1 = p_3 then (
    if p_2 = p_4 then (
      f_M_drawSolid_b146 x1 x2 I L)
    else (
    f_M_drawSolid_b105 x1 x2 y0 p_1 p_2 p_3 p_4 I L))
  else (
    f_M_drawSolid_b105 x1 x2 y0 p_1 p_2 p_3 p_4 I L)
noncomputable def f_M_drawSolid_s7 (x1 : Int32) (s : Int32 × xm_I × xm_L) : Option ((Int32 × xm_I × xm_L) ⊕ (xm_I × xm_L)) :=
  if (s.2.1 49 34) ≤ s.1 then (
    some (.inr (s.2.1, s.2.2)))
  else (
  gd (0 ≤ (4 * s.1).toInt ∧ (4 * s.1).toInt < 264) <|
  let x3_1 : Int32 := s.2.1 68 (Int32.toNatClampNeg (4 * s.1))
  gd (0 ≤ ((4 * s.1) + 1).toInt ∧ ((4 * s.1) + 1).toInt < 264) <|
  let x4_2 : Int32 := s.2.1 68 (Int32.toNatClampNeg ((4 * s.1) + 1))
  gd (0 ≤ ((4 * s.1) + 2).toInt ∧ ((4 * s.1) + 2).toInt < 264) <|
  if (s.2.1 68 (Int32.toNatClampNeg ((4 * s.1) + 2))) = 1 then (
    f_M_drawSolid_b55 x1 s.1 x3_1 x4_2 1 s.2.1 s.2.2)
  else (
    f_M_drawSolid_b55 x1 s.1 x3_1 x4_2 0 s.2.1 s.2.2))
noncomputable def f_M_drawSolid_b7 (x1 : Int32) (s : Int32 × xm_I × xm_L) : Option (xm_I × xm_L) := lp (f_M_drawSolid_s7 x1) s
noncomputable def f_M_drawSolid_b0 (x1 : Int32) (I : xm_I) (L : xm_L) : Option (xm_I × xm_L) :=
  (f_M_gather x1 I).bind fun p_1 =>
  f_M_drawSolid_b7 x1 (0, p_1, L)
noncomputable def f_M_drawSolid (x1 : Int32) (I : xm_I) (L : xm_L) : Option (xm_I × xm_L) := f_M_drawSolid_b0 x1 I L
set_option maxHeartbeats 4000000 in
set_option maxRecDepth 100000 in
theorem t_M_drawSolid_b146 {x1 : Int32} {x2 : Int32} {n : Nat} {I : xm_I} {L : xm_L} {K : (Int32 × xm_I × xm_L) ⊕ (xm_I × xm_L) → Prop} {Q : Option Value → xm_H → Prop} (hn : 86 ≤ n) (hq : ∀ p : xm_I × xm_L, K (.inr p) → Q none (p.1, p.2, RC n, n)) (hg0 : ∀ s : Int32 × xm_I × xm_L, K (.inl s) → xm_J 4 mt_M_drawSolid 7 [(0, .ref 49), (1, .int x1), (2, .int s.1)] [] (s.2.1, s.2.2, RC n, n) 0 0 Q) (hF : ok (f_M_drawSolid_b146 x1 x2 I L) K) : xm_J 4 mt_M_drawSolid 146 [(0, .ref 49), (1, .int x1), (2, .int x2)] [] (I, L, RC n, n) 0 0 Q := by
  unfold f_M_drawSolid_b146 at hF
  refine q_iinc (i := 86) (k0 := 2) (Ls' := [(2, _), (0, _), (1, _)]) rfl ki_1 rfl (Nat.le_of_ble_eq_true rfl) rfl ?_
  refine r_goto (i := 87) (tgt := 7) rfl (by decide) ?_
  refine xm_sub (Ls' := [(0, _), (1, _), (2, _)]) [1, 2, 0] rfl ?_
  have hJ := hg0 _ (ok_some hF)
  exact hJ
set_option maxHeartbeats 4000000 in
set_option maxRecDepth 100000 in
theorem t_M_drawSolid_b141 {x1 : Int32} {x2 : Int32} {y1 : Int32} {y2 : Int32} {y3 : Int32} {y4 : Int32} {y5 : Int32} {y6 : Int32} {y7 : Int32} {n : Nat} {I : xm_I} {L : xm_L} {K : (Int32 × xm_I × xm_L) ⊕ (xm_I × xm_L) → Prop} {Q : Option Value → xm_H → Prop} (hn : 86 ≤ n) (hq : ∀ p : xm_I × xm_L, K (.inr p) → Q none (p.1, p.2, RC n, n)) (hg0 : ∀ s : Int32 × xm_I × xm_L, K (.inl s) → xm_J 4 mt_M_drawSolid 7 [(0, .ref 49), (1, .int x1), (2, .int s.1)] [] (s.2.1, s.2.2, RC n, n) 0 0 Q) (hF : ok (f_M_drawSolid_b141 x1 x2 y1 y2 y3 y4 y5 y6 y7 I L) K) : xm_J 4 mt_M_drawSolid 141 [(0, .ref 49), (1, .int x1), (2, .int x2)] [.int y7, .int y6, .int y5, .int y4, .int y3, .int y2, .int y1, .ref 49] (I, L, RC n, n) 0 0 Q := by
  unfold f_M_drawSolid_b141 at hF
  refine c_V7I (i := 84) rfl vm_M_way lk_M_400 (t_M_way hn (ok_bind hF)) (Nat.le_of_ble_eq_true rfl) (xm_in rfl hn) rfl rfl (Nat.le_of_ble_eq_true rfl) (fun p_1 hF => ?_)
  refine r_istore (i := 85) (Ls' := [(10, _), (0, _), (1, _), (2, _)]) rfl (Nat.le_of_ble_eq_true rfl) rfl ?_
  refine xm_sub (Ls' := [(0, _), (1, _), (2, _)]) [1, 2, 3] rfl ?_
  exact t_M_drawSolid_b146 hn (fun p h => hq p h) (fun z h => hg0 z h) hF
set_option maxHeartbeats 4000000 in
set_option maxRecDepth 100000 in
theorem t_M_drawSolid_b120 {x1 : Int32} {x2 : Int32} {x5 : Int32} {x6 : Int32} {x7 : Int32} {x8 : Int32} {x9 : Int32} {n : Nat} {I : xm_I} {L : xm_L} {K : (Int32 × xm_I × xm_L) ⊕ (xm_I × xm_L) → Prop} {Q : Option Value → xm_H → Prop} (hn : 86 ≤ n) (hq : ∀ p : xm_I × xm_L, K (.inr p) → Q none (p.1, p.2, RC n, n)) (hg0 : ∀ s : Int32 × xm_I × xm_L, K (.inl s) → xm_J 4 mt_M_drawSolid 7 [(0, .ref 49), (1, .int x1), (2, .int s.1)] [] (s.2.1, s.2.2, RC n, n) 0 0 Q) (hF : ok (f_M_drawSolid_b120 x1 x2 x5 x6 x7 x8 x9 I L) K) : xm_J 4 mt_M_drawSolid 120 [(0, .ref 49), (1, .int x1), (2, .int x2), (5, .int x5), (6, .int x6), (7, .int x7), (8, .int x8), (9, .int x9)] [] (I, L, RC n, n) 0 0 Q := by
  unfold f_M_drawSolid_b120 at hF
  refine r_aload_n (i := 72) (k0 := 0) rfl rfl rfl ?_
  refine r_iload (i := 73) (k0 := 4) rfl rfl ?_
  refine r_iload (i := 74) (k0 := 5) rfl rfl ?_
  refine r_iload (i := 75) (k0 := 6) rfl rfl ?_
  refine r_iload (i := 76) (k0 := 7) rfl rfl ?_
  refine r_iconst (v := 1) (i := 77) rfl ki_1 ?_
  refine r_iconst (v := 1) (i := 78) rfl ki_1 ?_
  refine r_iload (i := 79) (k0 := 3) rfl rfl ?_
  refine r_ifeq (i := 80) (tgt := 140) rfl (by decide) (fun hc => ?_) (fun hc => ?_)
  · have hF := ok_it hc hF
    refine r_iconst (v := 0) (i := 83) rfl ki_0 ?_
    refine xm_sub (Ls' := [(0, _), (1, _), (2, _)]) [0, 1, 2] rfl ?_
    exact t_M_drawSolid_b141 hn (fun p h => hq p h) (fun z h => hg0 z h) hF
  have hF := ok_if hc hF
  refine r_iconst (v := 1) (i := 81) rfl ki_1 ?_
  refine r_goto (i := 82) (tgt := 141) rfl (by decide) ?_
  refine xm_sub (Ls' := [(0, _), (1, _), (2, _)]) [0, 1, 2] rfl ?_
  exact t_M_drawSolid_b141 hn (fun p h => hq p h) (fun z h => hg0 z h) hF
set_option maxHeartbeats 4000000 in
set_option maxRecDepth 100000 in
theorem t_M_drawSolid_b105 {x1 : Int32} {x2 : Int32} {x5 : Int32} {x6 : Int32} {x7 : Int32} {x8 : Int32} {x9 : Int32} {n : Nat} {I : xm_I} {L : xm_L} {K : (Int32 × xm_I × xm_L) ⊕ (xm_I × xm_L) → Prop} {Q : Option Value → xm_H → Prop} (hn : 86 ≤ n) (hq : ∀ p : xm_I × xm_L, K (.inr p) → Q none (p.1, p.2, RC n, n)) (hg0 : ∀ s : Int32 × xm_I × xm_L, K (.inl s) → xm_J 4 mt_M_drawSolid 7 [(0, .ref 49), (1, .int x1), (2, .int s.1)] [] (s.2.1, s.2.2, RC n, n) 0 0 Q) (hF : ok (f_M_drawSolid_b105 x1 x2 x5 x6 x7 x8 x9 I L) K) : xm_J 4 mt_M_drawSolid 105 [(0, .ref 49), (1, .int x1), (2, .int x2), (5, .int x5), (6, .int x6), (7, .int x7), (8, .int x8), (9, .int x9)] [] (I, L, RC n, n) 0 0 Q := by
  unfold f_M_drawSolid_b105 at hF
  refine r_iload (i := 65) (k0 := 3) rfl rfl ?_
  refine r_ifeq (i := 66) (tgt := 120) rfl (by decide) (fun hc => ?_) (fun hc => ?_)
  · have hF := ok_it hc hF
    exact t_M_drawSolid_b120 hn (fun p h => hq p h) (fun z h => hg0 z h) hF
  have hF := ok_if hc hF
  refine r_aload_n (i := 67) (k0 := 0) rfl rfl rfl ?_
  refine q_getr (b := 60) (i := 68) rfl fl_M_40 rfl (xm_in rfl hn) rfl rfl ?_
  refine r_bipush (v := 9) (i := 69) rfl kb_9 ?_
  refine q_baload (i := 70) rfl (xm_in rfl hn) rfl ⟨by decide, by decide⟩ ?_
  refine r_ifne (i := 71) (tgt := 146) rfl (by decide) (fun hc => ?_) (fun hc => ?_)
  · have hF := ok_if hc hF
    refine xm_sub (Ls' := [(0, _), (1, _), (2, _)]) [0, 1, 2] rfl ?_
    exact t_M_drawSolid_b146 hn (fun p h => hq p h) (fun z h => hg0 z h) hF
  have hF := ok_it hc hF
  exact t_M_drawSolid_b120 hn (fun p h => hq p h) (fun z h => hg0 z h) hF
set_option maxHeartbeats 4000000 in
set_option maxRecDepth 100000 in
theorem t_M_drawSolid_b55 {x1 : Int32} {x2 : Int32} {x3 : Int32} {x4 : Int32} {y0 : Int32} {n : Nat} {I : xm_I} {L : xm_L} {K : (Int32 × xm_I × xm_L) ⊕ (xm_I × xm_L) → Prop} {Q : Option Value → xm_H → Prop} (hn : 86 ≤ n) (hq : ∀ p : xm_I × xm_L, K (.inr p) → Q none (p.1, p.2, RC n, n)) (hg0 : ∀ s : Int32 × xm_I × xm_L, K (.inl s) → xm_J 4 mt_M_drawSolid 7 [(0, .ref 49), (1, .int x1), (2, .int s.1)] [] (s.2.1, s.2.2, RC n, n) 0 0 Q) (hF : ok (f_M_drawSolid_b55 x1 x2 x3 x4 y0 I L) K) : xm_J 4 mt_M_drawSolid 55 [(0, .ref 49), (1, .int x1), (2, .int x2), (3, .int x3), (4, .int x4)] [.int y0] (I, L, RC n, n) 0 0 Q := by
  unfold f_M_drawSolid_b55 at hF
  refine r_istore (i := 38) (Ls' := [(5, _), (0, _), (1, _), (2, _), (3, _), (4, _)]) rfl (Nat.le_of_ble_eq_true rfl) rfl ?_
  refine r_aload_n (i := 39) (k0 := 1) rfl rfl rfl ?_
  refine r_iload_n (i := 40) (k0 := 2) rfl rfl rfl ?_
  refine r_iload_n (i := 41) (k0 := 4) rfl rfl rfl ?_
  refine c_V2I (i := 42) rfl vm_M_flatX lk_M_404 (t_M_flatX hn (ok_bind hF)) (Nat.le_of_ble_eq_true rfl) (xm_in rfl hn) rfl rfl (Nat.le_of_ble_eq_true rfl) (fun p_1 hF => ?_)
  refine r_istore (i := 43) (Ls' := [(6, _), (5, _), (0, _), (1, _), (2, _), (3, _), (4, _)]) rfl (Nat.le_of_ble_eq_true rfl) rfl ?_
  refine r_aload_n (i := 44) (k0 := 2) rfl rfl rfl ?_
  refine r_iload_n (i := 45) (k0 := 3) rfl rfl rfl ?_
  refine r_iload_n (i := 46) (k0 := 5) rfl rfl rfl ?_
  refine c_V2I (i := 47) rfl vm_M_flatY lk_M_407 (t_M_flatY hn (ok_bind hF)) (Nat.le_of_ble_eq_true rfl) (xm_in rfl hn) rfl rfl (Nat.le_of_ble_eq_true rfl) (fun p_2 hF => ?_)
  refine r_istore (i := 48) (Ls' := [(7, _), (6, _), (5, _), (0, _), (1, _), (2, _), (3, _), (4, _)]) rfl (Nat.le_of_ble_eq_true rfl) rfl ?_
  refine r_aload_n (i := 49) (k0 := 3) rfl rfl rfl ?_
  refine r_iload_n (i := 50) (k0 := 4) rfl rfl rfl ?_
  refine r_iload (i := 51) (k0 := 7) rfl rfl ?_
  refine c_V2I (i := 52) rfl vm_M_flatX lk_M_404 (t_M_flatX hn (ok_bind hF)) (Nat.le_of_ble_eq_true rfl) (xm_in rfl hn) rfl rfl (Nat.le_of_ble_eq_true rfl) (fun p_3 hF => ?_)
  refine r_istore (i := 53) (Ls' := [(8, _), (7, _), (6, _), (5, _), (0, _), (1, _), (2, _), (3, _), (4, _)]) rfl (Nat.le_of_ble_eq_true rfl) rfl ?_
  refine r_aload_n (i := 54) (k0 := 4) rfl rfl rfl ?_
  refine r_iload_n (i := 55) (k0 := 5) rfl rfl rfl ?_
  refine r_iload (i := 56) (k0 := 8) rfl rfl ?_
  refine c_V2I (i := 57) rfl vm_M_flatY lk_M_407 (t_M_flatY hn (ok_bind hF)) (Nat.le_of_ble_eq_true rfl) (xm_in rfl hn) rfl rfl (Nat.le_of_ble_eq_true rfl) (fun p_4 hF => ?_)
  refine r_istore (i := 58) (Ls' := [(9, _), (8, _), (7, _), (6, _), (5, _), (0, _), (1, _), (2, _), (3, _), (4, _)]) rfl (Nat.le_of_ble_eq_true rfl) rfl ?_
  refine r_iload (i := 59) (k0 := 3) rfl rfl ?_
  refine r_iload (i := 60) (k0 := 1) rfl rfl ?_
  refine r_icmpne (i := 61) (tgt := 105) rfl (by decide) (fun hc => ?_) (fun hc => ?_)
  · have hF := ok_if hc hF
    refine xm_sub (Ls' := [(0, _), (1, _), (2, _), (5, _), (6, _), (7, _), (8, _), (9, _)]) [5, 6, 7, 4, 3, 2, 1, 0] rfl ?_
    exact t_M_drawSolid_b105 hn (fun p h => hq p h) (fun z h => hg0 z h) hF
  have hF := ok_it hc hF
  refine r_iload (i := 62) (k0 := 2) rfl rfl ?_
  refine r_iload (i := 63) (k0 := 0) rfl rfl ?_
  refine r_icmpeq (i := 64) (tgt := 146) rfl (by decide) (fun hc => ?_) (fun hc => ?_)
  · have hF := ok_it hc hF
    refine xm_sub (Ls' := [(0, _), (1, _), (2, _)]) [5, 6, 7] rfl ?_
    exact t_M_drawSolid_b146 hn (fun p h => hq p h) (fun z h => hg0 z h) hF
  have hF := ok_if hc hF
  refine xm_sub (Ls' := [(0, _), (1, _), (2, _), (5, _), (6, _), (7, _), (8, _), (9, _)]) [5, 6, 7, 4, 3, 2, 1, 0] rfl ?_
  exact t_M_drawSolid_b105 hn (fun p h => hq p h) (fun z h => hg0 z h) hF
set_option maxHeartbeats 4000000 in
set_option maxRecDepth 100000 in
theorem t_M_drawSolid_s7 {x1 : Int32} {s : Int32 × xm_I × xm_L} {n : Nat} {K : (Int32 × xm_I × xm_L) ⊕ (xm_I × xm_L) → Prop} {Q : Option Value → xm_H → Prop} (hn : 86 ≤ n) (hq : ∀ p : xm_I × xm_L, K (.inr p) → Q none (p.1, p.2, RC n, n)) (hg0 : ∀ s : Int32 × xm_I × xm_L, K (.inl s) → xm_J 4 mt_M_drawSolid 7 [(0, .ref 49), (1, .int x1), (2, .int s.1)] [] (s.2.1, s.2.2, RC n, n) 0 0 Q) (hF : ok (f_M_drawSolid_s7 x1 s) K) : xm_J 4 mt_M_drawSolid 7 [(0, .ref 49), (1, .int x1), (2, .int s.1)] [] (s.2.1, s.2.2, RC n, n) 0 0 Q := by
  unfold f_M_drawSolid_s7 at hF
  refine r_iload_n (i := 5) (k0 := 2) rfl rfl rfl ?_
  refine r_aload_n (i := 6) (k0 := 0) rfl rfl rfl ?_
  refine q_geti (i := 7) rfl fl_M_283 (xm_in rfl hn) rfl ?_
  refine r_icmpge (i := 8) (tgt := 152) rfl (by decide) (fun hc => ?_) (fun hc => ?_)
  · have hF := ok_it hc hF
    have hQ := hq _ (ok_some hF)
    exact r_return (i := 88) rfl rfl hQ
  have hF := ok_if hc hF
  refine r_aload_n (i := 9) (k0 := 0) rfl rfl rfl ?_
  refine q_getr (b := 68) (i := 10) rfl fl_M_81 rfl (xm_in rfl hn) rfl rfl ?_
  refine r_iconst (v := 4) (i := 11) rfl ki_4 ?_
  refine r_iload_n (i := 12) (k0 := 2) rfl rfl rfl ?_
  refine r_imul (i := 13) rfl ?_
  obtain ⟨hi, hF⟩ := ok_gd hF
  refine q_iaload (i := 14) rfl (xm_in rfl hn) rfl hi ?_
  refine r_istore_n (i := 15) (Ls' := [(3, _), (0, _), (1, _), (2, _)]) rfl rfl (Nat.le_of_ble_eq_true rfl) rfl ?_
  refine r_aload_n (i := 16) (k0 := 1) rfl rfl rfl ?_
  refine q_getr (b := 68) (i := 17) rfl fl_M_81 rfl (xm_in rfl hn) rfl rfl ?_
  refine r_iconst (v := 4) (i := 18) rfl ki_4 ?_
  refine r_iload_n (i := 19) (k0 := 3) rfl rfl rfl ?_
  refine r_imul (i := 20) rfl ?_
  refine r_iconst (v := 1) (i := 21) rfl ki_1 ?_
  refine r_iadd (i := 22) rfl ?_
  obtain ⟨hi, hF⟩ := ok_gd hF
  refine q_iaload (i := 23) rfl (xm_in rfl hn) rfl hi ?_
  refine r_istore (i := 24) (Ls' := [(4, _), (3, _), (0, _), (1, _), (2, _)]) rfl (Nat.le_of_ble_eq_true rfl) rfl ?_
  refine r_aload_n (i := 25) (k0 := 2) rfl rfl rfl ?_
  refine q_getr (b := 68) (i := 26) rfl fl_M_81 rfl (xm_in rfl hn) rfl rfl ?_
  refine r_iconst (v := 4) (i := 27) rfl ki_4 ?_
  refine r_iload_n (i := 28) (k0 := 4) rfl rfl rfl ?_
  refine r_imul (i := 29) rfl ?_
  refine r_iconst (v := 2) (i := 30) rfl ki_2 ?_
  refine r_iadd (i := 31) rfl ?_
  obtain ⟨hi, hF⟩ := ok_gd hF
  refine q_iaload (i := 32) rfl (xm_in rfl hn) rfl hi ?_
  refine r_iconst (v := 1) (i := 33) rfl ki_1 ?_
  refine r_icmpne (i := 34) (tgt := 54) rfl (by decide) (fun hc => ?_) (fun hc => ?_)
  · have hF := ok_if hc hF
    refine r_iconst (v := 0) (i := 37) rfl ki_0 ?_
    refine xm_sub (Ls' := [(0, _), (1, _), (2, _), (3, _), (4, _)]) [2, 3, 4, 1, 0] rfl ?_
    exact t_M_drawSolid_b55 hn (fun p h => hq p h) (fun z h => hg0 z h) hF
  have hF := ok_it hc hF
  refine r_iconst (v := 1) (i := 35) rfl ki_1 ?_
  refine r_goto (i := 36) (tgt := 55) rfl (by decide) ?_
  refine xm_sub (Ls' := [(0, _), (1, _), (2, _), (3, _), (4, _)]) [2, 3, 4, 1, 0] rfl ?_
  exact t_M_drawSolid_b55 hn (fun p h => hq p h) (fun z h => hg0 z h) hF
set_option maxHeartbeats 4000000 in
set_option maxRecDepth 100000 in
theorem t_M_drawSolid_b7 {x1 : Int32} {s : Int32 × xm_I × xm_L} {n : Nat} {K : xm_I × xm_L → Prop} {Q : Option Value → xm_H → Prop} (hn : 86 ≤ n) (hq : ∀ p : xm_I × xm_L, K p → Q none (p.1, p.2, RC n, n)) (hF : ok (f_M_drawSolid_b7 x1 s) K) : xm_J 4 mt_M_drawSolid 7 [(0, .ref 49), (1, .int x1), (2, .int s.1)] [] (s.2.1, s.2.2, RC n, n) 0 0 Q :=
  lp_J (G := fun z => xm_J 4 mt_M_drawSolid 7 [(0, .ref 49), (1, .int x1), (2, .int z.1)] [] (z.2.1, z.2.2, RC n, n) 0 0 Q) (fun z hF => t_M_drawSolid_s7 hn (fun p h => hq p h) (fun z h => h) hF) s hF
set_option maxHeartbeats 4000000 in
set_option maxRecDepth 100000 in
theorem t_M_drawSolid_b0 {x1 : Int32} {n : Nat} {I : xm_I} {L : xm_L} {K : xm_I × xm_L → Prop} {Q : Option Value → xm_H → Prop} (hn : 86 ≤ n) (hq : ∀ p : xm_I × xm_L, K p → Q none (p.1, p.2, RC n, n)) (hF : ok (f_M_drawSolid_b0 x1 I L) K) : xm_J 4 mt_M_drawSolid 0 [(0, .ref 49), (1, .int x1)] [] (I, L, RC n, n) 0 0 Q := by
  unfold f_M_drawSolid_b0 at hF
  refine r_aload_n (i := 0) (k0 := 0) rfl rfl rfl ?_
  refine r_iload_n (i := 1) (k0 := 1) rfl rfl rfl ?_
  refine c_V1V (i := 2) rfl vm_M_gather lk_M_290 (t_M_gather hn (ok_bind hF)) (Nat.le_of_ble_eq_true rfl) (xm_in rfl hn) rfl rfl (Nat.le_of_ble_eq_true rfl) (fun p_1 hF => ?_)
  refine r_iconst (v := 0) (i := 3) rfl ki_0 ?_
  refine r_istore_n (i := 4) (Ls' := [(2, _), (0, _), (1, _)]) rfl rfl (Nat.le_of_ble_eq_true rfl) rfl ?_
  refine xm_sub (Ls' := [(0, _), (1, _), (2, _)]) [1, 2, 0] rfl ?_
  exact t_M_drawSolid_b7 hn (fun p h => hq p h) hF
set_option maxHeartbeats 4000000 in
set_option maxRecDepth 100000 in
theorem t_M_drawSolid {x1 : Int32} {n : Nat} {I : xm_I} {L : xm_L} {K : xm_I × xm_L → Prop} (hn : 86 ≤ n) (hF : ok (f_M_drawSolid x1 I L) K) : xm_C 4 mt_M_drawSolid [.ref 49, .int x1] (I, L, RC n, n) 0 0 (pV (fun p : xm_I × xm_L => (p.1, p.2, RC n, n)) K) := by
  unfold f_M_drawSolid at hF
  refine xm_enter (by decide +kernel) dv_M_drawSolid (Nat.le_of_ble_eq_true rfl) ?_
  exact t_M_drawSolid_b0 hn (fun p hp => ⟨p, rfl, rfl, hp⟩) hF

noncomputable def f_M_isDrawable_b0 (x1 : Int32) (I : xm_I) : Option (Int32) :=
  gd (0 ≤ (x1).toInt ∧ (x1).toInt < 40) <|
  gd (0 ≤ (I 54 (Int32.toNatClampNeg x1)).toInt ∧ (I 54 (Int32.toNatClampNeg x1)).toInt < 10) <|
  if (I 60 (Int32.toNatClampNeg (I 54 (Int32.toNatClampNeg x1)))) = 0 then (
    (f_M_isFallen x1 I).bind fun p_1 =>
    if p_1 = 0 then (
      some (1))
    else (
      some (0)))
  else (
    some (0))
noncomputable def f_M_isDrawable (x1 : Int32) (I : xm_I) : Option (Int32) := f_M_isDrawable_b0 x1 I
set_option maxHeartbeats 4000000 in
set_option maxRecDepth 100000 in
theorem t_M_isDrawable_b0 {x1 : Int32} {n : Nat} {I : xm_I} {L : xm_L} {K : Int32 → Prop} {Q : Option Value → xm_H → Prop} (hn : 86 ≤ n) (hq : ∀ p : Int32, K p → Q (some (.int p)) (I, L, RC n, n)) (hF : ok (f_M_isDrawable_b0 x1 I) K) : xm_J 4 mt_M_isDrawable 0 [(0, .ref 49), (1, .int x1)] [] (I, L, RC n, n) 0 0 Q := by
  unfold f_M_isDrawable_b0 at hF
  refine r_aload_n (i := 0) (k0 := 0) rfl rfl rfl ?_
  refine q_getr (b := 60) (i := 1) rfl fl_M_40 rfl (xm_in rfl hn) rfl rfl ?_
  refine r_aload_n (i := 2) (k0 := 0) rfl rfl rfl ?_
  refine q_getr (b := 54) (i := 3) rfl fl_M_22 rfl (xm_in rfl hn) rfl rfl ?_
  refine r_iload_n (i := 4) (k0 := 1) rfl rfl rfl ?_
  obtain ⟨hi, hF⟩ := ok_gd hF
  refine q_iaload (i := 5) rfl (xm_in rfl hn) rfl hi ?_
  obtain ⟨hi, hF⟩ := ok_gd hF
  refine q_baload (i := 6) rfl (xm_in rfl hn) rfl hi ?_
  refine r_ifne (i := 7) (tgt := 26) rfl (by decide) (fun hc => ?_) (fun hc => ?_)
  · have hF := ok_if hc hF
    refine r_iconst (v := 0) (i := 14) rfl ki_0 ?_
    have hQ := hq _ (ok_some hF)
    exact r_ireturn (i := 15) rfl rfl rfl hQ
  have hF := ok_it hc hF
  refine r_aload_n (i := 8) (k0 := 0) rfl rfl rfl ?_
  refine r_iload_n (i := 9) (k0 := 1) rfl rfl rfl ?_
  refine c_V1I (i := 10) rfl vm_M_isFallen lk_M_208 (t_M_isFallen hn (ok_bind hF)) (Nat.le_of_ble_eq_true rfl) (xm_in rfl hn) rfl rfl (Nat.le_of_ble_eq_true rfl) (fun p_1 hF => ?_)
  refine r_ifne (i := 11) (tgt := 26) rfl (by decide) (fun hc => ?_) (fun hc => ?_)
  · have hF := ok_if hc hF
    refine r_iconst (v := 0) (i := 14) rfl ki_0 ?_
    have hQ := hq _ (ok_some hF)
    exact r_ireturn (i := 15) rfl rfl rfl hQ
  have hF := ok_it hc hF
  refine r_iconst (v := 1) (i := 12) rfl ki_1 ?_
  refine r_goto (i := 13) (tgt := 27) rfl (by decide) ?_
  have hQ := hq _ (ok_some hF)
  exact r_ireturn (i := 15) rfl rfl rfl hQ
set_option maxHeartbeats 4000000 in
set_option maxRecDepth 100000 in
theorem t_M_isDrawable {x1 : Int32} {n : Nat} {I : xm_I} {L : xm_L} {K : Int32 → Prop} (hn : 86 ≤ n) (hF : ok (f_M_isDrawable x1 I) K) : xm_C 4 mt_M_isDrawable [.ref 49, .int x1] (I, L, RC n, n) 0 0 (pI (fun p : Int32 => p) (fun p : Int32 => (I, L, RC n, n)) K) := by
  unfold f_M_isDrawable at hF
  refine xm_enter (by decide +kernel) dv_M_isDrawable (Nat.le_of_ble_eq_true rfl) ?_
  exact t_M_isDrawable_b0 hn (fun p hp => ⟨p, rfl, rfl, hp⟩) hF

noncomputable def f_M_numbersOf_b0 (x0 : Int32) : Option (Int32) :=
  if x0 = 70 then (
    some (2))
  else (
    if x0 = 68 then (
      some (3))
    else (
      if x0 = 84 then (
        some (4))
      else (
      if x0 = 87 then (
        some (4))
      else (
        some (5)))))
noncomputable def f_M_numbersOf (x0 : Int32) : Option (Int32) := f_M_numbersOf_b0 x0
set_option maxHeartbeats 4000000 in
set_option maxRecDepth 100000 in
theorem t_M_numbersOf_b0 {x0 : Int32} {n : Nat} {I : xm_I} {L : xm_L} {K : Int32 → Prop} {Q : Option Value → xm_H → Prop} (hn : 86 ≤ n) (hq : ∀ p : Int32, K p → Q (some (.int p)) (I, L, RC n, n)) (hF : ok (f_M_numbersOf_b0 x0) K) : xm_J 0 mt_M_numbersOf 0 [(0, .int x0)] [] (I, L, RC n, n) 0 0 Q := by
  unfold f_M_numbersOf_b0 at hF
  refine r_iload_n (i := 0) (k0 := 0) rfl rfl rfl ?_
  refine r_bipush (v := 70) (i := 1) rfl kb_70 ?_
  refine r_icmpne (i := 2) (tgt := 10) rfl (by decide) (fun hc => ?_) (fun hc => ?_)
  · have hF := ok_if hc hF
    refine r_iload_n (i := 5) (k0 := 0) rfl rfl rfl ?_
    refine r_bipush (v := 68) (i := 6) rfl kb_68 ?_
    refine r_icmpne (i := 7) (tgt := 20) rfl (by decide) (fun hc => ?_) (fun hc => ?_)
    · have hF := ok_if hc hF
      refine r_iload_n (i := 10) (k0 := 0) rfl rfl rfl ?_
      refine r_bipush (v := 84) (i := 11) rfl kb_84 ?_
      refine r_icmpeq (i := 12) (tgt := 32) rfl (by decide) (fun hc => ?_) (fun hc => ?_)
      · have hF := ok_it hc hF
        refine r_iconst (v := 4) (i := 16) rfl ki_4 ?_
        refine r_goto (i := 17) (tgt := 37) rfl (by decide) ?_
        have hQ := hq _ (ok_some hF)
        exact r_ireturn (i := 19) rfl rfl rfl hQ
      have hF := ok_if hc hF
      refine r_iload_n (i := 13) (k0 := 0) rfl rfl rfl ?_
      refine r_bipush (v := 87) (i := 14) rfl kb_87 ?_
      refine r_icmpne (i := 15) (tgt := 36) rfl (by decide) (fun hc => ?_) (fun hc => ?_)
      · have hF := ok_if hc hF
        refine r_iconst (v := 5) (i := 18) rfl ki_5 ?_
        have hQ := hq _ (ok_some hF)
        exact r_ireturn (i := 19) rfl rfl rfl hQ
      have hF := ok_it hc hF
      refine r_iconst (v := 4) (i := 16) rfl ki_4 ?_
      refine r_goto (i := 17) (tgt := 37) rfl (by decide) ?_
      have hQ := hq _ (ok_some hF)
      exact r_ireturn (i := 19) rfl rfl rfl hQ
    have hF := ok_it hc hF
    refine r_iconst (v := 3) (i := 8) rfl ki_3 ?_
    refine r_goto (i := 9) (tgt := 37) rfl (by decide) ?_
    have hQ := hq _ (ok_some hF)
    exact r_ireturn (i := 19) rfl rfl rfl hQ
  have hF := ok_it hc hF
  refine r_iconst (v := 2) (i := 3) rfl ki_2 ?_
  refine r_goto (i := 4) (tgt := 37) rfl (by decide) ?_
  have hQ := hq _ (ok_some hF)
  exact r_ireturn (i := 19) rfl rfl rfl hQ
set_option maxHeartbeats 4000000 in
set_option maxRecDepth 100000 in
theorem t_M_numbersOf {x0 : Int32} {n : Nat} {I : xm_I} {L : xm_L} {K : Int32 → Prop} (hn : 86 ≤ n) (hF : ok (f_M_numbersOf x0) K) : xm_C 0 mt_M_numbersOf [.int x0] (I, L, RC n, n) 0 0 (pI (fun p : Int32 => p) (fun p : Int32 => (I, L, RC n, n)) K) := by
  unfold f_M_numbersOf at hF
  refine xm_enter (by decide +kernel) dv_M_numbersOf (Nat.le_of_ble_eq_true rfl) ?_
  exact t_M_numbersOf_b0 hn (fun p hp => ⟨p, rfl, rfl, hp⟩) hF

noncomputable def f_M_octet0_b0 (x1 : Int32) (I : xm_I) : Option (xm_I) :=
  gd (0 ≤ (I 49 52).toInt ∧ (I 49 52).toInt < 42000) <|
  let I_1 : xm_I := up2 I 72 (Int32.toNatClampNeg (I 49 52)) x1
  let I_2 : xm_I := up2 I_1 49 52 ((I_1 49 52) + 1)
  some (I_2)
noncomputable def f_M_octet0 (x1 : Int32) (I : xm_I) : Option (xm_I) := f_M_octet0_b0 x1 I
set_option maxHeartbeats 4000000 in
set_option maxRecDepth 100000 in
theorem t_M_octet0_b0 {x1 : Int32} {n : Nat} {I : xm_I} {L : xm_L} {K : xm_I → Prop} {Q : Option Value → xm_H → Prop} (hn : 86 ≤ n) (hq : ∀ p : xm_I, K p → Q none (p, L, RC n, n)) (hF : ok (f_M_octet0_b0 x1 I) K) : xm_J 0 mt_M_octet0 0 [(0, .ref 49), (1, .int x1)] [] (I, L, RC n, n) 0 0 Q := by
  unfold f_M_octet0_b0 at hF
  refine r_aload_n (i := 0) (k0 := 0) rfl rfl rfl ?_
  refine q_getr (b := 72) (i := 1) rfl fl_M_94 rfl (xm_in rfl hn) rfl rfl ?_
  refine r_aload_n (i := 2) (k0 := 0) rfl rfl rfl ?_
  refine q_geti (i := 3) rfl fl_M_501 (xm_in rfl hn) rfl ?_
  refine r_iload_n (i := 4) (k0 := 1) rfl rfl rfl ?_
  obtain ⟨hi, hF⟩ := ok_gd hF
  refine q_iastore (i := 5) rfl (xm_in rfl hn) rfl hi ?_
  refine r_aload_n (i := 6) (k0 := 0) rfl rfl rfl ?_
  refine r_dup (i := 7) rfl rfl ?_
  refine q_geti (i := 8) rfl fl_M_501 (xm_in rfl hn) rfl ?_
  refine r_iconst (v := 1) (i := 9) rfl ki_1 ?_
  refine r_iadd (i := 10) rfl ?_
  refine q_puti (i := 11) rfl fl_M_501 (fun h => Bool.noConfusion h) (xm_in rfl hn) rfl ?_
  have hQ := hq _ (ok_some hF)
  exact r_return (i := 12) rfl rfl hQ
set_option maxHeartbeats 4000000 in
set_option maxRecDepth 100000 in
theorem t_M_octet0 {x1 : Int32} {n : Nat} {I : xm_I} {L : xm_L} {K : xm_I → Prop} (hn : 86 ≤ n) (hF : ok (f_M_octet0 x1 I) K) : xm_C 0 mt_M_octet0 [.ref 49, .int x1] (I, L, RC n, n) 0 0 (pV (fun p : xm_I => (p, L, RC n, n)) K) := by
  unfold f_M_octet0 at hF
  refine xm_enter (by decide +kernel) dv_M_octet0 (Nat.le_of_ble_eq_true rfl) ?_
  exact t_M_octet0_b0 hn (fun p hp => ⟨p, rfl, rfl, hp⟩) hF

noncomputable def f_M_lay_s104 (x1 : Int32) (x2 : Int32) (x3 : Int32) (l4 : Int64) (s : Int64 × xm_I) : Option ((Int64 × xm_I) ⊕ ((Int32 × xm_I) ⊕ ((Int32 × xm_I) ⊕ (xm_I)))) :=
  if s.1 ≤ 0 then (
    let x3_1 : Int32 := x3 + 1
    some (.inr (.inl (x3_1, s.2))))
  else (
  gd (¬ s.1 = 0) <|
  (f_M_octet0 (Int64.toInt32 (48 + ((l4 / s.1) - (l4 / s.1) / 10 * 10))) s.2).bind fun p_2 =>
  let l6_3 : Int64 := s.1 / 10
  some (.inl (l6_3, p_2)))
noncomputable def f_M_lay_b104 (x1 : Int32) (x2 : Int32) (x3 : Int32) (l4 : Int64) (s : Int64 × xm_I) : Option ((Int32 × xm_I) ⊕ ((Int32 × xm_I) ⊕ (xm_I))) := lp (f_M_lay_s104 x1 x2 x3 l4) s
noncomputable def f_M_lay_s81 (x1 : Int32) (x2 : Int32) (x3 : Int32) (l4 : Int64) (I : xm_I) (s : Int64) : Option ((Int64) ⊕ ((Int32 × xm_I) ⊕ ((Int32 × xm_I) ⊕ (xm_I)))) :=
  gd (¬ s = 0) <|
  if (l4 / s) ≤ 9 then (
    (f_M_lay_b104 x1 x2 x3 l4 (s, I)).map .inr)
  else (
  let l6_1 : Int64 := s * 10
  some (.inl (l6_1)))
noncomputable def f_M_lay_b81 (x1 : Int32) (x2 : Int32) (x3 : Int32) (l4 : Int64) (I : xm_I) (s : Int64) : Option ((Int32 × xm_I) ⊕ ((Int32 × xm_I) ⊕ (xm_I))) := lp (f_M_lay_s81 x1 x2 x3 l4 I) s
noncomputable def f_M_lay_b78 (x1 : Int32) (x2 : Int32) (x3 : Int32) (l4 : Int64) (I : xm_I) : Option ((Int32 × xm_I) ⊕ ((Int32 × xm_I) ⊕ (xm_I))) :=
  f_M_lay_b81 x1 x2 x3 l4 I (1)
noncomputable def f_M_lay_s32 (x1 : Int32) (x2 : Int32) (s : Int32 × xm_I) : Option ((Int32 × xm_I) ⊕ ((Int32 × xm_I) ⊕ (xm_I))) :=
  (f_M_numbersOf x2).bind fun p_1 =>
  if p_1 < s.1 then (
    (f_M_octet0 10 s.2).bind fun p_2 =>
    let x1_3 : Int32 := x1 + 1
    some (.inr (.inl (x1_3, p_2))))
  else (
  (f_M_octet0 32 s.2).bind fun p_4 =>
  gd (0 ≤ ((7 * x1) + s.1).toInt ∧ ((7 * x1) + s.1).toInt < 4200) <|
  let l4_5 : Int64 := Int32.toInt64 (p_4 71 (Int32.toNatClampNeg ((7 * x1) + s.1)))
  if 0 ≤ l4_5 then (
    f_M_lay_b78 x1 x2 s.1 l4_5 p_4)
  else (
  (f_M_octet0 45 p_4).bind fun p_6 =>
  f_M_lay_b78 x1 x2 s.1 (-l4_5) p_6))
noncomputable def f_M_lay_b32 (x1 : Int32) (x2 : Int32) (s : Int32 × xm_I) : Option ((Int32 × xm_I) ⊕ (xm_I)) := lp (f_M_lay_s32 x1 x2) s
noncomputable def f_M_lay_s7 (s : Int32 × xm_I) : Option ((Int32 × xm_I) ⊕ (xm_I)) :=
  if (s.2 49 49) ≤ s.1 then (
    some (.inr (s.2)))
  else (
  gd (0 ≤ (7 * s.1).toInt ∧ (7 * s.1).toInt < 4200) <|
  let x2_1 : Int32 := s.2 71 (Int32.toNatClampNeg (7 * s.1))
  (f_M_octet0 x2_1 s.2).bind fun p_2 =>
  f_M_lay_b32 s.1 x2_1 (1, p_2))
noncomputable def f_M_lay_b7 (s : Int32 × xm_I) : Option (xm_I) := lp (f_M_lay_s7) s
noncomputable def f_M_lay_b0 (I : xm_I) : Option (xm_I) :=
  let I_1 : xm_I := up2 I 49 52 0
  f_M_lay_b7 (0, I_1)
noncomputable def f_M_lay (I : xm_I) : Option (xm_I) := f_M_lay_b0 I
set_option maxHeartbeats 4000000 in
set_option maxRecDepth 100000 in
theorem t_M_lay_s104 {x1 : Int32} {x2 : Int32} {x3 : Int32} {l4 : Int64} {s : Int64 × xm_I} {n : Nat} {L : xm_L} {K : (Int64 × xm_I) ⊕ ((Int32 × xm_I) ⊕ ((Int32 × xm_I) ⊕ (xm_I))) → Prop} {Q : Option Value → xm_H → Prop} (hn : 86 ≤ n) (hq : ∀ p : xm_I, K (.inr (.inr (.inr p))) → Q none (p, L, RC n, n)) (hg0 : ∀ s : Int32 × xm_I, K (.inr (.inr (.inl s))) → xm_J 1 mt_M_lay 7 [(0, .ref 49), (1, .int s.1)] [] (s.2, L, RC n, n) 0 0 Q) (hg1 : ∀ s : Int32 × xm_I, K (.inr (.inl s)) → xm_J 1 mt_M_lay 32 [(0, .ref 49), (1, .int x1), (2, .int x2), (3, .int s.1)] [] (s.2, L, RC n, n) 0 0 Q) (hg2 : ∀ s : Int64 × xm_I, K (.inl s) → xm_J 1 mt_M_lay 104 [(0, .ref 49), (1, .int x1), (2, .int x2), (3, .int x3), (4, .long l4), (6, .long s.1)] [] (s.2, L, RC n, n) 0 0 Q) (hF : ok (f_M_lay_s104 x1 x2 x3 l4 s) K) : xm_J 1 mt_M_lay 104 [(0, .ref 49), (1, .int x1), (2, .int x2), (3, .int x3), (4, .long l4), (6, .long s.1)] [] (s.2, L, RC n, n) 0 0 Q := by
  unfold f_M_lay_s104 at hF
  refine r_lload (i := 61) (k0 := 5) rfl rfl ?_
  refine r_lconst (v := 0) (i := 62) rfl rfl ?_
  refine r_lcmple (i := 63) (j := 64) (tgt := 140) rfl rfl (by decide) (fun hc => ?_) (fun hc => ?_)
  · have hF := ok_it hc hF
    refine q_iinc (i := 80) (k0 := 3) (Ls' := [(3, _), (0, _), (1, _), (2, _), (4, _), (6, _)]) rfl ki_1 rfl (Nat.le_of_ble_eq_true rfl) rfl ?_
    refine r_goto (i := 81) (tgt := 32) rfl (by decide) ?_
    refine xm_sub (Ls' := [(0, _), (1, _), (2, _), (3, _)]) [1, 2, 3, 0] rfl ?_
    have hJ := hg1 _ (ok_some hF)
    exact hJ
  have hF := ok_if hc hF
  refine r_aload_n (i := 65) (k0 := 0) rfl rfl rfl ?_
  refine r_ldc2 (i := 66) rfl ct_M_510 ?_
  refine r_lload (i := 67) (k0 := 4) rfl rfl ?_
  refine r_lload (i := 68) (k0 := 5) rfl rfl ?_
  obtain ⟨hi, hF⟩ := ok_gd hF
  refine r_ldiv (i := 69) rfl hi ?_
  refine r_ldc2 (i := 70) rfl ct_M_238 ?_
  refine r_lrem (i := 71) rfl (by decide) ?_
  refine r_ladd (i := 72) rfl ?_
  refine r_l2i (i := 73) rfl ?_
  refine c_V1V (i := 74) rfl vm_M_octet0 lk_M_504 (t_M_octet0 hn (ok_bind hF)) (Nat.le_of_ble_eq_true rfl) (xm_in rfl hn) rfl rfl (Nat.le_of_ble_eq_true rfl) (fun p_2 hF => ?_)
  refine r_lload (i := 75) (k0 := 5) rfl rfl ?_
  refine r_ldc2 (i := 76) rfl ct_M_238 ?_
  refine r_ldiv (i := 77) rfl (by decide) ?_
  refine r_lstore (i := 78) (Ls' := [(6, _), (0, _), (1, _), (2, _), (3, _), (4, _)]) rfl (Nat.le_of_ble_eq_true rfl) rfl ?_
  refine r_goto (i := 79) (tgt := 104) rfl (by decide) ?_
  refine xm_sub (Ls' := [(0, _), (1, _), (2, _), (3, _), (4, _), (6, _)]) [1, 2, 3, 4, 5, 0] rfl ?_
  have hJ := hg2 _ (ok_some hF)
  exact hJ
set_option maxHeartbeats 4000000 in
set_option maxRecDepth 100000 in
theorem t_M_lay_b104 {x1 : Int32} {x2 : Int32} {x3 : Int32} {l4 : Int64} {s : Int64 × xm_I} {n : Nat} {L : xm_L} {K : (Int32 × xm_I) ⊕ ((Int32 × xm_I) ⊕ (xm_I)) → Prop} {Q : Option Value → xm_H → Prop} (hn : 86 ≤ n) (hq : ∀ p : xm_I, K (.inr (.inr p)) → Q none (p, L, RC n, n)) (hg0 : ∀ s : Int32 × xm_I, K (.inr (.inl s)) → xm_J 1 mt_M_lay 7 [(0, .ref 49), (1, .int s.1)] [] (s.2, L, RC n, n) 0 0 Q) (hg1 : ∀ s : Int32 × xm_I, K (.inl s) → xm_J 1 mt_M_lay 32 [(0, .ref 49), (1, .int x1), (2, .int x2), (3, .int s.1)] [] (s.2, L, RC n, n) 0 0 Q) (hF : ok (f_M_lay_b104 x1 x2 x3 l4 s) K) : xm_J 1 mt_M_lay 104 [(0, .ref 49), (1, .int x1), (2, .int x2), (3, .int x3), (4, .long l4), (6, .long s.1)] [] (s.2, L, RC n, n) 0 0 Q :=
  lp_J (G := fun z => xm_J 1 mt_M_lay 104 [(0, .ref 49), (1, .int x1), (2, .int x2), (3, .int x3), (4, .long l4), (6, .long z.1)] [] (z.2, L, RC n, n) 0 0 Q) (fun z hF => t_M_lay_s104 hn (fun p h => hq p h) (fun z h => hg0 z h) (fun z h => hg1 z h) (fun z h => h) hF) s hF
set_option maxHeartbeats 4000000 in
set_option maxRecDepth 100000 in
theorem t_M_lay_s81 {x1 : Int32} {x2 : Int32} {x3 : Int32} {l4 : Int64} {s : Int64} {n : Nat} {I : xm_I} {L : xm_L} {K : (Int64) ⊕ ((Int32 × xm_I) ⊕ ((Int32 × xm_I) ⊕ (xm_I))) → Prop} {Q : Option Value → xm_H → Prop} (hn : 86 ≤ n) (hq : ∀ p : xm_I, K (.inr (.inr (.inr p))) → Q none (p, L, RC n, n)) (hg0 : ∀ s : Int32 × xm_I, K (.inr (.inr (.inl s))) → xm_J 1 mt_M_lay 7 [(0, .ref 49), (1, .int s.1)] [] (s.2, L, RC n, n) 0 0 Q) (hg1 : ∀ s : Int32 × xm_I, K (.inr (.inl s)) → xm_J 1 mt_M_lay 32 [(0, .ref 49), (1, .int x1), (2, .int x2), (3, .int s.1)] [] (s.2, L, RC n, n) 0 0 Q) (hg2 : ∀ s : Int64, K (.inl s) → xm_J 1 mt_M_lay 81 [(0, .ref 49), (1, .int x1), (2, .int x2), (3, .int x3), (4, .long l4), (6, .long s)] [] (I, L, RC n, n) 0 0 Q) (hF : ok (f_M_lay_s81 x1 x2 x3 l4 I s) K) : xm_J 1 mt_M_lay 81 [(0, .ref 49), (1, .int x1), (2, .int x2), (3, .int x3), (4, .long l4), (6, .long s)] [] (I, L, RC n, n) 0 0 Q := by
  unfold f_M_lay_s81 at hF
  refine r_lload (i := 50) (k0 := 4) rfl rfl ?_
  refine r_lload (i := 51) (k0 := 5) rfl rfl ?_
  obtain ⟨hi, hF⟩ := ok_gd hF
  refine r_ldiv (i := 52) rfl hi ?_
  refine r_ldc2 (i := 53) rfl ct_M_191 ?_
  refine r_lcmple (i := 54) (j := 55) (tgt := 104) rfl rfl (by decide) (fun hc => ?_) (fun hc => ?_)
  · have hF := ok_it hc hF
    exact t_M_lay_b104 hn (fun p h => hq p h) (fun z h => hg0 z h) (fun z h => hg1 z h) (ok_map hF)
  have hF := ok_if hc hF
  refine r_lload (i := 56) (k0 := 5) rfl rfl ?_
  refine r_ldc2 (i := 57) rfl ct_M_238 ?_
  refine r_lmul (i := 58) rfl ?_
  refine r_lstore (i := 59) (Ls' := [(6, _), (0, _), (1, _), (2, _), (3, _), (4, _)]) rfl (Nat.le_of_ble_eq_true rfl) rfl ?_
  refine r_goto (i := 60) (tgt := 81) rfl (by decide) ?_
  refine xm_sub (Ls' := [(0, _), (1, _), (2, _), (3, _), (4, _), (6, _)]) [1, 2, 3, 4, 5, 0] rfl ?_
  have hJ := hg2 _ (ok_some hF)
  exact hJ
set_option maxHeartbeats 4000000 in
set_option maxRecDepth 100000 in
theorem t_M_lay_b81 {x1 : Int32} {x2 : Int32} {x3 : Int32} {l4 : Int64} {s : Int64} {n : Nat} {I : xm_I} {L : xm_L} {K : (Int32 × xm_I) ⊕ ((Int32 × xm_I) ⊕ (xm_I)) → Prop} {Q : Option Value → xm_H → Prop} (hn : 86 ≤ n) (hq : ∀ p : xm_I, K (.inr (.inr p)) → Q none (p, L, RC n, n)) (hg0 : ∀ s : Int32 × xm_I, K (.inr (.inl s)) → xm_J 1 mt_M_lay 7 [(0, .ref 49), (1, .int s.1)] [] (s.2, L, RC n, n) 0 0 Q) (hg1 : ∀ s : Int32 × xm_I, K (.inl s) → xm_J 1 mt_M_lay 32 [(0, .ref 49), (1, .int x1), (2, .int x2), (3, .int s.1)] [] (s.2, L, RC n, n) 0 0 Q) (hF : ok (f_M_lay_b81 x1 x2 x3 l4 I s) K) : xm_J 1 mt_M_lay 81 [(0, .ref 49), (1, .int x1), (2, .int x2), (3, .int x3), (4, .long l4), (6, .long s)] [] (I, L, RC n, n) 0 0 Q :=
  lp_J (G := fun z => xm_J 1 mt_M_lay 81 [(0, .ref 49), (1, .int x1), (2, .int x2), (3, .int x3), (4, .long l4), (6, .long z)] [] (I, L, RC n, n) 0 0 Q) (fun z hF => t_M_lay_s81 hn (fun p h => hq p h) (fun z h => hg0 z h) (fun z h => hg1 z h) (fun z h => h) hF) s hF
set_option maxHeartbeats 4000000 in
set_option maxRecDepth 100000 in
theorem t_M_lay_b78 {x1 : Int32} {x2 : Int32} {x3 : Int32} {l4 : Int64} {n : Nat} {I : xm_I} {L : xm_L} {K : (Int32 × xm_I) ⊕ ((Int32 × xm_I) ⊕ (xm_I)) → Prop} {Q : Option Value → xm_H → Prop} (hn : 86 ≤ n) (hq : ∀ p : xm_I, K (.inr (.inr p)) → Q none (p, L, RC n, n)) (hg0 : ∀ s : Int32 × xm_I, K (.inr (.inl s)) → xm_J 1 mt_M_lay 7 [(0, .ref 49), (1, .int s.1)] [] (s.2, L, RC n, n) 0 0 Q) (hg1 : ∀ s : Int32 × xm_I, K (.inl s) → xm_J 1 mt_M_lay 32 [(0, .ref 49), (1, .int x1), (2, .int x2), (3, .int s.1)] [] (s.2, L, RC n, n) 0 0 Q) (hF : ok (f_M_lay_b78 x1 x2 x3 l4 I) K) : xm_J 1 mt_M_lay 78 [(0, .ref 49), (1, .int x1), (2, .int x2), (3, .int x3), (4, .long l4)] [] (I, L, RC n, n) 0 0 Q := by
  unfold f_M_lay_b78 at hF
  refine r_lconst (v := 1) (i := 48) rfl rfl ?_
  refine r_lstore (i := 49) (Ls' := [(6, _), (0, _), (1, _), (2, _), (3, _), (4, _)]) rfl (Nat.le_of_ble_eq_true rfl) rfl ?_
  refine xm_sub (Ls' := [(0, _), (1, _), (2, _), (3, _), (4, _), (6, _)]) [1, 2, 3, 4, 5, 0] rfl ?_
  exact t_M_lay_b81 hn (fun p h => hq p h) (fun z h => hg0 z h) (fun z h => hg1 z h) hF
set_option maxHeartbeats 4000000 in
set_option maxRecDepth 100000 in
theorem t_M_lay_s32 {x1 : Int32} {x2 : Int32} {s : Int32 × xm_I} {n : Nat} {L : xm_L} {K : (Int32 × xm_I) ⊕ ((Int32 × xm_I) ⊕ (xm_I)) → Prop} {Q : Option Value → xm_H → Prop} (hn : 86 ≤ n) (hq : ∀ p : xm_I, K (.inr (.inr p)) → Q none (p, L, RC n, n)) (hg0 : ∀ s : Int32 × xm_I, K (.inr (.inl s)) → xm_J 1 mt_M_lay 7 [(0, .ref 49), (1, .int s.1)] [] (s.2, L, RC n, n) 0 0 Q) (hg1 : ∀ s : Int32 × xm_I, K (.inl s) → xm_J 1 mt_M_lay 32 [(0, .ref 49), (1, .int x1), (2, .int x2), (3, .int s.1)] [] (s.2, L, RC n, n) 0 0 Q) (hF : ok (f_M_lay_s32 x1 x2 s) K) : xm_J 1 mt_M_lay 32 [(0, .ref 49), (1, .int x1), (2, .int x2), (3, .int s.1)] [] (s.2, L, RC n, n) 0 0 Q := by
  unfold f_M_lay_s32 at hF
  refine r_iload_n (i := 21) (k0 := 3) rfl rfl rfl ?_
  refine r_iload_n (i := 22) (k0 := 2) rfl rfl rfl ?_
  refine c_S1I (i := 23) rfl sm_M_numbersOf lk_M_507 (t_M_numbersOf hn (ok_bind hF)) (Nat.le_of_ble_eq_true rfl) rfl (Nat.le_of_ble_eq_true rfl) (fun p_1 hF => ?_)
  refine r_icmpgt (i := 24) (tgt := 146) rfl (by decide) (fun hc => ?_) (fun hc => ?_)
  · have hF := ok_it hc hF
    refine r_aload_n (i := 82) (k0 := 0) rfl rfl rfl ?_
    refine r_bipush (v := 10) (i := 83) rfl kb_10 ?_
    refine c_V1V (i := 84) rfl vm_M_octet0 lk_M_504 (t_M_octet0 hn (ok_bind hF)) (Nat.le_of_ble_eq_true rfl) (xm_in rfl hn) rfl rfl (Nat.le_of_ble_eq_true rfl) (fun p_2 hF => ?_)
    refine q_iinc (i := 85) (k0 := 1) (Ls' := [(1, _), (0, _), (2, _), (3, _)]) rfl ki_1 rfl (Nat.le_of_ble_eq_true rfl) rfl ?_
    refine r_goto (i := 86) (tgt := 7) rfl (by decide) ?_
    refine xm_sub (Ls' := [(0, _), (1, _)]) [1, 0] rfl ?_
    have hJ := hg0 _ (ok_some hF)
    exact hJ
  have hF := ok_if hc hF
  refine r_aload_n (i := 25) (k0 := 0) rfl rfl rfl ?_
  refine r_bipush (v := 32) (i := 26) rfl kb_32 ?_
  refine c_V1V (i := 27) rfl vm_M_octet0 lk_M_504 (t_M_octet0 hn (ok_bind hF)) (Nat.le_of_ble_eq_true rfl) (xm_in rfl hn) rfl rfl (Nat.le_of_ble_eq_true rfl) (fun p_4 hF => ?_)
  refine r_aload_n (i := 28) (k0 := 0) rfl rfl rfl ?_
  refine q_getr (b := 71) (i := 29) rfl fl_M_90 rfl (xm_in rfl hn) rfl rfl ?_
  refine r_bipush (v := 7) (i := 30) rfl kb_7 ?_
  refine r_iload_n (i := 31) (k0 := 1) rfl rfl rfl ?_
  refine r_imul (i := 32) rfl ?_
  refine r_iload_n (i := 33) (k0 := 3) rfl rfl rfl ?_
  refine r_iadd (i := 34) rfl ?_
  obtain ⟨hi, hF⟩ := ok_gd hF
  refine q_iaload (i := 35) rfl (xm_in rfl hn) rfl hi ?_
  refine r_i2l (i := 36) rfl ?_
  refine r_lstore (i := 37) (Ls' := [(4, _), (0, _), (1, _), (2, _), (3, _)]) rfl (Nat.le_of_ble_eq_true rfl) rfl ?_
  refine r_lload (i := 38) (k0 := 0) rfl rfl ?_
  refine r_lconst (v := 0) (i := 39) rfl rfl ?_
  refine r_lcmpge (i := 40) (j := 41) (tgt := 78) rfl rfl (by decide) (fun hc => ?_) (fun hc => ?_)
  · have hF := ok_it hc hF
    refine xm_sub (Ls' := [(0, _), (1, _), (2, _), (3, _), (4, _)]) [1, 2, 3, 4, 0] rfl ?_
    exact t_M_lay_b78 hn (fun p h => hq p h) (fun z h => hg0 z h) (fun z h => hg1 z h) hF
  have hF := ok_if hc hF
  refine r_aload_n (i := 42) (k0 := 1) rfl rfl rfl ?_
  refine r_bipush (v := 45) (i := 43) rfl kb_45 ?_
  refine c_V1V (i := 44) rfl vm_M_octet0 lk_M_504 (t_M_octet0 hn (ok_bind hF)) (Nat.le_of_ble_eq_true rfl) (xm_in rfl hn) rfl rfl (Nat.le_of_ble_eq_true rfl) (fun p_6 hF => ?_)
  refine r_lload (i := 45) (k0 := 0) rfl rfl ?_
  refine r_lneg (i := 46) rfl ?_
  refine r_lstore (i := 47) (Ls' := [(4, _), (0, _), (1, _), (2, _), (3, _)]) rfl (Nat.le_of_ble_eq_true rfl) rfl ?_
  refine xm_sub (Ls' := [(0, _), (1, _), (2, _), (3, _), (4, _)]) [1, 2, 3, 4, 0] rfl ?_
  exact t_M_lay_b78 hn (fun p h => hq p h) (fun z h => hg0 z h) (fun z h => hg1 z h) hF
set_option maxHeartbeats 4000000 in
set_option maxRecDepth 100000 in
theorem t_M_lay_b32 {x1 : Int32} {x2 : Int32} {s : Int32 × xm_I} {n : Nat} {L : xm_L} {K : (Int32 × xm_I) ⊕ (xm_I) → Prop} {Q : Option Value → xm_H → Prop} (hn : 86 ≤ n) (hq : ∀ p : xm_I, K (.inr p) → Q none (p, L, RC n, n)) (hg0 : ∀ s : Int32 × xm_I, K (.inl s) → xm_J 1 mt_M_lay 7 [(0, .ref 49), (1, .int s.1)] [] (s.2, L, RC n, n) 0 0 Q) (hF : ok (f_M_lay_b32 x1 x2 s) K) : xm_J 1 mt_M_lay 32 [(0, .ref 49), (1, .int x1), (2, .int x2), (3, .int s.1)] [] (s.2, L, RC n, n) 0 0 Q :=
  lp_J (G := fun z => xm_J 1 mt_M_lay 32 [(0, .ref 49), (1, .int x1), (2, .int x2), (3, .int z.1)] [] (z.2, L, RC n, n) 0 0 Q) (fun z hF => t_M_lay_s32 hn (fun p h => hq p h) (fun z h => hg0 z h) (fun z h => h) hF) s hF
set_option maxHeartbeats 4000000 in
set_option maxRecDepth 100000 in
theorem t_M_lay_s7 {s : Int32 × xm_I} {n : Nat} {L : xm_L} {K : (Int32 × xm_I) ⊕ (xm_I) → Prop} {Q : Option Value → xm_H → Prop} (hn : 86 ≤ n) (hq : ∀ p : xm_I, K (.inr p) → Q none (p, L, RC n, n)) (hg0 : ∀ s : Int32 × xm_I, K (.inl s) → xm_J 1 mt_M_lay 7 [(0, .ref 49), (1, .int s.1)] [] (s.2, L, RC n, n) 0 0 Q) (hF : ok (f_M_lay_s7 s) K) : xm_J 1 mt_M_lay 7 [(0, .ref 49), (1, .int s.1)] [] (s.2, L, RC n, n) 0 0 Q := by
  unfold f_M_lay_s7 at hF
  refine r_iload_n (i := 5) (k0 := 1) rfl rfl rfl ?_
  refine r_aload_n (i := 6) (k0 := 0) rfl rfl rfl ?_
  refine q_geti (i := 7) rfl fl_M_321 (xm_in rfl hn) rfl ?_
  refine r_icmpge (i := 8) (tgt := 158) rfl (by decide) (fun hc => ?_) (fun hc => ?_)
  · have hF := ok_it hc hF
    have hQ := hq _ (ok_some hF)
    exact r_return (i := 87) rfl rfl hQ
  have hF := ok_if hc hF
  refine r_aload_n (i := 9) (k0 := 0) rfl rfl rfl ?_
  refine q_getr (b := 71) (i := 10) rfl fl_M_90 rfl (xm_in rfl hn) rfl rfl ?_
  refine r_bipush (v := 7) (i := 11) rfl kb_7 ?_
  refine r_iload_n (i := 12) (k0 := 1) rfl rfl rfl ?_
  refine r_imul (i := 13) rfl ?_
  obtain ⟨hi, hF⟩ := ok_gd hF
  refine q_iaload (i := 14) rfl (xm_in rfl hn) rfl hi ?_
  refine r_istore_n (i := 15) (Ls' := [(2, _), (0, _), (1, _)]) rfl rfl (Nat.le_of_ble_eq_true rfl) rfl ?_
  refine r_aload_n (i := 16) (k0 := 1) rfl rfl rfl ?_
  refine r_iload_n (i := 17) (k0 := 0) rfl rfl rfl ?_
  refine c_V1V (i := 18) rfl vm_M_octet0 lk_M_504 (t_M_octet0 hn (ok_bind hF)) (Nat.le_of_ble_eq_true rfl) (xm_in rfl hn) rfl rfl (Nat.le_of_ble_eq_true rfl) (fun p_2 hF => ?_)
  refine r_iconst (v := 1) (i := 19) rfl ki_1 ?_
  refine r_istore_n (i := 20) (Ls' := [(3, _), (2, _), (0, _), (1, _)]) rfl rfl (Nat.le_of_ble_eq_true rfl) rfl ?_
  refine xm_sub (Ls' := [(0, _), (1, _), (2, _), (3, _)]) [2, 3, 1, 0] rfl ?_
  exact t_M_lay_b32 hn (fun p h => hq p h) (fun z h => hg0 z h) hF
set_option maxHeartbeats 4000000 in
set_option maxRecDepth 100000 in
theorem t_M_lay_b7 {s : Int32 × xm_I} {n : Nat} {L : xm_L} {K : xm_I → Prop} {Q : Option Value → xm_H → Prop} (hn : 86 ≤ n) (hq : ∀ p : xm_I, K p → Q none (p, L, RC n, n)) (hF : ok (f_M_lay_b7 s) K) : xm_J 1 mt_M_lay 7 [(0, .ref 49), (1, .int s.1)] [] (s.2, L, RC n, n) 0 0 Q :=
  lp_J (G := fun z => xm_J 1 mt_M_lay 7 [(0, .ref 49), (1, .int z.1)] [] (z.2, L, RC n, n) 0 0 Q) (fun z hF => t_M_lay_s7 hn (fun p h => hq p h) (fun z h => h) hF) s hF
set_option maxHeartbeats 4000000 in
set_option maxRecDepth 100000 in
theorem t_M_lay_b0 {n : Nat} {I : xm_I} {L : xm_L} {K : xm_I → Prop} {Q : Option Value → xm_H → Prop} (hn : 86 ≤ n) (hq : ∀ p : xm_I, K p → Q none (p, L, RC n, n)) (hF : ok (f_M_lay_b0 I) K) : xm_J 1 mt_M_lay 0 [(0, .ref 49)] [] (I, L, RC n, n) 0 0 Q := by
  unfold f_M_lay_b0 at hF
  refine r_aload_n (i := 0) (k0 := 0) rfl rfl rfl ?_
  refine r_iconst (v := 0) (i := 1) rfl ki_0 ?_
  refine q_puti (i := 2) rfl fl_M_501 (fun h => Bool.noConfusion h) (xm_in rfl hn) rfl ?_
  refine r_iconst (v := 0) (i := 3) rfl ki_0 ?_
  refine r_istore_n (i := 4) (Ls' := [(1, _), (0, _)]) rfl rfl (Nat.le_of_ble_eq_true rfl) rfl ?_
  refine xm_sub (Ls' := [(0, _), (1, _)]) [1, 0] rfl ?_
  exact t_M_lay_b7 hn (fun p h => hq p h) hF
set_option maxHeartbeats 4000000 in
set_option maxRecDepth 100000 in
theorem t_M_lay {n : Nat} {I : xm_I} {L : xm_L} {K : xm_I → Prop} (hn : 86 ≤ n) (hF : ok (f_M_lay I) K) : xm_C 1 mt_M_lay [.ref 49] (I, L, RC n, n) 0 0 (pV (fun p : xm_I => (p, L, RC n, n)) K) := by
  unfold f_M_lay at hF
  refine xm_enter (by decide +kernel) dv_M_lay (Nat.le_of_ble_eq_true rfl) ?_
  exact t_M_lay_b0 hn (fun p hp => ⟨p, rfl, rfl, hp⟩) hF

noncomputable def f_M_boxLeft_b80 (x3 : Int32) (x4 : Int32) (I : xm_I) : Option (Int32) :=
  some (x3 - (x4 / 2))
noncomputable def f_M_boxLeft_b94 (x3 : Int32) (x4 : Int32) (I : xm_I) : Option (Int32) :=
  some ((x3 - 2) - x4)
noncomputable def f_M_boxLeft_b0 (x1 : Int32) (x2 : Int32) (I : xm_I) : Option (Int32) :=
  gd (0 ≤ (x1).toInt ∧ (x1).toInt < 20) <|
  gd (0 ≤ (I 69 (Int32.toNatClampNeg x1)).toInt ∧ (I 69 (Int32.toNatClampNeg x1)).toInt < 40) <|
  let x3_1 : Int32 := I 74 (Int32.toNatClampNeg (I 69 (Int32.toNatClampNeg x1)))
  gd (0 ≤ (x1).toInt ∧ (x1).toInt < 20) <|
  let x4_2 : Int32 := 6 * (I 70 (Int32.toNatClampNeg x1))
  if x2 = 0 then (
    some (x3_1 + 3))
  else (
  if x2 = 1 then (
    some (x3_1 + 2))
  else (
  if x2 = 2 then (
    f_M_boxLeft_b80 x3_1 x4_2 I)
  else (
  if x2 = 3 then (
    f_M_boxLeft_b94 x3_1 x4_2 I)
  else (
  if x2 = 4 then (
    some ((x3_1 - 3) - x4_2))
  else (
  if x2 = 5 then (
    f_M_boxLeft_b94 x3_1 x4_2 I)
  else (
  if x2 = 6 then (
    f_M_boxLeft_b80 x3_1 x4_2 I)
  else (
  if x2 = 7 then (
    some (x3_1 + 2))
  else (
  f_M_boxLeft_b94 x3_1 x4_2 I))))))))
noncomputable def f_M_boxLeft (x1 : Int32) (x2 : Int32) (I : xm_I) : Option (Int32) := f_M_boxLeft_b0 x1 x2 I
set_option maxHeartbeats 4000000 in
set_option maxRecDepth 100000 in
theorem t_M_boxLeft_b80 {x3 : Int32} {x4 : Int32} {n : Nat} {I : xm_I} {L : xm_L} {K : Int32 → Prop} {Q : Option Value → xm_H → Prop} (hn : 86 ≤ n) (hq : ∀ p : Int32, K p → Q (some (.int p)) (I, L, RC n, n)) (hF : ok (f_M_boxLeft_b80 x3 x4 I) K) : xm_J 0 mt_M_boxLeft 80 [(3, .int x3), (4, .int x4)] [] (I, L, RC n, n) 0 0 Q := by
  unfold f_M_boxLeft_b80 at hF
  refine r_iload_n (i := 25) (k0 := 0) rfl rfl rfl ?_
  refine r_iload (i := 26) (k0 := 1) rfl rfl ?_
  refine r_iconst (v := 2) (i := 27) rfl ki_2 ?_
  refine r_idiv (i := 28) rfl (by decide) ?_
  refine r_isub (i := 29) rfl ?_
  have hQ := hq _ (ok_some hF)
  exact r_ireturn (i := 30) rfl rfl rfl hQ
set_option maxHeartbeats 4000000 in
set_option maxRecDepth 100000 in
theorem t_M_boxLeft_b94 {x3 : Int32} {x4 : Int32} {n : Nat} {I : xm_I} {L : xm_L} {K : Int32 → Prop} {Q : Option Value → xm_H → Prop} (hn : 86 ≤ n) (hq : ∀ p : Int32, K p → Q (some (.int p)) (I, L, RC n, n)) (hF : ok (f_M_boxLeft_b94 x3 x4 I) K) : xm_J 0 mt_M_boxLeft 94 [(3, .int x3), (4, .int x4)] [] (I, L, RC n, n) 0 0 Q := by
  unfold f_M_boxLeft_b94 at hF
  refine r_iload_n (i := 37) (k0 := 0) rfl rfl rfl ?_
  refine r_iconst (v := 2) (i := 38) rfl ki_2 ?_
  refine r_isub (i := 39) rfl ?_
  refine r_iload (i := 40) (k0 := 1) rfl rfl ?_
  refine r_isub (i := 41) rfl ?_
  have hQ := hq _ (ok_some hF)
  exact r_ireturn (i := 42) rfl rfl rfl hQ
set_option maxHeartbeats 4000000 in
set_option maxRecDepth 100000 in
theorem t_M_boxLeft_b0 {x1 : Int32} {x2 : Int32} {n : Nat} {I : xm_I} {L : xm_L} {K : Int32 → Prop} {Q : Option Value → xm_H → Prop} (hn : 86 ≤ n) (hq : ∀ p : Int32, K p → Q (some (.int p)) (I, L, RC n, n)) (hF : ok (f_M_boxLeft_b0 x1 x2 I) K) : xm_J 0 mt_M_boxLeft 0 [(0, .ref 49), (1, .int x1), (2, .int x2)] [] (I, L, RC n, n) 0 0 Q := by
  unfold f_M_boxLeft_b0 at hF
  refine r_aload_n (i := 0) (k0 := 0) rfl rfl rfl ?_
  refine q_getr (b := 74) (i := 1) rfl fl_M_100 rfl (xm_in rfl hn) rfl rfl ?_
  refine r_aload_n (i := 2) (k0 := 0) rfl rfl rfl ?_
  refine q_getr (b := 69) (i := 3) rfl fl_M_84 rfl (xm_in rfl hn) rfl rfl ?_
  refine r_iload_n (i := 4) (k0 := 1) rfl rfl rfl ?_
  obtain ⟨hi, hF⟩ := ok_gd hF
  refine q_iaload (i := 5) rfl (xm_in rfl hn) rfl hi ?_
  obtain ⟨hi, hF⟩ := ok_gd hF
  refine q_iaload (i := 6) rfl (xm_in rfl hn) rfl hi ?_
  refine r_istore_n (i := 7) (Ls' := [(3, _), (0, _), (1, _), (2, _)]) rfl rfl (Nat.le_of_ble_eq_true rfl) rfl ?_
  refine r_bipush (v := 6) (i := 8) rfl kb_6 ?_
  refine r_aload_n (i := 9) (k0 := 1) rfl rfl rfl ?_
  refine q_getr (b := 70) (i := 10) rfl fl_M_87 rfl (xm_in rfl hn) rfl rfl ?_
  refine r_iload_n (i := 11) (k0 := 2) rfl rfl rfl ?_
  obtain ⟨hi, hF⟩ := ok_gd hF
  refine q_iaload (i := 12) rfl (xm_in rfl hn) rfl hi ?_
  refine r_imul (i := 13) rfl ?_
  refine r_istore (i := 14) (Ls' := [(4, _), (3, _), (0, _), (1, _), (2, _)]) rfl (Nat.le_of_ble_eq_true rfl) rfl ?_
  refine r_iload_n (i := 15) (k0 := 4) rfl rfl rfl ?_
  refine r_case 0 (fun hc0 => ?_) (fun hc0 => ?_)
  · have hF := ok_it hc0 hF
    refine r_tsIn (i := 16) (tgt := 72) rfl (by decide) (by decide) rfl (by decide) ?_
    refine r_iload_n (i := 17) (k0 := 1) rfl rfl rfl ?_
    refine r_iconst (v := 3) (i := 18) rfl ki_3 ?_
    refine r_iadd (i := 19) rfl ?_
    have hQ := hq _ (ok_some hF)
    exact r_ireturn (i := 20) rfl rfl rfl hQ
  have hF := ok_if hc0 hF
  refine r_case 1 (fun hc1 => ?_) (fun hc1 => ?_)
  · have hF := ok_it hc1 hF
    refine r_tsIn (i := 16) (tgt := 76) rfl (by decide) (by decide) rfl (by decide) ?_
    refine r_iload_n (i := 21) (k0 := 1) rfl rfl rfl ?_
    refine r_iconst (v := 2) (i := 22) rfl ki_2 ?_
    refine r_iadd (i := 23) rfl ?_
    have hQ := hq _ (ok_some hF)
    exact r_ireturn (i := 24) rfl rfl rfl hQ
  have hF := ok_if hc1 hF
  refine r_case 2 (fun hc2 => ?_) (fun hc2 => ?_)
  · have hF := ok_it hc2 hF
    refine r_tsIn (i := 16) (tgt := 80) rfl (by decide) (by decide) rfl (by decide) ?_
    refine xm_sub (Ls' := [(3, _), (4, _)]) [1, 0] rfl ?_
    exact t_M_boxLeft_b80 hn (fun p h => hq p h) hF
  have hF := ok_if hc2 hF
  refine r_case 3 (fun hc3 => ?_) (fun hc3 => ?_)
  · have hF := ok_it hc3 hF
    refine r_tsIn (i := 16) (tgt := 94) rfl (by decide) (by decide) rfl (by decide) ?_
    refine xm_sub (Ls' := [(3, _), (4, _)]) [1, 0] rfl ?_
    exact t_M_boxLeft_b94 hn (fun p h => hq p h) hF
  have hF := ok_if hc3 hF
  refine r_case 4 (fun hc4 => ?_) (fun hc4 => ?_)
  · have hF := ok_it hc4 hF
    refine r_tsIn (i := 16) (tgt := 87) rfl (by decide) (by decide) rfl (by decide) ?_
    refine r_iload_n (i := 31) (k0 := 1) rfl rfl rfl ?_
    refine r_iconst (v := 3) (i := 32) rfl ki_3 ?_
    refine r_isub (i := 33) rfl ?_
    refine r_iload (i := 34) (k0 := 0) rfl rfl ?_
    refine r_isub (i := 35) rfl ?_
    have hQ := hq _ (ok_some hF)
    exact r_ireturn (i := 36) rfl rfl rfl hQ
  have hF := ok_if hc4 hF
  refine r_case 5 (fun hc5 => ?_) (fun hc5 => ?_)
  · have hF := ok_it hc5 hF
    refine r_tsIn (i := 16) (tgt := 94) rfl (by decide) (by decide) rfl (by decide) ?_
    refine xm_sub (Ls' := [(3, _), (4, _)]) [1, 0] rfl ?_
    exact t_M_boxLeft_b94 hn (fun p h => hq p h) hF
  have hF := ok_if hc5 hF
  refine r_case 6 (fun hc6 => ?_) (fun hc6 => ?_)
  · have hF := ok_it hc6 hF
    refine r_tsIn (i := 16) (tgt := 80) rfl (by decide) (by decide) rfl (by decide) ?_
    refine xm_sub (Ls' := [(3, _), (4, _)]) [1, 0] rfl ?_
    exact t_M_boxLeft_b80 hn (fun p h => hq p h) hF
  have hF := ok_if hc6 hF
  refine r_case 7 (fun hc7 => ?_) (fun hc7 => ?_)
  · have hF := ok_it hc7 hF
    refine r_tsIn (i := 16) (tgt := 76) rfl (by decide) (by decide) rfl (by decide) ?_
    refine r_iload_n (i := 21) (k0 := 1) rfl rfl rfl ?_
    refine r_iconst (v := 2) (i := 22) rfl ki_2 ?_
    refine r_iadd (i := 23) rfl ?_
    have hQ := hq _ (ok_some hF)
    exact r_ireturn (i := 24) rfl rfl rfl hQ
  have hF := ok_if hc7 hF
  refine r_tsOut (i := 16) (tgt := 94) rfl (by have e0 := lv_neT hc0 (a := 0) (by decide); have e1 := lv_neT hc1 (a := 1) (by decide); have e2 := lv_neT hc2 (a := 2) (by decide); have e3 := lv_neT hc3 (a := 3) (by decide); have e4 := lv_neT hc4 (a := 4) (by decide); have e5 := lv_neT hc5 (a := 5) (by decide); have e6 := lv_neT hc6 (a := 6) (by decide); have e7 := lv_neT hc7 (a := 7) (by decide); omega) (by decide) ?_
  refine xm_sub (Ls' := [(3, _), (4, _)]) [1, 0] rfl ?_
  exact t_M_boxLeft_b94 hn (fun p h => hq p h) hF
set_option maxHeartbeats 4000000 in
set_option maxRecDepth 100000 in
theorem t_M_boxLeft {x1 : Int32} {x2 : Int32} {n : Nat} {I : xm_I} {L : xm_L} {K : Int32 → Prop} (hn : 86 ≤ n) (hF : ok (f_M_boxLeft x1 x2 I) K) : xm_C 0 mt_M_boxLeft [.ref 49, .int x1, .int x2] (I, L, RC n, n) 0 0 (pI (fun p : Int32 => p) (fun p : Int32 => (I, L, RC n, n)) K) := by
  unfold f_M_boxLeft at hF
  refine xm_enter (by decide +kernel) dv_M_boxLeft (Nat.le_of_ble_eq_true rfl) ?_
  exact t_M_boxLeft_b0 hn (fun p hp => ⟨p, rfl, rfl, hp⟩) hF

noncomputable def f_M_boxTop_b0 (x1 : Int32) (x2 : Int32) (I : xm_I) : Option (Int32) :=
  gd (0 ≤ (x1).toInt ∧ (x1).toInt < 20) <|
  gd (0 ≤ (I 69 (Int32.toNatClampNeg x1)).toInt ∧ (I 69 (Int32.toNatClampNeg x1)).toInt < 40) <|
  let x3_1 : Int32 := I 75 (Int32.toNatClampNeg (I 69 (Int32.toNatClampNeg x1)))
  if x2 = 0 then (
    some (x3_1 - 4))
  else (
  if x2 = 1 then (
    some (x3_1 - 11))
  else (
  if x2 = 2 then (
    some (x3_1 - 12))
  else (
  if x2 = 3 then (
    some (x3_1 - 11))
  else (
  if x2 = 4 then (
    some (x3_1 - 4))
  else (
  if x2 = 5 then (
    some (x3_1 + 2))
  else (
  if x2 = 6 then (
    some (x3_1 + 3))
  else (
  some (x3_1 + 2))))))))
noncomputable def f_M_boxTop (x1 : Int32) (x2 : Int32) (I : xm_I) : Option (Int32) := f_M_boxTop_b0 x1 x2 I
set_option maxHeartbeats 4000000 in
set_option maxRecDepth 100000 in
theorem t_M_boxTop_b0 {x1 : Int32} {x2 : Int32} {n : Nat} {I : xm_I} {L : xm_L} {K : Int32 → Prop} {Q : Option Value → xm_H → Prop} (hn : 86 ≤ n) (hq : ∀ p : Int32, K p → Q (some (.int p)) (I, L, RC n, n)) (hF : ok (f_M_boxTop_b0 x1 x2 I) K) : xm_J 0 mt_M_boxTop 0 [(0, .ref 49), (1, .int x1), (2, .int x2)] [] (I, L, RC n, n) 0 0 Q := by
  unfold f_M_boxTop_b0 at hF
  refine r_aload_n (i := 0) (k0 := 0) rfl rfl rfl ?_
  refine q_getr (b := 75) (i := 1) rfl fl_M_103 rfl (xm_in rfl hn) rfl rfl ?_
  refine r_aload_n (i := 2) (k0 := 0) rfl rfl rfl ?_
  refine q_getr (b := 69) (i := 3) rfl fl_M_84 rfl (xm_in rfl hn) rfl rfl ?_
  refine r_iload_n (i := 4) (k0 := 1) rfl rfl rfl ?_
  obtain ⟨hi, hF⟩ := ok_gd hF
  refine q_iaload (i := 5) rfl (xm_in rfl hn) rfl hi ?_
  obtain ⟨hi, hF⟩ := ok_gd hF
  refine q_iaload (i := 6) rfl (xm_in rfl hn) rfl hi ?_
  refine r_istore_n (i := 7) (Ls' := [(3, _), (0, _), (1, _), (2, _)]) rfl rfl (Nat.le_of_ble_eq_true rfl) rfl ?_
  refine r_iload_n (i := 8) (k0 := 3) rfl rfl rfl ?_
  refine r_case 0 (fun hc0 => ?_) (fun hc0 => ?_)
  · have hF := ok_it hc0 hF
    refine r_tsIn (i := 9) (tgt := 56) rfl (by decide) (by decide) rfl (by decide) ?_
    refine r_iload_n (i := 10) (k0 := 0) rfl rfl rfl ?_
    refine r_iconst (v := 4) (i := 11) rfl ki_4 ?_
    refine r_isub (i := 12) rfl ?_
    have hQ := hq _ (ok_some hF)
    exact r_ireturn (i := 13) rfl rfl rfl hQ
  have hF := ok_if hc0 hF
  refine r_case 1 (fun hc1 => ?_) (fun hc1 => ?_)
  · have hF := ok_it hc1 hF
    refine r_tsIn (i := 9) (tgt := 60) rfl (by decide) (by decide) rfl (by decide) ?_
    refine r_iload_n (i := 14) (k0 := 0) rfl rfl rfl ?_
    refine r_bipush (v := 11) (i := 15) rfl kb_11 ?_
    refine r_isub (i := 16) rfl ?_
    have hQ := hq _ (ok_some hF)
    exact r_ireturn (i := 17) rfl rfl rfl hQ
  have hF := ok_if hc1 hF
  refine r_case 2 (fun hc2 => ?_) (fun hc2 => ?_)
  · have hF := ok_it hc2 hF
    refine r_tsIn (i := 9) (tgt := 65) rfl (by decide) (by decide) rfl (by decide) ?_
    refine r_iload_n (i := 18) (k0 := 0) rfl rfl rfl ?_
    refine r_bipush (v := 12) (i := 19) rfl kb_12 ?_
    refine r_isub (i := 20) rfl ?_
    have hQ := hq _ (ok_some hF)
    exact r_ireturn (i := 21) rfl rfl rfl hQ
  have hF := ok_if hc2 hF
  refine r_case 3 (fun hc3 => ?_) (fun hc3 => ?_)
  · have hF := ok_it hc3 hF
    refine r_tsIn (i := 9) (tgt := 60) rfl (by decide) (by decide) rfl (by decide) ?_
    refine r_iload_n (i := 14) (k0 := 0) rfl rfl rfl ?_
    refine r_bipush (v := 11) (i := 15) rfl kb_11 ?_
    refine r_isub (i := 16) rfl ?_
    have hQ := hq _ (ok_some hF)
    exact r_ireturn (i := 17) rfl rfl rfl hQ
  have hF := ok_if hc3 hF
  refine r_case 4 (fun hc4 => ?_) (fun hc4 => ?_)
  · have hF := ok_it hc4 hF
    refine r_tsIn (i := 9) (tgt := 56) rfl (by decide) (by decide) rfl (by decide) ?_
    refine r_iload_n (i := 10) (k0 := 0) rfl rfl rfl ?_
    refine r_iconst (v := 4) (i := 11) rfl ki_4 ?_
    refine r_isub (i := 12) rfl ?_
    have hQ := hq _ (ok_some hF)
    exact r_ireturn (i := 13) rfl rfl rfl hQ
  have hF := ok_if hc4 hF
  refine r_case 5 (fun hc5 => ?_) (fun hc5 => ?_)
  · have hF := ok_it hc5 hF
    refine r_tsIn (i := 9) (tgt := 74) rfl (by decide) (by decide) rfl (by decide) ?_
    refine r_iload_n (i := 26) (k0 := 0) rfl rfl rfl ?_
    refine r_iconst (v := 2) (i := 27) rfl ki_2 ?_
    refine r_iadd (i := 28) rfl ?_
    have hQ := hq _ (ok_some hF)
    exact r_ireturn (i := 29) rfl rfl rfl hQ
  have hF := ok_if hc5 hF
  refine r_case 6 (fun hc6 => ?_) (fun hc6 => ?_)
  · have hF := ok_it hc6 hF
    refine r_tsIn (i := 9) (tgt := 70) rfl (by decide) (by decide) rfl (by decide) ?_
    refine r_iload_n (i := 22) (k0 := 0) rfl rfl rfl ?_
    refine r_iconst (v := 3) (i := 23) rfl ki_3 ?_
    refine r_iadd (i := 24) rfl ?_
    have hQ := hq _ (ok_some hF)
    exact r_ireturn (i := 25) rfl rfl rfl hQ
  have hF := ok_if hc6 hF
  refine r_tsOut (i := 9) (tgt := 74) rfl (by have e0 := lv_neT hc0 (a := 0) (by decide); have e1 := lv_neT hc1 (a := 1) (by decide); have e2 := lv_neT hc2 (a := 2) (by decide); have e3 := lv_neT hc3 (a := 3) (by decide); have e4 := lv_neT hc4 (a := 4) (by decide); have e5 := lv_neT hc5 (a := 5) (by decide); have e6 := lv_neT hc6 (a := 6) (by decide); omega) (by decide) ?_
  refine r_iload_n (i := 26) (k0 := 0) rfl rfl rfl ?_
  refine r_iconst (v := 2) (i := 27) rfl ki_2 ?_
  refine r_iadd (i := 28) rfl ?_
  have hQ := hq _ (ok_some hF)
  exact r_ireturn (i := 29) rfl rfl rfl hQ
set_option maxHeartbeats 4000000 in
set_option maxRecDepth 100000 in
theorem t_M_boxTop {x1 : Int32} {x2 : Int32} {n : Nat} {I : xm_I} {L : xm_L} {K : Int32 → Prop} (hn : 86 ≤ n) (hF : ok (f_M_boxTop x1 x2 I) K) : xm_C 0 mt_M_boxTop [.ref 49, .int x1, .int x2] (I, L, RC n, n) 0 0 (pI (fun p : Int32 => p) (fun p : Int32 => (I, L, RC n, n)) K) := by
  unfold f_M_boxTop at hF
  refine xm_enter (by decide +kernel) dv_M_boxTop (Nat.le_of_ble_eq_true rfl) ?_
  exact t_M_boxTop_b0 hn (fun p hp => ⟨p, rfl, rfl, hp⟩) hF

noncomputable def f_M_cost_b202 (x3 : Int32) (x4 : Int32) (x5 : Int32) (x6 : Int32) (x7 : Int32) (x8 : Int32) (x9 : Int32) (I : xm_I) (L : xm_L) : Option ((Int32 × Int32 × xm_I × xm_L) ⊕ (Int32 × xm_I × xm_L)) :=
  let x9_1 : Int32 := x9 + 1
  some (.inl (x8, x9_1, I, L))
noncomputable def f_M_cost_b199 (x3 : Int32) (x4 : Int32) (x5 : Int32) (x6 : Int32) (x7 : Int32) (x9 : Int32) (y0 : Int32) (y1 : Int32) (I : xm_I) (L : xm_L) : Option ((Int32 × Int32 × xm_I × xm_L) ⊕ (Int32 × xm_I × xm_L)) :=
  let x8_1 : Int32 := y0 + y1
  f_M_cost_b202 x3 x4 x5 x6 x7 x8_1 x9 I L
noncomputable def f_M_cost_b134 (x3 : Int32) (x4 : Int32) (x5 : Int32) (x6 : Int32) (x7 : Int32) (x9 : Int32) (y0 : Int32) (y1 : Int32) (I : xm_I) (L : xm_L) : Option ((Int32 × Int32 × xm_I × xm_L) ⊕ (Int32 × xm_I × xm_L)) :=
  let x8_1 : Int32 := y0 + y1
  f_M_cost_b202 x3 x4 x5 x6 x7 x8_1 x9 I L
noncomputable def f_M_cost_b133 (x3 : Int32) (x4 : Int32) (x5 : Int32) (x6 : Int32) (x7 : Int32) (x9 : Int32) (y0 : Int32) (I : xm_I) (L : xm_L) : Option ((Int32 × Int32 × xm_I × xm_L) ⊕ (Int32 × xm_I × xm_L)) :=
  f_M_cost_b134 x3 x4 x5 x6 x7 x9 y0 0 I L
noncomputable def f_M_cost_s45 (x3 : Int32) (x4 : Int32) (x5 : Int32) (x6 : Int32) (x7 : Int32) (s : Int32 × Int32 × xm_I × xm_L) : Option ((Int32 × Int32 × xm_I × xm_L) ⊕ (Int32 × xm_I × xm_L)) :=
  if x3 ≤ s.2.1 then (
    some (.inr (s.1, s.2.2.1, s.2.2.2)))
  else (
  gd (0 ≤ (7 * s.2.1).toInt ∧ (7 * s.2.1).toInt < 4200) <|
  let x10_1 : Int32 := s.2.2.1 71 (Int32.toNatClampNeg (7 * s.2.1))
  gd (0 ≤ ((7 * s.2.1) + 1).toInt ∧ ((7 * s.2.1) + 1).toInt < 4200) <|
  let x11_2 : Int32 := s.2.2.1 71 (Int32.toNatClampNeg ((7 * s.2.1) + 1))
  gd (0 ≤ ((7 * s.2.1) + 2).toInt ∧ ((7 * s.2.1) + 2).toInt < 4200) <|
  let x12_3 : Int32 := s.2.2.1 71 (Int32.toNatClampNeg ((7 * s.2.1) + 2))
  if x10_1 = 68 then (
    if x11_2 < x4 then (
      f_M_cost_b133 x3 x4 x5 x6 x7 s.2.1 s.1 s.2.2.1 s.2.2.2)
    else (
    if x6 < x11_2 then (
      f_M_cost_b133 x3 x4 x5 x6 x7 s.2.1 s.1 s.2.2.1 s.2.2.2)
    else (
    if x12_3 < x5 then (
      f_M_cost_b133 x3 x4 x5 x6 x7 s.2.1 s.1 s.2.2.1 s.2.2.2)
    else (
    if x7 < x12_3 then (
      f_M_cost_b133 x3 x4 x5 x6 x7 s.2.1 s.1 s.2.2.1 s.2.2.2)
    else (
    f_M_cost_b134 x3 x4 x5 x6 x7 s.2.1 s.1 10 s.2.2.1 s.2.2.2)))))
  else (
    if x10_1 = 83 then (
      gd (0 ≤ ((7 * s.2.1) + 3).toInt ∧ ((7 * s.2.1) + 3).toInt < 4200) <|
      gd (0 ≤ ((7 * s.2.1) + 4).toInt ∧ ((7 * s.2.1) + 4).toInt < 4200) <|
      (f_M_clips x11_2 x12_3 (s.2.2.1 71 (Int32.toNatClampNeg ((7 * s.2.1) + 3))) (s.2.2.1 71 (Int32.toNatClampNeg ((7 * s.2.1) + 4))) 1 1 x4 x6 x5 x7 s.2.2.1 s.2.2.2).bind fun p_4 =>
      if p_4.1 = 0 then (
        f_M_cost_b199 x3 x4 x5 x6 x7 s.2.1 s.1 0 p_4.2.1 p_4.2.2)
      else (
      f_M_cost_b199 x3 x4 x5 x6 x7 s.2.1 s.1 4 p_4.2.1 p_4.2.2))
    else (
      f_M_cost_b202 x3 x4 x5 x6 x7 s.1 s.2.1 s.2.2.1 s.2.2.2)))
noncomputable def f_M_cost_b45 (x3 : Int32) (x4 : Int32) (x5 : Int32) (x6 : Int32) (x7 : Int32) (s : Int32 × Int32 × xm_I × xm_L) : Option (Int32 × xm_I × xm_L) := lp (f_M_cost_s45 x3 x4 x5 x6 x7) s
noncomputable def f_M_cost_b0 (x1 : Int32) (x2 : Int32) (x3 : Int32) (I : xm_I) (L : xm_L) : Option (Int32 × xm_I × xm_L) :=
  (f_M_boxLeft x1 x2 I).bind fun p_1 =>
  (f_M_boxTop x1 x2 I).bind fun p_2 =>
  gd (0 ≤ (x1).toInt ∧ (x1).toInt < 20) <|
  let x6_3 : Int32 := (p_1 + (6 * (I 70 (Int32.toNatClampNeg x1)))) - 1
  let x7_4 : Int32 := p_2 + 8
  f_M_cost_b45 x3 p_1 p_2 x6_3 x7_4 (x2, 0, I, L)
noncomputable def f_M_cost (x1 : Int32) (x2 : Int32) (x3 : Int32) (I : xm_I) (L : xm_L) : Option (Int32 × xm_I × xm_L) := f_M_cost_b0 x1 x2 x3 I L
set_option maxHeartbeats 4000000 in
set_option maxRecDepth 100000 in
theorem t_M_cost_b202 {x3 : Int32} {x4 : Int32} {x5 : Int32} {x6 : Int32} {x7 : Int32} {x8 : Int32} {x9 : Int32} {n : Nat} {I : xm_I} {L : xm_L} {K : (Int32 × Int32 × xm_I × xm_L) ⊕ (Int32 × xm_I × xm_L) → Prop} {Q : Option Value → xm_H → Prop} (hn : 86 ≤ n) (hq : ∀ p : Int32 × xm_I × xm_L, K (.inr p) → Q (some (.int p.1)) (p.2.1, p.2.2, RC n, n)) (hg0 : ∀ s : Int32 × Int32 × xm_I × xm_L, K (.inl s) → xm_J 3 mt_M_cost 45 [(0, .ref 49), (3, .int x3), (4, .int x4), (5, .int x5), (6, .int x6), (7, .int x7), (8, .int s.1), (9, .int s.2.1)] [] (s.2.2.1, s.2.2.2, RC n, n) 0 0 Q) (hF : ok (f_M_cost_b202 x3 x4 x5 x6 x7 x8 x9 I L) K) : xm_J 3 mt_M_cost 202 [(0, .ref 49), (3, .int x3), (4, .int x4), (5, .int x5), (6, .int x6), (7, .int x7), (8, .int x8), (9, .int x9)] [] (I, L, RC n, n) 0 0 Q := by
  unfold f_M_cost_b202 at hF
  refine q_iinc (i := 115) (k0 := 7) (Ls' := [(9, _), (0, _), (3, _), (4, _), (5, _), (6, _), (7, _), (8, _)]) rfl ki_1 rfl (Nat.le_of_ble_eq_true rfl) rfl ?_
  refine r_goto (i := 116) (tgt := 45) rfl (by decide) ?_
  refine xm_sub (Ls' := [(0, _), (3, _), (4, _), (5, _), (6, _), (7, _), (8, _), (9, _)]) [1, 2, 3, 4, 5, 6, 7, 0] rfl ?_
  have hJ := hg0 _ (ok_some hF)
  exact hJ
set_option maxHeartbeats 4000000 in
set_option maxRecDepth 100000 in
theorem t_M_cost_b199 {x3 : Int32} {x4 : Int32} {x5 : Int32} {x6 : Int32} {x7 : Int32} {x9 : Int32} {y0 : Int32} {y1 : Int32} {n : Nat} {I : xm_I} {L : xm_L} {K : (Int32 × Int32 × xm_I × xm_L) ⊕ (Int32 × xm_I × xm_L) → Prop} {Q : Option Value → xm_H → Prop} (hn : 86 ≤ n) (hq : ∀ p : Int32 × xm_I × xm_L, K (.inr p) → Q (some (.int p.1)) (p.2.1, p.2.2, RC n, n)) (hg0 : ∀ s : Int32 × Int32 × xm_I × xm_L, K (.inl s) → xm_J 3 mt_M_cost 45 [(0, .ref 49), (3, .int x3), (4, .int x4), (5, .int x5), (6, .int x6), (7, .int x7), (8, .int s.1), (9, .int s.2.1)] [] (s.2.2.1, s.2.2.2, RC n, n) 0 0 Q) (hF : ok (f_M_cost_b199 x3 x4 x5 x6 x7 x9 y0 y1 I L) K) : xm_J 3 mt_M_cost 199 [(0, .ref 49), (3, .int x3), (4, .int x4), (5, .int x5), (6, .int x6), (7, .int x7), (9, .int x9)] [.int y1, .int y0] (I, L, RC n, n) 0 0 Q := by
  unfold f_M_cost_b199 at hF
  refine r_iadd (i := 113) rfl ?_
  refine r_istore (i := 114) (Ls' := [(8, _), (0, _), (3, _), (4, _), (5, _), (6, _), (7, _), (9, _)]) rfl (Nat.le_of_ble_eq_true rfl) rfl ?_
  refine xm_sub (Ls' := [(0, _), (3, _), (4, _), (5, _), (6, _), (7, _), (8, _), (9, _)]) [1, 2, 3, 4, 5, 6, 0, 7] rfl ?_
  exact t_M_cost_b202 hn (fun p h => hq p h) (fun z h => hg0 z h) hF
set_option maxHeartbeats 4000000 in
set_option maxRecDepth 100000 in
theorem t_M_cost_b134 {x3 : Int32} {x4 : Int32} {x5 : Int32} {x6 : Int32} {x7 : Int32} {x9 : Int32} {y0 : Int32} {y1 : Int32} {n : Nat} {I : xm_I} {L : xm_L} {K : (Int32 × Int32 × xm_I × xm_L) ⊕ (Int32 × xm_I × xm_L) → Prop} {Q : Option Value → xm_H → Prop} (hn : 86 ≤ n) (hq : ∀ p : Int32 × xm_I × xm_L, K (.inr p) → Q (some (.int p.1)) (p.2.1, p.2.2, RC n, n)) (hg0 : ∀ s : Int32 × Int32 × xm_I × xm_L, K (.inl s) → xm_J 3 mt_M_cost 45 [(0, .ref 49), (3, .int x3), (4, .int x4), (5, .int x5), (6, .int x6), (7, .int x7), (8, .int s.1), (9, .int s.2.1)] [] (s.2.2.1, s.2.2.2, RC n, n) 0 0 Q) (hF : ok (f_M_cost_b134 x3 x4 x5 x6 x7 x9 y0 y1 I L) K) : xm_J 3 mt_M_cost 134 [(0, .ref 49), (3, .int x3), (4, .int x4), (5, .int x5), (6, .int x6), (7, .int x7), (9, .int x9)] [.int y1, .int y0] (I, L, RC n, n) 0 0 Q := by
  unfold f_M_cost_b134 at hF
  refine r_iadd (i := 76) rfl ?_
  refine r_istore (i := 77) (Ls' := [(8, _), (0, _), (3, _), (4, _), (5, _), (6, _), (7, _), (9, _)]) rfl (Nat.le_of_ble_eq_true rfl) rfl ?_
  refine r_goto (i := 78) (tgt := 202) rfl (by decide) ?_
  refine xm_sub (Ls' := [(0, _), (3, _), (4, _), (5, _), (6, _), (7, _), (8, _), (9, _)]) [1, 2, 3, 4, 5, 6, 0, 7] rfl ?_
  exact t_M_cost_b202 hn (fun p h => hq p h) (fun z h => hg0 z h) hF
set_option maxHeartbeats 4000000 in
set_option maxRecDepth 100000 in
theorem t_M_cost_b133 {x3 : Int32} {x4 : Int32} {x5 : Int32} {x6 : Int32} {x7 : Int32} {x9 : Int32} {y0 : Int32} {n : Nat} {I : xm_I} {L : xm_L} {K : (Int32 × Int32 × xm_I × xm_L) ⊕ (Int32 × xm_I × xm_L) → Prop} {Q : Option Value → xm_H → Prop} (hn : 86 ≤ n) (hq : ∀ p : Int32 × xm_I × xm_L, K (.inr p) → Q (some (.int p.1)) (p.2.1, p.2.2, RC n, n)) (hg0 : ∀ s : Int32 × Int32 × xm_I × xm_L, K (.inl s) → xm_J 3 mt_M_cost 45 [(0, .ref 49), (3, .int x3), (4, .int x4), (5, .int x5), (6, .int x6), (7, .int x7), (8, .int s.1), (9, .int s.2.1)] [] (s.2.2.1, s.2.2.2, RC n, n) 0 0 Q) (hF : ok (f_M_cost_b133 x3 x4 x5 x6 x7 x9 y0 I L) K) : xm_J 3 mt_M_cost 133 [(0, .ref 49), (3, .int x3), (4, .int x4), (5, .int x5), (6, .int x6), (7, .int x7), (9, .int x9)] [.int y0] (I, L, RC n, n) 0 0 Q := by
  unfold f_M_cost_b133 at hF
  refine r_iconst (v := 0) (i := 75) rfl ki_0 ?_
  exact t_M_cost_b134 hn (fun p h => hq p h) (fun z h => hg0 z h) hF
set_option maxHeartbeats 4000000 in
set_option maxRecDepth 100000 in
theorem t_M_cost_s45 {x3 : Int32} {x4 : Int32} {x5 : Int32} {x6 : Int32} {x7 : Int32} {s : Int32 × Int32 × xm_I × xm_L} {n : Nat} {K : (Int32 × Int32 × xm_I × xm_L) ⊕ (Int32 × xm_I × xm_L) → Prop} {Q : Option Value → xm_H → Prop} (hn : 86 ≤ n) (hq : ∀ p : Int32 × xm_I × xm_L, K (.inr p) → Q (some (.int p.1)) (p.2.1, p.2.2, RC n, n)) (hg0 : ∀ s : Int32 × Int32 × xm_I × xm_L, K (.inl s) → xm_J 3 mt_M_cost 45 [(0, .ref 49), (3, .int x3), (4, .int x4), (5, .int x5), (6, .int x6), (7, .int x7), (8, .int s.1), (9, .int s.2.1)] [] (s.2.2.1, s.2.2.2, RC n, n) 0 0 Q) (hF : ok (f_M_cost_s45 x3 x4 x5 x6 x7 s) K) : xm_J 3 mt_M_cost 45 [(0, .ref 49), (3, .int x3), (4, .int x4), (5, .int x5), (6, .int x6), (7, .int x7), (8, .int s.1), (9, .int s.2.1)] [] (s.2.2.1, s.2.2.2, RC n, n) 0 0 Q := by
  unfold f_M_cost_s45 at hF
  refine r_iload (i := 29) (k0 := 7) rfl rfl ?_
  refine r_iload_n (i := 30) (k0 := 1) rfl rfl rfl ?_
  refine r_icmpge (i := 31) (tgt := 208) rfl (by decide) (fun hc => ?_) (fun hc => ?_)
  · have hF := ok_it hc hF
    refine r_iload (i := 117) (k0 := 6) rfl rfl ?_
    have hQ := hq _ (ok_some hF)
    exact r_ireturn (i := 118) rfl rfl rfl hQ
  have hF := ok_if hc hF
  refine r_aload_n (i := 32) (k0 := 0) rfl rfl rfl ?_
  refine q_getr (b := 71) (i := 33) rfl fl_M_90 rfl (xm_in rfl hn) rfl rfl ?_
  refine r_bipush (v := 7) (i := 34) rfl kb_7 ?_
  refine r_iload (i := 35) (k0 := 7) rfl rfl ?_
  refine r_imul (i := 36) rfl ?_
  obtain ⟨hi, hF⟩ := ok_gd hF
  refine q_iaload (i := 37) rfl (xm_in rfl hn) rfl hi ?_
  refine r_istore (i := 38) (Ls' := [(10, _), (0, _), (3, _), (4, _), (5, _), (6, _), (7, _), (8, _), (9, _)]) rfl (Nat.le_of_ble_eq_true rfl) rfl ?_
  refine r_aload_n (i := 39) (k0 := 1) rfl rfl rfl ?_
  refine q_getr (b := 71) (i := 40) rfl fl_M_90 rfl (xm_in rfl hn) rfl rfl ?_
  refine r_bipush (v := 7) (i := 41) rfl kb_7 ?_
  refine r_iload (i := 42) (k0 := 8) rfl rfl ?_
  refine r_imul (i := 43) rfl ?_
  refine r_iconst (v := 1) (i := 44) rfl ki_1 ?_
  refine r_iadd (i := 45) rfl ?_
  obtain ⟨hi, hF⟩ := ok_gd hF
  refine q_iaload (i := 46) rfl (xm_in rfl hn) rfl hi ?_
  refine r_istore (i := 47) (Ls' := [(11, _), (10, _), (0, _), (3, _), (4, _), (5, _), (6, _), (7, _), (8, _), (9, _)]) rfl (Nat.le_of_ble_eq_true rfl) rfl ?_
  refine r_aload_n (i := 48) (k0 := 2) rfl rfl rfl ?_
  refine q_getr (b := 71) (i := 49) rfl fl_M_90 rfl (xm_in rfl hn) rfl rfl ?_
  refine r_bipush (v := 7) (i := 50) rfl kb_7 ?_
  refine r_iload (i := 51) (k0 := 9) rfl rfl ?_
  refine r_imul (i := 52) rfl ?_
  refine r_iconst (v := 2) (i := 53) rfl ki_2 ?_
  refine r_iadd (i := 54) rfl ?_
  obtain ⟨hi, hF⟩ := ok_gd hF
  refine q_iaload (i := 55) rfl (xm_in rfl hn) rfl hi ?_
  refine r_istore (i := 56) (Ls' := [(12, _), (11, _), (10, _), (0, _), (3, _), (4, _), (5, _), (6, _), (7, _), (8, _), (9, _)]) rfl (Nat.le_of_ble_eq_true rfl) rfl ?_
  refine r_iload (i := 57) (k0 := 2) rfl rfl ?_
  refine r_bipush (v := 68) (i := 58) rfl kb_68 ?_
  refine r_icmpne (i := 59) (tgt := 140) rfl (by decide) (fun hc => ?_) (fun hc => ?_)
  · have hF := ok_if hc hF
    refine r_iload (i := 79) (k0 := 2) rfl rfl ?_
    refine r_bipush (v := 83) (i := 80) rfl kb_83 ?_
    refine r_icmpne (i := 81) (tgt := 202) rfl (by decide) (fun hc => ?_) (fun hc => ?_)
    · have hF := ok_if hc hF
      refine xm_sub (Ls' := [(0, _), (3, _), (4, _), (5, _), (6, _), (7, _), (8, _), (9, _)]) [3, 4, 5, 6, 7, 8, 9, 10] rfl ?_
      exact t_M_cost_b202 hn (fun p h => hq p h) (fun z h => hg0 z h) hF
    have hF := ok_it hc hF
    refine r_iload (i := 82) (k0 := 9) rfl rfl ?_
    refine r_aload_n (i := 83) (k0 := 3) rfl rfl rfl ?_
    refine r_iload (i := 84) (k0 := 1) rfl rfl ?_
    refine r_iload (i := 85) (k0 := 0) rfl rfl ?_
    refine r_aload_n (i := 86) (k0 := 3) rfl rfl rfl ?_
    refine q_getr (b := 71) (i := 87) rfl fl_M_90 rfl (xm_in rfl hn) rfl rfl ?_
    refine r_bipush (v := 7) (i := 88) rfl kb_7 ?_
    refine r_iload (i := 89) (k0 := 10) rfl rfl ?_
    refine r_imul (i := 90) rfl ?_
    refine r_iconst (v := 3) (i := 91) rfl ki_3 ?_
    refine r_iadd (i := 92) rfl ?_
    obtain ⟨hi, hF⟩ := ok_gd hF
    refine q_iaload (i := 93) rfl (xm_in rfl hn) rfl hi ?_
    refine r_aload_n (i := 94) (k0 := 3) rfl rfl rfl ?_
    refine q_getr (b := 71) (i := 95) rfl fl_M_90 rfl (xm_in rfl hn) rfl rfl ?_
    refine r_bipush (v := 7) (i := 96) rfl kb_7 ?_
    refine r_iload (i := 97) (k0 := 10) rfl rfl ?_
    refine r_imul (i := 98) rfl ?_
    refine r_iconst (v := 4) (i := 99) rfl ki_4 ?_
    refine r_iadd (i := 100) rfl ?_
    obtain ⟨hi, hF⟩ := ok_gd hF
    refine q_iaload (i := 101) rfl (xm_in rfl hn) rfl hi ?_
    refine r_iconst (v := 1) (i := 102) rfl ki_1 ?_
    refine r_iconst (v := 1) (i := 103) rfl ki_1 ?_
    refine r_iload (i := 104) (k0 := 5) rfl rfl ?_
    refine r_iload (i := 105) (k0 := 7) rfl rfl ?_
    refine r_iload (i := 106) (k0 := 6) rfl rfl ?_
    refine r_iload (i := 107) (k0 := 8) rfl rfl ?_
    refine c_V10I (i := 108) rfl vm_M_clips lk_M_347 (t_M_clips hn (ok_bind hF)) (Nat.le_of_ble_eq_true rfl) (xm_in rfl hn) rfl rfl (Nat.le_of_ble_eq_true rfl) (fun p_4 hF => ?_)
    refine r_ifeq (i := 109) (tgt := 198) rfl (by decide) (fun hc => ?_) (fun hc => ?_)
    · have hF := ok_it hc hF
      refine r_iconst (v := 0) (i := 112) rfl ki_0 ?_
      refine xm_sub (Ls' := [(0, _), (3, _), (4, _), (5, _), (6, _), (7, _), (9, _)]) [3, 4, 5, 6, 7, 8, 10] rfl ?_
      exact t_M_cost_b199 hn (fun p h => hq p h) (fun z h => hg0 z h) hF
    have hF := ok_if hc hF
    refine r_iconst (v := 4) (i := 110) rfl ki_4 ?_
    refine r_goto (i := 111) (tgt := 199) rfl (by decide) ?_
    refine xm_sub (Ls' := [(0, _), (3, _), (4, _), (5, _), (6, _), (7, _), (9, _)]) [3, 4, 5, 6, 7, 8, 10] rfl ?_
    exact t_M_cost_b199 hn (fun p h => hq p h) (fun z h => hg0 z h) hF
  have hF := ok_it hc hF
  refine r_iload (i := 60) (k0 := 9) rfl rfl ?_
  refine r_iload (i := 61) (k0 := 1) rfl rfl ?_
  refine r_iload (i := 62) (k0 := 5) rfl rfl ?_
  refine r_icmplt (i := 63) (tgt := 133) rfl (by decide) (fun hc => ?_) (fun hc => ?_)
  · have hF := ok_it hc hF
    refine xm_sub (Ls' := [(0, _), (3, _), (4, _), (5, _), (6, _), (7, _), (9, _)]) [3, 4, 5, 6, 7, 8, 10] rfl ?_
    exact t_M_cost_b133 hn (fun p h => hq p h) (fun z h => hg0 z h) hF
  have hF := ok_if hc hF
  refine r_iload (i := 64) (k0 := 1) rfl rfl ?_
  refine r_iload (i := 65) (k0 := 7) rfl rfl ?_
  refine r_icmpgt (i := 66) (tgt := 133) rfl (by decide) (fun hc => ?_) (fun hc => ?_)
  · have hF := ok_it hc hF
    refine xm_sub (Ls' := [(0, _), (3, _), (4, _), (5, _), (6, _), (7, _), (9, _)]) [3, 4, 5, 6, 7, 8, 10] rfl ?_
    exact t_M_cost_b133 hn (fun p h => hq p h) (fun z h => hg0 z h) hF
  have hF := ok_if hc hF
  refine r_iload (i := 67) (k0 := 0) rfl rfl ?_
  refine r_iload (i := 68) (k0 := 6) rfl rfl ?_
  refine r_icmplt (i := 69) (tgt := 133) rfl (by decide) (fun hc => ?_) (fun hc => ?_)
  · have hF := ok_it hc hF
    refine xm_sub (Ls' := [(0, _), (3, _), (4, _), (5, _), (6, _), (7, _), (9, _)]) [3, 4, 5, 6, 7, 8, 10] rfl ?_
    exact t_M_cost_b133 hn (fun p h => hq p h) (fun z h => hg0 z h) hF
  have hF := ok_if hc hF
  refine r_iload (i := 70) (k0 := 0) rfl rfl ?_
  refine r_iload (i := 71) (k0 := 8) rfl rfl ?_
  refine r_icmpgt (i := 72) (tgt := 133) rfl (by decide) (fun hc => ?_) (fun hc => ?_)
  · have hF := ok_it hc hF
    refine xm_sub (Ls' := [(0, _), (3, _), (4, _), (5, _), (6, _), (7, _), (9, _)]) [3, 4, 5, 6, 7, 8, 10] rfl ?_
    exact t_M_cost_b133 hn (fun p h => hq p h) (fun z h => hg0 z h) hF
  have hF := ok_if hc hF
  refine r_bipush (v := 10) (i := 73) rfl kb_10 ?_
  refine r_goto (i := 74) (tgt := 134) rfl (by decide) ?_
  refine xm_sub (Ls' := [(0, _), (3, _), (4, _), (5, _), (6, _), (7, _), (9, _)]) [3, 4, 5, 6, 7, 8, 10] rfl ?_
  exact t_M_cost_b134 hn (fun p h => hq p h) (fun z h => hg0 z h) hF
set_option maxHeartbeats 4000000 in
set_option maxRecDepth 100000 in
theorem t_M_cost_b45 {x3 : Int32} {x4 : Int32} {x5 : Int32} {x6 : Int32} {x7 : Int32} {s : Int32 × Int32 × xm_I × xm_L} {n : Nat} {K : Int32 × xm_I × xm_L → Prop} {Q : Option Value → xm_H → Prop} (hn : 86 ≤ n) (hq : ∀ p : Int32 × xm_I × xm_L, K p → Q (some (.int p.1)) (p.2.1, p.2.2, RC n, n)) (hF : ok (f_M_cost_b45 x3 x4 x5 x6 x7 s) K) : xm_J 3 mt_M_cost 45 [(0, .ref 49), (3, .int x3), (4, .int x4), (5, .int x5), (6, .int x6), (7, .int x7), (8, .int s.1), (9, .int s.2.1)] [] (s.2.2.1, s.2.2.2, RC n, n) 0 0 Q :=
  lp_J (G := fun z => xm_J 3 mt_M_cost 45 [(0, .ref 49), (3, .int x3), (4, .int x4), (5, .int x5), (6, .int x6), (7, .int x7), (8, .int z.1), (9, .int z.2.1)] [] (z.2.2.1, z.2.2.2, RC n, n) 0 0 Q) (fun z hF => t_M_cost_s45 hn (fun p h => hq p h) (fun z h => h) hF) s hF
set_option maxHeartbeats 4000000 in
set_option maxRecDepth 100000 in
theorem t_M_cost_b0 {x1 : Int32} {x2 : Int32} {x3 : Int32} {n : Nat} {I : xm_I} {L : xm_L} {K : Int32 × xm_I × xm_L → Prop} {Q : Option Value → xm_H → Prop} (hn : 86 ≤ n) (hq : ∀ p : Int32 × xm_I × xm_L, K p → Q (some (.int p.1)) (p.2.1, p.2.2, RC n, n)) (hF : ok (f_M_cost_b0 x1 x2 x3 I L) K) : xm_J 3 mt_M_cost 0 [(0, .ref 49), (1, .int x1), (2, .int x2), (3, .int x3)] [] (I, L, RC n, n) 0 0 Q := by
  unfold f_M_cost_b0 at hF
  refine r_aload_n (i := 0) (k0 := 0) rfl rfl rfl ?_
  refine r_iload_n (i := 1) (k0 := 1) rfl rfl rfl ?_
  refine r_iload_n (i := 2) (k0 := 2) rfl rfl rfl ?_
  refine c_V2I (i := 3) rfl vm_M_boxLeft lk_M_449 (t_M_boxLeft hn (ok_bind hF)) (Nat.le_of_ble_eq_true rfl) (xm_in rfl hn) rfl rfl (Nat.le_of_ble_eq_true rfl) (fun p_1 hF => ?_)
  refine r_istore (i := 4) (Ls' := [(4, _), (0, _), (1, _), (2, _), (3, _)]) rfl (Nat.le_of_ble_eq_true rfl) rfl ?_
  refine r_aload_n (i := 5) (k0 := 1) rfl rfl rfl ?_
  refine r_iload_n (i := 6) (k0 := 2) rfl rfl rfl ?_
  refine r_iload_n (i := 7) (k0 := 3) rfl rfl rfl ?_
  refine c_V2I (i := 8) rfl vm_M_boxTop lk_M_452 (t_M_boxTop hn (ok_bind hF)) (Nat.le_of_ble_eq_true rfl) (xm_in rfl hn) rfl rfl (Nat.le_of_ble_eq_true rfl) (fun p_2 hF => ?_)
  refine r_istore (i := 9) (Ls' := [(5, _), (4, _), (0, _), (1, _), (2, _), (3, _)]) rfl (Nat.le_of_ble_eq_true rfl) rfl ?_
  refine r_iload (i := 10) (k0 := 1) rfl rfl ?_
  refine r_bipush (v := 6) (i := 11) rfl kb_6 ?_
  refine r_aload_n (i := 12) (k0 := 2) rfl rfl rfl ?_
  refine q_getr (b := 70) (i := 13) rfl fl_M_87 rfl (xm_in rfl hn) rfl rfl ?_
  refine r_iload_n (i := 14) (k0 := 3) rfl rfl rfl ?_
  obtain ⟨hi, hF⟩ := ok_gd hF
  refine q_iaload (i := 15) rfl (xm_in rfl hn) rfl hi ?_
  refine r_imul (i := 16) rfl ?_
  refine r_iadd (i := 17) rfl ?_
  refine r_iconst (v := 1) (i := 18) rfl ki_1 ?_
  refine r_isub (i := 19) rfl ?_
  refine r_istore (i := 20) (Ls' := [(6, _), (5, _), (4, _), (0, _), (1, _), (2, _), (3, _)]) rfl (Nat.le_of_ble_eq_true rfl) rfl ?_
  refine r_iload (i := 21) (k0 := 1) rfl rfl ?_
  refine r_bipush (v := 8) (i := 22) rfl kb_8 ?_
  refine r_iadd (i := 23) rfl ?_
  refine r_istore (i := 24) (Ls' := [(7, _), (6, _), (5, _), (4, _), (0, _), (1, _), (2, _), (3, _)]) rfl (Nat.le_of_ble_eq_true rfl) rfl ?_
  refine r_iload_n (i := 25) (k0 := 6) rfl rfl rfl ?_
  refine r_istore (i := 26) (Ls' := [(8, _), (7, _), (6, _), (5, _), (4, _), (0, _), (1, _), (2, _), (3, _)]) rfl (Nat.le_of_ble_eq_true rfl) rfl ?_
  refine r_iconst (v := 0) (i := 27) rfl ki_0 ?_
  refine r_istore (i := 28) (Ls' := [(9, _), (8, _), (7, _), (6, _), (5, _), (4, _), (0, _), (1, _), (2, _), (3, _)]) rfl (Nat.le_of_ble_eq_true rfl) rfl ?_
  refine xm_sub (Ls' := [(0, _), (3, _), (4, _), (5, _), (6, _), (7, _), (8, _), (9, _)]) [6, 9, 5, 4, 3, 2, 1, 0] rfl ?_
  exact t_M_cost_b45 hn (fun p h => hq p h) hF
set_option maxHeartbeats 4000000 in
set_option maxRecDepth 100000 in
theorem t_M_cost {x1 : Int32} {x2 : Int32} {x3 : Int32} {n : Nat} {I : xm_I} {L : xm_L} {K : Int32 × xm_I × xm_L → Prop} (hn : 86 ≤ n) (hF : ok (f_M_cost x1 x2 x3 I L) K) : xm_C 3 mt_M_cost [.ref 49, .int x1, .int x2, .int x3] (I, L, RC n, n) 0 0 (pI (fun p : Int32 × xm_I × xm_L => p.1) (fun p : Int32 × xm_I × xm_L => (p.2.1, p.2.2, RC n, n)) K) := by
  unfold f_M_cost at hF
  refine xm_enter (by decide +kernel) dv_M_cost (Nat.le_of_ble_eq_true rfl) ?_
  exact t_M_cost_b0 hn (fun p hp => ⟨p, rfl, rfl, hp⟩) hF

noncomputable def f_M_costsOf_b46 (x1 : Int32) (x3 : Int32) (y0 : Int32) (y1 : Int32) (I : xm_I) : Option ((Int32 × Int32) ⊕ (Int32)) :=
  let x2_1 : Int32 := y0 + y1
  let x3_2 : Int32 := x3 + 1
  some (.inl (x2_1, x3_2))
noncomputable def f_M_costsOf_s4 (x1 : Int32) (I : xm_I) (s : Int32 × Int32) : Option ((Int32 × Int32) ⊕ (Int32)) :=
  if x1 ≤ s.2 then (
    some (.inr (s.1)))
  else (
  gd (0 ≤ (s.2).toInt ∧ (s.2).toInt < 7) <|
  if (I 81 (Int32.toNatClampNeg s.2)) = 8 then (
    f_M_costsOf_b46 x1 s.2 s.1 0 I)
  else (
    gd (0 ≤ (s.2).toInt ∧ (s.2).toInt < 20) <|
    gd (0 ≤ (s.2).toInt ∧ (s.2).toInt < 7) <|
    gd (0 ≤ ((8 * (I 80 (Int32.toNatClampNeg s.2))) + (I 81 (Int32.toNatClampNeg s.2))).toInt ∧ ((8 * (I 80 (Int32.toNatClampNeg s.2))) + (I 81 (Int32.toNatClampNeg s.2))).toInt < 160) <|
    f_M_costsOf_b46 x1 s.2 s.1 (I 79 (Int32.toNatClampNeg ((8 * (I 80 (Int32.toNatClampNeg s.2))) + (I 81 (Int32.toNatClampNeg s.2))))) I))
noncomputable def f_M_costsOf_b4 (x1 : Int32) (I : xm_I) (s : Int32 × Int32) : Option (Int32) := lp (f_M_costsOf_s4 x1 I) s
noncomputable def f_M_costsOf_b0 (x1 : Int32) (I : xm_I) : Option (Int32) :=
  f_M_costsOf_b4 x1 I (0, 0)
noncomputable def f_M_costsOf (x1 : Int32) (I : xm_I) : Option (Int32) := f_M_costsOf_b0 x1 I
set_option maxHeartbeats 4000000 in
set_option maxRecDepth 100000 in
theorem t_M_costsOf_b46 {x1 : Int32} {x3 : Int32} {y0 : Int32} {y1 : Int32} {n : Nat} {I : xm_I} {L : xm_L} {K : (Int32 × Int32) ⊕ (Int32) → Prop} {Q : Option Value → xm_H → Prop} (hn : 86 ≤ n) (hq : ∀ p : Int32, K (.inr p) → Q (some (.int p)) (I, L, RC n, n)) (hg0 : ∀ s : Int32 × Int32, K (.inl s) → xm_J 0 mt_M_costsOf 4 [(0, .ref 49), (1, .int x1), (2, .int s.1), (3, .int s.2)] [] (I, L, RC n, n) 0 0 Q) (hF : ok (f_M_costsOf_b46 x1 x3 y0 y1 I) K) : xm_J 0 mt_M_costsOf 46 [(0, .ref 49), (1, .int x1), (3, .int x3)] [.int y1, .int y0] (I, L, RC n, n) 0 0 Q := by
  unfold f_M_costsOf_b46 at hF
  refine r_iadd (i := 30) rfl ?_
  refine r_istore_n (i := 31) (Ls' := [(2, _), (0, _), (1, _), (3, _)]) rfl rfl (Nat.le_of_ble_eq_true rfl) rfl ?_
  refine q_iinc (i := 32) (k0 := 3) (Ls' := [(3, _), (2, _), (0, _), (1, _)]) rfl ki_1 rfl (Nat.le_of_ble_eq_true rfl) rfl ?_
  refine r_goto (i := 33) (tgt := 4) rfl (by decide) ?_
  refine xm_sub (Ls' := [(0, _), (1, _), (2, _), (3, _)]) [2, 3, 1, 0] rfl ?_
  have hJ := hg0 _ (ok_some hF)
  exact hJ
set_option maxHeartbeats 4000000 in
set_option maxRecDepth 100000 in
theorem t_M_costsOf_s4 {x1 : Int32} {s : Int32 × Int32} {n : Nat} {I : xm_I} {L : xm_L} {K : (Int32 × Int32) ⊕ (Int32) → Prop} {Q : Option Value → xm_H → Prop} (hn : 86 ≤ n) (hq : ∀ p : Int32, K (.inr p) → Q (some (.int p)) (I, L, RC n, n)) (hg0 : ∀ s : Int32 × Int32, K (.inl s) → xm_J 0 mt_M_costsOf 4 [(0, .ref 49), (1, .int x1), (2, .int s.1), (3, .int s.2)] [] (I, L, RC n, n) 0 0 Q) (hF : ok (f_M_costsOf_s4 x1 I s) K) : xm_J 0 mt_M_costsOf 4 [(0, .ref 49), (1, .int x1), (2, .int s.1), (3, .int s.2)] [] (I, L, RC n, n) 0 0 Q := by
  unfold f_M_costsOf_s4 at hF
  refine r_iload_n (i := 4) (k0 := 3) rfl rfl rfl ?_
  refine r_iload_n (i := 5) (k0 := 1) rfl rfl rfl ?_
  refine r_icmpge (i := 6) (tgt := 54) rfl (by decide) (fun hc => ?_) (fun hc => ?_)
  · have hF := ok_it hc hF
    refine r_iload_n (i := 34) (k0 := 2) rfl rfl rfl ?_
    have hQ := hq _ (ok_some hF)
    exact r_ireturn (i := 35) rfl rfl rfl hQ
  have hF := ok_if hc hF
  refine r_iload_n (i := 7) (k0 := 2) rfl rfl rfl ?_
  refine r_aload_n (i := 8) (k0 := 0) rfl rfl rfl ?_
  refine q_getr (b := 81) (i := 9) rfl fl_M_122 rfl (xm_in rfl hn) rfl rfl ?_
  refine r_iload_n (i := 10) (k0 := 3) rfl rfl rfl ?_
  obtain ⟨hi, hF⟩ := ok_gd hF
  refine q_iaload (i := 11) rfl (xm_in rfl hn) rfl hi ?_
  refine r_bipush (v := 8) (i := 12) rfl kb_8 ?_
  refine r_icmpne (i := 13) (tgt := 25) rfl (by decide) (fun hc => ?_) (fun hc => ?_)
  · have hF := ok_if hc hF
    refine r_aload_n (i := 16) (k0 := 0) rfl rfl rfl ?_
    refine q_getr (b := 79) (i := 17) rfl fl_M_116 rfl (xm_in rfl hn) rfl rfl ?_
    refine r_bipush (v := 8) (i := 18) rfl kb_8 ?_
    refine r_aload_n (i := 19) (k0 := 0) rfl rfl rfl ?_
    refine q_getr (b := 80) (i := 20) rfl fl_M_119 rfl (xm_in rfl hn) rfl rfl ?_
    refine r_iload_n (i := 21) (k0 := 3) rfl rfl rfl ?_
    obtain ⟨hi, hF⟩ := ok_gd hF
    refine q_iaload (i := 22) rfl (xm_in rfl hn) rfl hi ?_
    refine r_imul (i := 23) rfl ?_
    refine r_aload_n (i := 24) (k0 := 0) rfl rfl rfl ?_
    refine q_getr (b := 81) (i := 25) rfl fl_M_122 rfl (xm_in rfl hn) rfl rfl ?_
    refine r_iload_n (i := 26) (k0 := 3) rfl rfl rfl ?_
    obtain ⟨hi, hF⟩ := ok_gd hF
    refine q_iaload (i := 27) rfl (xm_in rfl hn) rfl hi ?_
    refine r_iadd (i := 28) rfl ?_
    obtain ⟨hi, hF⟩ := ok_gd hF
    refine q_iaload (i := 29) rfl (xm_in rfl hn) rfl hi ?_
    refine xm_sub (Ls' := [(0, _), (1, _), (3, _)]) [0, 1, 3] rfl ?_
    exact t_M_costsOf_b46 hn (fun p h => hq p h) (fun z h => hg0 z h) hF
  have hF := ok_it hc hF
  refine r_iconst (v := 0) (i := 14) rfl ki_0 ?_
  refine r_goto (i := 15) (tgt := 46) rfl (by decide) ?_
  refine xm_sub (Ls' := [(0, _), (1, _), (3, _)]) [0, 1, 3] rfl ?_
  exact t_M_costsOf_b46 hn (fun p h => hq p h) (fun z h => hg0 z h) hF
set_option maxHeartbeats 4000000 in
set_option maxRecDepth 100000 in
theorem t_M_costsOf_b4 {x1 : Int32} {s : Int32 × Int32} {n : Nat} {I : xm_I} {L : xm_L} {K : Int32 → Prop} {Q : Option Value → xm_H → Prop} (hn : 86 ≤ n) (hq : ∀ p : Int32, K p → Q (some (.int p)) (I, L, RC n, n)) (hF : ok (f_M_costsOf_b4 x1 I s) K) : xm_J 0 mt_M_costsOf 4 [(0, .ref 49), (1, .int x1), (2, .int s.1), (3, .int s.2)] [] (I, L, RC n, n) 0 0 Q :=
  lp_J (G := fun z => xm_J 0 mt_M_costsOf 4 [(0, .ref 49), (1, .int x1), (2, .int z.1), (3, .int z.2)] [] (I, L, RC n, n) 0 0 Q) (fun z hF => t_M_costsOf_s4 hn (fun p h => hq p h) (fun z h => h) hF) s hF
set_option maxHeartbeats 4000000 in
set_option maxRecDepth 100000 in
theorem t_M_costsOf_b0 {x1 : Int32} {n : Nat} {I : xm_I} {L : xm_L} {K : Int32 → Prop} {Q : Option Value → xm_H → Prop} (hn : 86 ≤ n) (hq : ∀ p : Int32, K p → Q (some (.int p)) (I, L, RC n, n)) (hF : ok (f_M_costsOf_b0 x1 I) K) : xm_J 0 mt_M_costsOf 0 [(0, .ref 49), (1, .int x1)] [] (I, L, RC n, n) 0 0 Q := by
  unfold f_M_costsOf_b0 at hF
  refine r_iconst (v := 0) (i := 0) rfl ki_0 ?_
  refine r_istore_n (i := 1) (Ls' := [(2, _), (0, _), (1, _)]) rfl rfl (Nat.le_of_ble_eq_true rfl) rfl ?_
  refine r_iconst (v := 0) (i := 2) rfl ki_0 ?_
  refine r_istore_n (i := 3) (Ls' := [(3, _), (2, _), (0, _), (1, _)]) rfl rfl (Nat.le_of_ble_eq_true rfl) rfl ?_
  refine xm_sub (Ls' := [(0, _), (1, _), (2, _), (3, _)]) [2, 3, 1, 0] rfl ?_
  exact t_M_costsOf_b4 hn (fun p h => hq p h) hF
set_option maxHeartbeats 4000000 in
set_option maxRecDepth 100000 in
theorem t_M_costsOf {x1 : Int32} {n : Nat} {I : xm_I} {L : xm_L} {K : Int32 → Prop} (hn : 86 ≤ n) (hF : ok (f_M_costsOf x1 I) K) : xm_C 0 mt_M_costsOf [.ref 49, .int x1] (I, L, RC n, n) 0 0 (pI (fun p : Int32 => p) (fun p : Int32 => (I, L, RC n, n)) K) := by
  unfold f_M_costsOf at hF
  refine xm_enter (by decide +kernel) dv_M_costsOf (Nat.le_of_ble_eq_true rfl) ?_
  exact t_M_costsOf_b0 hn (fun p hp => ⟨p, rfl, rfl, hp⟩) hF

noncomputable def f_M_outsOf_b26 (x1 : Int32) (x3 : Int32) (y0 : Int32) (y1 : Int32) (I : xm_I) : Option ((Int32 × Int32) ⊕ (Int32)) :=
  let x2_1 : Int32 := y0 + y1
  let x3_2 : Int32 := x3 + 1
  some (.inl (x2_1, x3_2))
noncomputable def f_M_outsOf_s4 (x1 : Int32) (I : xm_I) (s : Int32 × Int32) : Option ((Int32 × Int32) ⊕ (Int32)) :=
  if x1 ≤ s.2 then (
    some (.inr (s.1)))
  else (
  gd (0 ≤ (s.2).toInt ∧ (s.2).toInt < 7) <|
  if (I 81 (Int32.toNatClampNeg s.2)) = 8 then (
    f_M_outsOf_b26 x1 s.2 s.1 1 I)
  else (
    f_M_outsOf_b26 x1 s.2 s.1 0 I))
noncomputable def f_M_outsOf_b4 (x1 : Int32) (I : xm_I) (s : Int32 × Int32) : Option (Int32) := lp (f_M_outsOf_s4 x1 I) s
noncomputable def f_M_outsOf_b0 (x1 : Int32) (I : xm_I) : Option (Int32) :=
  f_M_outsOf_b4 x1 I (0, 0)
noncomputable def f_M_outsOf (x1 : Int32) (I : xm_I) : Option (Int32) := f_M_outsOf_b0 x1 I
set_option maxHeartbeats 4000000 in
set_option maxRecDepth 100000 in
theorem t_M_outsOf_b26 {x1 : Int32} {x3 : Int32} {y0 : Int32} {y1 : Int32} {n : Nat} {I : xm_I} {L : xm_L} {K : (Int32 × Int32) ⊕ (Int32) → Prop} {Q : Option Value → xm_H → Prop} (hn : 86 ≤ n) (hq : ∀ p : Int32, K (.inr p) → Q (some (.int p)) (I, L, RC n, n)) (hg0 : ∀ s : Int32 × Int32, K (.inl s) → xm_J 0 mt_M_outsOf 4 [(0, .ref 49), (1, .int x1), (2, .int s.1), (3, .int s.2)] [] (I, L, RC n, n) 0 0 Q) (hF : ok (f_M_outsOf_b26 x1 x3 y0 y1 I) K) : xm_J 0 mt_M_outsOf 26 [(0, .ref 49), (1, .int x1), (3, .int x3)] [.int y1, .int y0] (I, L, RC n, n) 0 0 Q := by
  unfold f_M_outsOf_b26 at hF
  refine r_iadd (i := 17) rfl ?_
  refine r_istore_n (i := 18) (Ls' := [(2, _), (0, _), (1, _), (3, _)]) rfl rfl (Nat.le_of_ble_eq_true rfl) rfl ?_
  refine q_iinc (i := 19) (k0 := 3) (Ls' := [(3, _), (2, _), (0, _), (1, _)]) rfl ki_1 rfl (Nat.le_of_ble_eq_true rfl) rfl ?_
  refine r_goto (i := 20) (tgt := 4) rfl (by decide) ?_
  refine xm_sub (Ls' := [(0, _), (1, _), (2, _), (3, _)]) [2, 3, 1, 0] rfl ?_
  have hJ := hg0 _ (ok_some hF)
  exact hJ
set_option maxHeartbeats 4000000 in
set_option maxRecDepth 100000 in
theorem t_M_outsOf_s4 {x1 : Int32} {s : Int32 × Int32} {n : Nat} {I : xm_I} {L : xm_L} {K : (Int32 × Int32) ⊕ (Int32) → Prop} {Q : Option Value → xm_H → Prop} (hn : 86 ≤ n) (hq : ∀ p : Int32, K (.inr p) → Q (some (.int p)) (I, L, RC n, n)) (hg0 : ∀ s : Int32 × Int32, K (.inl s) → xm_J 0 mt_M_outsOf 4 [(0, .ref 49), (1, .int x1), (2, .int s.1), (3, .int s.2)] [] (I, L, RC n, n) 0 0 Q) (hF : ok (f_M_outsOf_s4 x1 I s) K) : xm_J 0 mt_M_outsOf 4 [(0, .ref 49), (1, .int x1), (2, .int s.1), (3, .int s.2)] [] (I, L, RC n, n) 0 0 Q := by
  unfold f_M_outsOf_s4 at hF
  refine r_iload_n (i := 4) (k0 := 3) rfl rfl rfl ?_
  refine r_iload_n (i := 5) (k0 := 1) rfl rfl rfl ?_
  refine r_icmpge (i := 6) (tgt := 34) rfl (by decide) (fun hc => ?_) (fun hc => ?_)
  · have hF := ok_it hc hF
    refine r_iload_n (i := 21) (k0 := 2) rfl rfl rfl ?_
    have hQ := hq _ (ok_some hF)
    exact r_ireturn (i := 22) rfl rfl rfl hQ
  have hF := ok_if hc hF
  refine r_iload_n (i := 7) (k0 := 2) rfl rfl rfl ?_
  refine r_aload_n (i := 8) (k0 := 0) rfl rfl rfl ?_
  refine q_getr (b := 81) (i := 9) rfl fl_M_122 rfl (xm_in rfl hn) rfl rfl ?_
  refine r_iload_n (i := 10) (k0 := 3) rfl rfl rfl ?_
  obtain ⟨hi, hF⟩ := ok_gd hF
  refine q_iaload (i := 11) rfl (xm_in rfl hn) rfl hi ?_
  refine r_bipush (v := 8) (i := 12) rfl kb_8 ?_
  refine r_icmpne (i := 13) (tgt := 25) rfl (by decide) (fun hc => ?_) (fun hc => ?_)
  · have hF := ok_if hc hF
    refine r_iconst (v := 0) (i := 16) rfl ki_0 ?_
    refine xm_sub (Ls' := [(0, _), (1, _), (3, _)]) [0, 1, 3] rfl ?_
    exact t_M_outsOf_b26 hn (fun p h => hq p h) (fun z h => hg0 z h) hF
  have hF := ok_it hc hF
  refine r_iconst (v := 1) (i := 14) rfl ki_1 ?_
  refine r_goto (i := 15) (tgt := 26) rfl (by decide) ?_
  refine xm_sub (Ls' := [(0, _), (1, _), (3, _)]) [0, 1, 3] rfl ?_
  exact t_M_outsOf_b26 hn (fun p h => hq p h) (fun z h => hg0 z h) hF
set_option maxHeartbeats 4000000 in
set_option maxRecDepth 100000 in
theorem t_M_outsOf_b4 {x1 : Int32} {s : Int32 × Int32} {n : Nat} {I : xm_I} {L : xm_L} {K : Int32 → Prop} {Q : Option Value → xm_H → Prop} (hn : 86 ≤ n) (hq : ∀ p : Int32, K p → Q (some (.int p)) (I, L, RC n, n)) (hF : ok (f_M_outsOf_b4 x1 I s) K) : xm_J 0 mt_M_outsOf 4 [(0, .ref 49), (1, .int x1), (2, .int s.1), (3, .int s.2)] [] (I, L, RC n, n) 0 0 Q :=
  lp_J (G := fun z => xm_J 0 mt_M_outsOf 4 [(0, .ref 49), (1, .int x1), (2, .int z.1), (3, .int z.2)] [] (I, L, RC n, n) 0 0 Q) (fun z hF => t_M_outsOf_s4 hn (fun p h => hq p h) (fun z h => h) hF) s hF
set_option maxHeartbeats 4000000 in
set_option maxRecDepth 100000 in
theorem t_M_outsOf_b0 {x1 : Int32} {n : Nat} {I : xm_I} {L : xm_L} {K : Int32 → Prop} {Q : Option Value → xm_H → Prop} (hn : 86 ≤ n) (hq : ∀ p : Int32, K p → Q (some (.int p)) (I, L, RC n, n)) (hF : ok (f_M_outsOf_b0 x1 I) K) : xm_J 0 mt_M_outsOf 0 [(0, .ref 49), (1, .int x1)] [] (I, L, RC n, n) 0 0 Q := by
  unfold f_M_outsOf_b0 at hF
  refine r_iconst (v := 0) (i := 0) rfl ki_0 ?_
  refine r_istore_n (i := 1) (Ls' := [(2, _), (0, _), (1, _)]) rfl rfl (Nat.le_of_ble_eq_true rfl) rfl ?_
  refine r_iconst (v := 0) (i := 2) rfl ki_0 ?_
  refine r_istore_n (i := 3) (Ls' := [(3, _), (2, _), (0, _), (1, _)]) rfl rfl (Nat.le_of_ble_eq_true rfl) rfl ?_
  refine xm_sub (Ls' := [(0, _), (1, _), (2, _), (3, _)]) [2, 3, 1, 0] rfl ?_
  exact t_M_outsOf_b4 hn (fun p h => hq p h) hF
set_option maxHeartbeats 4000000 in
set_option maxRecDepth 100000 in
theorem t_M_outsOf {x1 : Int32} {n : Nat} {I : xm_I} {L : xm_L} {K : Int32 → Prop} (hn : 86 ≤ n) (hF : ok (f_M_outsOf x1 I) K) : xm_C 0 mt_M_outsOf [.ref 49, .int x1] (I, L, RC n, n) 0 0 (pI (fun p : Int32 => p) (fun p : Int32 => (I, L, RC n, n)) K) := by
  unfold f_M_outsOf at hF
  refine xm_enter (by decide +kernel) dv_M_outsOf (Nat.le_of_ble_eq_true rfl) ?_
  exact t_M_outsOf_b0 hn (fun p hp => ⟨p, rfl, rfl, hp⟩) hF

noncomputable def f_M_isBetter_b0 (x1 : Int32) (I : xm_I) : Option (Int32) :=
  (f_M_outsOf x1 I).bind fun p_1 =>
  if p_1 < (I 49 73) then (
    some (1))
  else (
  if p_1 = (I 49 73) then (
    (f_M_costsOf x1 I).bind fun p_2 =>
    if (I 49 74) ≤ p_2 then (
      some (0))
    else (
    some (1)))
  else (
    some (0)))
noncomputable def f_M_isBetter (x1 : Int32) (I : xm_I) : Option (Int32) := f_M_isBetter_b0 x1 I
set_option maxHeartbeats 4000000 in
set_option maxRecDepth 100000 in
theorem t_M_isBetter_b0 {x1 : Int32} {n : Nat} {I : xm_I} {L : xm_L} {K : Int32 → Prop} {Q : Option Value → xm_H → Prop} (hn : 86 ≤ n) (hq : ∀ p : Int32, K p → Q (some (.int p)) (I, L, RC n, n)) (hF : ok (f_M_isBetter_b0 x1 I) K) : xm_J 1 mt_M_isBetter 0 [(0, .ref 49), (1, .int x1)] [] (I, L, RC n, n) 0 0 Q := by
  unfold f_M_isBetter_b0 at hF
  refine r_aload_n (i := 0) (k0 := 0) rfl rfl rfl ?_
  refine r_iload_n (i := 1) (k0 := 1) rfl rfl rfl ?_
  refine c_V1I (i := 2) rfl vm_M_outsOf lk_M_490 (t_M_outsOf hn (ok_bind hF)) (Nat.le_of_ble_eq_true rfl) (xm_in rfl hn) rfl rfl (Nat.le_of_ble_eq_true rfl) (fun p_1 hF => ?_)
  refine r_istore_n (i := 3) (Ls' := [(2, _), (0, _), (1, _)]) rfl rfl (Nat.le_of_ble_eq_true rfl) rfl ?_
  refine r_iload_n (i := 4) (k0 := 0) rfl rfl rfl ?_
  refine r_aload_n (i := 5) (k0 := 1) rfl rfl rfl ?_
  refine q_geti (i := 6) rfl fl_M_475 (xm_in rfl hn) rfl ?_
  refine r_icmplt (i := 7) (tgt := 34) rfl (by decide) (fun hc => ?_) (fun hc => ?_)
  · have hF := ok_it hc hF
    refine r_iconst (v := 1) (i := 18) rfl ki_1 ?_
    refine r_goto (i := 19) (tgt := 39) rfl (by decide) ?_
    have hQ := hq _ (ok_some hF)
    exact r_ireturn (i := 21) rfl rfl rfl hQ
  have hF := ok_if hc hF
  refine r_iload_n (i := 8) (k0 := 0) rfl rfl rfl ?_
  refine r_aload_n (i := 9) (k0 := 1) rfl rfl rfl ?_
  refine q_geti (i := 10) rfl fl_M_475 (xm_in rfl hn) rfl ?_
  refine r_icmpne (i := 11) (tgt := 38) rfl (by decide) (fun hc => ?_) (fun hc => ?_)
  · have hF := ok_if hc hF
    refine r_iconst (v := 0) (i := 20) rfl ki_0 ?_
    have hQ := hq _ (ok_some hF)
    exact r_ireturn (i := 21) rfl rfl rfl hQ
  have hF := ok_it hc hF
  refine r_aload_n (i := 12) (k0 := 1) rfl rfl rfl ?_
  refine r_iload_n (i := 13) (k0 := 2) rfl rfl rfl ?_
  refine c_V1I (i := 14) rfl vm_M_costsOf lk_M_493 (t_M_costsOf hn (ok_bind hF)) (Nat.le_of_ble_eq_true rfl) (xm_in rfl hn) rfl rfl (Nat.le_of_ble_eq_true rfl) (fun p_2 hF => ?_)
  refine r_aload_n (i := 15) (k0 := 1) rfl rfl rfl ?_
  refine q_geti (i := 16) rfl fl_M_478 (xm_in rfl hn) rfl ?_
  refine r_icmpge (i := 17) (tgt := 38) rfl (by decide) (fun hc => ?_) (fun hc => ?_)
  · have hF := ok_it hc hF
    refine r_iconst (v := 0) (i := 20) rfl ki_0 ?_
    have hQ := hq _ (ok_some hF)
    exact r_ireturn (i := 21) rfl rfl rfl hQ
  have hF := ok_if hc hF
  refine r_iconst (v := 1) (i := 18) rfl ki_1 ?_
  refine r_goto (i := 19) (tgt := 39) rfl (by decide) ?_
  have hQ := hq _ (ok_some hF)
  exact r_ireturn (i := 21) rfl rfl rfl hQ
set_option maxHeartbeats 4000000 in
set_option maxRecDepth 100000 in
theorem t_M_isBetter {x1 : Int32} {n : Nat} {I : xm_I} {L : xm_L} {K : Int32 → Prop} (hn : 86 ≤ n) (hF : ok (f_M_isBetter x1 I) K) : xm_C 1 mt_M_isBetter [.ref 49, .int x1] (I, L, RC n, n) 0 0 (pI (fun p : Int32 => p) (fun p : Int32 => (I, L, RC n, n)) K) := by
  unfold f_M_isBetter at hF
  refine xm_enter (by decide +kernel) dv_M_isBetter (Nat.le_of_ble_eq_true rfl) ?_
  exact t_M_isBetter_b0 hn (fun p hp => ⟨p, rfl, rfl, hp⟩) hF

noncomputable def f_M_meet_b0 (x1 : Int32) (x2 : Int32) (x3 : Int32) (x4 : Int32) (I : xm_I) : Option (Int32) :=
  (f_M_boxLeft x1 x2 I).bind fun p_1 =>
  (f_M_boxTop x1 x2 I).bind fun p_2 =>
  (f_M_boxLeft x3 x4 I).bind fun p_3 =>
  (f_M_boxTop x3 x4 I).bind fun p_4 =>
  gd (0 ≤ (x3).toInt ∧ (x3).toInt < 20) <|
  if (p_3 + (6 * (I 70 (Int32.toNatClampNeg x3)))) ≤ p_1 then (
    some (0))
  else (
  gd (0 ≤ (x1).toInt ∧ (x1).toInt < 20) <|
  if (p_1 + (6 * (I 70 (Int32.toNatClampNeg x1)))) ≤ p_3 then (
    some (0))
  else (
  if (p_4 + 9) ≤ p_2 then (
    some (0))
  else (
  if (p_2 + 9) ≤ p_4 then (
    some (0))
  else (
  some (1)))))
noncomputable def f_M_meet (x1 : Int32) (x2 : Int32) (x3 : Int32) (x4 : Int32) (I : xm_I) : Option (Int32) := f_M_meet_b0 x1 x2 x3 x4 I
set_option maxHeartbeats 4000000 in
set_option maxRecDepth 100000 in
theorem t_M_meet_b0 {x1 : Int32} {x2 : Int32} {x3 : Int32} {x4 : Int32} {n : Nat} {I : xm_I} {L : xm_L} {K : Int32 → Prop} {Q : Option Value → xm_H → Prop} (hn : 86 ≤ n) (hq : ∀ p : Int32, K p → Q (some (.int p)) (I, L, RC n, n)) (hF : ok (f_M_meet_b0 x1 x2 x3 x4 I) K) : xm_J 1 mt_M_meet 0 [(0, .ref 49), (1, .int x1), (2, .int x2), (3, .int x3), (4, .int x4)] [] (I, L, RC n, n) 0 0 Q := by
  unfold f_M_meet_b0 at hF
  refine r_aload_n (i := 0) (k0 := 0) rfl rfl rfl ?_
  refine r_iload_n (i := 1) (k0 := 1) rfl rfl rfl ?_
  refine r_iload_n (i := 2) (k0 := 2) rfl rfl rfl ?_
  refine c_V2I (i := 3) rfl vm_M_boxLeft lk_M_449 (t_M_boxLeft hn (ok_bind hF)) (Nat.le_of_ble_eq_true rfl) (xm_in rfl hn) rfl rfl (Nat.le_of_ble_eq_true rfl) (fun p_1 hF => ?_)
  refine r_istore (i := 4) (Ls' := [(5, _), (0, _), (1, _), (2, _), (3, _), (4, _)]) rfl (Nat.le_of_ble_eq_true rfl) rfl ?_
  refine r_aload_n (i := 5) (k0 := 1) rfl rfl rfl ?_
  refine r_iload_n (i := 6) (k0 := 2) rfl rfl rfl ?_
  refine r_iload_n (i := 7) (k0 := 3) rfl rfl rfl ?_
  refine c_V2I (i := 8) rfl vm_M_boxTop lk_M_452 (t_M_boxTop hn (ok_bind hF)) (Nat.le_of_ble_eq_true rfl) (xm_in rfl hn) rfl rfl (Nat.le_of_ble_eq_true rfl) (fun p_2 hF => ?_)
  refine r_istore (i := 9) (Ls' := [(6, _), (5, _), (0, _), (1, _), (2, _), (3, _), (4, _)]) rfl (Nat.le_of_ble_eq_true rfl) rfl ?_
  refine r_aload_n (i := 10) (k0 := 2) rfl rfl rfl ?_
  refine r_iload_n (i := 11) (k0 := 5) rfl rfl rfl ?_
  refine r_iload (i := 12) (k0 := 6) rfl rfl ?_
  refine c_V2I (i := 13) rfl vm_M_boxLeft lk_M_449 (t_M_boxLeft hn (ok_bind hF)) (Nat.le_of_ble_eq_true rfl) (xm_in rfl hn) rfl rfl (Nat.le_of_ble_eq_true rfl) (fun p_3 hF => ?_)
  refine r_istore (i := 14) (Ls' := [(7, _), (6, _), (5, _), (0, _), (1, _), (2, _), (3, _), (4, _)]) rfl (Nat.le_of_ble_eq_true rfl) rfl ?_
  refine r_aload_n (i := 15) (k0 := 3) rfl rfl rfl ?_
  refine r_iload_n (i := 16) (k0 := 6) rfl rfl rfl ?_
  refine r_iload (i := 17) (k0 := 7) rfl rfl ?_
  refine c_V2I (i := 18) rfl vm_M_boxTop lk_M_452 (t_M_boxTop hn (ok_bind hF)) (Nat.le_of_ble_eq_true rfl) (xm_in rfl hn) rfl rfl (Nat.le_of_ble_eq_true rfl) (fun p_4 hF => ?_)
  refine r_istore (i := 19) (Ls' := [(8, _), (7, _), (6, _), (5, _), (0, _), (1, _), (2, _), (3, _), (4, _)]) rfl (Nat.le_of_ble_eq_true rfl) rfl ?_
  refine r_iload (i := 20) (k0 := 3) rfl rfl ?_
  refine r_iload (i := 21) (k0 := 1) rfl rfl ?_
  refine r_bipush (v := 6) (i := 22) rfl kb_6 ?_
  refine r_aload_n (i := 23) (k0 := 4) rfl rfl rfl ?_
  refine q_getr (b := 70) (i := 24) rfl fl_M_87 rfl (xm_in rfl hn) rfl rfl ?_
  refine r_iload_n (i := 25) (k0 := 7) rfl rfl rfl ?_
  obtain ⟨hi, hF⟩ := ok_gd hF
  refine q_iaload (i := 26) rfl (xm_in rfl hn) rfl hi ?_
  refine r_imul (i := 27) rfl ?_
  refine r_iadd (i := 28) rfl ?_
  refine r_icmpge (i := 29) (tgt := 92) rfl (by decide) (fun hc => ?_) (fun hc => ?_)
  · have hF := ok_it hc hF
    refine r_iconst (v := 0) (i := 52) rfl ki_0 ?_
    have hQ := hq _ (ok_some hF)
    exact r_ireturn (i := 53) rfl rfl rfl hQ
  have hF := ok_if hc hF
  refine r_iload (i := 30) (k0 := 1) rfl rfl ?_
  refine r_iload (i := 31) (k0 := 3) rfl rfl ?_
  refine r_bipush (v := 6) (i := 32) rfl kb_6 ?_
  refine r_aload_n (i := 33) (k0 := 4) rfl rfl rfl ?_
  refine q_getr (b := 70) (i := 34) rfl fl_M_87 rfl (xm_in rfl hn) rfl rfl ?_
  refine r_iload_n (i := 35) (k0 := 5) rfl rfl rfl ?_
  obtain ⟨hi, hF⟩ := ok_gd hF
  refine q_iaload (i := 36) rfl (xm_in rfl hn) rfl hi ?_
  refine r_imul (i := 37) rfl ?_
  refine r_iadd (i := 38) rfl ?_
  refine r_icmpge (i := 39) (tgt := 92) rfl (by decide) (fun hc => ?_) (fun hc => ?_)
  · have hF := ok_it hc hF
    refine r_iconst (v := 0) (i := 52) rfl ki_0 ?_
    have hQ := hq _ (ok_some hF)
    exact r_ireturn (i := 53) rfl rfl rfl hQ
  have hF := ok_if hc hF
  refine r_iload (i := 40) (k0 := 2) rfl rfl ?_
  refine r_iload (i := 41) (k0 := 0) rfl rfl ?_
  refine r_bipush (v := 9) (i := 42) rfl kb_9 ?_
  refine r_iadd (i := 43) rfl ?_
  refine r_icmpge (i := 44) (tgt := 92) rfl (by decide) (fun hc => ?_) (fun hc => ?_)
  · have hF := ok_it hc hF
    refine r_iconst (v := 0) (i := 52) rfl ki_0 ?_
    have hQ := hq _ (ok_some hF)
    exact r_ireturn (i := 53) rfl rfl rfl hQ
  have hF := ok_if hc hF
  refine r_iload (i := 45) (k0 := 0) rfl rfl ?_
  refine r_iload (i := 46) (k0 := 2) rfl rfl ?_
  refine r_bipush (v := 9) (i := 47) rfl kb_9 ?_
  refine r_iadd (i := 48) rfl ?_
  refine r_icmpge (i := 49) (tgt := 92) rfl (by decide) (fun hc => ?_) (fun hc => ?_)
  · have hF := ok_it hc hF
    refine r_iconst (v := 0) (i := 52) rfl ki_0 ?_
    have hQ := hq _ (ok_some hF)
    exact r_ireturn (i := 53) rfl rfl rfl hQ
  have hF := ok_if hc hF
  refine r_iconst (v := 1) (i := 50) rfl ki_1 ?_
  refine r_goto (i := 51) (tgt := 93) rfl (by decide) ?_
  have hQ := hq _ (ok_some hF)
  exact r_ireturn (i := 53) rfl rfl rfl hQ
set_option maxHeartbeats 4000000 in
set_option maxRecDepth 100000 in
theorem t_M_meet {x1 : Int32} {x2 : Int32} {x3 : Int32} {x4 : Int32} {n : Nat} {I : xm_I} {L : xm_L} {K : Int32 → Prop} (hn : 86 ≤ n) (hF : ok (f_M_meet x1 x2 x3 x4 I) K) : xm_C 1 mt_M_meet [.ref 49, .int x1, .int x2, .int x3, .int x4] (I, L, RC n, n) 0 0 (pI (fun p : Int32 => p) (fun p : Int32 => (I, L, RC n, n)) K) := by
  unfold f_M_meet at hF
  refine xm_enter (by decide +kernel) dv_M_meet (Nat.le_of_ble_eq_true rfl) ?_
  exact t_M_meet_b0 hn (fun p hp => ⟨p, rfl, rfl, hp⟩) hF
