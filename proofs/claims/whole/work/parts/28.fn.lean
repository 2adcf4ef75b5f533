/-! ===== turned: M_vertex M_face M_view M_less M_isSeen M_gather M_edge M_narrow M_along M_clips M_add M_stroke M_way ===== -/
noncomputable def f_M_vertex_b0 (x1 : Int32) (x2 : Int32) (x3 : Int32) (x4 : Int32) (I : xm_I) : Option (Int32 × xm_I) :=
  (f_M_isSolid x1 I).bind fun p_1 =>
  if p_1 = 0 then (
    some ((-100001), I))
  else (
    (f_M_in (Int32.toInt64 x2) ((-100)) 100).bind fun p_2 =>
    if p_2 = 0 then (
      some ((-100002), I))
    else (
    (f_M_in (Int32.toInt64 x3) ((-100)) 100).bind fun p_3 =>
    if p_3 = 0 then (
      some ((-100002), I))
    else (
    (f_M_in (Int32.toInt64 x4) ((-100)) 100).bind fun p_4 =>
    if p_4 = 0 then (
      some ((-100002), I))
    else (
      gd (0 ≤ (x1).toInt ∧ (x1).toInt < 4) <|
      if (I 63 (Int32.toNatClampNeg x1)) = 12 then (
        some ((-100004), I))
      else (
        gd (0 ≤ (x1).toInt ∧ (x1).toInt < 4) <|
        let x5_5 : Int32 := (36 * x1) + (3 * (I 63 (Int32.toNatClampNeg x1)))
        gd (0 ≤ (x5_5).toInt ∧ (x5_5).toInt < 144) <|
        let I_6 : xm_I := up2 I 64 (Int32.toNatClampNeg x5_5) x2
        gd (0 ≤ (x5_5 + 1).toInt ∧ (x5_5 + 1).toInt < 144) <|
        let I_7 : xm_I := up2 I_6 64 (Int32.toNatClampNeg (x5_5 + 1)) x3
        gd (0 ≤ (x5_5 + 2).toInt ∧ (x5_5 + 2).toInt < 144) <|
        let I_8 : xm_I := up2 I_7 64 (Int32.toNatClampNeg (x5_5 + 2)) x4
        gd (0 ≤ (x1).toInt ∧ (x1).toInt < 4) <|
        gd (0 ≤ (x1).toInt ∧ (x1).toInt < 4) <|
        let I_9 : xm_I := up2 I_8 63 (Int32.toNatClampNeg x1) ((I_8 63 (Int32.toNatClampNeg x1)) + 1)
        gd (0 ≤ (x1).toInt ∧ (x1).toInt < 4) <|
        some ((I_9 63 (Int32.toNatClampNeg x1)) - 1, I_9))))))
noncomputable def f_M_vertex (x1 : Int32) (x2 : Int32) (x3 : Int32) (x4 : Int32) (I : xm_I) : Option (Int32 × xm_I) := f_M_vertex_b0 x1 x2 x3 x4 I
set_option maxHeartbeats 4000000 in
set_option maxRecDepth 100000 in
theorem t_M_vertex_b0 {x1 : Int32} {x2 : Int32} {x3 : Int32} {x4 : Int32} {n : Nat} {I : xm_I} {L : xm_L} {K : Int32 × xm_I → Prop} {Q : Option Value → xm_H → Prop} (hn : 86 ≤ n) (hq : ∀ p : Int32 × xm_I, K p → Q (some (.int p.1)) (p.2, L, RC n, n)) (hF : ok (f_M_vertex_b0 x1 x2 x3 x4 I) K) : xm_J 1 mt_M_vertex 0 [(0, .ref 49), (1, .int x1), (2, .int x2), (3, .int x3), (4, .int x4)] [] (I, L, RC n, n) 0 0 Q := by
  unfold f_M_vertex_b0 at hF
  refine r_aload_n (i := 0) (k0 := 0) rfl rfl rfl ?_
  refine r_iload_n (i := 1) (k0 := 1) rfl rfl rfl ?_
  refine c_V1I (i := 2) rfl vm_M_isSolid lk_M_271 (t_M_isSolid hn (ok_bind hF)) (Nat.le_of_ble_eq_true rfl) (xm_in rfl hn) rfl rfl (Nat.le_of_ble_eq_true rfl) (fun p_1 hF => ?_)
  refine r_ifne (i := 3) (tgt := 11) rfl (by decide) (fun hc => ?_) (fun hc => ?_)
  · have hF := ok_if hc hF
    refine r_iload_n (i := 6) (k0 := 2) rfl rfl rfl ?_
    refine r_i2l (i := 7) rfl ?_
    refine r_ldc2 (i := 8) rfl ct_M_161 ?_
    refine r_ldc2 (i := 9) rfl ct_M_163 ?_
    refine c_S3I (i := 10) rfl sm_M_in lk_M_150 (t_M_in hn (ok_bind hF)) (Nat.le_of_ble_eq_true rfl) rfl (Nat.le_of_ble_eq_true rfl) (fun p_2 hF => ?_)
    refine r_ifeq (i := 11) (tgt := 54) rfl (by decide) (fun hc => ?_) (fun hc => ?_)
    · have hF := ok_it hc hF
      refine r_ldc (i := 24) rfl ct_M_154 ?_
      have hQ := hq _ (ok_some hF)
      exact r_ireturn (i := 25) rfl rfl rfl hQ
    have hF := ok_if hc hF
    refine r_iload_n (i := 12) (k0 := 3) rfl rfl rfl ?_
    refine r_i2l (i := 13) rfl ?_
    refine r_ldc2 (i := 14) rfl ct_M_161 ?_
    refine r_ldc2 (i := 15) rfl ct_M_163 ?_
    refine c_S3I (i := 16) rfl sm_M_in lk_M_150 (t_M_in hn (ok_bind hF)) (Nat.le_of_ble_eq_true rfl) rfl (Nat.le_of_ble_eq_true rfl) (fun p_3 hF => ?_)
    refine r_ifeq (i := 17) (tgt := 54) rfl (by decide) (fun hc => ?_) (fun hc => ?_)
    · have hF := ok_it hc hF
      refine r_ldc (i := 24) rfl ct_M_154 ?_
      have hQ := hq _ (ok_some hF)
      exact r_ireturn (i := 25) rfl rfl rfl hQ
    have hF := ok_if hc hF
    refine r_iload (i := 18) (k0 := 4) rfl rfl ?_
    refine r_i2l (i := 19) rfl ?_
    refine r_ldc2 (i := 20) rfl ct_M_161 ?_
    refine r_ldc2 (i := 21) rfl ct_M_163 ?_
    refine c_S3I (i := 22) rfl sm_M_in lk_M_150 (t_M_in hn (ok_bind hF)) (Nat.le_of_ble_eq_true rfl) rfl (Nat.le_of_ble_eq_true rfl) (fun p_4 hF => ?_)
    refine r_ifne (i := 23) (tgt := 57) rfl (by decide) (fun hc => ?_) (fun hc => ?_)
    · have hF := ok_if hc hF
      refine r_aload_n (i := 26) (k0 := 0) rfl rfl rfl ?_
      refine q_getr (b := 63) (i := 27) rfl fl_M_66 rfl (xm_in rfl hn) rfl rfl ?_
      refine r_iload_n (i := 28) (k0 := 1) rfl rfl rfl ?_
      obtain ⟨hi, hF⟩ := ok_gd hF
      refine q_iaload (i := 29) rfl (xm_in rfl hn) rfl hi ?_
      refine r_bipush (v := 12) (i := 30) rfl kb_12 ?_
      refine r_icmpne (i := 31) (tgt := 71) rfl (by decide) (fun hc => ?_) (fun hc => ?_)
      · have hF := ok_if hc hF
        refine r_bipush (v := 36) (i := 34) rfl kb_36 ?_
        refine r_iload_n (i := 35) (k0 := 1) rfl rfl rfl ?_
        refine r_imul (i := 36) rfl ?_
        refine r_iconst (v := 3) (i := 37) rfl ki_3 ?_
        refine r_aload_n (i := 38) (k0 := 0) rfl rfl rfl ?_
        refine q_getr (b := 63) (i := 39) rfl fl_M_66 rfl (xm_in rfl hn) rfl rfl ?_
        refine r_iload_n (i := 40) (k0 := 1) rfl rfl rfl ?_
        obtain ⟨hi, hF⟩ := ok_gd hF
        refine q_iaload (i := 41) rfl (xm_in rfl hn) rfl hi ?_
        refine r_imul (i := 42) rfl ?_
        refine r_iadd (i := 43) rfl ?_
        refine r_istore (i := 44) (Ls' := [(5, _), (0, _), (1, _), (2, _), (3, _), (4, _)]) rfl (Nat.le_of_ble_eq_true rfl) rfl ?_
        refine r_aload_n (i := 45) (k0 := 1) rfl rfl rfl ?_
        refine q_getr (b := 64) (i := 46) rfl fl_M_69 rfl (xm_in rfl hn) rfl rfl ?_
        refine r_iload (i := 47) (k0 := 0) rfl rfl ?_
        refine r_iload_n (i := 48) (k0 := 3) rfl rfl rfl ?_
        obtain ⟨hi, hF⟩ := ok_gd hF
        refine q_iastore (i := 49) rfl (xm_in rfl hn) rfl hi ?_
        refine r_aload_n (i := 50) (k0 := 1) rfl rfl rfl ?_
        refine q_getr (b := 64) (i := 51) rfl fl_M_69 rfl (xm_in rfl hn) rfl rfl ?_
        refine r_iload (i := 52) (k0 := 0) rfl rfl ?_
        refine r_iconst (v := 1) (i := 53) rfl ki_1 ?_
        refine r_iadd (i := 54) rfl ?_
        refine r_iload_n (i := 55) (k0 := 4) rfl rfl rfl ?_
        obtain ⟨hi, hF⟩ := ok_gd hF
        refine q_iastore (i := 56) rfl (xm_in rfl hn) rfl hi ?_
        refine r_aload_n (i := 57) (k0 := 1) rfl rfl rfl ?_
        refine q_getr (b := 64) (i := 58) rfl fl_M_69 rfl (xm_in rfl hn) rfl rfl ?_
        refine r_iload (i := 59) (k0 := 0) rfl rfl ?_
        refine r_iconst (v := 2) (i := 60) rfl ki_2 ?_
        refine r_iadd (i := 61) rfl ?_
        refine r_iload (i := 62) (k0 := 5) rfl rfl ?_
        obtain ⟨hi, hF⟩ := ok_gd hF
        refine q_iastore (i := 63) rfl (xm_in rfl hn) rfl hi ?_
        refine r_aload_n (i := 64) (k0 := 1) rfl rfl rfl ?_
        refine q_getr (b := 63) (i := 65) rfl fl_M_66 rfl (xm_in rfl hn) rfl rfl ?_
        refine r_iload_n (i := 66) (k0 := 2) rfl rfl rfl ?_
        refine r_dup2 (i := 67) rfl rfl rfl ?_
        obtain ⟨hi, hF⟩ := ok_gd hF
        refine q_iaload (i := 68) rfl (xm_in rfl hn) rfl hi ?_
        refine r_iconst (v := 1) (i := 69) rfl ki_1 ?_
        refine r_iadd (i := 70) rfl ?_
        obtain ⟨hi, hF⟩ := ok_gd hF
        refine q_iastore (i := 71) rfl (xm_in rfl hn) rfl hi ?_
        refine r_aload_n (i := 72) (k0 := 1) rfl rfl rfl ?_
        refine q_getr (b := 63) (i := 73) rfl fl_M_66 rfl (xm_in rfl hn) rfl rfl ?_
        refine r_iload_n (i := 74) (k0 := 2) rfl rfl rfl ?_
        obtain ⟨hi, hF⟩ := ok_gd hF
        refine q_iaload (i := 75) rfl (xm_in rfl hn) rfl hi ?_
        refine r_iconst (v := 1) (i := 76) rfl ki_1 ?_
        refine r_isub (i := 77) rfl ?_
        have hQ := hq _ (ok_some hF)
        exact r_ireturn (i := 78) rfl rfl rfl hQ
      have hF := ok_it hc hF
      refine r_ldc (i := 32) rfl ct_M_155 ?_
      have hQ := hq _ (ok_some hF)
      exact r_ireturn (i := 33) rfl rfl rfl hQ
    have hF := ok_it hc hF
    refine r_ldc (i := 24) rfl ct_M_154 ?_
    have hQ := hq _ (ok_some hF)
    exact r_ireturn (i := 25) rfl rfl rfl hQ
  have hF := ok_it hc hF
  refine r_ldc (i := 4) rfl ct_M_160 ?_
  have hQ := hq _ (ok_some hF)
  exact r_ireturn (i := 5) rfl rfl rfl hQ
set_option maxHeartbeats 4000000 in
set_option maxRecDepth 100000 in
theorem t_M_vertex {x1 : Int32} {x2 : Int32} {x3 : Int32} {x4 : Int32} {n : Nat} {I : xm_I} {L : xm_L} {K : Int32 × xm_I → Prop} (hn : 86 ≤ n) (hF : ok (f_M_vertex x1 x2 x3 x4 I) K) : xm_C 1 mt_M_vertex [.ref 49, .int x1, .int x2, .int x3, .int x4] (I, L, RC n, n) 0 0 (pI (fun p : Int32 × xm_I => p.1) (fun p : Int32 × xm_I => (p.2, L, RC n, n)) K) := by
  unfold f_M_vertex at hF
  refine xm_enter (by decide +kernel) dv_M_vertex (Nat.le_of_ble_eq_true rfl) ?_
  exact t_M_vertex_b0 hn (fun p hp => ⟨p, rfl, rfl, hp⟩) hF

noncomputable def f_M_face_s172 (x1 : Int32) (x2 : Int32) (x3 : Int32) (x7 : Int32) (s : Int32 × xm_I) : Option ((Int32 × xm_I) ⊕ (Int32 × xm_I)) :=
  if x2 ≤ s.1 then (
    gd (0 ≤ (x1).toInt ∧ (x1).toInt < 4) <|
    gd (0 ≤ (x1).toInt ∧ (x1).toInt < 4) <|
    let I_1 : xm_I := up2 s.2 65 (Int32.toNatClampNeg x1) ((s.2 65 (Int32.toNatClampNeg x1)) + 1)
    gd (0 ≤ (x1).toInt ∧ (x1).toInt < 4) <|
    some (.inr (I_1 65 (Int32.toNatClampNeg x1), I_1)))
  else (
  gd (0 ≤ ((6 * x7) + s.1).toInt ∧ ((6 * x7) + s.1).toInt < 240) <|
  let I_2 : xm_I := up2 s.2 67 (Int32.toNatClampNeg ((6 * x7) + s.1)) ((x3 >>> ((4 * s.1) &&& 31)) &&& 15)
  let x8_3 : Int32 := s.1 + 1
  some (.inl (x8_3, I_2)))
noncomputable def f_M_face_b172 (x1 : Int32) (x2 : Int32) (x3 : Int32) (x7 : Int32) (s : Int32 × xm_I) : Option (Int32 × xm_I) := lp (f_M_face_s172 x1 x2 x3 x7) s
noncomputable def f_M_face_b101 (x1 : Int32) (x2 : Int32) (x3 : Int32) (x5 : Int32) (x6 : Int32) (x7 : Int32) (x8 : Int32) (y0 : Int32) (I : xm_I) : Option ((Int32 × Int32 × Int32 × Int32) ⊕ (Int32 × xm_I)) :=
  let x6_1 : Int32 := x6 ||| (1 <<< (x8 &&& 31))
  let x7_2 : Int32 := x7 + 1
  some (.inl (y0, x5, x6_1, x7_2))
noncomputable def f_M_face_b96 (x1 : Int32) (x2 : Int32) (x3 : Int32) (x5 : Int32) (x6 : Int32) (x7 : Int32) (x8 : Int32) (I : xm_I) : Option ((Int32 × Int32 × Int32 × Int32) ⊕ (Int32 × xm_I)) :=
  f_M_face_b101 x1 x2 x3 x5 x6 x7 x8 1 I
noncomputable def f_M_face_b78 (x1 : Int32) (x2 : Int32) (x3 : Int32) (x4 : Int32) (x6 : Int32) (x7 : Int32) (x8 : Int32) (y0 : Int32) (I : xm_I) : Option ((Int32 × Int32 × Int32 × Int32) ⊕ (Int32 × xm_I)) :=
  if x4 = 0 then (
    if ((x6 >>> (x8 &&& 31)) &&& 1) = 1 then (
      f_M_face_b96 x1 x2 x3 y0 x6 x7 x8 I)
    else (
      f_M_face_b101 x1 x2 x3 y0 x6 x7 x8 0 I))
  else (
    f_M_face_b96 x1 x2 x3 y0 x6 x7 x8 I)
noncomputable def f_M_face_b77 (x1 : Int32) (x2 : Int32) (x3 : Int32) (x4 : Int32) (x6 : Int32) (x7 : Int32) (x8 : Int32) (I : xm_I) : Option ((Int32 × Int32 × Int32 × Int32) ⊕ (Int32 × xm_I)) :=
  f_M_face_b78 x1 x2 x3 x4 x6 x7 x8 0 I
noncomputable def f_M_face_s40 (x1 : Int32) (x2 : Int32) (x3 : Int32) (I : xm_I) (s : Int32 × Int32 × Int32 × Int32) : Option ((Int32 × Int32 × Int32 × Int32) ⊕ (Int32 × xm_I)) :=
  if x2 ≤ s.2.2.2 then (
    if s.2.1 = 0 then (
      some (.inr ((-100001), I)))
    else (
      if s.1 = 0 then (
        gd (0 ≤ (x1).toInt ∧ (x1).toInt < 4) <|
        if (I 65 (Int32.toNatClampNeg x1)) = 10 then (
          some (.inr ((-100004), I)))
        else (
          gd (0 ≤ (x1).toInt ∧ (x1).toInt < 4) <|
          let x7_1 : Int32 := (10 * x1) + (I 65 (Int32.toNatClampNeg x1))
          gd (0 ≤ (x7_1).toInt ∧ (x7_1).toInt < 40) <|
          let I_2 : xm_I := up2 I 66 (Int32.toNatClampNeg x7_1) x2
          (f_M_face_b172 x1 x2 x3 x7_1 (0, I_2)).map .inr))
      else (
      some (.inr ((-100003), I)))))
  else (
  let x8_3 : Int32 := (x3 >>> ((4 * s.2.2.2) &&& 31)) &&& 15
  if s.2.1 = 0 then (
    f_M_face_b77 x1 x2 x3 s.1 s.2.2.1 s.2.2.2 x8_3 I)
  else (
  gd (0 ≤ (x1).toInt ∧ (x1).toInt < 4) <|
  if (I 63 (Int32.toNatClampNeg x1)) ≤ x8_3 then (
    f_M_face_b77 x1 x2 x3 s.1 s.2.2.1 s.2.2.2 x8_3 I)
  else (
  f_M_face_b78 x1 x2 x3 s.1 s.2.2.1 s.2.2.2 x8_3 1 I)))
noncomputable def f_M_face_b40 (x1 : Int32) (x2 : Int32) (x3 : Int32) (I : xm_I) (s : Int32 × Int32 × Int32 × Int32) : Option (Int32 × xm_I) := lp (f_M_face_s40 x1 x2 x3 I) s
noncomputable def f_M_face_b0 (x1 : Int32) (x2 : Int32) (x3 : Int32) (I : xm_I) : Option (Int32 × xm_I) :=
  (f_M_isSolid x1 I).bind fun p_1 =>
  if p_1 = 0 then (
    some ((-100001), I))
  else (
    (f_M_in (Int32.toInt64 x2) 3 6).bind fun p_2 =>
    if p_2 = 0 then (
      some ((-100002), I))
    else (
      f_M_face_b40 x1 x2 x3 I (0, 1, 0, 0)))
noncomputable def f_M_face (x1 : Int32) (x2 : Int32) (x3 : Int32) (I : xm_I) : Option (Int32 × xm_I) := f_M_face_b0 x1 x2 x3 I
set_option maxHeartbeats 4000000 in
set_option maxRecDepth 100000 in
theorem t_M_face_s172 {x1 : Int32} {x2 : Int32} {x3 : Int32} {x7 : Int32} {s : Int32 × xm_I} {n : Nat} {L : xm_L} {K : (Int32 × xm_I) ⊕ (Int32 × xm_I) → Prop} {Q : Option Value → xm_H → Prop} (hn : 86 ≤ n) (hq : ∀ p : Int32 × xm_I, K (.inr p) → Q (some (.int p.1)) (p.2, L, RC n, n)) (hg0 : ∀ s : Int32 × xm_I, K (.inl s) → xm_J 1 mt_M_face 172 [(0, .ref 49), (1, .int x1), (2, .int x2), (3, .int x3), (7, .int x7), (8, .int s.1)] [] (s.2, L, RC n, n) 0 0 Q) (hF : ok (f_M_face_s172 x1 x2 x3 x7 s) K) : xm_J 1 mt_M_face 172 [(0, .ref 49), (1, .int x1), (2, .int x2), (3, .int x3), (7, .int x7), (8, .int s.1)] [] (s.2, L, RC n, n) 0 0 Q := by
  unfold f_M_face_s172 at hF
  refine r_iload (i := 98) (k0 := 5) rfl rfl ?_
  refine r_iload_n (i := 99) (k0 := 2) rfl rfl rfl ?_
  refine r_icmpge (i := 100) (tgt := 206) rfl (by decide) (fun hc => ?_) (fun hc => ?_)
  · have hF := ok_it hc hF
    refine r_aload_n (i := 118) (k0 := 0) rfl rfl rfl ?_
    refine q_getr (b := 65) (i := 119) rfl fl_M_72 rfl (xm_in rfl hn) rfl rfl ?_
    refine r_iload_n (i := 120) (k0 := 1) rfl rfl rfl ?_
    refine r_dup2 (i := 121) rfl rfl rfl ?_
    obtain ⟨hi, hF⟩ := ok_gd hF
    refine q_iaload (i := 122) rfl (xm_in rfl hn) rfl hi ?_
    refine r_iconst (v := 1) (i := 123) rfl ki_1 ?_
    refine r_iadd (i := 124) rfl ?_
    obtain ⟨hi, hF⟩ := ok_gd hF
    refine q_iastore (i := 125) rfl (xm_in rfl hn) rfl hi ?_
    refine r_aload_n (i := 126) (k0 := 0) rfl rfl rfl ?_
    refine q_getr (b := 65) (i := 127) rfl fl_M_72 rfl (xm_in rfl hn) rfl rfl ?_
    refine r_iload_n (i := 128) (k0 := 1) rfl rfl rfl ?_
    obtain ⟨hi, hF⟩ := ok_gd hF
    refine q_iaload (i := 129) rfl (xm_in rfl hn) rfl hi ?_
    have hQ := hq _ (ok_some hF)
    exact r_ireturn (i := 130) rfl rfl rfl hQ
  have hF := ok_if hc hF
  refine r_aload_n (i := 101) (k0 := 0) rfl rfl rfl ?_
  refine q_getr (b := 67) (i := 102) rfl fl_M_78 rfl (xm_in rfl hn) rfl rfl ?_
  refine r_bipush (v := 6) (i := 103) rfl kb_6 ?_
  refine r_iload (i := 104) (k0 := 4) rfl rfl ?_
  refine r_imul (i := 105) rfl ?_
  refine r_iload (i := 106) (k0 := 5) rfl rfl ?_
  refine r_iadd (i := 107) rfl ?_
  refine r_iload_n (i := 108) (k0 := 3) rfl rfl rfl ?_
  refine r_iconst (v := 4) (i := 109) rfl ki_4 ?_
  refine r_iload (i := 110) (k0 := 5) rfl rfl ?_
  refine r_imul (i := 111) rfl ?_
  refine r_ishr (i := 112) rfl ?_
  refine r_bipush (v := 15) (i := 113) rfl kb_15 ?_
  refine r_iand (i := 114) rfl ?_
  obtain ⟨hi, hF⟩ := ok_gd hF
  refine q_iastore (i := 115) rfl (xm_in rfl hn) rfl hi ?_
  refine q_iinc (i := 116) (k0 := 5) (Ls' := [(8, _), (0, _), (1, _), (2, _), (3, _), (7, _)]) rfl ki_1 rfl (Nat.le_of_ble_eq_true rfl) rfl ?_
  refine r_goto (i := 117) (tgt := 172) rfl (by decide) ?_
  refine xm_sub (Ls' := [(0, _), (1, _), (2, _), (3, _), (7, _), (8, _)]) [1, 2, 3, 4, 5, 0] rfl ?_
  have hJ := hg0 _ (ok_some hF)
  exact hJ
set_option maxHeartbeats 4000000 in
set_option maxRecDepth 100000 in
theorem t_M_face_b172 {x1 : Int32} {x2 : Int32} {x3 : Int32} {x7 : Int32} {s : Int32 × xm_I} {n : Nat} {L : xm_L} {K : Int32 × xm_I → Prop} {Q : Option Value → xm_H → Prop} (hn : 86 ≤ n) (hq : ∀ p : Int32 × xm_I, K p → Q (some (.int p.1)) (p.2, L, RC n, n)) (hF : ok (f_M_face_b172 x1 x2 x3 x7 s) K) : xm_J 1 mt_M_face 172 [(0, .ref 49), (1, .int x1), (2, .int x2), (3, .int x3), (7, .int x7), (8, .int s.1)] [] (s.2, L, RC n, n) 0 0 Q :=
  lp_J (G := fun z => xm_J 1 mt_M_face 172 [(0, .ref 49), (1, .int x1), (2, .int x2), (3, .int x3), (7, .int x7), (8, .int z.1)] [] (z.2, L, RC n, n) 0 0 Q) (fun z hF => t_M_face_s172 hn (fun p h => hq p h) (fun z h => h) hF) s hF
set_option maxHeartbeats 4000000 in
set_option maxRecDepth 100000 in
theorem t_M_face_b101 {x1 : Int32} {x2 : Int32} {x3 : Int32} {x5 : Int32} {x6 : Int32} {x7 : Int32} {x8 : Int32} {y0 : Int32} {n : Nat} {I : xm_I} {L : xm_L} {K : (Int32 × Int32 × Int32 × Int32) ⊕ (Int32 × xm_I) → Prop} {Q : Option Value → xm_H → Prop} (hn : 86 ≤ n) (hq : ∀ p : Int32 × xm_I, K (.inr p) → Q (some (.int p.1)) (p.2, L, RC n, n)) (hg0 : ∀ s : Int32 × Int32 × Int32 × Int32, K (.inl s) → xm_J 1 mt_M_face 40 [(0, .ref 49), (1, .int x1), (2, .int x2), (3, .int x3), (4, .int s.1), (5, .int s.2.1), (6, .int s.2.2.1), (7, .int s.2.2.2)] [] (I, L, RC n, n) 0 0 Q) (hF : ok (f_M_face_b101 x1 x2 x3 x5 x6 x7 x8 y0 I) K) : xm_J 1 mt_M_face 101 [(0, .ref 49), (1, .int x1), (2, .int x2), (3, .int x3), (5, .int x5), (6, .int x6), (7, .int x7), (8, .int x8)] [.int y0] (I, L, RC n, n) 0 0 Q := by
  unfold f_M_face_b101 at hF
  refine r_istore (i := 57) (Ls' := [(4, _), (0, _), (1, _), (2, _), (3, _), (5, _), (6, _), (7, _), (8, _)]) rfl (Nat.le_of_ble_eq_true rfl) rfl ?_
  refine r_iload (i := 58) (k0 := 6) rfl rfl ?_
  refine r_iconst (v := 1) (i := 59) rfl ki_1 ?_
  refine r_iload (i := 60) (k0 := 8) rfl rfl ?_
  refine r_ishl (i := 61) rfl ?_
  refine r_ior (i := 62) rfl ?_
  refine r_istore (i := 63) (Ls' := [(6, _), (4, _), (0, _), (1, _), (2, _), (3, _), (5, _), (7, _), (8, _)]) rfl (Nat.le_of_ble_eq_true rfl) rfl ?_
  refine q_iinc (i := 64) (k0 := 7) (Ls' := [(7, _), (6, _), (4, _), (0, _), (1, _), (2, _), (3, _), (5, _), (8, _)]) rfl ki_1 rfl (Nat.le_of_ble_eq_true rfl) rfl ?_
  refine r_goto (i := 65) (tgt := 40) rfl (by decide) ?_
  refine xm_sub (Ls' := [(0, _), (1, _), (2, _), (3, _), (4, _), (5, _), (6, _), (7, _)]) [3, 4, 5, 6, 2, 7, 1, 0] rfl ?_
  have hJ := hg0 _ (ok_some hF)
  exact hJ
set_option maxHeartbeats 4000000 in
set_option maxRecDepth 100000 in
theorem t_M_face_b96 {x1 : Int32} {x2 : Int32} {x3 : Int32} {x5 : Int32} {x6 : Int32} {x7 : Int32} {x8 : Int32} {n : Nat} {I : xm_I} {L : xm_L} {K : (Int32 × Int32 × Int32 × Int32) ⊕ (Int32 × xm_I) → Prop} {Q : Option Value → xm_H → Prop} (hn : 86 ≤ n) (hq : ∀ p : Int32 × xm_I, K (.inr p) → Q (some (.int p.1)) (p.2, L, RC n, n)) (hg0 : ∀ s : Int32 × Int32 × Int32 × Int32, K (.inl s) → xm_J 1 mt_M_face 40 [(0, .ref 49), (1, .int x1), (2, .int x2), (3, .int x3), (4, .int s.1), (5, .int s.2.1), (6, .int s.2.2.1), (7, .int s.2.2.2)] [] (I, L, RC n, n) 0 0 Q) (hF : ok (f_M_face_b96 x1 x2 x3 x5 x6 x7 x8 I) K) : xm_J 1 mt_M_face 96 [(0, .ref 49), (1, .int x1), (2, .int x2), (3, .int x3), (5, .int x5), (6, .int x6), (7, .int x7), (8, .int x8)] [] (I, L, RC n, n) 0 0 Q := by
  unfold f_M_face_b96 at hF
  refine r_iconst (v := 1) (i := 54) rfl ki_1 ?_
  refine r_goto (i := 55) (tgt := 101) rfl (by decide) ?_
  exact t_M_face_b101 hn (fun p h => hq p h) (fun z h => hg0 z h) hF
set_option maxHeartbeats 4000000 in
set_option maxRecDepth 100000 in
theorem t_M_face_b78 {x1 : Int32} {x2 : Int32} {x3 : Int32} {x4 : Int32} {x6 : Int32} {x7 : Int32} {x8 : Int32} {y0 : Int32} {n : Nat} {I : xm_I} {L : xm_L} {K : (Int32 × Int32 × Int32 × Int32) ⊕ (Int32 × xm_I) → Prop} {Q : Option Value → xm_H → Prop} (hn : 86 ≤ n) (hq : ∀ p : Int32 × xm_I, K (.inr p) → Q (some (.int p.1)) (p.2, L, RC n, n)) (hg0 : ∀ s : Int32 × Int32 × Int32 × Int32, K (.inl s) → xm_J 1 mt_M_face 40 [(0, .ref 49), (1, .int x1), (2, .int x2), (3, .int x3), (4, .int s.1), (5, .int s.2.1), (6, .int s.2.2.1), (7, .int s.2.2.2)] [] (I, L, RC n, n) 0 0 Q) (hF : ok (f_M_face_b78 x1 x2 x3 x4 x6 x7 x8 y0 I) K) : xm_J 1 mt_M_face 78 [(0, .ref 49), (1, .int x1), (2, .int x2), (3, .int x3), (4, .int x4), (6, .int x6), (7, .int x7), (8, .int x8)] [.int y0] (I, L, RC n, n) 0 0 Q := by
  unfold f_M_face_b78 at hF
  refine r_istore (i := 44) (Ls' := [(5, _), (0, _), (1, _), (2, _), (3, _), (4, _), (6, _), (7, _), (8, _)]) rfl (Nat.le_of_ble_eq_true rfl) rfl ?_
  refine r_iload (i := 45) (k0 := 5) rfl rfl ?_
  refine r_ifne (i := 46) (tgt := 96) rfl (by decide) (fun hc => ?_) (fun hc => ?_)
  · have hF := ok_if hc hF
    refine xm_sub (Ls' := [(0, _), (1, _), (2, _), (3, _), (5, _), (6, _), (7, _), (8, _)]) [1, 2, 3, 4, 0, 6, 7, 8] rfl ?_
    exact t_M_face_b96 hn (fun p h => hq p h) (fun z h => hg0 z h) hF
  have hF := ok_it hc hF
  refine r_iload (i := 47) (k0 := 6) rfl rfl ?_
  refine r_iload (i := 48) (k0 := 8) rfl rfl ?_
  refine r_ishr (i := 49) rfl ?_
  refine r_iconst (v := 1) (i := 50) rfl ki_1 ?_
  refine r_iand (i := 51) rfl ?_
  refine r_iconst (v := 1) (i := 52) rfl ki_1 ?_
  refine r_icmpne (i := 53) (tgt := 100) rfl (by decide) (fun hc => ?_) (fun hc => ?_)
  · have hF := ok_if hc hF
    refine r_iconst (v := 0) (i := 56) rfl ki_0 ?_
    refine xm_sub (Ls' := [(0, _), (1, _), (2, _), (3, _), (5, _), (6, _), (7, _), (8, _)]) [1, 2, 3, 4, 0, 6, 7, 8] rfl ?_
    exact t_M_face_b101 hn (fun p h => hq p h) (fun z h => hg0 z h) hF
  have hF := ok_it hc hF
  refine xm_sub (Ls' := [(0, _), (1, _), (2, _), (3, _), (5, _), (6, _), (7, _), (8, _)]) [1, 2, 3, 4, 0, 6, 7, 8] rfl ?_
  exact t_M_face_b96 hn (fun p h => hq p h) (fun z h => hg0 z h) hF
set_option maxHeartbeats 4000000 in
set_option maxRecDepth 100000 in
theorem t_M_face_b77 {x1 : Int32} {x2 : Int32} {x3 : Int32} {x4 : Int32} {x6 : Int32} {x7 : Int32} {x8 : Int32} {n : Nat} {I : xm_I} {L : xm_L} {K : (Int32 × Int32 × Int32 × Int32) ⊕ (Int32 × xm_I) → Prop} {Q : Option Value → xm_H → Prop} (hn : 86 ≤ n) (hq : ∀ p : Int32 × xm_I, K (.inr p) → Q (some (.int p.1)) (p.2, L, RC n, n)) (hg0 : ∀ s : Int32 × Int32 × Int32 × Int32, K (.inl s) → xm_J 1 mt_M_face 40 [(0, .ref 49), (1, .int x1), (2, .int x2), (3, .int x3), (4, .int s.1), (5, .int s.2.1), (6, .int s.2.2.1), (7, .int s.2.2.2)] [] (I, L, RC n, n) 0 0 Q) (hF : ok (f_M_face_b77 x1 x2 x3 x4 x6 x7 x8 I) K) : xm_J 1 mt_M_face 77 [(0, .ref 49), (1, .int x1), (2, .int x2), (3, .int x3), (4, .int x4), (6, .int x6), (7, .int x7), (8, .int x8)] [] (I, L, RC n, n) 0 0 Q := by
  unfold f_M_face_b77 at hF
  refine r_iconst (v := 0) (i := 43) rfl ki_0 ?_
  exact t_M_face_b78 hn (fun p h => hq p h) (fun z h => hg0 z h) hF
set_option maxHeartbeats 4000000 in
set_option maxRecDepth 100000 in
theorem t_M_face_s40 {x1 : Int32} {x2 : Int32} {x3 : Int32} {s : Int32 × Int32 × Int32 × Int32} {n : Nat} {I : xm_I} {L : xm_L} {K : (Int32 × Int32 × Int32 × Int32) ⊕ (Int32 × xm_I) → Prop} {Q : Option Value → xm_H → Prop} (hn : 86 ≤ n) (hq : ∀ p : Int32 × xm_I, K (.inr p) → Q (some (.int p.1)) (p.2, L, RC n, n)) (hg0 : ∀ s : Int32 × Int32 × Int32 × Int32, K (.inl s) → xm_J 1 mt_M_face 40 [(0, .ref 49), (1, .int x1), (2, .int x2), (3, .int x3), (4, .int s.1), (5, .int s.2.1), (6, .int s.2.2.1), (7, .int s.2.2.2)] [] (I, L, RC n, n) 0 0 Q) (hF : ok (f_M_face_s40 x1 x2 x3 I s) K) : xm_J 1 mt_M_face 40 [(0, .ref 49), (1, .int x1), (2, .int x2), (3, .int x3), (4, .int s.1), (5, .int s.2.1), (6, .int s.2.2.1), (7, .int s.2.2.2)] [] (I, L, RC n, n) 0 0 Q := by
  unfold f_M_face_s40 at hF
  refine r_iload (i := 22) (k0 := 7) rfl rfl ?_
  refine r_iload_n (i := 23) (k0 := 2) rfl rfl rfl ?_
  refine r_icmpge (i := 24) (tgt := 118) rfl (by decide) (fun hc => ?_) (fun hc => ?_)
  · have hF := ok_it hc hF
    refine r_iload (i := 66) (k0 := 5) rfl rfl ?_
    refine r_ifne (i := 67) (tgt := 126) rfl (by decide) (fun hc => ?_) (fun hc => ?_)
    · have hF := ok_if hc hF
      refine r_iload (i := 70) (k0 := 4) rfl rfl ?_
      refine r_ifeq (i := 71) (tgt := 134) rfl (by decide) (fun hc => ?_) (fun hc => ?_)
      · have hF := ok_it hc hF
        refine r_aload_n (i := 74) (k0 := 0) rfl rfl rfl ?_
        refine q_getr (b := 65) (i := 75) rfl fl_M_72 rfl (xm_in rfl hn) rfl rfl ?_
        refine r_iload_n (i := 76) (k0 := 1) rfl rfl rfl ?_
        obtain ⟨hi, hF⟩ := ok_gd hF
        refine q_iaload (i := 77) rfl (xm_in rfl hn) rfl hi ?_
        refine r_bipush (v := 10) (i := 78) rfl kb_10 ?_
        refine r_icmpne (i := 79) (tgt := 148) rfl (by decide) (fun hc => ?_) (fun hc => ?_)
        · have hF := ok_if hc hF
          refine r_bipush (v := 10) (i := 82) rfl kb_10 ?_
          refine r_iload_n (i := 83) (k0 := 1) rfl rfl rfl ?_
          refine r_imul (i := 84) rfl ?_
          refine r_aload_n (i := 85) (k0 := 0) rfl rfl rfl ?_
          refine q_getr (b := 65) (i := 86) rfl fl_M_72 rfl (xm_in rfl hn) rfl rfl ?_
          refine r_iload_n (i := 87) (k0 := 1) rfl rfl rfl ?_
          obtain ⟨hi, hF⟩ := ok_gd hF
          refine q_iaload (i := 88) rfl (xm_in rfl hn) rfl hi ?_
          refine r_iadd (i := 89) rfl ?_
          refine r_istore (i := 90) (Ls' := [(7, _), (0, _), (1, _), (2, _), (3, _), (4, _), (5, _), (6, _)]) rfl (Nat.le_of_ble_eq_true rfl) rfl ?_
          refine r_aload_n (i := 91) (k0 := 1) rfl rfl rfl ?_
          refine q_getr (b := 66) (i := 92) rfl fl_M_75 rfl (xm_in rfl hn) rfl rfl ?_
          refine r_iload (i := 93) (k0 := 0) rfl rfl ?_
          refine r_iload_n (i := 94) (k0 := 3) rfl rfl rfl ?_
          obtain ⟨hi, hF⟩ := ok_gd hF
          refine q_iastore (i := 95) rfl (xm_in rfl hn) rfl hi ?_
          refine r_iconst (v := 0) (i := 96) rfl ki_0 ?_
          refine r_istore (i := 97) (Ls' := [(8, _), (7, _), (0, _), (1, _), (2, _), (3, _), (4, _), (5, _), (6, _)]) rfl (Nat.le_of_ble_eq_true rfl) rfl ?_
          refine xm_sub (Ls' := [(0, _), (1, _), (2, _), (3, _), (7, _), (8, _)]) [2, 3, 4, 5, 1, 0] rfl ?_
          exact t_M_face_b172 hn (fun p h => hq p h) (ok_map hF)
        have hF := ok_it hc hF
        refine r_ldc (i := 80) rfl ct_M_155 ?_
        have hQ := hq _ (ok_some hF)
        exact r_ireturn (i := 81) rfl rfl rfl hQ
      have hF := ok_if hc hF
      refine r_ldc (i := 72) rfl ct_M_185 ?_
      have hQ := hq _ (ok_some hF)
      exact r_ireturn (i := 73) rfl rfl rfl hQ
    have hF := ok_it hc hF
    refine r_ldc (i := 68) rfl ct_M_160 ?_
    have hQ := hq _ (ok_some hF)
    exact r_ireturn (i := 69) rfl rfl rfl hQ
  have hF := ok_if hc hF
  refine r_iload_n (i := 25) (k0 := 3) rfl rfl rfl ?_
  refine r_iconst (v := 4) (i := 26) rfl ki_4 ?_
  refine r_iload (i := 27) (k0 := 7) rfl rfl ?_
  refine r_imul (i := 28) rfl ?_
  refine r_ishr (i := 29) rfl ?_
  refine r_bipush (v := 15) (i := 30) rfl kb_15 ?_
  refine r_iand (i := 31) rfl ?_
  refine r_istore (i := 32) (Ls' := [(8, _), (0, _), (1, _), (2, _), (3, _), (4, _), (5, _), (6, _), (7, _)]) rfl (Nat.le_of_ble_eq_true rfl) rfl ?_
  refine r_iload (i := 33) (k0 := 6) rfl rfl ?_
  refine r_ifeq (i := 34) (tgt := 77) rfl (by decide) (fun hc => ?_) (fun hc => ?_)
  · have hF := ok_it hc hF
    refine xm_sub (Ls' := [(0, _), (1, _), (2, _), (3, _), (4, _), (6, _), (7, _), (8, _)]) [1, 2, 3, 4, 5, 7, 8, 0] rfl ?_
    exact t_M_face_b77 hn (fun p h => hq p h) (fun z h => hg0 z h) hF
  have hF := ok_if hc hF
  refine r_iload (i := 35) (k0 := 0) rfl rfl ?_
  refine r_aload_n (i := 36) (k0 := 1) rfl rfl rfl ?_
  refine q_getr (b := 63) (i := 37) rfl fl_M_66 rfl (xm_in rfl hn) rfl rfl ?_
  refine r_iload_n (i := 38) (k0 := 2) rfl rfl rfl ?_
  obtain ⟨hi, hF⟩ := ok_gd hF
  refine q_iaload (i := 39) rfl (xm_in rfl hn) rfl hi ?_
  refine r_icmpge (i := 40) (tgt := 77) rfl (by decide) (fun hc => ?_) (fun hc => ?_)
  · have hF := ok_it hc hF
    refine xm_sub (Ls' := [(0, _), (1, _), (2, _), (3, _), (4, _), (6, _), (7, _), (8, _)]) [1, 2, 3, 4, 5, 7, 8, 0] rfl ?_
    exact t_M_face_b77 hn (fun p h => hq p h) (fun z h => hg0 z h) hF
  have hF := ok_if hc hF
  refine r_iconst (v := 1) (i := 41) rfl ki_1 ?_
  refine r_goto (i := 42) (tgt := 78) rfl (by decide) ?_
  refine xm_sub (Ls' := [(0, _), (1, _), (2, _), (3, _), (4, _), (6, _), (7, _), (8, _)]) [1, 2, 3, 4, 5, 7, 8, 0] rfl ?_
  exact t_M_face_b78 hn (fun p h => hq p h) (fun z h => hg0 z h) hF
set_option maxHeartbeats 4000000 in
set_option maxRecDepth 100000 in
theorem t_M_face_b40 {x1 : Int32} {x2 : Int32} {x3 : Int32} {s : Int32 × Int32 × Int32 × Int32} {n : Nat} {I : xm_I} {L : xm_L} {K : Int32 × xm_I → Prop} {Q : Option Value → xm_H → Prop} (hn : 86 ≤ n) (hq : ∀ p : Int32 × xm_I, K p → Q (some (.int p.1)) (p.2, L, RC n, n)) (hF : ok (f_M_face_b40 x1 x2 x3 I s) K) : xm_J 1 mt_M_face 40 [(0, .ref 49), (1, .int x1), (2, .int x2), (3, .int x3), (4, .int s.1), (5, .int s.2.1), (6, .int s.2.2.1), (7, .int s.2.2.2)] [] (I, L, RC n, n) 0 0 Q :=
  lp_J (G := fun z => xm_J 1 mt_M_face 40 [(0, .ref 49), (1, .int x1), (2, .int x2), (3, .int x3), (4, .int z.1), (5, .int z.2.1), (6, .int z.2.2.1), (7, .int z.2.2.2)] [] (I, L, RC n, n) 0 0 Q) (fun z hF => t_M_face_s40 hn (fun p h => hq p h) (fun z h => h) hF) s hF
set_option maxHeartbeats 4000000 in
set_option maxRecDepth 100000 in
theorem t_M_face_b0 {x1 : Int32} {x2 : Int32} {x3 : Int32} {n : Nat} {I : xm_I} {L : xm_L} {K : Int32 × xm_I → Prop} {Q : Option Value → xm_H → Prop} (hn : 86 ≤ n) (hq : ∀ p : Int32 × xm_I, K p → Q (some (.int p.1)) (p.2, L, RC n, n)) (hF : ok (f_M_face_b0 x1 x2 x3 I) K) : xm_J 1 mt_M_face 0 [(0, .ref 49), (1, .int x1), (2, .int x2), (3, .int x3)] [] (I, L, RC n, n) 0 0 Q := by
  unfold f_M_face_b0 at hF
  refine r_aload_n (i := 0) (k0 := 0) rfl rfl rfl ?_
  refine r_iload_n (i := 1) (k0 := 1) rfl rfl rfl ?_
  refine c_V1I (i := 2) rfl vm_M_isSolid lk_M_271 (t_M_isSolid hn (ok_bind hF)) (Nat.le_of_ble_eq_true rfl) (xm_in rfl hn) rfl rfl (Nat.le_of_ble_eq_true rfl) (fun p_1 hF => ?_)
  refine r_ifne (i := 3) (tgt := 11) rfl (by decide) (fun hc => ?_) (fun hc => ?_)
  · have hF := ok_if hc hF
    refine r_iload_n (i := 6) (k0 := 2) rfl rfl rfl ?_
    refine r_i2l (i := 7) rfl ?_
    refine r_ldc2 (i := 8) rfl ct_M_180 ?_
    refine r_ldc2 (i := 9) rfl ct_M_175 ?_
    refine c_S3I (i := 10) rfl sm_M_in lk_M_150 (t_M_in hn (ok_bind hF)) (Nat.le_of_ble_eq_true rfl) rfl (Nat.le_of_ble_eq_true rfl) (fun p_2 hF => ?_)
    refine r_ifne (i := 11) (tgt := 28) rfl (by decide) (fun hc => ?_) (fun hc => ?_)
    · have hF := ok_if hc hF
      refine r_iconst (v := 0) (i := 14) rfl ki_0 ?_
      refine r_istore (i := 15) (Ls' := [(4, _), (0, _), (1, _), (2, _), (3, _)]) rfl (Nat.le_of_ble_eq_true rfl) rfl ?_
      refine r_iconst (v := 1) (i := 16) rfl ki_1 ?_
      refine r_istore (i := 17) (Ls' := [(5, _), (4, _), (0, _), (1, _), (2, _), (3, _)]) rfl (Nat.le_of_ble_eq_true rfl) rfl ?_
      refine r_iconst (v := 0) (i := 18) rfl ki_0 ?_
      refine r_istore (i := 19) (Ls' := [(6, _), (5, _), (4, _), (0, _), (1, _), (2, _), (3, _)]) rfl (Nat.le_of_ble_eq_true rfl) rfl ?_
      refine r_iconst (v := 0) (i := 20) rfl ki_0 ?_
      refine r_istore (i := 21) (Ls' := [(7, _), (6, _), (5, _), (4, _), (0, _), (1, _), (2, _), (3, _)]) rfl (Nat.le_of_ble_eq_true rfl) rfl ?_
      refine xm_sub (Ls' := [(0, _), (1, _), (2, _), (3, _), (4, _), (5, _), (6, _), (7, _)]) [4, 5, 6, 7, 3, 2, 1, 0] rfl ?_
      exact t_M_face_b40 hn (fun p h => hq p h) hF
    have hF := ok_it hc hF
    refine r_ldc (i := 12) rfl ct_M_154 ?_
    have hQ := hq _ (ok_some hF)
    exact r_ireturn (i := 13) rfl rfl rfl hQ
  have hF := ok_it hc hF
  refine r_ldc (i := 4) rfl ct_M_160 ?_
  have hQ := hq _ (ok_some hF)
  exact r_ireturn (i := 5) rfl rfl rfl hQ
set_option maxHeartbeats 4000000 in
set_option maxRecDepth 100000 in
theorem t_M_face {x1 : Int32} {x2 : Int32} {x3 : Int32} {n : Nat} {I : xm_I} {L : xm_L} {K : Int32 × xm_I → Prop} (hn : 86 ≤ n) (hF : ok (f_M_face x1 x2 x3 I) K) : xm_C 1 mt_M_face [.ref 49, .int x1, .int x2, .int x3] (I, L, RC n, n) 0 0 (pI (fun p : Int32 × xm_I => p.1) (fun p : Int32 × xm_I => (p.2, L, RC n, n)) K) := by
  unfold f_M_face at hF
  refine xm_enter (by decide +kernel) dv_M_face (Nat.le_of_ble_eq_true rfl) ?_
  exact t_M_face_b0 hn (fun p hp => ⟨p, rfl, rfl, hp⟩) hF

noncomputable def f_M_view_b0 (x1 : Int32) (I : xm_I) : Option (Int32 × xm_I) :=
  (f_M_in (Int32.toInt64 x1) 0 4).bind fun p_1 =>
  if p_1 = 0 then (
    some ((-100002), I))
  else (
    let x2_2 : Int32 := I 49 32
    let I_3 : xm_I := up2 I 49 32 x1
    some (x2_2, I_3))
noncomputable def f_M_view (x1 : Int32) (I : xm_I) : Option (Int32 × xm_I) := f_M_view_b0 x1 I
set_option maxHeartbeats 4000000 in
set_option maxRecDepth 100000 in
theorem t_M_view_b0 {x1 : Int32} {n : Nat} {I : xm_I} {L : xm_L} {K : Int32 × xm_I → Prop} {Q : Option Value → xm_H → Prop} (hn : 86 ≤ n) (hq : ∀ p : Int32 × xm_I, K p → Q (some (.int p.1)) (p.2, L, RC n, n)) (hF : ok (f_M_view_b0 x1 I) K) : xm_J 1 mt_M_view 0 [(0, .ref 49), (1, .int x1)] [] (I, L, RC n, n) 0 0 Q := by
  unfold f_M_view_b0 at hF
  refine r_iload_n (i := 0) (k0 := 1) rfl rfl rfl ?_
  refine r_i2l (i := 1) rfl ?_
  refine r_lconst (v := 0) (i := 2) rfl rfl ?_
  refine r_ldc2 (i := 3) rfl ct_M_274 ?_
  refine c_S3I (i := 4) rfl sm_M_in lk_M_150 (t_M_in hn (ok_bind hF)) (Nat.le_of_ble_eq_true rfl) rfl (Nat.le_of_ble_eq_true rfl) (fun p_1 hF => ?_)
  refine r_ifne (i := 5) (tgt := 15) rfl (by decide) (fun hc => ?_) (fun hc => ?_)
  · have hF := ok_if hc hF
    refine r_aload_n (i := 8) (k0 := 0) rfl rfl rfl ?_
    refine q_geti (i := 9) rfl fl_M_276 (xm_in rfl hn) rfl ?_
    refine r_istore_n (i := 10) (Ls' := [(2, _), (0, _), (1, _)]) rfl rfl (Nat.le_of_ble_eq_true rfl) rfl ?_
    refine r_aload_n (i := 11) (k0 := 1) rfl rfl rfl ?_
    refine r_iload_n (i := 12) (k0 := 2) rfl rfl rfl ?_
    refine q_puti (i := 13) rfl fl_M_276 (fun h => Bool.noConfusion h) (xm_in rfl hn) rfl ?_
    refine r_iload_n (i := 14) (k0 := 0) rfl rfl rfl ?_
    have hQ := hq _ (ok_some hF)
    exact r_ireturn (i := 15) rfl rfl rfl hQ
  have hF := ok_it hc hF
  refine r_ldc (i := 6) rfl ct_M_154 ?_
  have hQ := hq _ (ok_some hF)
  exact r_ireturn (i := 7) rfl rfl rfl hQ
set_option maxHeartbeats 4000000 in
set_option maxRecDepth 100000 in
theorem t_M_view {x1 : Int32} {n : Nat} {I : xm_I} {L : xm_L} {K : Int32 × xm_I → Prop} (hn : 86 ≤ n) (hF : ok (f_M_view x1 I) K) : xm_C 1 mt_M_view [.ref 49, .int x1] (I, L, RC n, n) 0 0 (pI (fun p : Int32 × xm_I => p.1) (fun p : Int32 × xm_I => (p.2, L, RC n, n)) K) := by
  unfold f_M_view at hF
  refine xm_enter (by decide +kernel) dv_M_view (Nat.le_of_ble_eq_true rfl) ?_
  exact t_M_view_b0 hn (fun p hp => ⟨p, rfl, rfl, hp⟩) hF

noncomputable def f_M_less_b0 (x1 : Int32) (x2 : Int32) (x3 : Int32) (x4 : Int32) (I : xm_I) : Option (Int32) :=
  gd (0 ≤ (6 * x2).toInt ∧ (6 * x2).toInt < 240) <|
  let x5_1 : Int32 := I 67 (Int32.toNatClampNeg (6 * x2))
  gd (0 ≤ ((6 * x2) + x3).toInt ∧ ((6 * x2) + x3).toInt < 240) <|
  let x6_2 : Int32 := I 67 (Int32.toNatClampNeg ((6 * x2) + x3))
  gd (0 ≤ (((36 * x1) + (3 * x6_2)) + x4).toInt ∧ (((36 * x1) + (3 * x6_2)) + x4).toInt < 144) <|
  gd (0 ≤ (((36 * x1) + (3 * x5_1)) + x4).toInt ∧ (((36 * x1) + (3 * x5_1)) + x4).toInt < 144) <|
  some ((I 64 (Int32.toNatClampNeg (((36 * x1) + (3 * x6_2)) + x4))) - (I 64 (Int32.toNatClampNeg (((36 * x1) + (3 * x5_1)) + x4))))
noncomputable def f_M_less (x1 : Int32) (x2 : Int32) (x3 : Int32) (x4 : Int32) (I : xm_I) : Option (Int32) := f_M_less_b0 x1 x2 x3 x4 I
set_option maxHeartbeats 4000000 in
set_option maxRecDepth 100000 in
theorem t_M_less_b0 {x1 : Int32} {x2 : Int32} {x3 : Int32} {x4 : Int32} {n : Nat} {I : xm_I} {L : xm_L} {K : Int32 → Prop} {Q : Option Value → xm_H → Prop} (hn : 86 ≤ n) (hq : ∀ p : Int32, K p → Q (some (.int p)) (I, L, RC n, n)) (hF : ok (f_M_less_b0 x1 x2 x3 x4 I) K) : xm_J 0 mt_M_less 0 [(0, .ref 49), (1, .int x1), (2, .int x2), (3, .int x3), (4, .int x4)] [] (I, L, RC n, n) 0 0 Q := by
  unfold f_M_less_b0 at hF
  refine r_aload_n (i := 0) (k0 := 0) rfl rfl rfl ?_
  refine q_getr (b := 67) (i := 1) rfl fl_M_78 rfl (xm_in rfl hn) rfl rfl ?_
  refine r_bipush (v := 6) (i := 2) rfl kb_6 ?_
  refine r_iload_n (i := 3) (k0 := 2) rfl rfl rfl ?_
  refine r_imul (i := 4) rfl ?_
  obtain ⟨hi, hF⟩ := ok_gd hF
  refine q_iaload (i := 5) rfl (xm_in rfl hn) rfl hi ?_
  refine r_istore (i := 6) (Ls' := [(5, _), (0, _), (1, _), (2, _), (3, _), (4, _)]) rfl (Nat.le_of_ble_eq_true rfl) rfl ?_
  refine r_aload_n (i := 7) (k0 := 1) rfl rfl rfl ?_
  refine q_getr (b := 67) (i := 8) rfl fl_M_78 rfl (xm_in rfl hn) rfl rfl ?_
  refine r_bipush (v := 6) (i := 9) rfl kb_6 ?_
  refine r_iload_n (i := 10) (k0 := 3) rfl rfl rfl ?_
  refine r_imul (i := 11) rfl ?_
  refine r_iload_n (i := 12) (k0 := 4) rfl rfl rfl ?_
  refine r_iadd (i := 13) rfl ?_
  obtain ⟨hi, hF⟩ := ok_gd hF
  refine q_iaload (i := 14) rfl (xm_in rfl hn) rfl hi ?_
  refine r_istore (i := 15) (Ls' := [(6, _), (5, _), (0, _), (1, _), (2, _), (3, _), (4, _)]) rfl (Nat.le_of_ble_eq_true rfl) rfl ?_
  refine r_aload_n (i := 16) (k0 := 2) rfl rfl rfl ?_
  refine q_getr (b := 64) (i := 17) rfl fl_M_69 rfl (xm_in rfl hn) rfl rfl ?_
  refine r_bipush (v := 36) (i := 18) rfl kb_36 ?_
  refine r_iload_n (i := 19) (k0 := 3) rfl rfl rfl ?_
  refine r_imul (i := 20) rfl ?_
  refine r_iconst (v := 3) (i := 21) rfl ki_3 ?_
  refine r_iload (i := 22) (k0 := 0) rfl rfl ?_
  refine r_imul (i := 23) rfl ?_
  refine r_iadd (i := 24) rfl ?_
  refine r_iload (i := 25) (k0 := 6) rfl rfl ?_
  refine r_iadd (i := 26) rfl ?_
  obtain ⟨hi, hF⟩ := ok_gd hF
  refine q_iaload (i := 27) rfl (xm_in rfl hn) rfl hi ?_
  refine r_aload_n (i := 28) (k0 := 2) rfl rfl rfl ?_
  refine q_getr (b := 64) (i := 29) rfl fl_M_69 rfl (xm_in rfl hn) rfl rfl ?_
  refine r_bipush (v := 36) (i := 30) rfl kb_36 ?_
  refine r_iload_n (i := 31) (k0 := 3) rfl rfl rfl ?_
  refine r_imul (i := 32) rfl ?_
  refine r_iconst (v := 3) (i := 33) rfl ki_3 ?_
  refine r_iload (i := 34) (k0 := 1) rfl rfl ?_
  refine r_imul (i := 35) rfl ?_
  refine r_iadd (i := 36) rfl ?_
  refine r_iload (i := 37) (k0 := 6) rfl rfl ?_
  refine r_iadd (i := 38) rfl ?_
  obtain ⟨hi, hF⟩ := ok_gd hF
  refine q_iaload (i := 39) rfl (xm_in rfl hn) rfl hi ?_
  refine r_isub (i := 40) rfl ?_
  have hQ := hq _ (ok_some hF)
  exact r_ireturn (i := 41) rfl rfl rfl hQ
set_option maxHeartbeats 4000000 in
set_option maxRecDepth 100000 in
theorem t_M_less {x1 : Int32} {x2 : Int32} {x3 : Int32} {x4 : Int32} {n : Nat} {I : xm_I} {L : xm_L} {K : Int32 → Prop} (hn : 86 ≤ n) (hF : ok (f_M_less x1 x2 x3 x4 I) K) : xm_C 0 mt_M_less [.ref 49, .int x1, .int x2, .int x3, .int x4] (I, L, RC n, n) 0 0 (pI (fun p : Int32 => p) (fun p : Int32 => (I, L, RC n, n)) K) := by
  unfold f_M_less at hF
  refine xm_enter (by decide +kernel) dv_M_less (Nat.le_of_ble_eq_true rfl) ?_
  exact t_M_less_b0 hn (fun p hp => ⟨p, rfl, rfl, hp⟩) hF

noncomputable def f_M_isSeen_b163 (y0 : Int32) (I : xm_I) : Option (Int32) :=
  if y0 ≤ 0 then (
    some (0))
  else (
  some (1))
noncomputable def f_M_isSeen_b0 (x1 : Int32) (x2 : Int32) (I : xm_I) : Option (Int32) :=
  (f_M_less x1 x2 1 0 I).bind fun p_1 =>
  (f_M_less x1 x2 1 1 I).bind fun p_2 =>
  (f_M_less x1 x2 1 2 I).bind fun p_3 =>
  (f_M_less x1 x2 2 0 I).bind fun p_4 =>
  (f_M_less x1 x2 2 1 I).bind fun p_5 =>
  (f_M_less x1 x2 2 2 I).bind fun p_6 =>
  let x9_7 : Int32 := (p_2 * p_6) - (p_3 * p_5)
  let x10_8 : Int32 := (p_3 * p_4) - (p_1 * p_6)
  let x11_9 : Int32 := (p_1 * p_5) - (p_2 * p_4)
  if (I 49 32) = 0 then (
    f_M_isSeen_b163 x11_9 I)
  else (
    if (I 49 32) = 1 then (
      f_M_isSeen_b163 x10_8 I)
    else (
      if (I 49 32) = 2 then (
        f_M_isSeen_b163 x9_7 I)
      else (
        if (I 49 32) = 3 then (
          f_M_isSeen_b163 ((x9_7 + x10_8) + (2 * x11_9)) I)
        else (
          f_M_isSeen_b163 ((x9_7 + x10_8) + x11_9) I))))
noncomputable def f_M_isSeen (x1 : Int32) (x2 : Int32) (I : xm_I) : Option (Int32) := f_M_isSeen_b0 x1 x2 I
set_option maxHeartbeats 4000000 in
set_option maxRecDepth 100000 in
theorem t_M_isSeen_b163 {y0 : Int32} {n : Nat} {I : xm_I} {L : xm_L} {K : Int32 → Prop} {Q : Option Value → xm_H → Prop} (hn : 86 ≤ n) (hq : ∀ p : Int32, K p → Q (some (.int p)) (I, L, RC n, n)) (hF : ok (f_M_isSeen_b163 y0 I) K) : xm_J 1 mt_M_isSeen 163 [] [.int y0] (I, L, RC n, n) 0 0 Q := by
  unfold f_M_isSeen_b163 at hF
  refine r_istore (i := 100) (Ls' := [(12, _)]) rfl (Nat.le_of_ble_eq_true rfl) rfl ?_
  refine r_iload (i := 101) (k0 := 0) rfl rfl ?_
  refine r_ifle (i := 102) (tgt := 174) rfl (by decide) (fun hc => ?_) (fun hc => ?_)
  · have hF := ok_it hc hF
    refine r_iconst (v := 0) (i := 105) rfl ki_0 ?_
    have hQ := hq _ (ok_some hF)
    exact r_ireturn (i := 106) rfl rfl rfl hQ
  have hF := ok_if hc hF
  refine r_iconst (v := 1) (i := 103) rfl ki_1 ?_
  refine r_goto (i := 104) (tgt := 175) rfl (by decide) ?_
  have hQ := hq _ (ok_some hF)
  exact r_ireturn (i := 106) rfl rfl rfl hQ
set_option maxHeartbeats 4000000 in
set_option maxRecDepth 100000 in
theorem t_M_isSeen_b0 {x1 : Int32} {x2 : Int32} {n : Nat} {I : xm_I} {L : xm_L} {K : Int32 → Prop} {Q : Option Value → xm_H → Prop} (hn : 86 ≤ n) (hq : ∀ p : Int32, K p → Q (some (.int p)) (I, L, RC n, n)) (hF : ok (f_M_isSeen_b0 x1 x2 I) K) : xm_J 1 mt_M_isSeen 0 [(0, .ref 49), (1, .int x1), (2, .int x2)] [] (I, L, RC n, n) 0 0 Q := by
  unfold f_M_isSeen_b0 at hF
  refine r_aload_n (i := 0) (k0 := 0) rfl rfl rfl ?_
  refine r_iload_n (i := 1) (k0 := 1) rfl rfl rfl ?_
  refine r_iload_n (i := 2) (k0 := 2) rfl rfl rfl ?_
  refine r_iconst (v := 1) (i := 3) rfl ki_1 ?_
  refine r_iconst (v := 0) (i := 4) rfl ki_0 ?_
  refine c_V4I (i := 5) rfl vm_M_less lk_M_279 (t_M_less hn (ok_bind hF)) (Nat.le_of_ble_eq_true rfl) (xm_in rfl hn) rfl rfl (Nat.le_of_ble_eq_true rfl) (fun p_1 hF => ?_)
  refine r_istore_n (i := 6) (Ls' := [(3, _), (0, _), (1, _), (2, _)]) rfl rfl (Nat.le_of_ble_eq_true rfl) rfl ?_
  refine r_aload_n (i := 7) (k0 := 1) rfl rfl rfl ?_
  refine r_iload_n (i := 8) (k0 := 2) rfl rfl rfl ?_
  refine r_iload_n (i := 9) (k0 := 3) rfl rfl rfl ?_
  refine r_iconst (v := 1) (i := 10) rfl ki_1 ?_
  refine r_iconst (v := 1) (i := 11) rfl ki_1 ?_
  refine c_V4I (i := 12) rfl vm_M_less lk_M_279 (t_M_less hn (ok_bind hF)) (Nat.le_of_ble_eq_true rfl) (xm_in rfl hn) rfl rfl (Nat.le_of_ble_eq_true rfl) (fun p_2 hF => ?_)
  refine r_istore (i := 13) (Ls' := [(4, _), (3, _), (0, _), (1, _), (2, _)]) rfl (Nat.le_of_ble_eq_true rfl) rfl ?_
  refine r_aload_n (i := 14) (k0 := 2) rfl rfl rfl ?_
  refine r_iload_n (i := 15) (k0 := 3) rfl rfl rfl ?_
  refine r_iload_n (i := 16) (k0 := 4) rfl rfl rfl ?_
  refine r_iconst (v := 1) (i := 17) rfl ki_1 ?_
  refine r_iconst (v := 2) (i := 18) rfl ki_2 ?_
  refine c_V4I (i := 19) rfl vm_M_less lk_M_279 (t_M_less hn (ok_bind hF)) (Nat.le_of_ble_eq_true rfl) (xm_in rfl hn) rfl rfl (Nat.le_of_ble_eq_true rfl) (fun p_3 hF => ?_)
  refine r_istore (i := 20) (Ls' := [(5, _), (4, _), (3, _), (0, _), (1, _), (2, _)]) rfl (Nat.le_of_ble_eq_true rfl) rfl ?_
  refine r_aload_n (i := 21) (k0 := 3) rfl rfl rfl ?_
  refine r_iload_n (i := 22) (k0 := 4) rfl rfl rfl ?_
  refine r_iload_n (i := 23) (k0 := 5) rfl rfl rfl ?_
  refine r_iconst (v := 2) (i := 24) rfl ki_2 ?_
  refine r_iconst (v := 0) (i := 25) rfl ki_0 ?_
  refine c_V4I (i := 26) rfl vm_M_less lk_M_279 (t_M_less hn (ok_bind hF)) (Nat.le_of_ble_eq_true rfl) (xm_in rfl hn) rfl rfl (Nat.le_of_ble_eq_true rfl) (fun p_4 hF => ?_)
  refine r_istore (i := 27) (Ls' := [(6, _), (5, _), (4, _), (3, _), (0, _), (1, _), (2, _)]) rfl (Nat.le_of_ble_eq_true rfl) rfl ?_
  refine r_aload_n (i := 28) (k0 := 4) rfl rfl rfl ?_
  refine r_iload_n (i := 29) (k0 := 5) rfl rfl rfl ?_
  refine r_iload_n (i := 30) (k0 := 6) rfl rfl rfl ?_
  refine r_iconst (v := 2) (i := 31) rfl ki_2 ?_
  refine r_iconst (v := 1) (i := 32) rfl ki_1 ?_
  refine c_V4I (i := 33) rfl vm_M_less lk_M_279 (t_M_less hn (ok_bind hF)) (Nat.le_of_ble_eq_true rfl) (xm_in rfl hn) rfl rfl (Nat.le_of_ble_eq_true rfl) (fun p_5 hF => ?_)
  refine r_istore (i := 34) (Ls' := [(7, _), (6, _), (5, _), (4, _), (3, _), (0, _), (1, _), (2, _)]) rfl (Nat.le_of_ble_eq_true rfl) rfl ?_
  refine r_aload_n (i := 35) (k0 := 5) rfl rfl rfl ?_
  refine r_iload_n (i := 36) (k0 := 6) rfl rfl rfl ?_
  refine r_iload_n (i := 37) (k0 := 7) rfl rfl rfl ?_
  refine r_iconst (v := 2) (i := 38) rfl ki_2 ?_
  refine r_iconst (v := 2) (i := 39) rfl ki_2 ?_
  refine c_V4I (i := 40) rfl vm_M_less lk_M_279 (t_M_less hn (ok_bind hF)) (Nat.le_of_ble_eq_true rfl) (xm_in rfl hn) rfl rfl (Nat.le_of_ble_eq_true rfl) (fun p_6 hF => ?_)
  refine r_istore (i := 41) (Ls' := [(8, _), (7, _), (6, _), (5, _), (4, _), (3, _), (0, _), (1, _), (2, _)]) rfl (Nat.le_of_ble_eq_true rfl) rfl ?_
  refine r_iload (i := 42) (k0 := 4) rfl rfl ?_
  refine r_iload (i := 43) (k0 := 0) rfl rfl ?_
  refine r_imul (i := 44) rfl ?_
  refine r_iload (i := 45) (k0 := 3) rfl rfl ?_
  refine r_iload (i := 46) (k0 := 1) rfl rfl ?_
  refine r_imul (i := 47) rfl ?_
  refine r_isub (i := 48) rfl ?_
  refine r_istore (i := 49) (Ls' := [(9, _), (8, _), (7, _), (6, _), (5, _), (4, _), (3, _), (0, _), (1, _), (2, _)]) rfl (Nat.le_of_ble_eq_true rfl) rfl ?_
  refine r_iload (i := 50) (k0 := 4) rfl rfl ?_
  refine r_iload (i := 51) (k0 := 3) rfl rfl ?_
  refine r_imul (i := 52) rfl ?_
  refine r_iload_n (i := 53) (k0 := 6) rfl rfl rfl ?_
  refine r_iload (i := 54) (k0 := 1) rfl rfl ?_
  refine r_imul (i := 55) rfl ?_
  refine r_isub (i := 56) rfl ?_
  refine r_istore (i := 57) (Ls' := [(10, _), (9, _), (8, _), (7, _), (6, _), (5, _), (4, _), (3, _), (0, _), (1, _), (2, _)]) rfl (Nat.le_of_ble_eq_true rfl) rfl ?_
  refine r_iload_n (i := 58) (k0 := 7) rfl rfl rfl ?_
  refine r_iload (i := 59) (k0 := 3) rfl rfl ?_
  refine r_imul (i := 60) rfl ?_
  refine r_iload (i := 61) (k0 := 6) rfl rfl ?_
  refine r_iload (i := 62) (k0 := 4) rfl rfl ?_
  refine r_imul (i := 63) rfl ?_
  refine r_isub (i := 64) rfl ?_
  refine r_istore (i := 65) (Ls' := [(11, _), (10, _), (9, _), (8, _), (7, _), (6, _), (5, _), (4, _), (3, _), (0, _), (1, _), (2, _)]) rfl (Nat.le_of_ble_eq_true rfl) rfl ?_
  refine r_aload_n (i := 66) (k0 := 9) rfl rfl rfl ?_
  refine q_geti (i := 67) rfl fl_M_276 (xm_in rfl hn) rfl ?_
  refine r_ifne (i := 68) (tgt := 108) rfl (by decide) (fun hc => ?_) (fun hc => ?_)
  · have hF := ok_if hc hF
    refine r_aload_n (i := 71) (k0 := 9) rfl rfl rfl ?_
    refine q_geti (i := 72) rfl fl_M_276 (xm_in rfl hn) rfl ?_
    refine r_iconst (v := 1) (i := 73) rfl ki_1 ?_
    refine r_icmpne (i := 74) (tgt := 121) rfl (by decide) (fun hc => ?_) (fun hc => ?_)
    · have hF := ok_if hc hF
      refine r_aload_n (i := 77) (k0 := 9) rfl rfl rfl ?_
      refine q_geti (i := 78) rfl fl_M_276 (xm_in rfl hn) rfl ?_
      refine r_iconst (v := 2) (i := 79) rfl ki_2 ?_
      refine r_icmpne (i := 80) (tgt := 134) rfl (by decide) (fun hc => ?_) (fun hc => ?_)
      · have hF := ok_if hc hF
        refine r_aload_n (i := 83) (k0 := 9) rfl rfl rfl ?_
        refine q_geti (i := 84) rfl fl_M_276 (xm_in rfl hn) rfl ?_
        refine r_iconst (v := 3) (i := 85) rfl ki_3 ?_
        refine r_icmpne (i := 86) (tgt := 155) rfl (by decide) (fun hc => ?_) (fun hc => ?_)
        · have hF := ok_if hc hF
          refine r_iload (i := 95) (k0 := 2) rfl rfl ?_
          refine r_iload (i := 96) (k0 := 1) rfl rfl ?_
          refine r_iadd (i := 97) rfl ?_
          refine r_iload (i := 98) (k0 := 0) rfl rfl ?_
          refine r_iadd (i := 99) rfl ?_
          refine xm_sub (Ls' := []) [] rfl ?_
          exact t_M_isSeen_b163 hn (fun p h => hq p h) hF
        have hF := ok_it hc hF
        refine r_iload (i := 87) (k0 := 2) rfl rfl ?_
        refine r_iload (i := 88) (k0 := 1) rfl rfl ?_
        refine r_iadd (i := 89) rfl ?_
        refine r_iconst (v := 2) (i := 90) rfl ki_2 ?_
        refine r_iload (i := 91) (k0 := 0) rfl rfl ?_
        refine r_imul (i := 92) rfl ?_
        refine r_iadd (i := 93) rfl ?_
        refine r_goto (i := 94) (tgt := 163) rfl (by decide) ?_
        refine xm_sub (Ls' := []) [] rfl ?_
        exact t_M_isSeen_b163 hn (fun p h => hq p h) hF
      have hF := ok_it hc hF
      refine r_iload (i := 81) (k0 := 2) rfl rfl ?_
      refine r_goto (i := 82) (tgt := 163) rfl (by decide) ?_
      refine xm_sub (Ls' := []) [] rfl ?_
      exact t_M_isSeen_b163 hn (fun p h => hq p h) hF
    have hF := ok_it hc hF
    refine r_iload (i := 75) (k0 := 1) rfl rfl ?_
    refine r_goto (i := 76) (tgt := 163) rfl (by decide) ?_
    refine xm_sub (Ls' := []) [] rfl ?_
    exact t_M_isSeen_b163 hn (fun p h => hq p h) hF
  have hF := ok_it hc hF
  refine r_iload (i := 69) (k0 := 0) rfl rfl ?_
  refine r_goto (i := 70) (tgt := 163) rfl (by decide) ?_
  refine xm_sub (Ls' := []) [] rfl ?_
  exact t_M_isSeen_b163 hn (fun p h => hq p h) hF
set_option maxHeartbeats 4000000 in
set_option maxRecDepth 100000 in
theorem t_M_isSeen {x1 : Int32} {x2 : Int32} {n : Nat} {I : xm_I} {L : xm_L} {K : Int32 → Prop} (hn : 86 ≤ n) (hF : ok (f_M_isSeen x1 x2 I) K) : xm_C 1 mt_M_isSeen [.ref 49, .int x1, .int x2] (I, L, RC n, n) 0 0 (pI (fun p : Int32 => p) (fun p : Int32 => (I, L, RC n, n)) K) := by
  unfold f_M_isSeen at hF
  refine xm_enter (by decide +kernel) dv_M_isSeen (Nat.le_of_ble_eq_true rfl) ?_
  exact t_M_isSeen_b0 hn (fun p hp => ⟨p, rfl, rfl, hp⟩) hF

noncomputable def f_M_gather_b257 (x1 : Int32) (x2 : Int32) (I : xm_I) : Option ((Int32 × xm_I) ⊕ (xm_I)) :=
  let x2_1 : Int32 := x2 + 1
  some (.inl (x2_1, I))
noncomputable def f_M_gather_b231 (x1 : Int32) (x2 : Int32) (x5 : Int32) (y1 : Int32) (y2 : Int32) (I : xm_I) : Option ((Int32 × xm_I) ⊕ (xm_I)) :=
  gd (0 ≤ (y1).toInt ∧ (y1).toInt < 264) <|
  let I_1 : xm_I := up2 I 68 (Int32.toNatClampNeg y1) y2
  gd (0 ≤ ((4 * (I_1 49 34)) + 3).toInt ∧ ((4 * (I_1 49 34)) + 3).toInt < 264) <|
  let I_2 : xm_I := up2 I_1 68 (Int32.toNatClampNeg ((4 * (I_1 49 34)) + 3)) x5
  let I_3 : xm_I := up2 I_2 49 34 ((I_2 49 34) + 1)
  f_M_gather_b257 x1 x2 I_3
noncomputable def f_M_gather_b177 (x1 : Int32) (x2 : Int32) (x3 : Int32) (x4 : Int32) (x5 : Int32) (x6 : Int32) (I : xm_I) : Option ((Int32 × xm_I) ⊕ (xm_I)) :=
  if x5 ≤ 0 then (
    f_M_gather_b257 x1 x2 I)
  else (
  gd (0 ≤ (4 * (I 49 34)).toInt ∧ (4 * (I 49 34)).toInt < 264) <|
  let I_1 : xm_I := up2 I 68 (Int32.toNatClampNeg (4 * (I 49 34))) x3
  gd (0 ≤ ((4 * (I_1 49 34)) + 1).toInt ∧ ((4 * (I_1 49 34)) + 1).toInt < 264) <|
  let I_2 : xm_I := up2 I_1 68 (Int32.toNatClampNeg ((4 * (I_1 49 34)) + 1)) x4
  if x6 = 0 then (
    f_M_gather_b231 x1 x2 x5 ((4 * (I_2 49 34)) + 2) 1 I_2)
  else (
  f_M_gather_b231 x1 x2 x5 ((4 * (I_2 49 34)) + 2) 0 I_2))
noncomputable def f_M_gather_b165 (x1 : Int32) (x2 : Int32) (x3 : Int32) (x4 : Int32) (x5 : Int32) (x6 : Int32) (x7 : Int32) (x8 : Int32) (I : xm_I) : Option ((Int32 × Int32 × Int32) ⊕ ((Int32 × Int32 × Int32) ⊕ ((Int32 × xm_I) ⊕ (xm_I)))) :=
  let x8_1 : Int32 := x8 + 1
  some (.inl (x5, x6, x8_1))
noncomputable def f_M_gather_b163 (x1 : Int32) (x2 : Int32) (x3 : Int32) (x4 : Int32) (x5 : Int32) (x7 : Int32) (x8 : Int32) (y0 : Int32) (I : xm_I) : Option ((Int32 × Int32 × Int32) ⊕ ((Int32 × Int32 × Int32) ⊕ ((Int32 × xm_I) ⊕ (xm_I)))) :=
  f_M_gather_b165 x1 x2 x3 x4 x5 y0 x7 x8 I
noncomputable def f_M_gather_b158 (x1 : Int32) (x2 : Int32) (x3 : Int32) (x4 : Int32) (x5 : Int32) (x7 : Int32) (x8 : Int32) (I : xm_I) : Option ((Int32 × Int32 × Int32) ⊕ ((Int32 × Int32 × Int32) ⊕ ((Int32 × xm_I) ⊕ (xm_I)))) :=
  f_M_gather_b163 x1 x2 x3 x4 x5 x7 x8 1 I
noncomputable def f_M_gather_b140 (x1 : Int32) (x2 : Int32) (x3 : Int32) (x4 : Int32) (x5 : Int32) (x6 : Int32) (x7 : Int32) (x8 : Int32) (I : xm_I) : Option ((Int32 × Int32 × Int32) ⊕ ((Int32 × Int32 × Int32) ⊕ ((Int32 × xm_I) ⊕ (xm_I)))) :=
  let x5_1 : Int32 := x5 + 1
  if x6 = 0 then (
    (f_M_isSeen x1 x7 I).bind fun p_2 =>
    if p_2 = 0 then (
      f_M_gather_b163 x1 x2 x3 x4 x5_1 x7 x8 0 I)
    else (
    f_M_gather_b158 x1 x2 x3 x4 x5_1 x7 x8 I))
  else (
    f_M_gather_b158 x1 x2 x3 x4 x5_1 x7 x8 I)
noncomputable def f_M_gather_b127 (x1 : Int32) (x2 : Int32) (x3 : Int32) (x4 : Int32) (x5 : Int32) (x6 : Int32) (x7 : Int32) (x8 : Int32) (x9 : Int32) (x10 : Int32) (I : xm_I) : Option ((Int32 × Int32 × Int32) ⊕ ((Int32 × Int32 × Int32) ⊕ ((Int32 × xm_I) ⊕ (xm_I)))) :=
  if x9 = x4 then (
    if x10 = x3 then (
      f_M_gather_b140 x1 x2 x3 x4 x5 x6 x7 x8 I)
    else (
      f_M_gather_b165 x1 x2 x3 x4 x5 x6 x7 x8 I))
  else (
    f_M_gather_b165 x1 x2 x3 x4 x5 x6 x7 x8 I)
noncomputable def f_M_gather_s62 (x1 : Int32) (x2 : Int32) (x3 : Int32) (x4 : Int32) (x7 : Int32) (I : xm_I) (s : Int32 × Int32 × Int32) : Option ((Int32 × Int32 × Int32) ⊕ ((Int32 × Int32 × Int32) ⊕ ((Int32 × xm_I) ⊕ (xm_I)))) :=
  gd (0 ≤ (x7).toInt ∧ (x7).toInt < 40) <|
  if (I 66 (Int32.toNatClampNeg x7)) ≤ s.2.2 then (
    let x7_1 : Int32 := x7 + 1
    some (.inr (.inl (s.1, s.2.1, x7_1))))
  else (
  gd (0 ≤ ((6 * x7) + s.2.2).toInt ∧ ((6 * x7) + s.2.2).toInt < 240) <|
  let x9_2 : Int32 := I 67 (Int32.toNatClampNeg ((6 * x7) + s.2.2))
  gd (0 ≤ (x7).toInt ∧ (x7).toInt < 40) <|
  gd (¬ (I 66 (Int32.toNatClampNeg x7)) = 0) <|
  gd (0 ≤ ((6 * x7) + ((s.2.2 + 1) - (s.2.2 + 1) / (I 66 (Int32.toNatClampNeg x7)) * (I 66 (Int32.toNatClampNeg x7)))).toInt ∧ ((6 * x7) + ((s.2.2 + 1) - (s.2.2 + 1) / (I 66 (Int32.toNatClampNeg x7)) * (I 66 (Int32.toNatClampNeg x7)))).toInt < 240) <|
  let x10_3 : Int32 := I 67 (Int32.toNatClampNeg ((6 * x7) + ((s.2.2 + 1) - (s.2.2 + 1) / (I 66 (Int32.toNatClampNeg x7)) * (I 66 (Int32.toNatClampNeg x7)))))
  if x9_2 = x3 then (
    if x10_3 = x4 then (
      f_M_gather_b140 x1 x2 x3 x4 s.1 s.2.1 x7 s.2.2 I)
    else (
    f_M_gather_b127 x1 x2 x3 x4 s.1 s.2.1 x7 s.2.2 x9_2 x10_3 I))
  else (
    f_M_gather_b127 x1 x2 x3 x4 s.1 s.2.1 x7 s.2.2 x9_2 x10_3 I))
noncomputable def f_M_gather_b62 (x1 : Int32) (x2 : Int32) (x3 : Int32) (x4 : Int32) (x7 : Int32) (I : xm_I) (s : Int32 × Int32 × Int32) : Option ((Int32 × Int32 × Int32) ⊕ ((Int32 × xm_I) ⊕ (xm_I))) := lp (f_M_gather_s62 x1 x2 x3 x4 x7 I) s
noncomputable def f_M_gather_s37 (x1 : Int32) (x2 : Int32) (x3 : Int32) (x4 : Int32) (I : xm_I) (s : Int32 × Int32 × Int32) : Option ((Int32 × Int32 × Int32) ⊕ ((Int32 × xm_I) ⊕ (xm_I))) :=
  gd (0 ≤ (x1).toInt ∧ (x1).toInt < 4) <|
  if ((10 * x1) + (I 65 (Int32.toNatClampNeg x1))) ≤ s.2.2 then (
    (f_M_gather_b177 x1 x2 x3 x4 s.1 s.2.1 I).map .inr)
  else (
  if x4 ≤ x3 then (
    (f_M_gather_b177 x1 x2 x3 x4 s.1 s.2.1 I).map .inr)
  else (
  f_M_gather_b62 x1 x2 x3 x4 s.2.2 I (s.1, s.2.1, 0)))
noncomputable def f_M_gather_b37 (x1 : Int32) (x2 : Int32) (x3 : Int32) (x4 : Int32) (I : xm_I) (s : Int32 × Int32 × Int32) : Option ((Int32 × xm_I) ⊕ (xm_I)) := lp (f_M_gather_s37 x1 x2 x3 x4 I) s
noncomputable def f_M_gather_s7 (x1 : Int32) (s : Int32 × xm_I) : Option ((Int32 × xm_I) ⊕ (xm_I)) :=
  if 144 ≤ s.1 then (
    some (.inr (s.2)))
  else (
  let x3_1 : Int32 := s.1 / 12
  let x4_2 : Int32 := s.1 - s.1 / 12 * 12
  let x7_3 : Int32 := 10 * x1
  f_M_gather_b37 x1 s.1 x3_1 x4_2 s.2 (0, 0, x7_3))
noncomputable def f_M_gather_b7 (x1 : Int32) (s : Int32 × xm_I) : Option (xm_I) := lp (f_M_gather_s7 x1) s
noncomputable def f_M_gather_b0 (x1 : Int32) (I : xm_I) : Option (xm_I) :=
  let I_1 : xm_I := up2 I 49 34 0
  f_M_gather_b7 x1 (0, I_1)
noncomputable def f_M_gather (x1 : Int32) (I : xm_I) : Option (xm_I) := f_M_gather_b0 x1 I
set_option maxHeartbeats 4000000 in
set_option maxRecDepth 100000 in
theorem t_M_gather_b257 {x1 : Int32} {x2 : Int32} {n : Nat} {I : xm_I} {L : xm_L} {K : (Int32 × xm_I) ⊕ (xm_I) → Prop} {Q : Option Value → xm_H → Prop} (hn : 86 ≤ n) (hq : ∀ p : xm_I, K (.inr p) → Q none (p, L, RC n, n)) (hg0 : ∀ s : Int32 × xm_I, K (.inl s) → xm_J 2 mt_M_gather 7 [(0, .ref 49), (1, .int x1), (2, .int s.1)] [] (s.2, L, RC n, n) 0 0 Q) (hF : ok (f_M_gather_b257 x1 x2 I) K) : xm_J 2 mt_M_gather 257 [(0, .ref 49), (1, .int x1), (2, .int x2)] [] (I, L, RC n, n) 0 0 Q := by
  unfold f_M_gather_b257 at hF
  refine q_iinc (i := 148) (k0 := 2) (Ls' := [(2, _), (0, _), (1, _)]) rfl ki_1 rfl (Nat.le_of_ble_eq_true rfl) rfl ?_
  refine r_goto (i := 149) (tgt := 7) rfl (by decide) ?_
  refine xm_sub (Ls' := [(0, _), (1, _), (2, _)]) [1, 2, 0] rfl ?_
  have hJ := hg0 _ (ok_some hF)
  exact hJ
set_option maxHeartbeats 4000000 in
set_option maxRecDepth 100000 in
theorem t_M_gather_b231 {x1 : Int32} {x2 : Int32} {x5 : Int32} {y1 : Int32} {y2 : Int32} {n : Nat} {I : xm_I} {L : xm_L} {K : (Int32 × xm_I) ⊕ (xm_I) → Prop} {Q : Option Value → xm_H → Prop} (hn : 86 ≤ n) (hq : ∀ p : xm_I, K (.inr p) → Q none (p, L, RC n, n)) (hg0 : ∀ s : Int32 × xm_I, K (.inl s) → xm_J 2 mt_M_gather 7 [(0, .ref 49), (1, .int x1), (2, .int s.1)] [] (s.2, L, RC n, n) 0 0 Q) (hF : ok (f_M_gather_b231 x1 x2 x5 y1 y2 I) K) : xm_J 2 mt_M_gather 231 [(0, .ref 49), (1, .int x1), (2, .int x2), (5, .int x5)] [.int y2, .int y1, .ref 68] (I, L, RC n, n) 0 0 Q := by
  unfold f_M_gather_b231 at hF
  obtain ⟨hi, hF⟩ := ok_gd hF
  refine q_iastore (i := 131) rfl (xm_in rfl hn) rfl hi ?_
  refine r_aload_n (i := 132) (k0 := 0) rfl rfl rfl ?_
  refine q_getr (b := 68) (i := 133) rfl fl_M_81 rfl (xm_in rfl hn) rfl rfl ?_
  refine r_iconst (v := 4) (i := 134) rfl ki_4 ?_
  refine r_aload_n (i := 135) (k0 := 0) rfl rfl rfl ?_
  refine q_geti (i := 136) rfl fl_M_283 (xm_in rfl hn) rfl ?_
  refine r_imul (i := 137) rfl ?_
  refine r_iconst (v := 3) (i := 138) rfl ki_3 ?_
  refine r_iadd (i := 139) rfl ?_
  refine r_iload (i := 140) (k0 := 3) rfl rfl ?_
  obtain ⟨hi, hF⟩ := ok_gd hF
  refine q_iastore (i := 141) rfl (xm_in rfl hn) rfl hi ?_
  refine r_aload_n (i := 142) (k0 := 0) rfl rfl rfl ?_
  refine r_dup (i := 143) rfl rfl ?_
  refine q_geti (i := 144) rfl fl_M_283 (xm_in rfl hn) rfl ?_
  refine r_iconst (v := 1) (i := 145) rfl ki_1 ?_
  refine r_iadd (i := 146) rfl ?_
  refine q_puti (i := 147) rfl fl_M_283 (fun h => Bool.noConfusion h) (xm_in rfl hn) rfl ?_
  refine xm_sub (Ls' := [(0, _), (1, _), (2, _)]) [0, 1, 2] rfl ?_
  exact t_M_gather_b257 hn (fun p h => hq p h) (fun z h => hg0 z h) hF
set_option maxHeartbeats 4000000 in
set_option maxRecDepth 100000 in
theorem t_M_gather_b177 {x1 : Int32} {x2 : Int32} {x3 : Int32} {x4 : Int32} {x5 : Int32} {x6 : Int32} {n : Nat} {I : xm_I} {L : xm_L} {K : (Int32 × xm_I) ⊕ (xm_I) → Prop} {Q : Option Value → xm_H → Prop} (hn : 86 ≤ n) (hq : ∀ p : xm_I, K (.inr p) → Q none (p, L, RC n, n)) (hg0 : ∀ s : Int32 × xm_I, K (.inl s) → xm_J 2 mt_M_gather 7 [(0, .ref 49), (1, .int x1), (2, .int s.1)] [] (s.2, L, RC n, n) 0 0 Q) (hF : ok (f_M_gather_b177 x1 x2 x3 x4 x5 x6 I) K) : xm_J 2 mt_M_gather 177 [(0, .ref 49), (1, .int x1), (2, .int x2), (3, .int x3), (4, .int x4), (5, .int x5), (6, .int x6)] [] (I, L, RC n, n) 0 0 Q := by
  unfold f_M_gather_b177 at hF
  refine r_iload (i := 98) (k0 := 5) rfl rfl ?_
  refine r_ifle (i := 99) (tgt := 257) rfl (by decide) (fun hc => ?_) (fun hc => ?_)
  · have hF := ok_it hc hF
    refine xm_sub (Ls' := [(0, _), (1, _), (2, _)]) [0, 1, 2] rfl ?_
    exact t_M_gather_b257 hn (fun p h => hq p h) (fun z h => hg0 z h) hF
  have hF := ok_if hc hF
  refine r_aload_n (i := 100) (k0 := 0) rfl rfl rfl ?_
  refine q_getr (b := 68) (i := 101) rfl fl_M_81 rfl (xm_in rfl hn) rfl rfl ?_
  refine r_iconst (v := 4) (i := 102) rfl ki_4 ?_
  refine r_aload_n (i := 103) (k0 := 0) rfl rfl rfl ?_
  refine q_geti (i := 104) rfl fl_M_283 (xm_in rfl hn) rfl ?_
  refine r_imul (i := 105) rfl ?_
  refine r_iload_n (i := 106) (k0 := 3) rfl rfl rfl ?_
  obtain ⟨hi, hF⟩ := ok_gd hF
  refine q_iastore (i := 107) rfl (xm_in rfl hn) rfl hi ?_
  refine r_aload_n (i := 108) (k0 := 0) rfl rfl rfl ?_
  refine q_getr (b := 68) (i := 109) rfl fl_M_81 rfl (xm_in rfl hn) rfl rfl ?_
  refine r_iconst (v := 4) (i := 110) rfl ki_4 ?_
  refine r_aload_n (i := 111) (k0 := 0) rfl rfl rfl ?_
  refine q_geti (i := 112) rfl fl_M_283 (xm_in rfl hn) rfl ?_
  refine r_imul (i := 113) rfl ?_
  refine r_iconst (v := 1) (i := 114) rfl ki_1 ?_
  refine r_iadd (i := 115) rfl ?_
  refine r_iload (i := 116) (k0 := 4) rfl rfl ?_
  obtain ⟨hi, hF⟩ := ok_gd hF
  refine q_iastore (i := 117) rfl (xm_in rfl hn) rfl hi ?_
  refine r_aload_n (i := 118) (k0 := 0) rfl rfl rfl ?_
  refine q_getr (b := 68) (i := 119) rfl fl_M_81 rfl (xm_in rfl hn) rfl rfl ?_
  refine r_iconst (v := 4) (i := 120) rfl ki_4 ?_
  refine r_aload_n (i := 121) (k0 := 0) rfl rfl rfl ?_
  refine q_geti (i := 122) rfl fl_M_283 (xm_in rfl hn) rfl ?_
  refine r_imul (i := 123) rfl ?_
  refine r_iconst (v := 2) (i := 124) rfl ki_2 ?_
  refine r_iadd (i := 125) rfl ?_
  refine r_iload (i := 126) (k0 := 6) rfl rfl ?_
  refine r_ifeq (i := 127) (tgt := 230) rfl (by decide) (fun hc => ?_) (fun hc => ?_)
  · have hF := ok_it hc hF
    refine r_iconst (v := 1) (i := 130) rfl ki_1 ?_
    refine xm_sub (Ls' := [(0, _), (1, _), (2, _), (5, _)]) [0, 1, 2, 5] rfl ?_
    exact t_M_gather_b231 hn (fun p h => hq p h) (fun z h => hg0 z h) hF
  have hF := ok_if hc hF
  refine r_iconst (v := 0) (i := 128) rfl ki_0 ?_
  refine r_goto (i := 129) (tgt := 231) rfl (by decide) ?_
  refine xm_sub (Ls' := [(0, _), (1, _), (2, _), (5, _)]) [0, 1, 2, 5] rfl ?_
  exact t_M_gather_b231 hn (fun p h => hq p h) (fun z h => hg0 z h) hF
set_option maxHeartbeats 4000000 in
set_option maxRecDepth 100000 in
theorem t_M_gather_b165 {x1 : Int32} {x2 : Int32} {x3 : Int32} {x4 : Int32} {x5 : Int32} {x6 : Int32} {x7 : Int32} {x8 : Int32} {n : Nat} {I : xm_I} {L : xm_L} {K : (Int32 × Int32 × Int32) ⊕ ((Int32 × Int32 × Int32) ⊕ ((Int32 × xm_I) ⊕ (xm_I))) → Prop} {Q : Option Value → xm_H → Prop} (hn : 86 ≤ n) (hq : ∀ p : xm_I, K (.inr (.inr (.inr p))) → Q none (p, L, RC n, n)) (hg0 : ∀ s : Int32 × xm_I, K (.inr (.inr (.inl s))) → xm_J 2 mt_M_gather 7 [(0, .ref 49), (1, .int x1), (2, .int s.1)] [] (s.2, L, RC n, n) 0 0 Q) (hg1 : ∀ s : Int32 × Int32 × Int32, K (.inr (.inl s)) → xm_J 2 mt_M_gather 37 [(0, .ref 49), (1, .int x1), (2, .int x2), (3, .int x3), (4, .int x4), (5, .int s.1), (6, .int s.2.1), (7, .int s.2.2)] [] (I, L, RC n, n) 0 0 Q) (hg2 : ∀ s : Int32 × Int32 × Int32, K (.inl s) → xm_J 2 mt_M_gather 62 [(0, .ref 49), (1, .int x1), (2, .int x2), (3, .int x3), (4, .int x4), (5, .int s.1), (6, .int s.2.1), (7, .int x7), (8, .int s.2.2)] [] (I, L, RC n, n) 0 0 Q) (hF : ok (f_M_gather_b165 x1 x2 x3 x4 x5 x6 x7 x8 I) K) : xm_J 2 mt_M_gather 165 [(0, .ref 49), (1, .int x1), (2, .int x2), (3, .int x3), (4, .int x4), (5, .int x5), (6, .int x6), (7, .int x7), (8, .int x8)] [] (I, L, RC n, n) 0 0 Q := by
  unfold f_M_gather_b165 at hF
  refine q_iinc (i := 94) (k0 := 8) (Ls' := [(8, _), (0, _), (1, _), (2, _), (3, _), (4, _), (5, _), (6, _), (7, _)]) rfl ki_1 rfl (Nat.le_of_ble_eq_true rfl) rfl ?_
  refine r_goto (i := 95) (tgt := 62) rfl (by decide) ?_
  refine xm_sub (Ls' := [(0, _), (1, _), (2, _), (3, _), (4, _), (5, _), (6, _), (7, _), (8, _)]) [1, 2, 3, 4, 5, 6, 7, 8, 0] rfl ?_
  have hJ := hg2 _ (ok_some hF)
  exact hJ
set_option maxHeartbeats 4000000 in
set_option maxRecDepth 100000 in
theorem t_M_gather_b163 {x1 : Int32} {x2 : Int32} {x3 : Int32} {x4 : Int32} {x5 : Int32} {x7 : Int32} {x8 : Int32} {y0 : Int32} {n : Nat} {I : xm_I} {L : xm_L} {K : (Int32 × Int32 × Int32) ⊕ ((Int32 × Int32 × Int32) ⊕ ((Int32 × xm_I) ⊕ (xm_I))) → Prop} {Q : Option Value → xm_H → Prop} (hn : 86 ≤ n) (hq : ∀ p : xm_I, K (.inr (.inr (.inr p))) → Q none (p, L, RC n, n)) (hg0 : ∀ s : Int32 × xm_I, K (.inr (.inr (.inl s))) → xm_J 2 mt_M_gather 7 [(0, .ref 49), (1, .int x1), (2, .int s.1)] [] (s.2, L, RC n, n) 0 0 Q) (hg1 : ∀ s : Int32 × Int32 × Int32, K (.inr (.inl s)) → xm_J 2 mt_M_gather 37 [(0, .ref 49), (1, .int x1), (2, .int x2), (3, .int x3), (4, .int x4), (5, .int s.1), (6, .int s.2.1), (7, .int s.2.2)] [] (I, L, RC n, n) 0 0 Q) (hg2 : ∀ s : Int32 × Int32 × Int32, K (.inl s) → xm_J 2 mt_M_gather 62 [(0, .ref 49), (1, .int x1), (2, .int x2), (3, .int x3), (4, .int x4), (5, .int s.1), (6, .int s.2.1), (7, .int x7), (8, .int s.2.2)] [] (I, L, RC n, n) 0 0 Q) (hF : ok (f_M_gather_b163 x1 x2 x3 x4 x5 x7 x8 y0 I) K) : xm_J 2 mt_M_gather 163 [(0, .ref 49), (1, .int x1), (2, .int x2), (3, .int x3), (4, .int x4), (5, .int x5), (7, .int x7), (8, .int x8)] [.int y0] (I, L, RC n, n) 0 0 Q := by
  unfold f_M_gather_b163 at hF
  refine r_istore (i := 93) (Ls' := [(6, _), (0, _), (1, _), (2, _), (3, _), (4, _), (5, _), (7, _), (8, _)]) rfl (Nat.le_of_ble_eq_true rfl) rfl ?_
  refine xm_sub (Ls' := [(0, _), (1, _), (2, _), (3, _), (4, _), (5, _), (6, _), (7, _), (8, _)]) [1, 2, 3, 4, 5, 6, 0, 7, 8] rfl ?_
  exact t_M_gather_b165 hn (fun p h => hq p h) (fun z h => hg0 z h) (fun z h => hg1 z h) (fun z h => hg2 z h) hF
set_option maxHeartbeats 4000000 in
set_option maxRecDepth 100000 in
theorem t_M_gather_b158 {x1 : Int32} {x2 : Int32} {x3 : Int32} {x4 : Int32} {x5 : Int32} {x7 : Int32} {x8 : Int32} {n : Nat} {I : xm_I} {L : xm_L} {K : (Int32 × Int32 × Int32) ⊕ ((Int32 × Int32 × Int32) ⊕ ((Int32 × xm_I) ⊕ (xm_I))) → Prop} {Q : Option Value → xm_H → Prop} (hn : 86 ≤ n) (hq : ∀ p : xm_I, K (.inr (.inr (.inr p))) → Q none (p, L, RC n, n)) (hg0 : ∀ s : Int32 × xm_I, K (.inr (.inr (.inl s))) → xm_J 2 mt_M_gather 7 [(0, .ref 49), (1, .int x1), (2, .int s.1)] [] (s.2, L, RC n, n) 0 0 Q) (hg1 : ∀ s : Int32 × Int32 × Int32, K (.inr (.inl s)) → xm_J 2 mt_M_gather 37 [(0, .ref 49), (1, .int x1), (2, .int x2), (3, .int x3), (4, .int x4), (5, .int s.1), (6, .int s.2.1), (7, .int s.2.2)] [] (I, L, RC n, n) 0 0 Q) (hg2 : ∀ s : Int32 × Int32 × Int32, K (.inl s) → xm_J 2 mt_M_gather 62 [(0, .ref 49), (1, .int x1), (2, .int x2), (3, .int x3), (4, .int x4), (5, .int s.1), (6, .int s.2.1), (7, .int x7), (8, .int s.2.2)] [] (I, L, RC n, n) 0 0 Q) (hF : ok (f_M_gather_b158 x1 x2 x3 x4 x5 x7 x8 I) K) : xm_J 2 mt_M_gather 158 [(0, .ref 49), (1, .int x1), (2, .int x2), (3, .int x3), (4, .int x4), (5, .int x5), (7, .int x7), (8, .int x8)] [] (I, L, RC n, n) 0 0 Q := by
  unfold f_M_gather_b158 at hF
  refine r_iconst (v := 1) (i := 90) rfl ki_1 ?_
  refine r_goto (i := 91) (tgt := 163) rfl (by decide) ?_
  exact t_M_gather_b163 hn (fun p h => hq p h) (fun z h => hg0 z h) (fun z h => hg1 z h) (fun z h => hg2 z h) hF
set_option maxHeartbeats 4000000 in
set_option maxRecDepth 100000 in
theorem t_M_gather_b140 {x1 : Int32} {x2 : Int32} {x3 : Int32} {x4 : Int32} {x5 : Int32} {x6 : Int32} {x7 : Int32} {x8 : Int32} {n : Nat} {I : xm_I} {L : xm_L} {K : (Int32 × Int32 × Int32) ⊕ ((Int32 × Int32 × Int32) ⊕ ((Int32 × xm_I) ⊕ (xm_I))) → Prop} {Q : Option Value → xm_H → Prop} (hn : 86 ≤ n) (hq : ∀ p : xm_I, K (.inr (.inr (.inr p))) → Q none (p, L, RC n, n)) (hg0 : ∀ s : Int32 × xm_I, K (.inr (.inr (.inl s))) → xm_J 2 mt_M_gather 7 [(0, .ref 49), (1, .int x1), (2, .int s.1)] [] (s.2, L, RC n, n) 0 0 Q) (hg1 : ∀ s : Int32 × Int32 × Int32, K (.inr (.inl s)) → xm_J 2 mt_M_gather 37 [(0, .ref 49), (1, .int x1), (2, .int x2), (3, .int x3), (4, .int x4), (5, .int s.1), (6, .int s.2.1), (7, .int s.2.2)] [] (I, L, RC n, n) 0 0 Q) (hg2 : ∀ s : Int32 × Int32 × Int32, K (.inl s) → xm_J 2 mt_M_gather 62 [(0, .ref 49), (1, .int x1), (2, .int x2), (3, .int x3), (4, .int x4), (5, .int s.1), (6, .int s.2.1), (7, .int x7), (8, .int s.2.2)] [] (I, L, RC n, n) 0 0 Q) (hF : ok (f_M_gather_b140 x1 x2 x3 x4 x5 x6 x7 x8 I) K) : xm_J 2 mt_M_gather 140 [(0, .ref 49), (1, .int x1), (2, .int x2), (3, .int x3), (4, .int x4), (5, .int x5), (6, .int x6), (7, .int x7), (8, .int x8)] [] (I, L, RC n, n) 0 0 Q := by
  unfold f_M_gather_b140 at hF
  refine q_iinc (i := 82) (k0 := 5) (Ls' := [(5, _), (0, _), (1, _), (2, _), (3, _), (4, _), (6, _), (7, _), (8, _)]) rfl ki_1 rfl (Nat.le_of_ble_eq_true rfl) rfl ?_
  refine r_iload (i := 83) (k0 := 6) rfl rfl ?_
  refine r_ifne (i := 84) (tgt := 158) rfl (by decide) (fun hc => ?_) (fun hc => ?_)
  · have hF := ok_if hc hF
    refine xm_sub (Ls' := [(0, _), (1, _), (2, _), (3, _), (4, _), (5, _), (7, _), (8, _)]) [1, 2, 3, 4, 5, 0, 7, 8] rfl ?_
    exact t_M_gather_b158 hn (fun p h => hq p h) (fun z h => hg0 z h) (fun z h => hg1 z h) (fun z h => hg2 z h) hF
  have hF := ok_it hc hF
  refine r_aload_n (i := 85) (k0 := 1) rfl rfl rfl ?_
  refine r_iload_n (i := 86) (k0 := 2) rfl rfl rfl ?_
  refine r_iload (i := 87) (k0 := 7) rfl rfl ?_
  refine c_V2I (i := 88) rfl vm_M_isSeen lk_M_286 (t_M_isSeen hn (ok_bind hF)) (Nat.le_of_ble_eq_true rfl) (xm_in rfl hn) rfl rfl (Nat.le_of_ble_eq_true rfl) (fun p_2 hF => ?_)
  refine r_ifeq (i := 89) (tgt := 162) rfl (by decide) (fun hc => ?_) (fun hc => ?_)
  · have hF := ok_it hc hF
    refine r_iconst (v := 0) (i := 92) rfl ki_0 ?_
    refine xm_sub (Ls' := [(0, _), (1, _), (2, _), (3, _), (4, _), (5, _), (7, _), (8, _)]) [1, 2, 3, 4, 5, 0, 7, 8] rfl ?_
    exact t_M_gather_b163 hn (fun p h => hq p h) (fun z h => hg0 z h) (fun z h => hg1 z h) (fun z h => hg2 z h) hF
  have hF := ok_if hc hF
  refine xm_sub (Ls' := [(0, _), (1, _), (2, _), (3, _), (4, _), (5, _), (7, _), (8, _)]) [1, 2, 3, 4, 5, 0, 7, 8] rfl ?_
  exact t_M_gather_b158 hn (fun p h => hq p h) (fun z h => hg0 z h) (fun z h => hg1 z h) (fun z h => hg2 z h) hF
set_option maxHeartbeats 4000000 in
set_option maxRecDepth 100000 in
theorem t_M_gather_b127 {x1 : Int32} {x2 : Int32} {x3 : Int32} {x4 : Int32} {x5 : Int32} {x6 : Int32} {x7 : Int32} {x8 : Int32} {x9 : Int32} {x10 : Int32} {n : Nat} {I : xm_I} {L : xm_L} {K : (Int32 × Int32 × Int32) ⊕ ((Int32 × Int32 × Int32) ⊕ ((Int32 × xm_I) ⊕ (xm_I))) → Prop} {Q : Option Value → xm_H → Prop} (hn : 86 ≤ n) (hq : ∀ p : xm_I, K (.inr (.inr (.inr p))) → Q none (p, L, RC n, n)) (hg0 : ∀ s : Int32 × xm_I, K (.inr (.inr (.inl s))) → xm_J 2 mt_M_gather 7 [(0, .ref 49), (1, .int x1), (2, .int s.1)] [] (s.2, L, RC n, n) 0 0 Q) (hg1 : ∀ s : Int32 × Int32 × Int32, K (.inr (.inl s)) → xm_J 2 mt_M_gather 37 [(0, .ref 49), (1, .int x1), (2, .int x2), (3, .int x3), (4, .int x4), (5, .int s.1), (6, .int s.2.1), (7, .int s.2.2)] [] (I, L, RC n, n) 0 0 Q) (hg2 : ∀ s : Int32 × Int32 × Int32, K (.inl s) → xm_J 2 mt_M_gather 62 [(0, .ref 49), (1, .int x1), (2, .int x2), (3, .int x3), (4, .int x4), (5, .int s.1), (6, .int s.2.1), (7, .int x7), (8, .int s.2.2)] [] (I, L, RC n, n) 0 0 Q) (hF : ok (f_M_gather_b127 x1 x2 x3 x4 x5 x6 x7 x8 x9 x10 I) K) : xm_J 2 mt_M_gather 127 [(0, .ref 49), (1, .int x1), (2, .int x2), (3, .int x3), (4, .int x4), (5, .int x5), (6, .int x6), (7, .int x7), (8, .int x8), (9, .int x9), (10, .int x10)] [] (I, L, RC n, n) 0 0 Q := by
  unfold f_M_gather_b127 at hF
  refine r_iload (i := 76) (k0 := 9) rfl rfl ?_
  refine r_iload (i := 77) (k0 := 4) rfl rfl ?_
  refine r_icmpne (i := 78) (tgt := 165) rfl (by decide) (fun hc => ?_) (fun hc => ?_)
  · have hF := ok_if hc hF
    refine xm_sub (Ls' := [(0, _), (1, _), (2, _), (3, _), (4, _), (5, _), (6, _), (7, _), (8, _)]) [0, 1, 2, 3, 4, 5, 6, 7, 8] rfl ?_
    exact t_M_gather_b165 hn (fun p h => hq p h) (fun z h => hg0 z h) (fun z h => hg1 z h) (fun z h => hg2 z h) hF
  have hF := ok_it hc hF
  refine r_iload (i := 79) (k0 := 10) rfl rfl ?_
  refine r_iload_n (i := 80) (k0 := 3) rfl rfl rfl ?_
  refine r_icmpne (i := 81) (tgt := 165) rfl (by decide) (fun hc => ?_) (fun hc => ?_)
  · have hF := ok_if hc hF
    refine xm_sub (Ls' := [(0, _), (1, _), (2, _), (3, _), (4, _), (5, _), (6, _), (7, _), (8, _)]) [0, 1, 2, 3, 4, 5, 6, 7, 8] rfl ?_
    exact t_M_gather_b165 hn (fun p h => hq p h) (fun z h => hg0 z h) (fun z h => hg1 z h) (fun z h => hg2 z h) hF
  have hF := ok_it hc hF
  refine xm_sub (Ls' := [(0, _), (1, _), (2, _), (3, _), (4, _), (5, _), (6, _), (7, _), (8, _)]) [0, 1, 2, 3, 4, 5, 6, 7, 8] rfl ?_
  exact t_M_gather_b140 hn (fun p h => hq p h) (fun z h => hg0 z h) (fun z h => hg1 z h) (fun z h => hg2 z h) hF
set_option maxHeartbeats 4000000 in
set_option maxRecDepth 100000 in
theorem t_M_gather_s62 {x1 : Int32} {x2 : Int32} {x3 : Int32} {x4 : Int32} {x7 : Int32} {s : Int32 × Int32 × Int32} {n : Nat} {I : xm_I} {L : xm_L} {K : (Int32 × Int32 × Int32) ⊕ ((Int32 × Int32 × Int32) ⊕ ((Int32 × xm_I) ⊕ (xm_I))) → Prop} {Q : Option Value → xm_H → Prop} (hn : 86 ≤ n) (hq : ∀ p : xm_I, K (.inr (.inr (.inr p))) → Q none (p, L, RC n, n)) (hg0 : ∀ s : Int32 × xm_I, K (.inr (.inr (.inl s))) → xm_J 2 mt_M_gather 7 [(0, .ref 49), (1, .int x1), (2, .int s.1)] [] (s.2, L, RC n, n) 0 0 Q) (hg1 : ∀ s : Int32 × Int32 × Int32, K (.inr (.inl s)) → xm_J 2 mt_M_gather 37 [(0, .ref 49), (1, .int x1), (2, .int x2), (3, .int x3), (4, .int x4), (5, .int s.1), (6, .int s.2.1), (7, .int s.2.2)] [] (I, L, RC n, n) 0 0 Q) (hg2 : ∀ s : Int32 × Int32 × Int32, K (.inl s) → xm_J 2 mt_M_gather 62 [(0, .ref 49), (1, .int x1), (2, .int x2), (3, .int x3), (4, .int x4), (5, .int s.1), (6, .int s.2.1), (7, .int x7), (8, .int s.2.2)] [] (I, L, RC n, n) 0 0 Q) (hF : ok (f_M_gather_s62 x1 x2 x3 x4 x7 I s) K) : xm_J 2 mt_M_gather 62 [(0, .ref 49), (1, .int x1), (2, .int x2), (3, .int x3), (4, .int x4), (5, .int s.1), (6, .int s.2.1), (7, .int x7), (8, .int s.2.2)] [] (I, L, RC n, n) 0 0 Q := by
  unfold f_M_gather_s62 at hF
  refine r_iload (i := 39) (k0 := 8) rfl rfl ?_
  refine r_aload_n (i := 40) (k0 := 0) rfl rfl rfl ?_
  refine q_getr (b := 66) (i := 41) rfl fl_M_75 rfl (xm_in rfl hn) rfl rfl ?_
  refine r_iload (i := 42) (k0 := 7) rfl rfl ?_
  obtain ⟨hi, hF⟩ := ok_gd hF
  refine q_iaload (i := 43) rfl (xm_in rfl hn) rfl hi ?_
  refine r_icmpge (i := 44) (tgt := 171) rfl (by decide) (fun hc => ?_) (fun hc => ?_)
  · have hF := ok_it hc hF
    refine q_iinc (i := 96) (k0 := 7) (Ls' := [(7, _), (0, _), (1, _), (2, _), (3, _), (4, _), (5, _), (6, _), (8, _)]) rfl ki_1 rfl (Nat.le_of_ble_eq_true rfl) rfl ?_
    refine r_goto (i := 97) (tgt := 37) rfl (by decide) ?_
    refine xm_sub (Ls' := [(0, _), (1, _), (2, _), (3, _), (4, _), (5, _), (6, _), (7, _)]) [1, 2, 3, 4, 5, 6, 7, 0] rfl ?_
    have hJ := hg1 _ (ok_some hF)
    exact hJ
  have hF := ok_if hc hF
  refine r_aload_n (i := 45) (k0 := 0) rfl rfl rfl ?_
  refine q_getr (b := 67) (i := 46) rfl fl_M_78 rfl (xm_in rfl hn) rfl rfl ?_
  refine r_bipush (v := 6) (i := 47) rfl kb_6 ?_
  refine r_iload (i := 48) (k0 := 7) rfl rfl ?_
  refine r_imul (i := 49) rfl ?_
  refine r_iload (i := 50) (k0 := 8) rfl rfl ?_
  refine r_iadd (i := 51) rfl ?_
  obtain ⟨hi, hF⟩ := ok_gd hF
  refine q_iaload (i := 52) rfl (xm_in rfl hn) rfl hi ?_
  refine r_istore (i := 53) (Ls' := [(9, _), (0, _), (1, _), (2, _), (3, _), (4, _), (5, _), (6, _), (7, _), (8, _)]) rfl (Nat.le_of_ble_eq_true rfl) rfl ?_
  refine r_aload_n (i := 54) (k0 := 1) rfl rfl rfl ?_
  refine q_getr (b := 67) (i := 55) rfl fl_M_78 rfl (xm_in rfl hn) rfl rfl ?_
  refine r_bipush (v := 6) (i := 56) rfl kb_6 ?_
  refine r_iload (i := 57) (k0 := 8) rfl rfl ?_
  refine r_imul (i := 58) rfl ?_
  refine r_iload (i := 59) (k0 := 9) rfl rfl ?_
  refine r_iconst (v := 1) (i := 60) rfl ki_1 ?_
  refine r_iadd (i := 61) rfl ?_
  refine r_aload_n (i := 62) (k0 := 1) rfl rfl rfl ?_
  refine q_getr (b := 66) (i := 63) rfl fl_M_75 rfl (xm_in rfl hn) rfl rfl ?_
  refine r_iload (i := 64) (k0 := 8) rfl rfl ?_
  obtain ⟨hi, hF⟩ := ok_gd hF
  refine q_iaload (i := 65) rfl (xm_in rfl hn) rfl hi ?_
  obtain ⟨hi, hF⟩ := ok_gd hF
  refine r_irem (i := 66) rfl hi ?_
  refine r_iadd (i := 67) rfl ?_
  obtain ⟨hi, hF⟩ := ok_gd hF
  refine q_iaload (i := 68) rfl (xm_in rfl hn) rfl hi ?_
  refine r_istore (i := 69) (Ls' := [(10, _), (9, _), (0, _), (1, _), (2, _), (3, _), (4, _), (5, _), (6, _), (7, _), (8, _)]) rfl (Nat.le_of_ble_eq_true rfl) rfl ?_
  refine r_iload (i := 70) (k0 := 1) rfl rfl ?_
  refine r_iload_n (i := 71) (k0 := 5) rfl rfl rfl ?_
  refine r_icmpne (i := 72) (tgt := 127) rfl (by decide) (fun hc => ?_) (fun hc => ?_)
  · have hF := ok_if hc hF
    refine xm_sub (Ls' := [(0, _), (1, _), (2, _), (3, _), (4, _), (5, _), (6, _), (7, _), (8, _), (9, _), (10, _)]) [2, 3, 4, 5, 6, 7, 8, 9, 10, 1, 0] rfl ?_
    exact t_M_gather_b127 hn (fun p h => hq p h) (fun z h => hg0 z h) (fun z h => hg1 z h) (fun z h => hg2 z h) hF
  have hF := ok_it hc hF
  refine r_iload (i := 73) (k0 := 0) rfl rfl ?_
  refine r_iload (i := 74) (k0 := 6) rfl rfl ?_
  refine r_icmpeq (i := 75) (tgt := 140) rfl (by decide) (fun hc => ?_) (fun hc => ?_)
  · have hF := ok_it hc hF
    refine xm_sub (Ls' := [(0, _), (1, _), (2, _), (3, _), (4, _), (5, _), (6, _), (7, _), (8, _)]) [2, 3, 4, 5, 6, 7, 8, 9, 10] rfl ?_
    exact t_M_gather_b140 hn (fun p h => hq p h) (fun z h => hg0 z h) (fun z h => hg1 z h) (fun z h => hg2 z h) hF
  have hF := ok_if hc hF
  refine xm_sub (Ls' := [(0, _), (1, _), (2, _), (3, _), (4, _), (5, _), (6, _), (7, _), (8, _), (9, _), (10, _)]) [2, 3, 4, 5, 6, 7, 8, 9, 10, 1, 0] rfl ?_
  exact t_M_gather_b127 hn (fun p h => hq p h) (fun z h => hg0 z h) (fun z h => hg1 z h) (fun z h => hg2 z h) hF
set_option maxHeartbeats 4000000 in
set_option maxRecDepth 100000 in
theorem t_M_gather_b62 {x1 : Int32} {x2 : Int32} {x3 : Int32} {x4 : Int32} {x7 : Int32} {s : Int32 × Int32 × Int32} {n : Nat} {I : xm_I} {L : xm_L} {K : (Int32 × Int32 × Int32) ⊕ ((Int32 × xm_I) ⊕ (xm_I)) → Prop} {Q : Option Value → xm_H → Prop} (hn : 86 ≤ n) (hq : ∀ p : xm_I, K (.inr (.inr p)) → Q none (p, L, RC n, n)) (hg0 : ∀ s : Int32 × xm_I, K (.inr (.inl s)) → xm_J 2 mt_M_gather 7 [(0, .ref 49), (1, .int x1), (2, .int s.1)] [] (s.2, L, RC n, n) 0 0 Q) (hg1 : ∀ s : Int32 × Int32 × Int32, K (.inl s) → xm_J 2 mt_M_gather 37 [(0, .ref 49), (1, .int x1), (2, .int x2), (3, .int x3), (4, .int x4), (5, .int s.1), (6, .int s.2.1), (7, .int s.2.2)] [] (I, L, RC n, n) 0 0 Q) (hF : ok (f_M_gather_b62 x1 x2 x3 x4 x7 I s) K) : xm_J 2 mt_M_gather 62 [(0, .ref 49), (1, .int x1), (2, .int x2), (3, .int x3), (4, .int x4), (5, .int s.1), (6, .int s.2.1), (7, .int x7), (8, .int s.2.2)] [] (I, L, RC n, n) 0 0 Q :=
  lp_J (G := fun z => xm_J 2 mt_M_gather 62 [(0, .ref 49), (1, .int x1), (2, .int x2), (3, .int x3), (4, .int x4), (5, .int z.1), (6, .int z.2.1), (7, .int x7), (8, .int z.2.2)] [] (I, L, RC n, n) 0 0 Q) (fun z hF => t_M_gather_s62 hn (fun p h => hq p h) (fun z h => hg0 z h) (fun z h => hg1 z h) (fun z h => h) hF) s hF
set_option maxHeartbeats 4000000 in
set_option maxRecDepth 100000 in
theorem t_M_gather_s37 {x1 : Int32} {x2 : Int32} {x3 : Int32} {x4 : Int32} {s : Int32 × Int32 × Int32} {n : Nat} {I : xm_I} {L : xm_L} {K : (Int32 × Int32 × Int32) ⊕ ((Int32 × xm_I) ⊕ (xm_I)) → Prop} {Q : Option Value → xm_H → Prop} (hn : 86 ≤ n) (hq : ∀ p : xm_I, K (.inr (.inr p)) → Q none (p, L, RC n, n)) (hg0 : ∀ s : Int32 × xm_I, K (.inr (.inl s)) → xm_J 2 mt_M_gather 7 [(0, .ref 49), (1, .int x1), (2, .int s.1)] [] (s.2, L, RC n, n) 0 0 Q) (hg1 : ∀ s : Int32 × Int32 × Int32, K (.inl s) → xm_J 2 mt_M_gather 37 [(0, .ref 49), (1, .int x1), (2, .int x2), (3, .int x3), (4, .int x4), (5, .int s.1), (6, .int s.2.1), (7, .int s.2.2)] [] (I, L, RC n, n) 0 0 Q) (hF : ok (f_M_gather_s37 x1 x2 x3 x4 I s) K) : xm_J 2 mt_M_gather 37 [(0, .ref 49), (1, .int x1), (2, .int x2), (3, .int x3), (4, .int x4), (5, .int s.1), (6, .int s.2.1), (7, .int s.2.2)] [] (I, L, RC n, n) 0 0 Q := by
  unfold f_M_gather_s37 at hF
  refine r_iload (i := 24) (k0 := 7) rfl rfl ?_
  refine r_bipush (v := 10) (i := 25) rfl kb_10 ?_
  refine r_iload_n (i := 26) (k0 := 1) rfl rfl rfl ?_
  refine r_imul (i := 27) rfl ?_
  refine r_aload_n (i := 28) (k0 := 0) rfl rfl rfl ?_
  refine q_getr (b := 65) (i := 29) rfl fl_M_72 rfl (xm_in rfl hn) rfl rfl ?_
  refine r_iload_n (i := 30) (k0 := 1) rfl rfl rfl ?_
  obtain ⟨hi, hF⟩ := ok_gd hF
  refine q_iaload (i := 31) rfl (xm_in rfl hn) rfl hi ?_
  refine r_iadd (i := 32) rfl ?_
  refine r_icmpge (i := 33) (tgt := 177) rfl (by decide) (fun hc => ?_) (fun hc => ?_)
  · have hF := ok_it hc hF
    refine xm_sub (Ls' := [(0, _), (1, _), (2, _), (3, _), (4, _), (5, _), (6, _)]) [0, 1, 2, 3, 4, 5, 6] rfl ?_
    exact t_M_gather_b177 hn (fun p h => hq p h) (fun z h => hg0 z h) (ok_map hF)
  have hF := ok_if hc hF
  refine r_iload_n (i := 34) (k0 := 3) rfl rfl rfl ?_
  refine r_iload (i := 35) (k0 := 4) rfl rfl ?_
  refine r_icmpge (i := 36) (tgt := 177) rfl (by decide) (fun hc => ?_) (fun hc => ?_)
  · have hF := ok_it hc hF
    refine xm_sub (Ls' := [(0, _), (1, _), (2, _), (3, _), (4, _), (5, _), (6, _)]) [0, 1, 2, 3, 4, 5, 6] rfl ?_
    exact t_M_gather_b177 hn (fun p h => hq p h) (fun z h => hg0 z h) (ok_map hF)
  have hF := ok_if hc hF
  refine r_iconst (v := 0) (i := 37) rfl ki_0 ?_
  refine r_istore (i := 38) (Ls' := [(8, _), (0, _), (1, _), (2, _), (3, _), (4, _), (5, _), (6, _), (7, _)]) rfl (Nat.le_of_ble_eq_true rfl) rfl ?_
  refine xm_sub (Ls' := [(0, _), (1, _), (2, _), (3, _), (4, _), (5, _), (6, _), (7, _), (8, _)]) [1, 2, 3, 4, 5, 6, 7, 8, 0] rfl ?_
  exact t_M_gather_b62 hn (fun p h => hq p h) (fun z h => hg0 z h) (fun z h => hg1 z h) hF
set_option maxHeartbeats 4000000 in
set_option maxRecDepth 100000 in
theorem t_M_gather_b37 {x1 : Int32} {x2 : Int32} {x3 : Int32} {x4 : Int32} {s : Int32 × Int32 × Int32} {n : Nat} {I : xm_I} {L : xm_L} {K : (Int32 × xm_I) ⊕ (xm_I) → Prop} {Q : Option Value → xm_H → Prop} (hn : 86 ≤ n) (hq : ∀ p : xm_I, K (.inr p) → Q none (p, L, RC n, n)) (hg0 : ∀ s : Int32 × xm_I, K (.inl s) → xm_J 2 mt_M_gather 7 [(0, .ref 49), (1, .int x1), (2, .int s.1)] [] (s.2, L, RC n, n) 0 0 Q) (hF : ok (f_M_gather_b37 x1 x2 x3 x4 I s) K) : xm_J 2 mt_M_gather 37 [(0, .ref 49), (1, .int x1), (2, .int x2), (3, .int x3), (4, .int x4), (5, .int s.1), (6, .int s.2.1), (7, .int s.2.2)] [] (I, L, RC n, n) 0 0 Q :=
  lp_J (G := fun z => xm_J 2 mt_M_gather 37 [(0, .ref 49), (1, .int x1), (2, .int x2), (3, .int x3), (4, .int x4), (5, .int z.1), (6, .int z.2.1), (7, .int z.2.2)] [] (I, L, RC n, n) 0 0 Q) (fun z hF => t_M_gather_s37 hn (fun p h => hq p h) (fun z h => hg0 z h) (fun z h => h) hF) s hF
set_option maxHeartbeats 4000000 in
set_option maxRecDepth 100000 in
theorem t_M_gather_s7 {x1 : Int32} {s : Int32 × xm_I} {n : Nat} {L : xm_L} {K : (Int32 × xm_I) ⊕ (xm_I) → Prop} {Q : Option Value → xm_H → Prop} (hn : 86 ≤ n) (hq : ∀ p : xm_I, K (.inr p) → Q none (p, L, RC n, n)) (hg0 : ∀ s : Int32 × xm_I, K (.inl s) → xm_J 2 mt_M_gather 7 [(0, .ref 49), (1, .int x1), (2, .int s.1)] [] (s.2, L, RC n, n) 0 0 Q) (hF : ok (f_M_gather_s7 x1 s) K) : xm_J 2 mt_M_gather 7 [(0, .ref 49), (1, .int x1), (2, .int s.1)] [] (s.2, L, RC n, n) 0 0 Q := by
  unfold f_M_gather_s7 at hF
  refine r_iload_n (i := 5) (k0 := 2) rfl rfl rfl ?_
  refine r_sipush (v := 144) (i := 6) rfl ks_144 ?_
  refine r_icmpge (i := 7) (tgt := 263) rfl (by decide) (fun hc => ?_) (fun hc => ?_)
  · have hF := ok_it hc hF
    have hQ := hq _ (ok_some hF)
    exact r_return (i := 150) rfl rfl hQ
  have hF := ok_if hc hF
  refine r_iload_n (i := 8) (k0 := 2) rfl rfl rfl ?_
  refine r_bipush (v := 12) (i := 9) rfl kb_12 ?_
  refine r_idiv (i := 10) rfl (by decide) ?_
  refine r_istore_n (i := 11) (Ls' := [(3, _), (0, _), (1, _), (2, _)]) rfl rfl (Nat.le_of_ble_eq_true rfl) rfl ?_
  refine r_iload_n (i := 12) (k0 := 3) rfl rfl rfl ?_
  refine r_bipush (v := 12) (i := 13) rfl kb_12 ?_
  refine r_irem (i := 14) rfl (by decide) ?_
  refine r_istore (i := 15) (Ls' := [(4, _), (3, _), (0, _), (1, _), (2, _)]) rfl (Nat.le_of_ble_eq_true rfl) rfl ?_
  refine r_iconst (v := 0) (i := 16) rfl ki_0 ?_
  refine r_istore (i := 17) (Ls' := [(5, _), (4, _), (3, _), (0, _), (1, _), (2, _)]) rfl (Nat.le_of_ble_eq_true rfl) rfl ?_
  refine r_iconst (v := 0) (i := 18) rfl ki_0 ?_
  refine r_istore (i := 19) (Ls' := [(6, _), (5, _), (4, _), (3, _), (0, _), (1, _), (2, _)]) rfl (Nat.le_of_ble_eq_true rfl) rfl ?_
  refine r_bipush (v := 10) (i := 20) rfl kb_10 ?_
  refine r_iload_n (i := 21) (k0 := 5) rfl rfl rfl ?_
  refine r_imul (i := 22) rfl ?_
  refine r_istore (i := 23) (Ls' := [(7, _), (6, _), (5, _), (4, _), (3, _), (0, _), (1, _), (2, _)]) rfl (Nat.le_of_ble_eq_true rfl) rfl ?_
  refine xm_sub (Ls' := [(0, _), (1, _), (2, _), (3, _), (4, _), (5, _), (6, _), (7, _)]) [5, 6, 7, 4, 3, 2, 1, 0] rfl ?_
  exact t_M_gather_b37 hn (fun p h => hq p h) (fun z h => hg0 z h) hF
set_option maxHeartbeats 4000000 in
set_option maxRecDepth 100000 in
theorem t_M_gather_b7 {x1 : Int32} {s : Int32 × xm_I} {n : Nat} {L : xm_L} {K : xm_I → Prop} {Q : Option Value → xm_H → Prop} (hn : 86 ≤ n) (hq : ∀ p : xm_I, K p → Q none (p, L, RC n, n)) (hF : ok (f_M_gather_b7 x1 s) K) : xm_J 2 mt_M_gather 7 [(0, .ref 49), (1, .int x1), (2, .int s.1)] [] (s.2, L, RC n, n) 0 0 Q :=
  lp_J (G := fun z => xm_J 2 mt_M_gather 7 [(0, .ref 49), (1, .int x1), (2, .int z.1)] [] (z.2, L, RC n, n) 0 0 Q) (fun z hF => t_M_gather_s7 hn (fun p h => hq p h) (fun z h => h) hF) s hF
set_option maxHeartbeats 4000000 in
set_option maxRecDepth 100000 in
theorem t_M_gather_b0 {x1 : Int32} {n : Nat} {I : xm_I} {L : xm_L} {K : xm_I → Prop} {Q : Option Value → xm_H → Prop} (hn : 86 ≤ n) (hq : ∀ p : xm_I, K p → Q none (p, L, RC n, n)) (hF : ok (f_M_gather_b0 x1 I) K) : xm_J 2 mt_M_gather 0 [(0, .ref 49), (1, .int x1)] [] (I, L, RC n, n) 0 0 Q := by
  unfold f_M_gather_b0 at hF
  refine r_aload_n (i := 0) (k0 := 0) rfl rfl rfl ?_
  refine r_iconst (v := 0) (i := 1) rfl ki_0 ?_
  refine q_puti (i := 2) rfl fl_M_283 (fun h => Bool.noConfusion h) (xm_in rfl hn) rfl ?_
  refine r_iconst (v := 0) (i := 3) rfl ki_0 ?_
  refine r_istore_n (i := 4) (Ls' := [(2, _), (0, _), (1, _)]) rfl rfl (Nat.le_of_ble_eq_true rfl) rfl ?_
  refine xm_sub (Ls' := [(0, _), (1, _), (2, _)]) [1, 2, 0] rfl ?_
  exact t_M_gather_b7 hn (fun p h => hq p h) hF
set_option maxHeartbeats 4000000 in
set_option maxRecDepth 100000 in
theorem t_M_gather {x1 : Int32} {n : Nat} {I : xm_I} {L : xm_L} {K : xm_I → Prop} (hn : 86 ≤ n) (hF : ok (f_M_gather x1 I) K) : xm_C 2 mt_M_gather [.ref 49, .int x1] (I, L, RC n, n) 0 0 (pV (fun p : xm_I => (p, L, RC n, n)) K) := by
  unfold f_M_gather at hF
  refine xm_enter (by decide +kernel) dv_M_gather (Nat.le_of_ble_eq_true rfl) ?_
  exact t_M_gather_b0 hn (fun p hp => ⟨p, rfl, rfl, hp⟩) hF

noncomputable def f_M_edge_b0 (x1 : Int32) (x2 : Int32) (x3 : Int32) (I : xm_I) : Option (Int32 × xm_I) :=
  (f_M_isSolid x1 I).bind fun p_1 =>
  if p_1 = 0 then (
    some ((-100001), I))
  else (
    (f_M_gather x1 I).bind fun p_2 =>
    if x2 = ((-1)) then (
      some (p_2 49 34, p_2))
    else (
      (f_M_in (Int32.toInt64 x2) 0 (Int32.toInt64 ((p_2 49 34) - 1))).bind fun p_3 =>
      if p_3 = 0 then (
        some ((-100001), p_2))
      else (
        (f_M_in (Int32.toInt64 x3) 0 3).bind fun p_4 =>
        if p_4 = 0 then (
          some ((-100002), p_2))
        else (
          gd (0 ≤ ((4 * x2) + x3).toInt ∧ ((4 * x2) + x3).toInt < 264) <|
          some (p_2 68 (Int32.toNatClampNeg ((4 * x2) + x3)), p_2)))))
noncomputable def f_M_edge (x1 : Int32) (x2 : Int32) (x3 : Int32) (I : xm_I) : Option (Int32 × xm_I) := f_M_edge_b0 x1 x2 x3 I
set_option maxHeartbeats 4000000 in
set_option maxRecDepth 100000 in
theorem t_M_edge_b0 {x1 : Int32} {x2 : Int32} {x3 : Int32} {n : Nat} {I : xm_I} {L : xm_L} {K : Int32 × xm_I → Prop} {Q : Option Value → xm_H → Prop} (hn : 86 ≤ n) (hq : ∀ p : Int32 × xm_I, K p → Q (some (.int p.1)) (p.2, L, RC n, n)) (hF : ok (f_M_edge_b0 x1 x2 x3 I) K) : xm_J 3 mt_M_edge 0 [(0, .ref 49), (1, .int x1), (2, .int x2), (3, .int x3)] [] (I, L, RC n, n) 0 0 Q := by
  unfold f_M_edge_b0 at hF
  refine r_aload_n (i := 0) (k0 := 0) rfl rfl rfl ?_
  refine r_iload_n (i := 1) (k0 := 1) rfl rfl rfl ?_
  refine c_V1I (i := 2) rfl vm_M_isSolid lk_M_271 (t_M_isSolid hn (ok_bind hF)) (Nat.le_of_ble_eq_true rfl) (xm_in rfl hn) rfl rfl (Nat.le_of_ble_eq_true rfl) (fun p_1 hF => ?_)
  refine r_ifne (i := 3) (tgt := 11) rfl (by decide) (fun hc => ?_) (fun hc => ?_)
  · have hF := ok_if hc hF
    refine r_aload_n (i := 6) (k0 := 0) rfl rfl rfl ?_
    refine r_iload_n (i := 7) (k0 := 1) rfl rfl rfl ?_
    refine c_V1V (i := 8) rfl vm_M_gather lk_M_290 (t_M_gather hn (ok_bind hF)) (Nat.le_of_ble_eq_true rfl) (xm_in rfl hn) rfl rfl (Nat.le_of_ble_eq_true rfl) (fun p_2 hF => ?_)
    refine r_iload_n (i := 9) (k0 := 2) rfl rfl rfl ?_
    refine r_iconst (v := (-1)) (i := 10) rfl ki_m1 ?_
    refine r_icmpne (i := 11) (tgt := 26) rfl (by decide) (fun hc => ?_) (fun hc => ?_)
    · have hF := ok_if hc hF
      refine r_iload_n (i := 15) (k0 := 2) rfl rfl rfl ?_
      refine r_i2l (i := 16) rfl ?_
      refine r_lconst (v := 0) (i := 17) rfl rfl ?_
      refine r_aload_n (i := 18) (k0 := 0) rfl rfl rfl ?_
      refine q_geti (i := 19) rfl fl_M_283 (xm_in rfl hn) rfl ?_
      refine r_iconst (v := 1) (i := 20) rfl ki_1 ?_
      refine r_isub (i := 21) rfl ?_
      refine r_i2l (i := 22) rfl ?_
      refine c_S3I (i := 23) rfl sm_M_in lk_M_150 (t_M_in hn (ok_bind hF)) (Nat.le_of_ble_eq_true rfl) rfl (Nat.le_of_ble_eq_true rfl) (fun p_3 hF => ?_)
      refine r_ifne (i := 24) (tgt := 47) rfl (by decide) (fun hc => ?_) (fun hc => ?_)
      · have hF := ok_if hc hF
        refine r_iload_n (i := 27) (k0 := 3) rfl rfl rfl ?_
        refine r_i2l (i := 28) rfl ?_
        refine r_lconst (v := 0) (i := 29) rfl rfl ?_
        refine r_ldc2 (i := 30) rfl ct_M_180 ?_
        refine c_S3I (i := 31) rfl sm_M_in lk_M_150 (t_M_in hn (ok_bind hF)) (Nat.le_of_ble_eq_true rfl) rfl (Nat.le_of_ble_eq_true rfl) (fun p_4 hF => ?_)
        refine r_ifne (i := 32) (tgt := 64) rfl (by decide) (fun hc => ?_) (fun hc => ?_)
        · have hF := ok_if hc hF
          refine r_aload_n (i := 35) (k0 := 0) rfl rfl rfl ?_
          refine q_getr (b := 68) (i := 36) rfl fl_M_81 rfl (xm_in rfl hn) rfl rfl ?_
          refine r_iconst (v := 4) (i := 37) rfl ki_4 ?_
          refine r_iload_n (i := 38) (k0 := 2) rfl rfl rfl ?_
          refine r_imul (i := 39) rfl ?_
          refine r_iload_n (i := 40) (k0 := 3) rfl rfl rfl ?_
          refine r_iadd (i := 41) rfl ?_
          obtain ⟨hi, hF⟩ := ok_gd hF
          refine q_iaload (i := 42) rfl (xm_in rfl hn) rfl hi ?_
          have hQ := hq _ (ok_some hF)
          exact r_ireturn (i := 43) rfl rfl rfl hQ
        have hF := ok_it hc hF
        refine r_ldc (i := 33) rfl ct_M_154 ?_
        refine r_goto (i := 34) (tgt := 74) rfl (by decide) ?_
        have hQ := hq _ (ok_some hF)
        exact r_ireturn (i := 43) rfl rfl rfl hQ
      have hF := ok_it hc hF
      refine r_ldc (i := 25) rfl ct_M_160 ?_
      refine r_goto (i := 26) (tgt := 74) rfl (by decide) ?_
      have hQ := hq _ (ok_some hF)
      exact r_ireturn (i := 43) rfl rfl rfl hQ
    have hF := ok_it hc hF
    refine r_aload_n (i := 12) (k0 := 0) rfl rfl rfl ?_
    refine q_geti (i := 13) rfl fl_M_283 (xm_in rfl hn) rfl ?_
    have hQ := hq _ (ok_some hF)
    exact r_ireturn (i := 14) rfl rfl rfl hQ
  have hF := ok_it hc hF
  refine r_ldc (i := 4) rfl ct_M_160 ?_
  have hQ := hq _ (ok_some hF)
  exact r_ireturn (i := 5) rfl rfl rfl hQ
set_option maxHeartbeats 4000000 in
set_option maxRecDepth 100000 in
theorem t_M_edge {x1 : Int32} {x2 : Int32} {x3 : Int32} {n : Nat} {I : xm_I} {L : xm_L} {K : Int32 × xm_I → Prop} (hn : 86 ≤ n) (hF : ok (f_M_edge x1 x2 x3 I) K) : xm_C 3 mt_M_edge [.ref 49, .int x1, .int x2, .int x3] (I, L, RC n, n) 0 0 (pI (fun p : Int32 × xm_I => p.1) (fun p : Int32 × xm_I => (p.2, L, RC n, n)) K) := by
  unfold f_M_edge at hF
  refine xm_enter (by decide +kernel) dv_M_edge (Nat.le_of_ble_eq_true rfl) ?_
  exact t_M_edge_b0 hn (fun p hp => ⟨p, rfl, rfl, hp⟩) hF

noncomputable def f_M_narrow_b70 (I : xm_I) (L : xm_L) : Option (xm_I × xm_L) :=
  let I_1 : xm_I := up2 I 49 41 1
  let I_2 : xm_I := up2 I_1 49 42 1
  some (I_2, L)
noncomputable def f_M_narrow_b59 (l3 : Int64) (l5 : Int64) (I : xm_I) (L : xm_L) : Option (xm_I × xm_L) :=
  let L_1 : xm_L := up2 L 49 45 l3
  let L_2 : xm_L := up2 L_1 49 46 l5
  f_M_narrow_b70 I L_2
noncomputable def f_M_narrow_b35 (l3 : Int64) (l5 : Int64) (I : xm_I) (L : xm_L) : Option (xm_I × xm_L) :=
  if (I 49 42) = 0 then (
    f_M_narrow_b59 l3 l5 I L)
  else (
  if ((L 49 45) * l5) ≤ (l3 * (L 49 46)) then (
    f_M_narrow_b70 I L)
  else (
  f_M_narrow_b59 l3 l5 I L))
noncomputable def f_M_narrow_b24 (l1 : Int64) (l3 : Int64) (l5 : Int64) (I : xm_I) (L : xm_L) : Option (xm_I × xm_L) :=
  let L_1 : xm_L := up2 L 49 43 l1
  let L_2 : xm_L := up2 L_1 49 44 l5
  f_M_narrow_b35 l3 l5 I L_2
noncomputable def f_M_narrow_b0 (l1 : Int64) (l3 : Int64) (l5 : Int64) (I : xm_I) (L : xm_L) : Option (xm_I × xm_L) :=
  if (I 49 41) = 0 then (
    f_M_narrow_b24 l1 l3 l5 I L)
  else (
  if (l1 * (L 49 44)) ≤ ((L 49 43) * l5) then (
    f_M_narrow_b35 l3 l5 I L)
  else (
  f_M_narrow_b24 l1 l3 l5 I L))
noncomputable def f_M_narrow (l1 : Int64) (l3 : Int64) (l5 : Int64) (I : xm_I) (L : xm_L) : Option (xm_I × xm_L) := f_M_narrow_b0 l1 l3 l5 I L
set_option maxHeartbeats 4000000 in
set_option maxRecDepth 100000 in
theorem t_M_narrow_b70 {n : Nat} {I : xm_I} {L : xm_L} {K : xm_I × xm_L → Prop} {Q : Option Value → xm_H → Prop} (hn : 86 ≤ n) (hq : ∀ p : xm_I × xm_L, K p → Q none (p.1, p.2, RC n, n)) (hF : ok (f_M_narrow_b70 I L) K) : xm_J 0 mt_M_narrow 70 [(0, .ref 49)] [] (I, L, RC n, n) 0 0 Q := by
  unfold f_M_narrow_b70 at hF
  refine r_aload_n (i := 38) (k0 := 0) rfl rfl rfl ?_
  refine r_iconst (v := 1) (i := 39) rfl ki_1 ?_
  refine q_putz (i := 40) rfl fl_M_294 (fun h => Bool.noConfusion h) (xm_in rfl hn) rfl (Or.inr rfl) ?_
  refine r_aload_n (i := 41) (k0 := 0) rfl rfl rfl ?_
  refine r_iconst (v := 1) (i := 42) rfl ki_1 ?_
  refine q_putz (i := 43) rfl fl_M_304 (fun h => Bool.noConfusion h) (xm_in rfl hn) rfl (Or.inr rfl) ?_
  have hQ := hq _ (ok_some hF)
  exact r_return (i := 44) rfl rfl hQ
set_option maxHeartbeats 4000000 in
set_option maxRecDepth 100000 in
theorem t_M_narrow_b59 {l3 : Int64} {l5 : Int64} {n : Nat} {I : xm_I} {L : xm_L} {K : xm_I × xm_L → Prop} {Q : Option Value → xm_H → Prop} (hn : 86 ≤ n) (hq : ∀ p : xm_I × xm_L, K p → Q none (p.1, p.2, RC n, n)) (hF : ok (f_M_narrow_b59 l3 l5 I L) K) : xm_J 0 mt_M_narrow 59 [(0, .ref 49), (3, .long l3), (5, .long l5)] [] (I, L, RC n, n) 0 0 Q := by
  unfold f_M_narrow_b59 at hF
  refine r_aload_n (i := 32) (k0 := 0) rfl rfl rfl ?_
  refine r_lload_n (i := 33) (k0 := 1) rfl rfl rfl ?_
  refine q_putl (i := 34) rfl fl_M_310 (fun h => Bool.noConfusion h) (xm_in rfl hn) rfl ?_
  refine r_aload_n (i := 35) (k0 := 0) rfl rfl rfl ?_
  refine r_lload (i := 36) (k0 := 2) rfl rfl ?_
  refine q_putl (i := 37) rfl fl_M_307 (fun h => Bool.noConfusion h) (xm_in rfl hn) rfl ?_
  refine xm_sub (Ls' := [(0, _)]) [0] rfl ?_
  exact t_M_narrow_b70 hn (fun p h => hq p h) hF
set_option maxHeartbeats 4000000 in
set_option maxRecDepth 100000 in
theorem t_M_narrow_b35 {l3 : Int64} {l5 : Int64} {n : Nat} {I : xm_I} {L : xm_L} {K : xm_I × xm_L → Prop} {Q : Option Value → xm_H → Prop} (hn : 86 ≤ n) (hq : ∀ p : xm_I × xm_L, K p → Q none (p.1, p.2, RC n, n)) (hF : ok (f_M_narrow_b35 l3 l5 I L) K) : xm_J 0 mt_M_narrow 35 [(0, .ref 49), (3, .long l3), (5, .long l5)] [] (I, L, RC n, n) 0 0 Q := by
  unfold f_M_narrow_b35 at hF
  refine r_aload_n (i := 19) (k0 := 0) rfl rfl rfl ?_
  refine q_getz (i := 20) rfl fl_M_304 (xm_in rfl hn) rfl ?_
  refine r_ifeq (i := 21) (tgt := 59) rfl (by decide) (fun hc => ?_) (fun hc => ?_)
  · have hF := ok_it hc hF
    exact t_M_narrow_b59 hn (fun p h => hq p h) hF
  have hF := ok_if hc hF
  refine r_lload_n (i := 22) (k0 := 1) rfl rfl rfl ?_
  refine r_aload_n (i := 23) (k0 := 0) rfl rfl rfl ?_
  refine q_getl (i := 24) rfl fl_M_307 (xm_in rfl hn) rfl ?_
  refine r_lmul (i := 25) rfl ?_
  refine r_aload_n (i := 26) (k0 := 0) rfl rfl rfl ?_
  refine q_getl (i := 27) rfl fl_M_310 (xm_in rfl hn) rfl ?_
  refine r_lload (i := 28) (k0 := 2) rfl rfl ?_
  refine r_lmul (i := 29) rfl ?_
  refine r_lcmpge (i := 30) (j := 31) (tgt := 70) rfl rfl (by decide) (fun hc => ?_) (fun hc => ?_)
  · have hF := ok_it hc hF
    refine xm_sub (Ls' := [(0, _)]) [0] rfl ?_
    exact t_M_narrow_b70 hn (fun p h => hq p h) hF
  have hF := ok_if hc hF
  exact t_M_narrow_b59 hn (fun p h => hq p h) hF
set_option maxHeartbeats 4000000 in
set_option maxRecDepth 100000 in
theorem t_M_narrow_b24 {l1 : Int64} {l3 : Int64} {l5 : Int64} {n : Nat} {I : xm_I} {L : xm_L} {K : xm_I × xm_L → Prop} {Q : Option Value → xm_H → Prop} (hn : 86 ≤ n) (hq : ∀ p : xm_I × xm_L, K p → Q none (p.1, p.2, RC n, n)) (hF : ok (f_M_narrow_b24 l1 l3 l5 I L) K) : xm_J 0 mt_M_narrow 24 [(0, .ref 49), (1, .long l1), (3, .long l3), (5, .long l5)] [] (I, L, RC n, n) 0 0 Q := by
  unfold f_M_narrow_b24 at hF
  refine r_aload_n (i := 13) (k0 := 0) rfl rfl rfl ?_
  refine r_lload_n (i := 14) (k0 := 1) rfl rfl rfl ?_
  refine q_putl (i := 15) rfl fl_M_301 (fun h => Bool.noConfusion h) (xm_in rfl hn) rfl ?_
  refine r_aload_n (i := 16) (k0 := 0) rfl rfl rfl ?_
  refine r_lload (i := 17) (k0 := 3) rfl rfl ?_
  refine q_putl (i := 18) rfl fl_M_298 (fun h => Bool.noConfusion h) (xm_in rfl hn) rfl ?_
  refine xm_sub (Ls' := [(0, _), (3, _), (5, _)]) [0, 2, 3] rfl ?_
  exact t_M_narrow_b35 hn (fun p h => hq p h) hF
set_option maxHeartbeats 4000000 in
set_option maxRecDepth 100000 in
theorem t_M_narrow_b0 {l1 : Int64} {l3 : Int64} {l5 : Int64} {n : Nat} {I : xm_I} {L : xm_L} {K : xm_I × xm_L → Prop} {Q : Option Value → xm_H → Prop} (hn : 86 ≤ n) (hq : ∀ p : xm_I × xm_L, K p → Q none (p.1, p.2, RC n, n)) (hF : ok (f_M_narrow_b0 l1 l3 l5 I L) K) : xm_J 0 mt_M_narrow 0 [(0, .ref 49), (1, .long l1), (3, .long l3), (5, .long l5)] [] (I, L, RC n, n) 0 0 Q := by
  unfold f_M_narrow_b0 at hF
  refine r_aload_n (i := 0) (k0 := 0) rfl rfl rfl ?_
  refine q_getz (i := 1) rfl fl_M_294 (xm_in rfl hn) rfl ?_
  refine r_ifeq (i := 2) (tgt := 24) rfl (by decide) (fun hc => ?_) (fun hc => ?_)
  · have hF := ok_it hc hF
    exact t_M_narrow_b24 hn (fun p h => hq p h) hF
  have hF := ok_if hc hF
  refine r_lload_n (i := 3) (k0 := 1) rfl rfl rfl ?_
  refine r_aload_n (i := 4) (k0 := 0) rfl rfl rfl ?_
  refine q_getl (i := 5) rfl fl_M_298 (xm_in rfl hn) rfl ?_
  refine r_lmul (i := 6) rfl ?_
  refine r_aload_n (i := 7) (k0 := 0) rfl rfl rfl ?_
  refine q_getl (i := 8) rfl fl_M_301 (xm_in rfl hn) rfl ?_
  refine r_lload (i := 9) (k0 := 3) rfl rfl ?_
  refine r_lmul (i := 10) rfl ?_
  refine r_lcmple (i := 11) (j := 12) (tgt := 35) rfl rfl (by decide) (fun hc => ?_) (fun hc => ?_)
  · have hF := ok_it hc hF
    refine xm_sub (Ls' := [(0, _), (3, _), (5, _)]) [0, 2, 3] rfl ?_
    exact t_M_narrow_b35 hn (fun p h => hq p h) hF
  have hF := ok_if hc hF
  exact t_M_narrow_b24 hn (fun p h => hq p h) hF
set_option maxHeartbeats 4000000 in
set_option maxRecDepth 100000 in
theorem t_M_narrow {l1 : Int64} {l3 : Int64} {l5 : Int64} {n : Nat} {I : xm_I} {L : xm_L} {K : xm_I × xm_L → Prop} (hn : 86 ≤ n) (hF : ok (f_M_narrow l1 l3 l5 I L) K) : xm_C 0 mt_M_narrow [.ref 49, .long l1, .long l3, .long l5] (I, L, RC n, n) 0 0 (pV (fun p : xm_I × xm_L => (p.1, p.2, RC n, n)) K) := by
  unfold f_M_narrow at hF
  refine xm_enter (by decide +kernel) dv_M_narrow (Nat.le_of_ble_eq_true rfl) ?_
  exact t_M_narrow_b0 hn (fun p hp => ⟨p, rfl, rfl, hp⟩) hF

noncomputable def f_M_along_b0 (l1 : Int64) (l3 : Int64) (l5 : Int64) (l7 : Int64) (I : xm_I) (L : xm_L) : Option (Int32 × xm_I × xm_L) :=
  if l3 = 0 then (
    if l1 < l5 then (
      some (0, I, L))
    else (
    if l7 < l1 then (
      some (0, I, L))
    else (
    some (1, I, L))))
  else (
    if l3 ≤ 0 then (
      (f_M_narrow (l1 - l7) (l1 - l5) (-l3) I L).bind fun p_1 =>
      some (1, p_1.1, p_1.2))
    else (
    (f_M_narrow (l5 - l1) (l7 - l1) l3 I L).bind fun p_2 =>
    some (1, p_2.1, p_2.2)))
noncomputable def f_M_along (l1 : Int64) (l3 : Int64) (l5 : Int64) (l7 : Int64) (I : xm_I) (L : xm_L) : Option (Int32 × xm_I × xm_L) := f_M_along_b0 l1 l3 l5 l7 I L
set_option maxHeartbeats 4000000 in
set_option maxRecDepth 100000 in
theorem t_M_along_b0 {l1 : Int64} {l3 : Int64} {l5 : Int64} {l7 : Int64} {n : Nat} {I : xm_I} {L : xm_L} {K : Int32 × xm_I × xm_L → Prop} {Q : Option Value → xm_H → Prop} (hn : 86 ≤ n) (hq : ∀ p : Int32 × xm_I × xm_L, K p → Q (some (.int p.1)) (p.2.1, p.2.2, RC n, n)) (hF : ok (f_M_along_b0 l1 l3 l5 l7 I L) K) : xm_J 1 mt_M_along 0 [(0, .ref 49), (1, .long l1), (3, .long l3), (5, .long l5), (7, .long l7)] [] (I, L, RC n, n) 0 0 Q := by
  unfold f_M_along_b0 at hF
  refine r_lload_n (i := 0) (k0 := 2) rfl rfl rfl ?_
  refine r_lconst (v := 0) (i := 1) rfl rfl ?_
  refine r_lcmpne (i := 2) (j := 3) (tgt := 26) rfl rfl (by decide) (fun hc => ?_) (fun hc => ?_)
  · have hF := ok_if hc hF
    refine r_lload_n (i := 16) (k0 := 2) rfl rfl rfl ?_
    refine r_lconst (v := 0) (i := 17) rfl rfl ?_
    refine r_lcmple (i := 18) (j := 19) (tgt := 48) rfl rfl (by decide) (fun hc => ?_) (fun hc => ?_)
    · have hF := ok_it hc hF
      refine r_aload_n (i := 30) (k0 := 0) rfl rfl rfl ?_
      refine r_lload_n (i := 31) (k0 := 1) rfl rfl rfl ?_
      refine r_lload (i := 32) (k0 := 4) rfl rfl ?_
      refine r_lsub (i := 33) rfl ?_
      refine r_lload_n (i := 34) (k0 := 1) rfl rfl rfl ?_
      refine r_lload (i := 35) (k0 := 3) rfl rfl ?_
      refine r_lsub (i := 36) rfl ?_
      refine r_lload_n (i := 37) (k0 := 2) rfl rfl rfl ?_
      refine r_lneg (i := 38) rfl ?_
      refine c_V3V (i := 39) rfl vm_M_narrow lk_M_313 (t_M_narrow hn (ok_bind hF)) (Nat.le_of_ble_eq_true rfl) (xm_in rfl hn) rfl rfl (Nat.le_of_ble_eq_true rfl) (fun p_1 hF => ?_)
      refine r_iconst (v := 1) (i := 40) rfl ki_1 ?_
      have hQ := hq _ (ok_some hF)
      exact r_ireturn (i := 41) rfl rfl rfl hQ
    have hF := ok_if hc hF
    refine r_aload_n (i := 20) (k0 := 0) rfl rfl rfl ?_
    refine r_lload (i := 21) (k0 := 3) rfl rfl ?_
    refine r_lload_n (i := 22) (k0 := 1) rfl rfl rfl ?_
    refine r_lsub (i := 23) rfl ?_
    refine r_lload (i := 24) (k0 := 4) rfl rfl ?_
    refine r_lload_n (i := 25) (k0 := 1) rfl rfl rfl ?_
    refine r_lsub (i := 26) rfl ?_
    refine r_lload_n (i := 27) (k0 := 2) rfl rfl rfl ?_
    refine c_V3V (i := 28) rfl vm_M_narrow lk_M_313 (t_M_narrow hn (ok_bind hF)) (Nat.le_of_ble_eq_true rfl) (xm_in rfl hn) rfl rfl (Nat.le_of_ble_eq_true rfl) (fun p_2 hF => ?_)
    refine r_goto (i := 29) (tgt := 62) rfl (by decide) ?_
    refine r_iconst (v := 1) (i := 40) rfl ki_1 ?_
    have hQ := hq _ (ok_some hF)
    exact r_ireturn (i := 41) rfl rfl rfl hQ
  have hF := ok_it hc hF
  refine r_lload_n (i := 4) (k0 := 1) rfl rfl rfl ?_
  refine r_lload (i := 5) (k0 := 3) rfl rfl ?_
  refine r_lcmplt (i := 6) (j := 7) (tgt := 24) rfl rfl (by decide) (fun hc => ?_) (fun hc => ?_)
  · have hF := ok_it hc hF
    refine r_iconst (v := 0) (i := 14) rfl ki_0 ?_
    have hQ := hq _ (ok_some hF)
    exact r_ireturn (i := 15) rfl rfl rfl hQ
  have hF := ok_if hc hF
  refine r_lload_n (i := 8) (k0 := 1) rfl rfl rfl ?_
  refine r_lload (i := 9) (k0 := 4) rfl rfl ?_
  refine r_lcmpgt (i := 10) (j := 11) (tgt := 24) rfl rfl (by decide) (fun hc => ?_) (fun hc => ?_)
  · have hF := ok_it hc hF
    refine r_iconst (v := 0) (i := 14) rfl ki_0 ?_
    have hQ := hq _ (ok_some hF)
    exact r_ireturn (i := 15) rfl rfl rfl hQ
  have hF := ok_if hc hF
  refine r_iconst (v := 1) (i := 12) rfl ki_1 ?_
  refine r_goto (i := 13) (tgt := 25) rfl (by decide) ?_
  have hQ := hq _ (ok_some hF)
  exact r_ireturn (i := 15) rfl rfl rfl hQ
set_option maxHeartbeats 4000000 in
set_option maxRecDepth 100000 in
theorem t_M_along {l1 : Int64} {l3 : Int64} {l5 : Int64} {l7 : Int64} {n : Nat} {I : xm_I} {L : xm_L} {K : Int32 × xm_I × xm_L → Prop} (hn : 86 ≤ n) (hF : ok (f_M_along l1 l3 l5 l7 I L) K) : xm_C 1 mt_M_along [.ref 49, .long l1, .long l3, .long l5, .long l7] (I, L, RC n, n) 0 0 (pI (fun p : Int32 × xm_I × xm_L => p.1) (fun p : Int32 × xm_I × xm_L => (p.2.1, p.2.2, RC n, n)) K) := by
  unfold f_M_along at hF
  refine xm_enter (by decide +kernel) dv_M_along (Nat.le_of_ble_eq_true rfl) ?_
  exact t_M_along_b0 hn (fun p hp => ⟨p, rfl, rfl, hp⟩) hF

noncomputable def f_M_clips_b80 (y0 : Int32) (I : xm_I) (L : xm_L) : Option (Int32 × xm_I × xm_L) :=
  if y0 = 0 then (
    some (0, I, L))
  else (
  if ((L 49 45) * (L 49 44)) < ((L 49 43) * (L 49 46)) then (
    some (0, I, L))
  else (
  some (1, I, L)))
noncomputable def f_M_clips_b79 (I : xm_I) (L : xm_L) : Option (Int32 × xm_I × xm_L) :=
  f_M_clips_b80 0 I L
noncomputable def f_M_clips_b0 (x1 : Int32) (x2 : Int32) (x3 : Int32) (x4 : Int32) (x5 : Int32) (x6 : Int32) (x7 : Int32) (x8 : Int32) (x9 : Int32) (x10 : Int32) (I : xm_I) (L : xm_L) : Option (Int32 × xm_I × xm_L) :=
  gd (x5 = 0 ∨ x5 = 1) <|
  let I_1 : xm_I := up2 I 49 41 x5
  let L_2 : xm_L := up2 L 49 43 0
  let L_3 : xm_L := up2 L_2 49 44 1
  gd (x6 = 0 ∨ x6 = 1) <|
  let I_4 : xm_I := up2 I_1 49 42 x6
  let L_5 : xm_L := up2 L_3 49 45 1
  let L_6 : xm_L := up2 L_5 49 46 1
  (f_M_along (Int32.toInt64 x1) (Int32.toInt64 (x3 - x1)) (Int32.toInt64 x7) (Int32.toInt64 x8) I_4 L_6).bind fun p_7 =>
  (f_M_along (Int32.toInt64 x2) (Int32.toInt64 (x4 - x2)) (Int32.toInt64 x9) (Int32.toInt64 x10) p_7.2.1 p_7.2.2).bind fun p_8 =>
  if p_8.1 = 0 then (
    f_M_clips_b79 p_8.2.1 p_8.2.2)
  else (
  if p_7.1 = 0 then (
    f_M_clips_b79 p_8.2.1 p_8.2.2)
  else (
  f_M_clips_b80 1 p_8.2.1 p_8.2.2))
noncomputable def f_M_clips (x1 : Int32) (x2 : Int32) (x3 : Int32) (x4 : Int32) (x5 : Int32) (x6 : Int32) (x7 : Int32) (x8 : Int32) (x9 : Int32) (x10 : Int32) (I : xm_I) (L : xm_L) : Option (Int32 × xm_I × xm_L) := f_M_clips_b0 x1 x2 x3 x4 x5 x6 x7 x8 x9 x10 I L
set_option maxHeartbeats 4000000 in
set_option maxRecDepth 100000 in
theorem t_M_clips_b80 {y0 : Int32} {n : Nat} {I : xm_I} {L : xm_L} {K : Int32 × xm_I × xm_L → Prop} {Q : Option Value → xm_H → Prop} (hn : 86 ≤ n) (hq : ∀ p : Int32 × xm_I × xm_L, K p → Q (some (.int p.1)) (p.2.1, p.2.2, RC n, n)) (hF : ok (f_M_clips_b80 y0 I L) K) : xm_J 2 mt_M_clips 80 [(0, .ref 49)] [.int y0] (I, L, RC n, n) 0 0 Q := by
  unfold f_M_clips_b80 at hF
  refine r_istore (i := 49) (Ls' := [(11, _), (0, _)]) rfl (Nat.le_of_ble_eq_true rfl) rfl ?_
  refine r_iload (i := 50) (k0 := 0) rfl rfl ?_
  refine r_ifeq (i := 51) (tgt := 113) rfl (by decide) (fun hc => ?_) (fun hc => ?_)
  · have hF := ok_it hc hF
    refine r_iconst (v := 0) (i := 66) rfl ki_0 ?_
    have hQ := hq _ (ok_some hF)
    exact r_ireturn (i := 67) rfl rfl rfl hQ
  have hF := ok_if hc hF
  refine r_aload_n (i := 52) (k0 := 1) rfl rfl rfl ?_
  refine q_getl (i := 53) rfl fl_M_301 (xm_in rfl hn) rfl ?_
  refine r_aload_n (i := 54) (k0 := 1) rfl rfl rfl ?_
  refine q_getl (i := 55) rfl fl_M_307 (xm_in rfl hn) rfl ?_
  refine r_lmul (i := 56) rfl ?_
  refine r_aload_n (i := 57) (k0 := 1) rfl rfl rfl ?_
  refine q_getl (i := 58) rfl fl_M_310 (xm_in rfl hn) rfl ?_
  refine r_aload_n (i := 59) (k0 := 1) rfl rfl rfl ?_
  refine q_getl (i := 60) rfl fl_M_298 (xm_in rfl hn) rfl ?_
  refine r_lmul (i := 61) rfl ?_
  refine r_lcmpgt (i := 62) (j := 63) (tgt := 113) rfl rfl (by decide) (fun hc => ?_) (fun hc => ?_)
  · have hF := ok_it hc hF
    refine r_iconst (v := 0) (i := 66) rfl ki_0 ?_
    have hQ := hq _ (ok_some hF)
    exact r_ireturn (i := 67) rfl rfl rfl hQ
  have hF := ok_if hc hF
  refine r_iconst (v := 1) (i := 64) rfl ki_1 ?_
  refine r_goto (i := 65) (tgt := 114) rfl (by decide) ?_
  have hQ := hq _ (ok_some hF)
  exact r_ireturn (i := 67) rfl rfl rfl hQ
set_option maxHeartbeats 4000000 in
set_option maxRecDepth 100000 in
theorem t_M_clips_b79 {n : Nat} {I : xm_I} {L : xm_L} {K : Int32 × xm_I × xm_L → Prop} {Q : Option Value → xm_H → Prop} (hn : 86 ≤ n) (hq : ∀ p : Int32 × xm_I × xm_L, K p → Q (some (.int p.1)) (p.2.1, p.2.2, RC n, n)) (hF : ok (f_M_clips_b79 I L) K) : xm_J 2 mt_M_clips 79 [(0, .ref 49)] [] (I, L, RC n, n) 0 0 Q := by
  unfold f_M_clips_b79 at hF
  refine r_iconst (v := 0) (i := 48) rfl ki_0 ?_
  exact t_M_clips_b80 hn (fun p h => hq p h) hF
set_option maxHeartbeats 4000000 in
set_option maxRecDepth 100000 in
theorem t_M_clips_b0 {x1 : Int32} {x2 : Int32} {x3 : Int32} {x4 : Int32} {x5 : Int32} {x6 : Int32} {x7 : Int32} {x8 : Int32} {x9 : Int32} {x10 : Int32} {n : Nat} {I : xm_I} {L : xm_L} {K : Int32 × xm_I × xm_L → Prop} {Q : Option Value → xm_H → Prop} (hn : 86 ≤ n) (hq : ∀ p : Int32 × xm_I × xm_L, K p → Q (some (.int p.1)) (p.2.1, p.2.2, RC n, n)) (hF : ok (f_M_clips_b0 x1 x2 x3 x4 x5 x6 x7 x8 x9 x10 I L) K) : xm_J 2 mt_M_clips 0 [(0, .ref 49), (1, .int x1), (2, .int x2), (3, .int x3), (4, .int x4), (5, .int x5), (6, .int x6), (7, .int x7), (8, .int x8), (9, .int x9), (10, .int x10)] [] (I, L, RC n, n) 0 0 Q := by
  unfold f_M_clips_b0 at hF
  refine r_aload_n (i := 0) (k0 := 0) rfl rfl rfl ?_
  refine r_iload (i := 1) (k0 := 5) rfl rfl ?_
  obtain ⟨hi, hF⟩ := ok_gd hF
  refine q_putz (i := 2) rfl fl_M_294 (fun h => Bool.noConfusion h) (xm_in rfl hn) rfl hi ?_
  refine r_aload_n (i := 3) (k0 := 0) rfl rfl rfl ?_
  refine r_lconst (v := 0) (i := 4) rfl rfl ?_
  refine q_putl (i := 5) rfl fl_M_301 (fun h => Bool.noConfusion h) (xm_in rfl hn) rfl ?_
  refine r_aload_n (i := 6) (k0 := 0) rfl rfl rfl ?_
  refine r_lconst (v := 1) (i := 7) rfl rfl ?_
  refine q_putl (i := 8) rfl fl_M_298 (fun h => Bool.noConfusion h) (xm_in rfl hn) rfl ?_
  refine r_aload_n (i := 9) (k0 := 0) rfl rfl rfl ?_
  refine r_iload (i := 10) (k0 := 6) rfl rfl ?_
  obtain ⟨hi, hF⟩ := ok_gd hF
  refine q_putz (i := 11) rfl fl_M_304 (fun h => Bool.noConfusion h) (xm_in rfl hn) rfl hi ?_
  refine r_aload_n (i := 12) (k0 := 0) rfl rfl rfl ?_
  refine r_lconst (v := 1) (i := 13) rfl rfl ?_
  refine q_putl (i := 14) rfl fl_M_310 (fun h => Bool.noConfusion h) (xm_in rfl hn) rfl ?_
  refine r_aload_n (i := 15) (k0 := 0) rfl rfl rfl ?_
  refine r_lconst (v := 1) (i := 16) rfl rfl ?_
  refine q_putl (i := 17) rfl fl_M_307 (fun h => Bool.noConfusion h) (xm_in rfl hn) rfl ?_
  refine r_aload_n (i := 18) (k0 := 0) rfl rfl rfl ?_
  refine r_iload_n (i := 19) (k0 := 1) rfl rfl rfl ?_
  refine r_i2l (i := 20) rfl ?_
  refine r_iload_n (i := 21) (k0 := 3) rfl rfl rfl ?_
  refine r_iload_n (i := 22) (k0 := 1) rfl rfl rfl ?_
  refine r_isub (i := 23) rfl ?_
  refine r_i2l (i := 24) rfl ?_
  refine r_iload (i := 25) (k0 := 7) rfl rfl ?_
  refine r_i2l (i := 26) rfl ?_
  refine r_iload (i := 27) (k0 := 8) rfl rfl ?_
  refine r_i2l (i := 28) rfl ?_
  refine c_V4I (i := 29) rfl vm_M_along lk_M_317 (t_M_along hn (ok_bind hF)) (Nat.le_of_ble_eq_true rfl) (xm_in rfl hn) rfl rfl (Nat.le_of_ble_eq_true rfl) (fun p_7 hF => ?_)
  refine r_istore (i := 30) (Ls' := [(11, _), (0, _), (1, _), (2, _), (3, _), (4, _), (5, _), (6, _), (7, _), (8, _), (9, _), (10, _)]) rfl (Nat.le_of_ble_eq_true rfl) rfl ?_
  refine r_aload_n (i := 31) (k0 := 1) rfl rfl rfl ?_
  refine r_iload_n (i := 32) (k0 := 3) rfl rfl rfl ?_
  refine r_i2l (i := 33) rfl ?_
  refine r_iload (i := 34) (k0 := 5) rfl rfl ?_
  refine r_iload_n (i := 35) (k0 := 3) rfl rfl rfl ?_
  refine r_isub (i := 36) rfl ?_
  refine r_i2l (i := 37) rfl ?_
  refine r_iload (i := 38) (k0 := 10) rfl rfl ?_
  refine r_i2l (i := 39) rfl ?_
  refine r_iload (i := 40) (k0 := 11) rfl rfl ?_
  refine r_i2l (i := 41) rfl ?_
  refine c_V4I (i := 42) rfl vm_M_along lk_M_317 (t_M_along hn (ok_bind hF)) (Nat.le_of_ble_eq_true rfl) (xm_in rfl hn) rfl rfl (Nat.le_of_ble_eq_true rfl) (fun p_8 hF => ?_)
  refine r_ifeq (i := 43) (tgt := 79) rfl (by decide) (fun hc => ?_) (fun hc => ?_)
  · have hF := ok_it hc hF
    refine xm_sub (Ls' := [(0, _)]) [1] rfl ?_
    exact t_M_clips_b79 hn (fun p h => hq p h) hF
  have hF := ok_if hc hF
  refine r_iload (i := 44) (k0 := 0) rfl rfl ?_
  refine r_ifeq (i := 45) (tgt := 79) rfl (by decide) (fun hc => ?_) (fun hc => ?_)
  · have hF := ok_it hc hF
    refine xm_sub (Ls' := [(0, _)]) [1] rfl ?_
    exact t_M_clips_b79 hn (fun p h => hq p h) hF
  have hF := ok_if hc hF
  refine r_iconst (v := 1) (i := 46) rfl ki_1 ?_
  refine r_goto (i := 47) (tgt := 80) rfl (by decide) ?_
  refine xm_sub (Ls' := [(0, _)]) [1] rfl ?_
  exact t_M_clips_b80 hn (fun p h => hq p h) hF
set_option maxHeartbeats 4000000 in
set_option maxRecDepth 100000 in
theorem t_M_clips {x1 : Int32} {x2 : Int32} {x3 : Int32} {x4 : Int32} {x5 : Int32} {x6 : Int32} {x7 : Int32} {x8 : Int32} {x9 : Int32} {x10 : Int32} {n : Nat} {I : xm_I} {L : xm_L} {K : Int32 × xm_I × xm_L → Prop} (hn : 86 ≤ n) (hF : ok (f_M_clips x1 x2 x3 x4 x5 x6 x7 x8 x9 x10 I L) K) : xm_C 2 mt_M_clips [.ref 49, .int x1, .int x2, .int x3, .int x4, .int x5, .int x6, .int x7, .int x8, .int x9, .int x10] (I, L, RC n, n) 0 0 (pI (fun p : Int32 × xm_I × xm_L => p.1) (fun p : Int32 × xm_I × xm_L => (p.2.1, p.2.2, RC n, n)) K) := by
  unfold f_M_clips at hF
  refine xm_enter (by decide +kernel) dv_M_clips (Nat.le_of_ble_eq_true rfl) ?_
  exact t_M_clips_b0 hn (fun p hp => ⟨p, rfl, rfl, hp⟩) hF

noncomputable def f_M_add_b0 (x1 : Int32) (x2 : Int32) (x3 : Int32) (x4 : Int32) (x5 : Int32) (x6 : Int32) (I : xm_I) : Option (xm_I) :=
  if (I 49 49) = 600 then (
    let I_9 : xm_I := up2 I 49 50 ((I 49 50) + 1)
    some (I_9))
  else (
    gd (0 ≤ (7 * (I 49 49)).toInt ∧ (7 * (I 49 49)).toInt < 4200) <|
    let I_1 : xm_I := up2 I 71 (Int32.toNatClampNeg (7 * (I 49 49))) x1
    gd (0 ≤ ((7 * (I_1 49 49)) + 1).toInt ∧ ((7 * (I_1 49 49)) + 1).toInt < 4200) <|
    let I_2 : xm_I := up2 I_1 71 (Int32.toNatClampNeg ((7 * (I_1 49 49)) + 1)) x2
    gd (0 ≤ ((7 * (I_2 49 49)) + 2).toInt ∧ ((7 * (I_2 49 49)) + 2).toInt < 4200) <|
    let I_3 : xm_I := up2 I_2 71 (Int32.toNatClampNeg ((7 * (I_2 49 49)) + 2)) x3
    gd (0 ≤ ((7 * (I_3 49 49)) + 3).toInt ∧ ((7 * (I_3 49 49)) + 3).toInt < 4200) <|
    let I_4 : xm_I := up2 I_3 71 (Int32.toNatClampNeg ((7 * (I_3 49 49)) + 3)) x4
    gd (0 ≤ ((7 * (I_4 49 49)) + 4).toInt ∧ ((7 * (I_4 49 49)) + 4).toInt < 4200) <|
    let I_5 : xm_I := up2 I_4 71 (Int32.toNatClampNeg ((7 * (I_4 49 49)) + 4)) x5
    gd (0 ≤ ((7 * (I_5 49 49)) + 5).toInt ∧ ((7 * (I_5 49 49)) + 5).toInt < 4200) <|
    let I_6 : xm_I := up2 I_5 71 (Int32.toNatClampNeg ((7 * (I_5 49 49)) + 5)) x6
    gd (0 ≤ ((7 * (I_6 49 49)) + 6).toInt ∧ ((7 * (I_6 49 49)) + 6).toInt < 4200) <|
    let I_7 : xm_I := up2 I_6 71 (Int32.toNatClampNeg ((7 * (I_6 49 49)) + 6)) 0
    let I_8 : xm_I := up2 I_7 49 49 ((I_7 49 49) + 1)
    some (I_8))
noncomputable def f_M_add (x1 : Int32) (x2 : Int32) (x3 : Int32) (x4 : Int32) (x5 : Int32) (x6 : Int32) (I : xm_I) : Option (xm_I) := f_M_add_b0 x1 x2 x3 x4 x5 x6 I
set_option maxHeartbeats 4000000 in
set_option maxRecDepth 100000 in
theorem t_M_add_b0 {x1 : Int32} {x2 : Int32} {x3 : Int32} {x4 : Int32} {x5 : Int32} {x6 : Int32} {n : Nat} {I : xm_I} {L : xm_L} {K : xm_I → Prop} {Q : Option Value → xm_H → Prop} (hn : 86 ≤ n) (hq : ∀ p : xm_I, K p → Q none (p, L, RC n, n)) (hF : ok (f_M_add_b0 x1 x2 x3 x4 x5 x6 I) K) : xm_J 0 mt_M_add 0 [(0, .ref 49), (1, .int x1), (2, .int x2), (3, .int x3), (4, .int x4), (5, .int x5), (6, .int x6)] [] (I, L, RC n, n) 0 0 Q := by
  unfold f_M_add_b0 at hF
  refine r_aload_n (i := 0) (k0 := 0) rfl rfl rfl ?_
  refine q_geti (i := 1) rfl fl_M_321 (xm_in rfl hn) rfl ?_
  refine r_sipush (v := 600) (i := 2) rfl ks_600 ?_
  refine r_icmpne (i := 3) (tgt := 21) rfl (by decide) (fun hc => ?_) (fun hc => ?_)
  · have hF := ok_if hc hF
    refine r_aload_n (i := 11) (k0 := 0) rfl rfl rfl ?_
    refine q_getr (b := 71) (i := 12) rfl fl_M_90 rfl (xm_in rfl hn) rfl rfl ?_
    refine r_bipush (v := 7) (i := 13) rfl kb_7 ?_
    refine r_aload_n (i := 14) (k0 := 0) rfl rfl rfl ?_
    refine q_geti (i := 15) rfl fl_M_321 (xm_in rfl hn) rfl ?_
    refine r_imul (i := 16) rfl ?_
    refine r_iload_n (i := 17) (k0 := 1) rfl rfl rfl ?_
    obtain ⟨hi, hF⟩ := ok_gd hF
    refine q_iastore (i := 18) rfl (xm_in rfl hn) rfl hi ?_
    refine r_aload_n (i := 19) (k0 := 0) rfl rfl rfl ?_
    refine q_getr (b := 71) (i := 20) rfl fl_M_90 rfl (xm_in rfl hn) rfl rfl ?_
    refine r_bipush (v := 7) (i := 21) rfl kb_7 ?_
    refine r_aload_n (i := 22) (k0 := 0) rfl rfl rfl ?_
    refine q_geti (i := 23) rfl fl_M_321 (xm_in rfl hn) rfl ?_
    refine r_imul (i := 24) rfl ?_
    refine r_iconst (v := 1) (i := 25) rfl ki_1 ?_
    refine r_iadd (i := 26) rfl ?_
    refine r_iload_n (i := 27) (k0 := 2) rfl rfl rfl ?_
    obtain ⟨hi, hF⟩ := ok_gd hF
    refine q_iastore (i := 28) rfl (xm_in rfl hn) rfl hi ?_
    refine r_aload_n (i := 29) (k0 := 0) rfl rfl rfl ?_
    refine q_getr (b := 71) (i := 30) rfl fl_M_90 rfl (xm_in rfl hn) rfl rfl ?_
    refine r_bipush (v := 7) (i := 31) rfl kb_7 ?_
    refine r_aload_n (i := 32) (k0 := 0) rfl rfl rfl ?_
    refine q_geti (i := 33) rfl fl_M_321 (xm_in rfl hn) rfl ?_
    refine r_imul (i := 34) rfl ?_
    refine r_iconst (v := 2) (i := 35) rfl ki_2 ?_
    refine r_iadd (i := 36) rfl ?_
    refine r_iload_n (i := 37) (k0 := 3) rfl rfl rfl ?_
    obtain ⟨hi, hF⟩ := ok_gd hF
    refine q_iastore (i := 38) rfl (xm_in rfl hn) rfl hi ?_
    refine r_aload_n (i := 39) (k0 := 0) rfl rfl rfl ?_
    refine q_getr (b := 71) (i := 40) rfl fl_M_90 rfl (xm_in rfl hn) rfl rfl ?_
    refine r_bipush (v := 7) (i := 41) rfl kb_7 ?_
    refine r_aload_n (i := 42) (k0 := 0) rfl rfl rfl ?_
    refine q_geti (i := 43) rfl fl_M_321 (xm_in rfl hn) rfl ?_
    refine r_imul (i := 44) rfl ?_
    refine r_iconst (v := 3) (i := 45) rfl ki_3 ?_
    refine r_iadd (i := 46) rfl ?_
    refine r_iload (i := 47) (k0 := 4) rfl rfl ?_
    obtain ⟨hi, hF⟩ := ok_gd hF
    refine q_iastore (i := 48) rfl (xm_in rfl hn) rfl hi ?_
    refine r_aload_n (i := 49) (k0 := 0) rfl rfl rfl ?_
    refine q_getr (b := 71) (i := 50) rfl fl_M_90 rfl (xm_in rfl hn) rfl rfl ?_
    refine r_bipush (v := 7) (i := 51) rfl kb_7 ?_
    refine r_aload_n (i := 52) (k0 := 0) rfl rfl rfl ?_
    refine q_geti (i := 53) rfl fl_M_321 (xm_in rfl hn) rfl ?_
    refine r_imul (i := 54) rfl ?_
    refine r_iconst (v := 4) (i := 55) rfl ki_4 ?_
    refine r_iadd (i := 56) rfl ?_
    refine r_iload (i := 57) (k0 := 5) rfl rfl ?_
    obtain ⟨hi, hF⟩ := ok_gd hF
    refine q_iastore (i := 58) rfl (xm_in rfl hn) rfl hi ?_
    refine r_aload_n (i := 59) (k0 := 0) rfl rfl rfl ?_
    refine q_getr (b := 71) (i := 60) rfl fl_M_90 rfl (xm_in rfl hn) rfl rfl ?_
    refine r_bipush (v := 7) (i := 61) rfl kb_7 ?_
    refine r_aload_n (i := 62) (k0 := 0) rfl rfl rfl ?_
    refine q_geti (i := 63) rfl fl_M_321 (xm_in rfl hn) rfl ?_
    refine r_imul (i := 64) rfl ?_
    refine r_iconst (v := 5) (i := 65) rfl ki_5 ?_
    refine r_iadd (i := 66) rfl ?_
    refine r_iload (i := 67) (k0 := 6) rfl rfl ?_
    obtain ⟨hi, hF⟩ := ok_gd hF
    refine q_iastore (i := 68) rfl (xm_in rfl hn) rfl hi ?_
    refine r_aload_n (i := 69) (k0 := 0) rfl rfl rfl ?_
    refine q_getr (b := 71) (i := 70) rfl fl_M_90 rfl (xm_in rfl hn) rfl rfl ?_
    refine r_bipush (v := 7) (i := 71) rfl kb_7 ?_
    refine r_aload_n (i := 72) (k0 := 0) rfl rfl rfl ?_
    refine q_geti (i := 73) rfl fl_M_321 (xm_in rfl hn) rfl ?_
    refine r_imul (i := 74) rfl ?_
    refine r_bipush (v := 6) (i := 75) rfl kb_6 ?_
    refine r_iadd (i := 76) rfl ?_
    refine r_iconst (v := 0) (i := 77) rfl ki_0 ?_
    obtain ⟨hi, hF⟩ := ok_gd hF
    refine q_iastore (i := 78) rfl (xm_in rfl hn) rfl hi ?_
    refine r_aload_n (i := 79) (k0 := 0) rfl rfl rfl ?_
    refine r_dup (i := 80) rfl rfl ?_
    refine q_geti (i := 81) rfl fl_M_321 (xm_in rfl hn) rfl ?_
    refine r_iconst (v := 1) (i := 82) rfl ki_1 ?_
    refine r_iadd (i := 83) rfl ?_
    refine q_puti (i := 84) rfl fl_M_321 (fun h => Bool.noConfusion h) (xm_in rfl hn) rfl ?_
    have hQ := hq _ (ok_some hF)
    exact r_return (i := 85) rfl rfl hQ
  have hF := ok_it hc hF
  refine r_aload_n (i := 4) (k0 := 0) rfl rfl rfl ?_
  refine r_dup (i := 5) rfl rfl ?_
  refine q_geti (i := 6) rfl fl_M_324 (xm_in rfl hn) rfl ?_
  refine r_iconst (v := 1) (i := 7) rfl ki_1 ?_
  refine r_iadd (i := 8) rfl ?_
  refine q_puti (i := 9) rfl fl_M_324 (fun h => Bool.noConfusion h) (xm_in rfl hn) rfl ?_
  have hQ := hq _ (ok_some hF)
  exact r_return (i := 10) rfl rfl hQ
set_option maxHeartbeats 4000000 in
set_option maxRecDepth 100000 in
theorem t_M_add {x1 : Int32} {x2 : Int32} {x3 : Int32} {x4 : Int32} {x5 : Int32} {x6 : Int32} {n : Nat} {I : xm_I} {L : xm_L} {K : xm_I → Prop} (hn : 86 ≤ n) (hF : ok (f_M_add x1 x2 x3 x4 x5 x6 I) K) : xm_C 0 mt_M_add [.ref 49, .int x1, .int x2, .int x3, .int x4, .int x5, .int x6] (I, L, RC n, n) 0 0 (pV (fun p : xm_I => (p, L, RC n, n)) K) := by
  unfold f_M_add at hF
  refine xm_enter (by decide +kernel) dv_M_add (Nat.le_of_ble_eq_true rfl) ?_
  exact t_M_add_b0 hn (fun p hp => ⟨p, rfl, rfl, hp⟩) hF

noncomputable def f_M_stroke_b0 (l1 : Int64) (l3 : Int64) (l5 : Int64) (l7 : Int64) (l9 : Int64) (l11 : Int64) (l13 : Int64) (l15 : Int64) (x17 : Int32) (I : xm_I) (L : xm_L) : Option (xm_I) :=
  (f_M_on l1 l3 1 I L).bind fun p_1 =>
  let I_2 : xm_I := up2 I 49 61 p_1
  (f_M_on l5 l7 0 I_2 L).bind fun p_3 =>
  let I_4 : xm_I := up2 I_2 49 62 p_3
  (f_M_on l9 l11 1 I_4 L).bind fun p_5 =>
  let I_6 : xm_I := up2 I_4 49 63 p_5
  (f_M_on l13 l15 0 I_6 L).bind fun p_7 =>
  let I_8 : xm_I := up2 I_6 49 64 p_7
  (f_M_add 83 (I_8 49 61) (I_8 49 62) (I_8 49 63) (I_8 49 64) x17 I_8).bind fun p_9 =>
  some (p_9)
noncomputable def f_M_stroke (l1 : Int64) (l3 : Int64) (l5 : Int64) (l7 : Int64) (l9 : Int64) (l11 : Int64) (l13 : Int64) (l15 : Int64) (x17 : Int32) (I : xm_I) (L : xm_L) : Option (xm_I) := f_M_stroke_b0 l1 l3 l5 l7 l9 l11 l13 l15 x17 I L
set_option maxHeartbeats 4000000 in
set_option maxRecDepth 100000 in
theorem t_M_stroke_b0 {l1 : Int64} {l3 : Int64} {l5 : Int64} {l7 : Int64} {l9 : Int64} {l11 : Int64} {l13 : Int64} {l15 : Int64} {x17 : Int32} {n : Nat} {I : xm_I} {L : xm_L} {K : xm_I → Prop} {Q : Option Value → xm_H → Prop} (hn : 86 ≤ n) (hq : ∀ p : xm_I, K p → Q none (p, L, RC n, n)) (hF : ok (f_M_stroke_b0 l1 l3 l5 l7 l9 l11 l13 l15 x17 I L) K) : xm_J 2 mt_M_stroke 0 [(0, .ref 49), (1, .long l1), (3, .long l3), (5, .long l5), (7, .long l7), (9, .long l9), (11, .long l11), (13, .long l13), (15, .long l15), (17, .int x17)] [] (I, L, RC n, n) 0 0 Q := by
  unfold f_M_stroke_b0 at hF
  refine r_aload_n (i := 0) (k0 := 0) rfl rfl rfl ?_
  refine r_aload_n (i := 1) (k0 := 0) rfl rfl rfl ?_
  refine r_lload_n (i := 2) (k0 := 1) rfl rfl rfl ?_
  refine r_lload_n (i := 3) (k0 := 2) rfl rfl rfl ?_
  refine r_iconst (v := 1) (i := 4) rfl ki_1 ?_
  refine c_V3I (i := 5) rfl vm_M_on lk_M_327 (t_M_on hn (ok_bind hF)) (Nat.le_of_ble_eq_true rfl) (xm_in rfl hn) rfl rfl (Nat.le_of_ble_eq_true rfl) (fun p_1 hF => ?_)
  refine q_puti (i := 6) rfl fl_M_331 (fun h => Bool.noConfusion h) (xm_in rfl hn) rfl ?_
  refine r_aload_n (i := 7) (k0 := 0) rfl rfl rfl ?_
  refine r_aload_n (i := 8) (k0 := 0) rfl rfl rfl ?_
  refine r_lload (i := 9) (k0 := 3) rfl rfl ?_
  refine r_lload (i := 10) (k0 := 4) rfl rfl ?_
  refine r_iconst (v := 0) (i := 11) rfl ki_0 ?_
  refine c_V3I (i := 12) rfl vm_M_on lk_M_327 (t_M_on hn (ok_bind hF)) (Nat.le_of_ble_eq_true rfl) (xm_in rfl hn) rfl rfl (Nat.le_of_ble_eq_true rfl) (fun p_3 hF => ?_)
  refine q_puti (i := 13) rfl fl_M_334 (fun h => Bool.noConfusion h) (xm_in rfl hn) rfl ?_
  refine r_aload_n (i := 14) (k0 := 0) rfl rfl rfl ?_
  refine r_aload_n (i := 15) (k0 := 0) rfl rfl rfl ?_
  refine r_lload (i := 16) (k0 := 5) rfl rfl ?_
  refine r_lload (i := 17) (k0 := 6) rfl rfl ?_
  refine r_iconst (v := 1) (i := 18) rfl ki_1 ?_
  refine c_V3I (i := 19) rfl vm_M_on lk_M_327 (t_M_on hn (ok_bind hF)) (Nat.le_of_ble_eq_true rfl) (xm_in rfl hn) rfl rfl (Nat.le_of_ble_eq_true rfl) (fun p_5 hF => ?_)
  refine q_puti (i := 20) rfl fl_M_337 (fun h => Bool.noConfusion h) (xm_in rfl hn) rfl ?_
  refine r_aload_n (i := 21) (k0 := 0) rfl rfl rfl ?_
  refine r_aload_n (i := 22) (k0 := 0) rfl rfl rfl ?_
  refine r_lload (i := 23) (k0 := 7) rfl rfl ?_
  refine r_lload (i := 24) (k0 := 8) rfl rfl ?_
  refine r_iconst (v := 0) (i := 25) rfl ki_0 ?_
  refine c_V3I (i := 26) rfl vm_M_on lk_M_327 (t_M_on hn (ok_bind hF)) (Nat.le_of_ble_eq_true rfl) (xm_in rfl hn) rfl rfl (Nat.le_of_ble_eq_true rfl) (fun p_7 hF => ?_)
  refine q_puti (i := 27) rfl fl_M_340 (fun h => Bool.noConfusion h) (xm_in rfl hn) rfl ?_
  refine r_aload_n (i := 28) (k0 := 0) rfl rfl rfl ?_
  refine r_bipush (v := 83) (i := 29) rfl kb_83 ?_
  refine r_aload_n (i := 30) (k0 := 0) rfl rfl rfl ?_
  refine q_geti (i := 31) rfl fl_M_331 (xm_in rfl hn) rfl ?_
  refine r_aload_n (i := 32) (k0 := 0) rfl rfl rfl ?_
  refine q_geti (i := 33) rfl fl_M_334 (xm_in rfl hn) rfl ?_
  refine r_aload_n (i := 34) (k0 := 0) rfl rfl rfl ?_
  refine q_geti (i := 35) rfl fl_M_337 (xm_in rfl hn) rfl ?_
  refine r_aload_n (i := 36) (k0 := 0) rfl rfl rfl ?_
  refine q_geti (i := 37) rfl fl_M_340 (xm_in rfl hn) rfl ?_
  refine r_iload (i := 38) (k0 := 9) rfl rfl ?_
  refine c_V6V (i := 39) rfl vm_M_add lk_M_343 (t_M_add hn (ok_bind hF)) (Nat.le_of_ble_eq_true rfl) (xm_in rfl hn) rfl rfl (Nat.le_of_ble_eq_true rfl) (fun p_9 hF => ?_)
  have hQ := hq _ (ok_some hF)
  exact r_return (i := 40) rfl rfl hQ
set_option maxHeartbeats 4000000 in
set_option maxRecDepth 100000 in
theorem t_M_stroke {l1 : Int64} {l3 : Int64} {l5 : Int64} {l7 : Int64} {l9 : Int64} {l11 : Int64} {l13 : Int64} {l15 : Int64} {x17 : Int32} {n : Nat} {I : xm_I} {L : xm_L} {K : xm_I → Prop} (hn : 86 ≤ n) (hF : ok (f_M_stroke l1 l3 l5 l7 l9 l11 l13 l15 x17 I L) K) : xm_C 2 mt_M_stroke [.ref 49, .long l1, .long l3, .long l5, .long l7, .long l9, .long l11, .long l13, .long l15, .int x17] (I, L, RC n, n) 0 0 (pV (fun p : xm_I => (p, L, RC n, n)) K) := by
  unfold f_M_stroke at hF
  refine xm_enter (by decide +kernel) dv_M_stroke (Nat.le_of_ble_eq_true rfl) ?_
  exact t_M_stroke_b0 hn (fun p hp => ⟨p, rfl, rfl, hp⟩) hF

noncomputable def f_M_way_b0 (x1 : Int32) (x2 : Int32) (x3 : Int32) (x4 : Int32) (x5 : Int32) (x6 : Int32) (x7 : Int32) (I : xm_I) (L : xm_L) : Option (Int32 × xm_I × xm_L) :=
  (f_M_clips x1 x2 x3 x4 x5 x6 (I 49 15) (I 49 16) (I 49 17) (I 49 18) I L).bind fun p_1 =>
  if p_1.1 = 0 then (
    some (0, p_1.2.1, p_1.2.2))
  else (
    let l8_2 : Int64 := Int32.toInt64 (x3 - x1)
    let l10_3 : Int64 := Int32.toInt64 (x4 - x2)
    (f_M_stroke (((Int32.toInt64 x1) * (p_1.2.2 49 44)) + ((p_1.2.2 49 43) * l8_2)) (p_1.2.2 49 44) (((Int32.toInt64 x2) * (p_1.2.2 49 44)) + ((p_1.2.2 49 43) * l10_3)) (p_1.2.2 49 44) (((Int32.toInt64 x1) * (p_1.2.2 49 46)) + ((p_1.2.2 49 45) * l8_2)) (p_1.2.2 49 46) (((Int32.toInt64 x2) * (p_1.2.2 49 46)) + ((p_1.2.2 49 45) * l10_3)) (p_1.2.2 49 46) x7 p_1.2.1 p_1.2.2).bind fun p_4 =>
    some (1, p_4, p_1.2.2))
noncomputable def f_M_way (x1 : Int32) (x2 : Int32) (x3 : Int32) (x4 : Int32) (x5 : Int32) (x6 : Int32) (x7 : Int32) (I : xm_I) (L : xm_L) : Option (Int32 × xm_I × xm_L) := f_M_way_b0 x1 x2 x3 x4 x5 x6 x7 I L
set_option maxHeartbeats 4000000 in
set_option maxRecDepth 100000 in
theorem t_M_way_b0 {x1 : Int32} {x2 : Int32} {x3 : Int32} {x4 : Int32} {x5 : Int32} {x6 : Int32} {x7 : Int32} {n : Nat} {I : xm_I} {L : xm_L} {K : Int32 × xm_I × xm_L → Prop} {Q : Option Value → xm_H → Prop} (hn : 86 ≤ n) (hq : ∀ p : Int32 × xm_I × xm_L, K p → Q (some (.int p.1)) (p.2.1, p.2.2, RC n, n)) (hF : ok (f_M_way_b0 x1 x2 x3 x4 x5 x6 x7 I L) K) : xm_J 3 mt_M_way 0 [(0, .ref 49), (1, .int x1), (2, .int x2), (3, .int x3), (4, .int x4), (5, .int x5), (6, .int x6), (7, .int x7)] [] (I, L, RC n, n) 0 0 Q := by
  unfold f_M_way_b0 at hF
  refine r_aload_n (i := 0) (k0 := 0) rfl rfl rfl ?_
  refine r_iload_n (i := 1) (k0 := 1) rfl rfl rfl ?_
  refine r_iload_n (i := 2) (k0 := 2) rfl rfl rfl ?_
  refine r_iload_n (i := 3) (k0 := 3) rfl rfl rfl ?_
  refine r_iload (i := 4) (k0 := 4) rfl rfl ?_
  refine r_iload (i := 5) (k0 := 5) rfl rfl ?_
  refine r_iload (i := 6) (k0 := 6) rfl rfl ?_
  refine r_aload_n (i := 7) (k0 := 0) rfl rfl rfl ?_
  refine q_geti (i := 8) rfl fl_M_218 (xm_in rfl hn) rfl ?_
  refine r_aload_n (i := 9) (k0 := 0) rfl rfl rfl ?_
  refine q_geti (i := 10) rfl fl_M_44 (xm_in rfl hn) rfl ?_
  refine r_aload_n (i := 11) (k0 := 0) rfl rfl rfl ?_
  refine q_geti (i := 12) rfl fl_M_221 (xm_in rfl hn) rfl ?_
  refine r_aload_n (i := 13) (k0 := 0) rfl rfl rfl ?_
  refine q_geti (i := 14) rfl fl_M_48 (xm_in rfl hn) rfl ?_
  refine c_V10I (i := 15) rfl vm_M_clips lk_M_347 (t_M_clips hn (ok_bind hF)) (Nat.le_of_ble_eq_true rfl) (xm_in rfl hn) rfl rfl (Nat.le_of_ble_eq_true rfl) (fun p_1 hF => ?_)
  refine r_ifne (i := 16) (tgt := 34) rfl (by decide) (fun hc => ?_) (fun hc => ?_)
  · have hF := ok_if hc hF
    refine r_iload_n (i := 19) (k0 := 3) rfl rfl rfl ?_
    refine r_iload_n (i := 20) (k0 := 1) rfl rfl rfl ?_
    refine r_isub (i := 21) rfl ?_
    refine r_i2l (i := 22) rfl ?_
    refine r_lstore (i := 23) (Ls' := [(8, _), (0, _), (1, _), (2, _), (3, _), (4, _), (5, _), (6, _), (7, _)]) rfl (Nat.le_of_ble_eq_true rfl) rfl ?_
    refine r_iload (i := 24) (k0 := 5) rfl rfl ?_
    refine r_iload_n (i := 25) (k0 := 3) rfl rfl rfl ?_
    refine r_isub (i := 26) rfl ?_
    refine r_i2l (i := 27) rfl ?_
    refine r_lstore (i := 28) (Ls' := [(10, _), (8, _), (0, _), (1, _), (2, _), (3, _), (4, _), (5, _), (6, _), (7, _)]) rfl (Nat.le_of_ble_eq_true rfl) rfl ?_
    refine r_aload_n (i := 29) (k0 := 2) rfl rfl rfl ?_
    refine r_iload_n (i := 30) (k0 := 3) rfl rfl rfl ?_
    refine r_i2l (i := 31) rfl ?_
    refine r_aload_n (i := 32) (k0 := 2) rfl rfl rfl ?_
    refine q_getl (i := 33) rfl fl_M_298 (xm_in rfl hn) rfl ?_
    refine r_lmul (i := 34) rfl ?_
    refine r_aload_n (i := 35) (k0 := 2) rfl rfl rfl ?_
    refine q_getl (i := 36) rfl fl_M_301 (xm_in rfl hn) rfl ?_
    refine r_lload (i := 37) (k0 := 1) rfl rfl ?_
    refine r_lmul (i := 38) rfl ?_
    refine r_ladd (i := 39) rfl ?_
    refine r_aload_n (i := 40) (k0 := 2) rfl rfl rfl ?_
    refine q_getl (i := 41) rfl fl_M_298 (xm_in rfl hn) rfl ?_
    refine r_iload_n (i := 42) (k0 := 4) rfl rfl rfl ?_
    refine r_i2l (i := 43) rfl ?_
    refine r_aload_n (i := 44) (k0 := 2) rfl rfl rfl ?_
    refine q_getl (i := 45) rfl fl_M_298 (xm_in rfl hn) rfl ?_
    refine r_lmul (i := 46) rfl ?_
    refine r_aload_n (i := 47) (k0 := 2) rfl rfl rfl ?_
    refine q_getl (i := 48) rfl fl_M_301 (xm_in rfl hn) rfl ?_
    refine r_lload (i := 49) (k0 := 0) rfl rfl ?_
    refine r_lmul (i := 50) rfl ?_
    refine r_ladd (i := 51) rfl ?_
    refine r_aload_n (i := 52) (k0 := 2) rfl rfl rfl ?_
    refine q_getl (i := 53) rfl fl_M_298 (xm_in rfl hn) rfl ?_
    refine r_iload_n (i := 54) (k0 := 3) rfl rfl rfl ?_
    refine r_i2l (i := 55) rfl ?_
    refine r_aload_n (i := 56) (k0 := 2) rfl rfl rfl ?_
    refine q_getl (i := 57) rfl fl_M_307 (xm_in rfl hn) rfl ?_
    refine r_lmul (i := 58) rfl ?_
    refine r_aload_n (i := 59) (k0 := 2) rfl rfl rfl ?_
    refine q_getl (i := 60) rfl fl_M_310 (xm_in rfl hn) rfl ?_
    refine r_lload (i := 61) (k0 := 1) rfl rfl ?_
    refine r_lmul (i := 62) rfl ?_
    refine r_ladd (i := 63) rfl ?_
    refine r_aload_n (i := 64) (k0 := 2) rfl rfl rfl ?_
    refine q_getl (i := 65) rfl fl_M_307 (xm_in rfl hn) rfl ?_
    refine r_iload_n (i := 66) (k0 := 4) rfl rfl rfl ?_
    refine r_i2l (i := 67) rfl ?_
    refine r_aload_n (i := 68) (k0 := 2) rfl rfl rfl ?_
    refine q_getl (i := 69) rfl fl_M_307 (xm_in rfl hn) rfl ?_
    refine r_lmul (i := 70) rfl ?_
    refine r_aload_n (i := 71) (k0 := 2) rfl rfl rfl ?_
    refine q_getl (i := 72) rfl fl_M_310 (xm_in rfl hn) rfl ?_
    refine r_lload (i := 73) (k0 := 0) rfl rfl ?_
    refine r_lmul (i := 74) rfl ?_
    refine r_ladd (i := 75) rfl ?_
    refine r_aload_n (i := 76) (k0 := 2) rfl rfl rfl ?_
    refine q_getl (i := 77) rfl fl_M_307 (xm_in rfl hn) rfl ?_
    refine r_iload (i := 78) (k0 := 9) rfl rfl ?_
    refine c_V9V (i := 79) rfl vm_M_stroke lk_M_351 (t_M_stroke hn (ok_bind hF)) (Nat.le_of_ble_eq_true rfl) (xm_in rfl hn) rfl rfl (Nat.le_of_ble_eq_true rfl) (fun p_4 hF => ?_)
    refine r_iconst (v := 1) (i := 80) rfl ki_1 ?_
    have hQ := hq _ (ok_some hF)
    exact r_ireturn (i := 81) rfl rfl rfl hQ
  have hF := ok_it hc hF
  refine r_iconst (v := 0) (i := 17) rfl ki_0 ?_
  have hQ := hq _ (ok_some hF)
  exact r_ireturn (i := 18) rfl rfl rfl hQ
set_option maxHeartbeats 4000000 in
set_option maxRecDepth 100000 in
theorem t_M_way {x1 : Int32} {x2 : Int32} {x3 : Int32} {x4 : Int32} {x5 : Int32} {x6 : Int32} {x7 : Int32} {n : Nat} {I : xm_I} {L : xm_L} {K : Int32 × xm_I × xm_L → Prop} (hn : 86 ≤ n) (hF : ok (f_M_way x1 x2 x3 x4 x5 x6 x7 I L) K) : xm_C 3 mt_M_way [.ref 49, .int x1, .int x2, .int x3, .int x4, .int x5, .int x6, .int x7] (I, L, RC n, n) 0 0 (pI (fun p : Int32 × xm_I × xm_L => p.1) (fun p : Int32 × xm_I × xm_L => (p.2.1, p.2.2, RC n, n)) K) := by
  unfold f_M_way at hF
  refine xm_enter (by decide +kernel) dv_M_way (Nat.le_of_ble_eq_true rfl) ?_
  exact t_M_way_b0 hn (fun p hp => ⟨p, rfl, rfl, hp⟩) hF
