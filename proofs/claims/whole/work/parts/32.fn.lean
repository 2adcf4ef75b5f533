/-! ===== turned: M_member M_paint M_reach ===== -/
noncomputable def f_M_member_b71 (x1 : Int32) (x2 : Int32) (y1 : Int32) (I : xm_I) : Option (Int32 × xm_I) :=
  let I_1 : xm_I := up2 I 49 38 y1
  if (I_1 49 38) ≤ 0 then (
    gd (0 ≤ ((64 * x1) + x2).toInt ∧ ((64 * x1) + x2).toInt < 384) <|
    some (I_1 85 (Int32.toNatClampNeg ((64 * x1) + x2)), I_1))
  else (
  some (0, I_1))
noncomputable def f_M_member_b0 (x1 : Int32) (x2 : Int32) (I : xm_I) : Option (Int32 × xm_I) :=
  (f_M_in (Int32.toInt64 x1) 0 5).bind fun p_1 =>
  if p_1 = 0 then (
    some ((-100002), I))
  else (
    gd (0 ≤ (x1).toInt ∧ (x1).toInt < 6) <|
    if 0 ≤ (I 84 (Int32.toNatClampNeg x1)) then (
      gd (0 ≤ (x1).toInt ∧ (x1).toInt < 6) <|
      (f_M_in (Int32.toInt64 x2) 0 (Int32.toInt64 ((I 84 (Int32.toNatClampNeg x1)) - 1))).bind fun p_2 =>
      if p_2 = 0 then (
        f_M_member_b71 x1 x2 3 I)
      else (
        gd (0 ≤ ((64 * x1) + x2).toInt ∧ ((64 * x1) + x2).toInt < 384) <|
        if (I 85 (Int32.toNatClampNeg ((64 * x1) + x2))) = ((-1)) then (
          f_M_member_b71 x1 x2 1 I)
        else (
          f_M_member_b71 x1 x2 0 I)))
    else (
    f_M_member_b71 x1 x2 1 I))
noncomputable def f_M_member (x1 : Int32) (x2 : Int32) (I : xm_I) : Option (Int32 × xm_I) := f_M_member_b0 x1 x2 I
set_option maxHeartbeats 4000000 in
set_option maxRecDepth 100000 in
theorem t_M_member_b71 {x1 : Int32} {x2 : Int32} {y1 : Int32} {n : Nat} {I : xm_I} {L : xm_L} {K : Int32 × xm_I → Prop} {Q : Option Value → xm_H → Prop} (hn : 86 ≤ n) (hq : ∀ p : Int32 × xm_I, K p → Q (some (.int p.1)) (p.2, L, RC n, n)) (hF : ok (f_M_member_b71 x1 x2 y1 I) K) : xm_J 1 mt_M_member 71 [(0, .ref 49), (1, .int x1), (2, .int x2)] [.int y1, .ref 49] (I, L, RC n, n) 0 0 Q := by
  unfold f_M_member_b71 at hF
  refine q_puti (i := 43) rfl fl_M_257 (fun h => Bool.noConfusion h) (xm_in rfl hn) rfl ?_
  refine r_aload_n (i := 44) (k0 := 0) rfl rfl rfl ?_
  refine q_geti (i := 45) rfl fl_M_257 (xm_in rfl hn) rfl ?_
  refine r_ifle (i := 46) (tgt := 85) rfl (by decide) (fun hc => ?_) (fun hc => ?_)
  · have hF := ok_it hc hF
    refine r_aload_n (i := 49) (k0 := 0) rfl rfl rfl ?_
    refine q_getr (b := 85) (i := 50) rfl fl_M_134 rfl (xm_in rfl hn) rfl rfl ?_
    refine r_bipush (v := 64) (i := 51) rfl kb_64 ?_
    refine r_iload_n (i := 52) (k0 := 1) rfl rfl rfl ?_
    refine r_imul (i := 53) rfl ?_
    refine r_iload_n (i := 54) (k0 := 2) rfl rfl rfl ?_
    refine r_iadd (i := 55) rfl ?_
    obtain ⟨hi, hF⟩ := ok_gd hF
    refine q_iaload (i := 56) rfl (xm_in rfl hn) rfl hi ?_
    have hQ := hq _ (ok_some hF)
    exact r_ireturn (i := 57) rfl rfl rfl hQ
  have hF := ok_if hc hF
  refine r_iconst (v := 0) (i := 47) rfl ki_0 ?_
  refine r_goto (i := 48) (tgt := 96) rfl (by decide) ?_
  have hQ := hq _ (ok_some hF)
  exact r_ireturn (i := 57) rfl rfl rfl hQ
set_option maxHeartbeats 4000000 in
set_option maxRecDepth 100000 in
theorem t_M_member_b0 {x1 : Int32} {x2 : Int32} {n : Nat} {I : xm_I} {L : xm_L} {K : Int32 × xm_I → Prop} {Q : Option Value → xm_H → Prop} (hn : 86 ≤ n) (hq : ∀ p : Int32 × xm_I, K p → Q (some (.int p.1)) (p.2, L, RC n, n)) (hF : ok (f_M_member_b0 x1 x2 I) K) : xm_J 1 mt_M_member 0 [(0, .ref 49), (1, .int x1), (2, .int x2)] [] (I, L, RC n, n) 0 0 Q := by
  unfold f_M_member_b0 at hF
  refine r_iload_n (i := 0) (k0 := 1) rfl rfl rfl ?_
  refine r_i2l (i := 1) rfl ?_
  refine r_lconst (v := 0) (i := 2) rfl rfl ?_
  refine r_ldc2 (i := 3) rfl ct_M_512 ?_
  refine c_S3I (i := 4) rfl sm_M_in lk_M_150 (t_M_in hn (ok_bind hF)) (Nat.le_of_ble_eq_true rfl) rfl (Nat.le_of_ble_eq_true rfl) (fun p_1 hF => ?_)
  refine r_ifne (i := 5) (tgt := 15) rfl (by decide) (fun hc => ?_) (fun hc => ?_)
  · have hF := ok_if hc hF
    refine r_aload_n (i := 8) (k0 := 0) rfl rfl rfl ?_
    refine r_aload_n (i := 9) (k0 := 0) rfl rfl rfl ?_
    refine q_getr (b := 84) (i := 10) rfl fl_M_131 rfl (xm_in rfl hn) rfl rfl ?_
    refine r_iload_n (i := 11) (k0 := 1) rfl rfl rfl ?_
    obtain ⟨hi, hF⟩ := ok_gd hF
    refine q_iaload (i := 12) rfl (xm_in rfl hn) rfl hi ?_
    refine r_ifge (i := 13) (tgt := 29) rfl (by decide) (fun hc => ?_) (fun hc => ?_)
    · have hF := ok_it hc hF
      refine r_iload_n (i := 16) (k0 := 2) rfl rfl rfl ?_
      refine r_i2l (i := 17) rfl ?_
      refine r_lconst (v := 0) (i := 18) rfl rfl ?_
      refine r_aload_n (i := 19) (k0 := 0) rfl rfl rfl ?_
      refine q_getr (b := 84) (i := 20) rfl fl_M_131 rfl (xm_in rfl hn) rfl rfl ?_
      refine r_iload_n (i := 21) (k0 := 1) rfl rfl rfl ?_
      obtain ⟨hi, hF⟩ := ok_gd hF
      refine q_iaload (i := 22) rfl (xm_in rfl hn) rfl hi ?_
      refine r_iconst (v := 1) (i := 23) rfl ki_1 ?_
      refine r_isub (i := 24) rfl ?_
      refine r_i2l (i := 25) rfl ?_
      refine c_S3I (i := 26) rfl sm_M_in lk_M_150 (t_M_in hn (ok_bind hF)) (Nat.le_of_ble_eq_true rfl) rfl (Nat.le_of_ble_eq_true rfl) (fun p_2 hF => ?_)
      refine r_ifne (i := 27) (tgt := 51) rfl (by decide) (fun hc => ?_) (fun hc => ?_)
      · have hF := ok_if hc hF
        refine r_aload_n (i := 30) (k0 := 0) rfl rfl rfl ?_
        refine q_getr (b := 85) (i := 31) rfl fl_M_134 rfl (xm_in rfl hn) rfl rfl ?_
        refine r_bipush (v := 64) (i := 32) rfl kb_64 ?_
        refine r_iload_n (i := 33) (k0 := 1) rfl rfl rfl ?_
        refine r_imul (i := 34) rfl ?_
        refine r_iload_n (i := 35) (k0 := 2) rfl rfl rfl ?_
        refine r_iadd (i := 36) rfl ?_
        obtain ⟨hi, hF⟩ := ok_gd hF
        refine q_iaload (i := 37) rfl (xm_in rfl hn) rfl hi ?_
        refine r_iconst (v := (-1)) (i := 38) rfl ki_m1 ?_
        refine r_icmpne (i := 39) (tgt := 70) rfl (by decide) (fun hc => ?_) (fun hc => ?_)
        · have hF := ok_if hc hF
          refine r_iconst (v := 0) (i := 42) rfl ki_0 ?_
          exact t_M_member_b71 hn (fun p h => hq p h) hF
        have hF := ok_it hc hF
        refine r_iconst (v := 1) (i := 40) rfl ki_1 ?_
        refine r_goto (i := 41) (tgt := 71) rfl (by decide) ?_
        exact t_M_member_b71 hn (fun p h => hq p h) hF
      have hF := ok_it hc hF
      refine r_iconst (v := 3) (i := 28) rfl ki_3 ?_
      refine r_goto (i := 29) (tgt := 71) rfl (by decide) ?_
      exact t_M_member_b71 hn (fun p h => hq p h) hF
    have hF := ok_if hc hF
    refine r_iconst (v := 1) (i := 14) rfl ki_1 ?_
    refine r_goto (i := 15) (tgt := 71) rfl (by decide) ?_
    exact t_M_member_b71 hn (fun p h => hq p h) hF
  have hF := ok_it hc hF
  refine r_ldc (i := 6) rfl ct_M_154 ?_
  have hQ := hq _ (ok_some hF)
  exact r_ireturn (i := 7) rfl rfl rfl hQ
set_option maxHeartbeats 4000000 in
set_option maxRecDepth 100000 in
theorem t_M_member {x1 : Int32} {x2 : Int32} {n : Nat} {I : xm_I} {L : xm_L} {K : Int32 × xm_I → Prop} (hn : 86 ≤ n) (hF : ok (f_M_member x1 x2 I) K) : xm_C 1 mt_M_member [.ref 49, .int x1, .int x2] (I, L, RC n, n) 0 0 (pI (fun p : Int32 × xm_I => p.1) (fun p : Int32 × xm_I => (p.2, L, RC n, n)) K) := by
  unfold f_M_member at hF
  refine xm_enter (by decide +kernel) dv_M_member (Nat.le_of_ble_eq_true rfl) ?_
  exact t_M_member_b0 hn (fun p hp => ⟨p, rfl, rfl, hp⟩) hF

noncomputable def f_M_paint_b112 (x1 : Int32) (I : xm_I) : Option (Int32 × xm_I) :=
  if (I 49 38) ≤ 0 then (
    gd (0 ≤ (x1).toInt ∧ (x1).toInt < 6) <|
    some (I 84 (Int32.toNatClampNeg x1), I))
  else (
  some (0, I))
noncomputable def f_M_paint_b106 (x1 : Int32) (x2 : Int32) (x3 : Int32) (I : xm_I) : Option ((Int32 × xm_I) ⊕ (Int32 × xm_I)) :=
  let x3_1 : Int32 := x3 + 1
  some (.inl (x3_1, I))
noncomputable def f_M_paint_b89 (x1 : Int32) (x2 : Int32) (x3 : Int32) (x4 : Int32) (y1 : Int32) (I : xm_I) : Option ((Int32 × xm_I) ⊕ (Int32 × xm_I)) :=
  let I_1 : xm_I := up2 I 49 38 y1
  if x4 = ((-1)) then (
    f_M_paint_b106 x1 x2 x3 I_1)
  else (
  gd (0 ≤ (x4).toInt ∧ (x4).toInt < 40) <|
  let I_2 : xm_I := up2 I_1 57 (Int32.toNatClampNeg x4) x2
  f_M_paint_b106 x1 x2 x3 I_2)
noncomputable def f_M_paint_s47 (x1 : Int32) (x2 : Int32) (s : Int32 × xm_I) : Option ((Int32 × xm_I) ⊕ (Int32 × xm_I)) :=
  gd (0 ≤ (x1).toInt ∧ (x1).toInt < 6) <|
  if (s.2 84 (Int32.toNatClampNeg x1)) ≤ s.1 then (
    (f_M_paint_b112 x1 s.2).map .inr)
  else (
  if (s.2 49 38) = 0 then (
    gd (0 ≤ ((64 * x1) + s.1).toInt ∧ ((64 * x1) + s.1).toInt < 384) <|
    let x4_1 : Int32 := s.2 85 (Int32.toNatClampNeg ((64 * x1) + s.1))
    if x4_1 = ((-1)) then (
      f_M_paint_b89 x1 x2 s.1 x4_1 1 s.2)
    else (
      f_M_paint_b89 x1 x2 s.1 x4_1 0 s.2))
  else (
    (f_M_paint_b112 x1 s.2).map .inr))
noncomputable def f_M_paint_b47 (x1 : Int32) (x2 : Int32) (s : Int32 × xm_I) : Option (Int32 × xm_I) := lp (f_M_paint_s47 x1 x2) s
noncomputable def f_M_paint_b42 (x1 : Int32) (x2 : Int32) (y1 : Int32) (I : xm_I) : Option (Int32 × xm_I) :=
  let I_1 : xm_I := up2 I 49 38 y1
  f_M_paint_b47 x1 x2 (0, I_1)
noncomputable def f_M_paint_b0 (x1 : Int32) (x2 : Int32) (I : xm_I) : Option (Int32 × xm_I) :=
  (f_M_in (Int32.toInt64 x1) 0 5).bind fun p_1 =>
  if p_1 = 0 then (
    some ((-100002), I))
  else (
  (f_M_in (Int32.toInt64 x2) 0 2).bind fun p_2 =>
  if p_2 = 0 then (
    some ((-100002), I))
  else (
    gd (0 ≤ (x1).toInt ∧ (x1).toInt < 6) <|
    if 0 ≤ (I 84 (Int32.toNatClampNeg x1)) then (
      f_M_paint_b42 x1 x2 0 I)
    else (
    f_M_paint_b42 x1 x2 1 I)))
noncomputable def f_M_paint (x1 : Int32) (x2 : Int32) (I : xm_I) : Option (Int32 × xm_I) := f_M_paint_b0 x1 x2 I
set_option maxHeartbeats 4000000 in
set_option maxRecDepth 100000 in
theorem t_M_paint_b112 {x1 : Int32} {n : Nat} {I : xm_I} {L : xm_L} {K : Int32 × xm_I → Prop} {Q : Option Value → xm_H → Prop} (hn : 86 ≤ n) (hq : ∀ p : Int32 × xm_I, K p → Q (some (.int p.1)) (p.2, L, RC n, n)) (hF : ok (f_M_paint_b112 x1 I) K) : xm_J 1 mt_M_paint 112 [(0, .ref 49), (1, .int x1)] [] (I, L, RC n, n) 0 0 Q := by
  unfold f_M_paint_b112 at hF
  refine r_aload_n (i := 62) (k0 := 0) rfl rfl rfl ?_
  refine q_geti (i := 63) rfl fl_M_257 (xm_in rfl hn) rfl ?_
  refine r_ifle (i := 64) (tgt := 123) rfl (by decide) (fun hc => ?_) (fun hc => ?_)
  · have hF := ok_it hc hF
    refine r_aload_n (i := 67) (k0 := 0) rfl rfl rfl ?_
    refine q_getr (b := 84) (i := 68) rfl fl_M_131 rfl (xm_in rfl hn) rfl rfl ?_
    refine r_iload_n (i := 69) (k0 := 1) rfl rfl rfl ?_
    obtain ⟨hi, hF⟩ := ok_gd hF
    refine q_iaload (i := 70) rfl (xm_in rfl hn) rfl hi ?_
    have hQ := hq _ (ok_some hF)
    exact r_ireturn (i := 71) rfl rfl rfl hQ
  have hF := ok_if hc hF
  refine r_iconst (v := 0) (i := 65) rfl ki_0 ?_
  refine r_goto (i := 66) (tgt := 129) rfl (by decide) ?_
  have hQ := hq _ (ok_some hF)
  exact r_ireturn (i := 71) rfl rfl rfl hQ
set_option maxHeartbeats 4000000 in
set_option maxRecDepth 100000 in
theorem t_M_paint_b106 {x1 : Int32} {x2 : Int32} {x3 : Int32} {n : Nat} {I : xm_I} {L : xm_L} {K : (Int32 × xm_I) ⊕ (Int32 × xm_I) → Prop} {Q : Option Value → xm_H → Prop} (hn : 86 ≤ n) (hq : ∀ p : Int32 × xm_I, K (.inr p) → Q (some (.int p.1)) (p.2, L, RC n, n)) (hg0 : ∀ s : Int32 × xm_I, K (.inl s) → xm_J 1 mt_M_paint 47 [(0, .ref 49), (1, .int x1), (2, .int x2), (3, .int s.1)] [] (s.2, L, RC n, n) 0 0 Q) (hF : ok (f_M_paint_b106 x1 x2 x3 I) K) : xm_J 1 mt_M_paint 106 [(0, .ref 49), (1, .int x1), (2, .int x2), (3, .int x3)] [] (I, L, RC n, n) 0 0 Q := by
  unfold f_M_paint_b106 at hF
  refine q_iinc (i := 60) (k0 := 3) (Ls' := [(3, _), (0, _), (1, _), (2, _)]) rfl ki_1 rfl (Nat.le_of_ble_eq_true rfl) rfl ?_
  refine r_goto (i := 61) (tgt := 47) rfl (by decide) ?_
  refine xm_sub (Ls' := [(0, _), (1, _), (2, _), (3, _)]) [1, 2, 3, 0] rfl ?_
  have hJ := hg0 _ (ok_some hF)
  exact hJ
set_option maxHeartbeats 4000000 in
set_option maxRecDepth 100000 in
theorem t_M_paint_b89 {x1 : Int32} {x2 : Int32} {x3 : Int32} {x4 : Int32} {y1 : Int32} {n : Nat} {I : xm_I} {L : xm_L} {K : (Int32 × xm_I) ⊕ (Int32 × xm_I) → Prop} {Q : Option Value → xm_H → Prop} (hn : 86 ≤ n) (hq : ∀ p : Int32 × xm_I, K (.inr p) → Q (some (.int p.1)) (p.2, L, RC n, n)) (hg0 : ∀ s : Int32 × xm_I, K (.inl s) → xm_J 1 mt_M_paint 47 [(0, .ref 49), (1, .int x1), (2, .int x2), (3, .int s.1)] [] (s.2, L, RC n, n) 0 0 Q) (hF : ok (f_M_paint_b89 x1 x2 x3 x4 y1 I) K) : xm_J 1 mt_M_paint 89 [(0, .ref 49), (1, .int x1), (2, .int x2), (3, .int x3), (4, .int x4)] [.int y1, .ref 49] (I, L, RC n, n) 0 0 Q := by
  unfold f_M_paint_b89 at hF
  refine q_puti (i := 51) rfl fl_M_257 (fun h => Bool.noConfusion h) (xm_in rfl hn) rfl ?_
  refine r_iload (i := 52) (k0 := 4) rfl rfl ?_
  refine r_iconst (v := (-1)) (i := 53) rfl ki_m1 ?_
  refine r_icmpeq (i := 54) (tgt := 106) rfl (by decide) (fun hc => ?_) (fun hc => ?_)
  · have hF := ok_it hc hF
    refine xm_sub (Ls' := [(0, _), (1, _), (2, _), (3, _)]) [0, 1, 2, 3] rfl ?_
    exact t_M_paint_b106 hn (fun p h => hq p h) (fun z h => hg0 z h) hF
  have hF := ok_if hc hF
  refine r_aload_n (i := 55) (k0 := 0) rfl rfl rfl ?_
  refine q_getr (b := 57) (i := 56) rfl fl_M_31 rfl (xm_in rfl hn) rfl rfl ?_
  refine r_iload (i := 57) (k0 := 4) rfl rfl ?_
  refine r_iload_n (i := 58) (k0 := 2) rfl rfl rfl ?_
  obtain ⟨hi, hF⟩ := ok_gd hF
  refine q_iastore (i := 59) rfl (xm_in rfl hn) rfl hi ?_
  refine xm_sub (Ls' := [(0, _), (1, _), (2, _), (3, _)]) [0, 1, 2, 3] rfl ?_
  exact t_M_paint_b106 hn (fun p h => hq p h) (fun z h => hg0 z h) hF
set_option maxHeartbeats 4000000 in
set_option maxRecDepth 100000 in
theorem t_M_paint_s47 {x1 : Int32} {x2 : Int32} {s : Int32 × xm_I} {n : Nat} {L : xm_L} {K : (Int32 × xm_I) ⊕ (Int32 × xm_I) → Prop} {Q : Option Value → xm_H → Prop} (hn : 86 ≤ n) (hq : ∀ p : Int32 × xm_I, K (.inr p) → Q (some (.int p.1)) (p.2, L, RC n, n)) (hg0 : ∀ s : Int32 × xm_I, K (.inl s) → xm_J 1 mt_M_paint 47 [(0, .ref 49), (1, .int x1), (2, .int x2), (3, .int s.1)] [] (s.2, L, RC n, n) 0 0 Q) (hF : ok (f_M_paint_s47 x1 x2 s) K) : xm_J 1 mt_M_paint 47 [(0, .ref 49), (1, .int x1), (2, .int x2), (3, .int s.1)] [] (s.2, L, RC n, n) 0 0 Q := by
  unfold f_M_paint_s47 at hF
  refine r_iload_n (i := 26) (k0 := 3) rfl rfl rfl ?_
  refine r_aload_n (i := 27) (k0 := 0) rfl rfl rfl ?_
  refine q_getr (b := 84) (i := 28) rfl fl_M_131 rfl (xm_in rfl hn) rfl rfl ?_
  refine r_iload_n (i := 29) (k0 := 1) rfl rfl rfl ?_
  obtain ⟨hi, hF⟩ := ok_gd hF
  refine q_iaload (i := 30) rfl (xm_in rfl hn) rfl hi ?_
  refine r_icmpge (i := 31) (tgt := 112) rfl (by decide) (fun hc => ?_) (fun hc => ?_)
  · have hF := ok_it hc hF
    refine xm_sub (Ls' := [(0, _), (1, _)]) [0, 1] rfl ?_
    exact t_M_paint_b112 hn (fun p h => hq p h) (ok_map hF)
  have hF := ok_if hc hF
  refine r_aload_n (i := 32) (k0 := 0) rfl rfl rfl ?_
  refine q_geti (i := 33) rfl fl_M_257 (xm_in rfl hn) rfl ?_
  refine r_ifne (i := 34) (tgt := 112) rfl (by decide) (fun hc => ?_) (fun hc => ?_)
  · have hF := ok_if hc hF
    refine xm_sub (Ls' := [(0, _), (1, _)]) [0, 1] rfl ?_
    exact t_M_paint_b112 hn (fun p h => hq p h) (ok_map hF)
  have hF := ok_it hc hF
  refine r_aload_n (i := 35) (k0 := 0) rfl rfl rfl ?_
  refine q_getr (b := 85) (i := 36) rfl fl_M_134 rfl (xm_in rfl hn) rfl rfl ?_
  refine r_bipush (v := 64) (i := 37) rfl kb_64 ?_
  refine r_iload_n (i := 38) (k0 := 1) rfl rfl rfl ?_
  refine r_imul (i := 39) rfl ?_
  refine r_iload_n (i := 40) (k0 := 3) rfl rfl rfl ?_
  refine r_iadd (i := 41) rfl ?_
  obtain ⟨hi, hF⟩ := ok_gd hF
  refine q_iaload (i := 42) rfl (xm_in rfl hn) rfl hi ?_
  refine r_istore (i := 43) (Ls' := [(4, _), (0, _), (1, _), (2, _), (3, _)]) rfl (Nat.le_of_ble_eq_true rfl) rfl ?_
  refine r_aload_n (i := 44) (k0 := 1) rfl rfl rfl ?_
  refine r_iload (i := 45) (k0 := 0) rfl rfl ?_
  refine r_iconst (v := (-1)) (i := 46) rfl ki_m1 ?_
  refine r_icmpne (i := 47) (tgt := 88) rfl (by decide) (fun hc => ?_) (fun hc => ?_)
  · have hF := ok_if hc hF
    refine r_iconst (v := 0) (i := 50) rfl ki_0 ?_
    refine xm_sub (Ls' := [(0, _), (1, _), (2, _), (3, _), (4, _)]) [1, 2, 3, 4, 0] rfl ?_
    exact t_M_paint_b89 hn (fun p h => hq p h) (fun z h => hg0 z h) hF
  have hF := ok_it hc hF
  refine r_iconst (v := 1) (i := 48) rfl ki_1 ?_
  refine r_goto (i := 49) (tgt := 89) rfl (by decide) ?_
  refine xm_sub (Ls' := [(0, _), (1, _), (2, _), (3, _), (4, _)]) [1, 2, 3, 4, 0] rfl ?_
  exact t_M_paint_b89 hn (fun p h => hq p h) (fun z h => hg0 z h) hF
set_option maxHeartbeats 4000000 in
set_option maxRecDepth 100000 in
theorem t_M_paint_b47 {x1 : Int32} {x2 : Int32} {s : Int32 × xm_I} {n : Nat} {L : xm_L} {K : Int32 × xm_I → Prop} {Q : Option Value → xm_H → Prop} (hn : 86 ≤ n) (hq : ∀ p : Int32 × xm_I, K p → Q (some (.int p.1)) (p.2, L, RC n, n)) (hF : ok (f_M_paint_b47 x1 x2 s) K) : xm_J 1 mt_M_paint 47 [(0, .ref 49), (1, .int x1), (2, .int x2), (3, .int s.1)] [] (s.2, L, RC n, n) 0 0 Q :=
  lp_J (G := fun z => xm_J 1 mt_M_paint 47 [(0, .ref 49), (1, .int x1), (2, .int x2), (3, .int z.1)] [] (z.2, L, RC n, n) 0 0 Q) (fun z hF => t_M_paint_s47 hn (fun p h => hq p h) (fun z h => h) hF) s hF
set_option maxHeartbeats 4000000 in
set_option maxRecDepth 100000 in
theorem t_M_paint_b42 {x1 : Int32} {x2 : Int32} {y1 : Int32} {n : Nat} {I : xm_I} {L : xm_L} {K : Int32 × xm_I → Prop} {Q : Option Value → xm_H → Prop} (hn : 86 ≤ n) (hq : ∀ p : Int32 × xm_I, K p → Q (some (.int p.1)) (p.2, L, RC n, n)) (hF : ok (f_M_paint_b42 x1 x2 y1 I) K) : xm_J 1 mt_M_paint 42 [(0, .ref 49), (1, .int x1), (2, .int x2)] [.int y1, .ref 49] (I, L, RC n, n) 0 0 Q := by
  unfold f_M_paint_b42 at hF
  refine q_puti (i := 23) rfl fl_M_257 (fun h => Bool.noConfusion h) (xm_in rfl hn) rfl ?_
  refine r_iconst (v := 0) (i := 24) rfl ki_0 ?_
  refine r_istore_n (i := 25) (Ls' := [(3, _), (0, _), (1, _), (2, _)]) rfl rfl (Nat.le_of_ble_eq_true rfl) rfl ?_
  refine xm_sub (Ls' := [(0, _), (1, _), (2, _), (3, _)]) [1, 2, 3, 0] rfl ?_
  exact t_M_paint_b47 hn (fun p h => hq p h) hF
set_option maxHeartbeats 4000000 in
set_option maxRecDepth 100000 in
theorem t_M_paint_b0 {x1 : Int32} {x2 : Int32} {n : Nat} {I : xm_I} {L : xm_L} {K : Int32 × xm_I → Prop} {Q : Option Value → xm_H → Prop} (hn : 86 ≤ n) (hq : ∀ p : Int32 × xm_I, K p → Q (some (.int p.1)) (p.2, L, RC n, n)) (hF : ok (f_M_paint_b0 x1 x2 I) K) : xm_J 1 mt_M_paint 0 [(0, .ref 49), (1, .int x1), (2, .int x2)] [] (I, L, RC n, n) 0 0 Q := by
  unfold f_M_paint_b0 at hF
  refine r_iload_n (i := 0) (k0 := 1) rfl rfl rfl ?_
  refine r_i2l (i := 1) rfl ?_
  refine r_lconst (v := 0) (i := 2) rfl rfl ?_
  refine r_ldc2 (i := 3) rfl ct_M_512 ?_
  refine c_S3I (i := 4) rfl sm_M_in lk_M_150 (t_M_in hn (ok_bind hF)) (Nat.le_of_ble_eq_true rfl) rfl (Nat.le_of_ble_eq_true rfl) (fun p_1 hF => ?_)
  refine r_ifeq (i := 5) (tgt := 24) rfl (by decide) (fun hc => ?_) (fun hc => ?_)
  · have hF := ok_it hc hF
    refine r_ldc (i := 12) rfl ct_M_154 ?_
    have hQ := hq _ (ok_some hF)
    exact r_ireturn (i := 13) rfl rfl rfl hQ
  have hF := ok_if hc hF
  refine r_iload_n (i := 6) (k0 := 2) rfl rfl rfl ?_
  refine r_i2l (i := 7) rfl ?_
  refine r_lconst (v := 0) (i := 8) rfl rfl ?_
  refine r_ldc2 (i := 9) rfl ct_M_189 ?_
  refine c_S3I (i := 10) rfl sm_M_in lk_M_150 (t_M_in hn (ok_bind hF)) (Nat.le_of_ble_eq_true rfl) rfl (Nat.le_of_ble_eq_true rfl) (fun p_2 hF => ?_)
  refine r_ifne (i := 11) (tgt := 27) rfl (by decide) (fun hc => ?_) (fun hc => ?_)
  · have hF := ok_if hc hF
    refine r_aload_n (i := 14) (k0 := 0) rfl rfl rfl ?_
    refine r_aload_n (i := 15) (k0 := 0) rfl rfl rfl ?_
    refine q_getr (b := 84) (i := 16) rfl fl_M_131 rfl (xm_in rfl hn) rfl rfl ?_
    refine r_iload_n (i := 17) (k0 := 1) rfl rfl rfl ?_
    obtain ⟨hi, hF⟩ := ok_gd hF
    refine q_iaload (i := 18) rfl (xm_in rfl hn) rfl hi ?_
    refine r_ifge (i := 19) (tgt := 41) rfl (by decide) (fun hc => ?_) (fun hc => ?_)
    · have hF := ok_it hc hF
      refine r_iconst (v := 0) (i := 22) rfl ki_0 ?_
      exact t_M_paint_b42 hn (fun p h => hq p h) hF
    have hF := ok_if hc hF
    refine r_iconst (v := 1) (i := 20) rfl ki_1 ?_
    refine r_goto (i := 21) (tgt := 42) rfl (by decide) ?_
    exact t_M_paint_b42 hn (fun p h => hq p h) hF
  have hF := ok_it hc hF
  refine r_ldc (i := 12) rfl ct_M_154 ?_
  have hQ := hq _ (ok_some hF)
  exact r_ireturn (i := 13) rfl rfl rfl hQ
set_option maxHeartbeats 4000000 in
set_option maxRecDepth 100000 in
theorem t_M_paint {x1 : Int32} {x2 : Int32} {n : Nat} {I : xm_I} {L : xm_L} {K : Int32 × xm_I → Prop} (hn : 86 ≤ n) (hF : ok (f_M_paint x1 x2 I) K) : xm_C 1 mt_M_paint [.ref 49, .int x1, .int x2] (I, L, RC n, n) 0 0 (pI (fun p : Int32 × xm_I => p.1) (fun p : Int32 × xm_I => (p.2, L, RC n, n)) K) := by
  unfold f_M_paint at hF
  refine xm_enter (by decide +kernel) dv_M_paint (Nat.le_of_ble_eq_true rfl) ?_
  exact t_M_paint_b0 hn (fun p hp => ⟨p, rfl, rfl, hp⟩) hF

noncomputable def f_M_reach_b28 (x1 : Int32) (y1 : Int32) (I : xm_I) : Option (Int64 × xm_I) :=
  let I_1 : xm_I := up2 I 49 38 y1
  if (I_1 49 38) ≤ 0 then (
    (f_M_squareOf x1 I_1).bind fun p_2 =>
    some (p_2, I_1))
  else (
  some (0, I_1))
noncomputable def f_M_reach_b0 (x1 : Int32) (I : xm_I) : Option (Int64 × xm_I) :=
  (f_M_isObject x1 I).bind fun p_1 =>
  if p_1 = 0 then (
    some ((-100001), I))
  else (
    gd (0 ≤ (x1).toInt ∧ (x1).toInt < 40) <|
    if (I 54 (Int32.toNatClampNeg x1)) = 4 then (
      f_M_reach_b28 x1 0 I)
    else (
      f_M_reach_b28 x1 2 I))
noncomputable def f_M_reach (x1 : Int32) (I : xm_I) : Option (Int64 × xm_I) := f_M_reach_b0 x1 I
set_option maxHeartbeats 4000000 in
set_option maxRecDepth 100000 in
theorem t_M_reach_b28 {x1 : Int32} {y1 : Int32} {n : Nat} {I : xm_I} {L : xm_L} {K : Int64 × xm_I → Prop} {Q : Option Value → xm_H → Prop} (hn : 86 ≤ n) (hq : ∀ p : Int64 × xm_I, K p → Q (some (.long p.1)) (p.2, L, RC n, n)) (hF : ok (f_M_reach_b28 x1 y1 I) K) : xm_J 3 mt_M_reach 28 [(0, .ref 49), (1, .int x1)] [.int y1, .ref 49] (I, L, RC n, n) 0 0 Q := by
  unfold f_M_reach_b28 at hF
  refine q_puti (i := 16) rfl fl_M_257 (fun h => Bool.noConfusion h) (xm_in rfl hn) rfl ?_
  refine r_aload_n (i := 17) (k0 := 0) rfl rfl rfl ?_
  refine q_geti (i := 18) rfl fl_M_257 (xm_in rfl hn) rfl ?_
  refine r_ifle (i := 19) (tgt := 42) rfl (by decide) (fun hc => ?_) (fun hc => ?_)
  · have hF := ok_it hc hF
    refine r_aload_n (i := 22) (k0 := 0) rfl rfl rfl ?_
    refine r_iload_n (i := 23) (k0 := 1) rfl rfl rfl ?_
    refine c_V1L (i := 24) rfl vm_M_squareOf lk_M_371 (t_M_squareOf hn (ok_bind hF)) (Nat.le_of_ble_eq_true rfl) (xm_in rfl hn) rfl rfl (Nat.le_of_ble_eq_true rfl) (fun p_2 hF => ?_)
    have hQ := hq _ (ok_some hF)
    exact r_lreturn (i := 25) rfl rfl hQ
  have hF := ok_if hc hF
  refine r_lconst (v := 0) (i := 20) rfl rfl ?_
  refine r_goto (i := 21) (tgt := 47) rfl (by decide) ?_
  have hQ := hq _ (ok_some hF)
  exact r_lreturn (i := 25) rfl rfl hQ
set_option maxHeartbeats 4000000 in
set_option maxRecDepth 100000 in
theorem t_M_reach_b0 {x1 : Int32} {n : Nat} {I : xm_I} {L : xm_L} {K : Int64 × xm_I → Prop} {Q : Option Value → xm_H → Prop} (hn : 86 ≤ n) (hq : ∀ p : Int64 × xm_I, K p → Q (some (.long p.1)) (p.2, L, RC n, n)) (hF : ok (f_M_reach_b0 x1 I) K) : xm_J 3 mt_M_reach 0 [(0, .ref 49), (1, .int x1)] [] (I, L, RC n, n) 0 0 Q := by
  unfold f_M_reach_b0 at hF
  refine r_aload_n (i := 0) (k0 := 0) rfl rfl rfl ?_
  refine r_iload_n (i := 1) (k0 := 1) rfl rfl rfl ?_
  refine c_V1I (i := 2) rfl vm_M_isObject lk_M_186 (t_M_isObject hn (ok_bind hF)) (Nat.le_of_ble_eq_true rfl) (xm_in rfl hn) rfl rfl (Nat.le_of_ble_eq_true rfl) (fun p_1 hF => ?_)
  refine r_ifne (i := 3) (tgt := 12) rfl (by decide) (fun hc => ?_) (fun hc => ?_)
  · have hF := ok_if hc hF
    refine r_aload_n (i := 6) (k0 := 0) rfl rfl rfl ?_
    refine r_aload_n (i := 7) (k0 := 0) rfl rfl rfl ?_
    refine q_getr (b := 54) (i := 8) rfl fl_M_22 rfl (xm_in rfl hn) rfl rfl ?_
    refine r_iload_n (i := 9) (k0 := 1) rfl rfl rfl ?_
    obtain ⟨hi, hF⟩ := ok_gd hF
    refine q_iaload (i := 10) rfl (xm_in rfl hn) rfl hi ?_
    refine r_iconst (v := 4) (i := 11) rfl ki_4 ?_
    refine r_icmpne (i := 12) (tgt := 27) rfl (by decide) (fun hc => ?_) (fun hc => ?_)
    · have hF := ok_if hc hF
      refine r_iconst (v := 2) (i := 15) rfl ki_2 ?_
      exact t_M_reach_b28 hn (fun p h => hq p h) hF
    have hF := ok_it hc hF
    refine r_iconst (v := 0) (i := 13) rfl ki_0 ?_
    refine r_goto (i := 14) (tgt := 28) rfl (by decide) ?_
    exact t_M_reach_b28 hn (fun p h => hq p h) hF
  have hF := ok_it hc hF
  refine r_ldc2 (i := 4) rfl ct_M_211 ?_
  have hQ := hq _ (ok_some hF)
  exact r_lreturn (i := 5) rfl rfl hQ
set_option maxHeartbeats 4000000 in
set_option maxRecDepth 100000 in
theorem t_M_reach {x1 : Int32} {n : Nat} {I : xm_I} {L : xm_L} {K : Int64 × xm_I → Prop} (hn : 86 ≤ n) (hF : ok (f_M_reach x1 I) K) : xm_C 3 mt_M_reach [.ref 49, .int x1] (I, L, RC n, n) 0 0 (pL (fun p : Int64 × xm_I => p.1) (fun p : Int64 × xm_I => (p.2, L, RC n, n)) K) := by
  unfold f_M_reach at hF
  refine xm_enter (by decide +kernel) dv_M_reach (Nat.le_of_ble_eq_true rfl) ?_
  exact t_M_reach_b0 hn (fun p hp => ⟨p, rfl, rfl, hp⟩) hF
