/-! ===== turned: Pn_meetSide Pn_paintHatchStroke Pn_paintHatch Pn_takeCorners Pn_paintArea Pn_paintAreas Pn_paintGridStroke Pn_paintGridWay Pn_paintGrid D_octant Fr_holds Pn_openingOf Pn_paintAngle Fg_squareOfSpan Fr_holdsCircle Jm_abs_I Fr_meetsCircle ===== -/
noncomputable def f_Pn_meetSide_b157 (l4 : Int64) (l6 : Int64) (x8 : Int32) (I : xm_I) (L : xm_L) : Option (xm_I × xm_L) :=
  gd (0 ≤ (x8).toInt ∧ (x8).toInt < 12) <|
  let L_1 : xm_L := up2 L 36 (Int32.toNatClampNeg x8) l6
  gd (0 ≤ (x8).toInt ∧ (x8).toInt < 12) <|
  let L_2 : xm_L := up2 L_1 37 (Int32.toNatClampNeg x8) l4
  let I_3 : xm_I := up2 I 30 13 ((I 30 13) + 1)
  some (I_3, L_2)
noncomputable def f_Pn_meetSide_s86 (l4 : Int64) (l6 : Int64) (I : xm_I) (s : Int32 × xm_L) : Option ((Int32 × xm_L) ⊕ (xm_I × xm_L)) :=
  if s.1 ≤ 0 then (
    (f_Pn_meetSide_b157 l4 l6 s.1 I s.2).map .inr)
  else (
  gd (0 ≤ (s.1 - 1).toInt ∧ (s.1 - 1).toInt < 12) <|
  gd (0 ≤ (s.1 - 1).toInt ∧ (s.1 - 1).toInt < 12) <|
  if ((s.2 36 (Int32.toNatClampNeg (s.1 - 1))) * l4) ≤ (l6 * (s.2 37 (Int32.toNatClampNeg (s.1 - 1)))) then (
    (f_Pn_meetSide_b157 l4 l6 s.1 I s.2).map .inr)
  else (
  gd (0 ≤ (s.1 - 1).toInt ∧ (s.1 - 1).toInt < 12) <|
  gd (0 ≤ (s.1).toInt ∧ (s.1).toInt < 12) <|
  let L_1 : xm_L := up2 s.2 36 (Int32.toNatClampNeg s.1) (s.2 36 (Int32.toNatClampNeg (s.1 - 1)))
  gd (0 ≤ (s.1 - 1).toInt ∧ (s.1 - 1).toInt < 12) <|
  gd (0 ≤ (s.1).toInt ∧ (s.1).toInt < 12) <|
  let L_2 : xm_L := up2 L_1 37 (Int32.toNatClampNeg s.1) (L_1 37 (Int32.toNatClampNeg (s.1 - 1)))
  let x8_3 : Int32 := s.1 + (-1)
  some (.inl (x8_3, L_2))))
noncomputable def f_Pn_meetSide_b86 (l4 : Int64) (l6 : Int64) (I : xm_I) (s : Int32 × xm_L) : Option (xm_I × xm_L) := lp (f_Pn_meetSide_s86 l4 l6 I) s
noncomputable def f_Pn_meetSide_b70 (l4 : Int64) (l6 : Int64) (I : xm_I) (L : xm_L) : Option (xm_I × xm_L) :=
  if (I 30 13) < 12 then (
    let x8_1 : Int32 := I 30 13
    f_Pn_meetSide_b86 l4 l6 I (x8_1, L))
  else (
  some (I, L))
noncomputable def f_Pn_meetSide_b0 (x1 : Int32) (x2 : Int32) (x3 : Int32) (I : xm_I) (L : xm_L) : Option (xm_I × xm_L) :=
  gd (0 ≤ (x2).toInt ∧ (x2).toInt < 12) <|
  gd (0 ≤ (x1).toInt ∧ (x1).toInt < 12) <|
  let l4_1 : Int64 := Int32.toInt64 ((I 35 (Int32.toNatClampNeg x2)) - (I 35 (Int32.toNatClampNeg x1)))
  gd (0 ≤ (x1).toInt ∧ (x1).toInt < 12) <|
  gd (0 ≤ (x1).toInt ∧ (x1).toInt < 12) <|
  gd (0 ≤ (x2).toInt ∧ (x2).toInt < 12) <|
  gd (0 ≤ (x1).toInt ∧ (x1).toInt < 12) <|
  let l6_2 : Int64 := ((Int32.toInt64 (I 34 (Int32.toNatClampNeg x1))) * l4_1) + ((Int32.toInt64 (x3 - (I 35 (Int32.toNatClampNeg x1)))) * (Int32.toInt64 ((I 34 (Int32.toNatClampNeg x2)) - (I 34 (Int32.toNatClampNeg x1)))))
  if 0 ≤ l4_1 then (
    f_Pn_meetSide_b70 l4_1 l6_2 I L)
  else (
  f_Pn_meetSide_b70 (-l4_1) (-l6_2) I L)
noncomputable def f_Pn_meetSide (x1 : Int32) (x2 : Int32) (x3 : Int32) (I : xm_I) (L : xm_L) : Option (xm_I × xm_L) := f_Pn_meetSide_b0 x1 x2 x3 I L
set_option maxHeartbeats 4000000 in
set_option maxRecDepth 100000 in
theorem t_Pn_meetSide_b157 {l4 : Int64} {l6 : Int64} {x8 : Int32} {n : Nat} {I : xm_I} {L : xm_L} {K : xm_I × xm_L → Prop} {Q : Option Value → xm_H → Prop} (hn : 86 ≤ n) (hq : ∀ p : xm_I × xm_L, K p → Q none (p.1, p.2, RC n, n)) (hF : ok (f_Pn_meetSide_b157 l4 l6 x8 I L) K) : xm_J 0 mt_Pn_meetSide 157 [(0, .ref 30), (4, .long l4), (6, .long l6), (8, .int x8)] [] (I, L, RC n, n) 0 0 Q := by
  unfold f_Pn_meetSide_b157 at hF
  refine r_aload_n (i := 98) (k0 := 0) rfl rfl rfl ?_
  refine q_getr (b := 36) (i := 99) rfl fl_Pn_28 rfl (xm_in rfl hn) rfl rfl ?_
  refine r_iload (i := 100) (k0 := 3) rfl rfl ?_
  refine r_lload (i := 101) (k0 := 2) rfl rfl ?_
  obtain ⟨hi, hF⟩ := ok_gd hF
  refine q_lastore (i := 102) rfl (xm_in rfl hn) rfl hi ?_
  refine r_aload_n (i := 103) (k0 := 0) rfl rfl rfl ?_
  refine q_getr (b := 37) (i := 104) rfl fl_Pn_32 rfl (xm_in rfl hn) rfl rfl ?_
  refine r_iload (i := 105) (k0 := 3) rfl rfl ?_
  refine r_lload (i := 106) (k0 := 1) rfl rfl ?_
  obtain ⟨hi, hF⟩ := ok_gd hF
  refine q_lastore (i := 107) rfl (xm_in rfl hn) rfl hi ?_
  refine r_aload_n (i := 108) (k0 := 0) rfl rfl rfl ?_
  refine r_dup (i := 109) rfl rfl ?_
  refine q_geti (i := 110) rfl fl_Pn_194 (xm_in rfl hn) rfl ?_
  refine r_iconst (v := 1) (i := 111) rfl ki_1 ?_
  refine r_iadd (i := 112) rfl ?_
  refine q_puti (i := 113) rfl fl_Pn_194 (fun h => Bool.noConfusion h) (xm_in rfl hn) rfl ?_
  have hQ := hq _ (ok_some hF)
  exact r_return (i := 114) rfl rfl hQ
set_option maxHeartbeats 4000000 in
set_option maxRecDepth 100000 in
theorem t_Pn_meetSide_s86 {l4 : Int64} {l6 : Int64} {s : Int32 × xm_L} {n : Nat} {I : xm_I} {K : (Int32 × xm_L) ⊕ (xm_I × xm_L) → Prop} {Q : Option Value → xm_H → Prop} (hn : 86 ≤ n) (hq : ∀ p : xm_I × xm_L, K (.inr p) → Q none (p.1, p.2, RC n, n)) (hg0 : ∀ s : Int32 × xm_L, K (.inl s) → xm_J 0 mt_Pn_meetSide 86 [(0, .ref 30), (4, .long l4), (6, .long l6), (8, .int s.1)] [] (I, s.2, RC n, n) 0 0 Q) (hF : ok (f_Pn_meetSide_s86 l4 l6 I s) K) : xm_J 0 mt_Pn_meetSide 86 [(0, .ref 30), (4, .long l4), (6, .long l6), (8, .int s.1)] [] (I, s.2, RC n, n) 0 0 Q := by
  unfold f_Pn_meetSide_s86 at hF
  refine r_iload (i := 56) (k0 := 3) rfl rfl ?_
  refine r_ifle (i := 57) (tgt := 157) rfl (by decide) (fun hc => ?_) (fun hc => ?_)
  · have hF := ok_it hc hF
    exact t_Pn_meetSide_b157 hn (fun p h => hq p h) (ok_map hF)
  have hF := ok_if hc hF
  refine r_lload (i := 58) (k0 := 2) rfl rfl ?_
  refine r_aload_n (i := 59) (k0 := 0) rfl rfl rfl ?_
  refine q_getr (b := 37) (i := 60) rfl fl_Pn_32 rfl (xm_in rfl hn) rfl rfl ?_
  refine r_iload (i := 61) (k0 := 3) rfl rfl ?_
  refine r_iconst (v := 1) (i := 62) rfl ki_1 ?_
  refine r_isub (i := 63) rfl ?_
  obtain ⟨hi, hF⟩ := ok_gd hF
  refine q_laload (i := 64) rfl (xm_in rfl hn) rfl hi ?_
  refine r_lmul (i := 65) rfl ?_
  refine r_aload_n (i := 66) (k0 := 0) rfl rfl rfl ?_
  refine q_getr (b := 36) (i := 67) rfl fl_Pn_28 rfl (xm_in rfl hn) rfl rfl ?_
  refine r_iload (i := 68) (k0 := 3) rfl rfl ?_
  refine r_iconst (v := 1) (i := 69) rfl ki_1 ?_
  refine r_isub (i := 70) rfl ?_
  obtain ⟨hi, hF⟩ := ok_gd hF
  refine q_laload (i := 71) rfl (xm_in rfl hn) rfl hi ?_
  refine r_lload (i := 72) (k0 := 1) rfl rfl ?_
  refine r_lmul (i := 73) rfl ?_
  refine r_lcmpge (i := 74) (j := 75) (tgt := 157) rfl rfl (by decide) (fun hc => ?_) (fun hc => ?_)
  · have hF := ok_it hc hF
    exact t_Pn_meetSide_b157 hn (fun p h => hq p h) (ok_map hF)
  have hF := ok_if hc hF
  refine r_aload_n (i := 76) (k0 := 0) rfl rfl rfl ?_
  refine q_getr (b := 36) (i := 77) rfl fl_Pn_28 rfl (xm_in rfl hn) rfl rfl ?_
  refine r_iload (i := 78) (k0 := 3) rfl rfl ?_
  refine r_aload_n (i := 79) (k0 := 0) rfl rfl rfl ?_
  refine q_getr (b := 36) (i := 80) rfl fl_Pn_28 rfl (xm_in rfl hn) rfl rfl ?_
  refine r_iload (i := 81) (k0 := 3) rfl rfl ?_
  refine r_iconst (v := 1) (i := 82) rfl ki_1 ?_
  refine r_isub (i := 83) rfl ?_
  obtain ⟨hi, hF⟩ := ok_gd hF
  refine q_laload (i := 84) rfl (xm_in rfl hn) rfl hi ?_
  obtain ⟨hi, hF⟩ := ok_gd hF
  refine q_lastore (i := 85) rfl (xm_in rfl hn) rfl hi ?_
  refine r_aload_n (i := 86) (k0 := 0) rfl rfl rfl ?_
  refine q_getr (b := 37) (i := 87) rfl fl_Pn_32 rfl (xm_in rfl hn) rfl rfl ?_
  refine r_iload (i := 88) (k0 := 3) rfl rfl ?_
  refine r_aload_n (i := 89) (k0 := 0) rfl rfl rfl ?_
  refine q_getr (b := 37) (i := 90) rfl fl_Pn_32 rfl (xm_in rfl hn) rfl rfl ?_
  refine r_iload (i := 91) (k0 := 3) rfl rfl ?_
  refine r_iconst (v := 1) (i := 92) rfl ki_1 ?_
  refine r_isub (i := 93) rfl ?_
  obtain ⟨hi, hF⟩ := ok_gd hF
  refine q_laload (i := 94) rfl (xm_in rfl hn) rfl hi ?_
  obtain ⟨hi, hF⟩ := ok_gd hF
  refine q_lastore (i := 95) rfl (xm_in rfl hn) rfl hi ?_
  refine q_iinc (i := 96) (k0 := 3) (Ls' := [(8, _), (0, _), (4, _), (6, _)]) rfl ki_m1 rfl (Nat.le_of_ble_eq_true rfl) rfl ?_
  refine r_goto (i := 97) (tgt := 86) rfl (by decide) ?_
  refine xm_sub (Ls' := [(0, _), (4, _), (6, _), (8, _)]) [1, 2, 3, 0] rfl ?_
  have hJ := hg0 _ (ok_some hF)
  exact hJ
set_option maxHeartbeats 4000000 in
set_option maxRecDepth 100000 in
theorem t_Pn_meetSide_b86 {l4 : Int64} {l6 : Int64} {s : Int32 × xm_L} {n : Nat} {I : xm_I} {K : xm_I × xm_L → Prop} {Q : Option Value → xm_H → Prop} (hn : 86 ≤ n) (hq : ∀ p : xm_I × xm_L, K p → Q none (p.1, p.2, RC n, n)) (hF : ok (f_Pn_meetSide_b86 l4 l6 I s) K) : xm_J 0 mt_Pn_meetSide 86 [(0, .ref 30), (4, .long l4), (6, .long l6), (8, .int s.1)] [] (I, s.2, RC n, n) 0 0 Q :=
  lp_J (G := fun z => xm_J 0 mt_Pn_meetSide 86 [(0, .ref 30), (4, .long l4), (6, .long l6), (8, .int z.1)] [] (I, z.2, RC n, n) 0 0 Q) (fun z hF => t_Pn_meetSide_s86 hn (fun p h => hq p h) (fun z h => h) hF) s hF
set_option maxHeartbeats 4000000 in
set_option maxRecDepth 100000 in
theorem t_Pn_meetSide_b70 {l4 : Int64} {l6 : Int64} {n : Nat} {I : xm_I} {L : xm_L} {K : xm_I × xm_L → Prop} {Q : Option Value → xm_H → Prop} (hn : 86 ≤ n) (hq : ∀ p : xm_I × xm_L, K p → Q none (p.1, p.2, RC n, n)) (hF : ok (f_Pn_meetSide_b70 l4 l6 I L) K) : xm_J 0 mt_Pn_meetSide 70 [(0, .ref 30), (4, .long l4), (6, .long l6)] [] (I, L, RC n, n) 0 0 Q := by
  unfold f_Pn_meetSide_b70 at hF
  refine r_aload_n (i := 48) (k0 := 0) rfl rfl rfl ?_
  refine q_geti (i := 49) rfl fl_Pn_194 (xm_in rfl hn) rfl ?_
  refine r_bipush (v := 12) (i := 50) rfl kb_12 ?_
  refine r_icmplt (i := 51) (tgt := 80) rfl (by decide) (fun hc => ?_) (fun hc => ?_)
  · have hF := ok_it hc hF
    refine r_aload_n (i := 53) (k0 := 0) rfl rfl rfl ?_
    refine q_geti (i := 54) rfl fl_Pn_194 (xm_in rfl hn) rfl ?_
    refine r_istore (i := 55) (Ls' := [(8, _), (0, _), (4, _), (6, _)]) rfl (Nat.le_of_ble_eq_true rfl) rfl ?_
    refine xm_sub (Ls' := [(0, _), (4, _), (6, _), (8, _)]) [1, 2, 3, 0] rfl ?_
    exact t_Pn_meetSide_b86 hn (fun p h => hq p h) hF
  have hF := ok_if hc hF
  have hQ := hq _ (ok_some hF)
  exact r_return (i := 52) rfl rfl hQ
set_option maxHeartbeats 4000000 in
set_option maxRecDepth 100000 in
theorem t_Pn_meetSide_b0 {x1 : Int32} {x2 : Int32} {x3 : Int32} {n : Nat} {I : xm_I} {L : xm_L} {K : xm_I × xm_L → Prop} {Q : Option Value → xm_H → Prop} (hn : 86 ≤ n) (hq : ∀ p : xm_I × xm_L, K p → Q none (p.1, p.2, RC n, n)) (hF : ok (f_Pn_meetSide_b0 x1 x2 x3 I L) K) : xm_J 0 mt_Pn_meetSide 0 [(0, .ref 30), (1, .int x1), (2, .int x2), (3, .int x3)] [] (I, L, RC n, n) 0 0 Q := by
  unfold f_Pn_meetSide_b0 at hF
  refine r_aload_n (i := 0) (k0 := 0) rfl rfl rfl ?_
  refine q_getr (b := 35) (i := 1) rfl fl_Pn_25 rfl (xm_in rfl hn) rfl rfl ?_
  refine r_iload_n (i := 2) (k0 := 2) rfl rfl rfl ?_
  obtain ⟨hi, hF⟩ := ok_gd hF
  refine q_iaload (i := 3) rfl (xm_in rfl hn) rfl hi ?_
  refine r_aload_n (i := 4) (k0 := 0) rfl rfl rfl ?_
  refine q_getr (b := 35) (i := 5) rfl fl_Pn_25 rfl (xm_in rfl hn) rfl rfl ?_
  refine r_iload_n (i := 6) (k0 := 1) rfl rfl rfl ?_
  obtain ⟨hi, hF⟩ := ok_gd hF
  refine q_iaload (i := 7) rfl (xm_in rfl hn) rfl hi ?_
  refine r_isub (i := 8) rfl ?_
  refine r_i2l (i := 9) rfl ?_
  refine r_lstore (i := 10) (Ls' := [(4, _), (0, _), (1, _), (2, _), (3, _)]) rfl (Nat.le_of_ble_eq_true rfl) rfl ?_
  refine r_aload_n (i := 11) (k0 := 1) rfl rfl rfl ?_
  refine q_getr (b := 34) (i := 12) rfl fl_Pn_22 rfl (xm_in rfl hn) rfl rfl ?_
  refine r_iload_n (i := 13) (k0 := 2) rfl rfl rfl ?_
  obtain ⟨hi, hF⟩ := ok_gd hF
  refine q_iaload (i := 14) rfl (xm_in rfl hn) rfl hi ?_
  refine r_i2l (i := 15) rfl ?_
  refine r_lload (i := 16) (k0 := 0) rfl rfl ?_
  refine r_lmul (i := 17) rfl ?_
  refine r_iload_n (i := 18) (k0 := 4) rfl rfl rfl ?_
  refine r_aload_n (i := 19) (k0 := 1) rfl rfl rfl ?_
  refine q_getr (b := 35) (i := 20) rfl fl_Pn_25 rfl (xm_in rfl hn) rfl rfl ?_
  refine r_iload_n (i := 21) (k0 := 2) rfl rfl rfl ?_
  obtain ⟨hi, hF⟩ := ok_gd hF
  refine q_iaload (i := 22) rfl (xm_in rfl hn) rfl hi ?_
  refine r_isub (i := 23) rfl ?_
  refine r_i2l (i := 24) rfl ?_
  refine r_aload_n (i := 25) (k0 := 1) rfl rfl rfl ?_
  refine q_getr (b := 34) (i := 26) rfl fl_Pn_22 rfl (xm_in rfl hn) rfl rfl ?_
  refine r_iload_n (i := 27) (k0 := 3) rfl rfl rfl ?_
  obtain ⟨hi, hF⟩ := ok_gd hF
  refine q_iaload (i := 28) rfl (xm_in rfl hn) rfl hi ?_
  refine r_aload_n (i := 29) (k0 := 1) rfl rfl rfl ?_
  refine q_getr (b := 34) (i := 30) rfl fl_Pn_22 rfl (xm_in rfl hn) rfl rfl ?_
  refine r_iload_n (i := 31) (k0 := 2) rfl rfl rfl ?_
  obtain ⟨hi, hF⟩ := ok_gd hF
  refine q_iaload (i := 32) rfl (xm_in rfl hn) rfl hi ?_
  refine r_isub (i := 33) rfl ?_
  refine r_i2l (i := 34) rfl ?_
  refine r_lmul (i := 35) rfl ?_
  refine r_ladd (i := 36) rfl ?_
  refine r_lstore (i := 37) (Ls' := [(6, _), (4, _), (0, _), (1, _), (2, _), (3, _)]) rfl (Nat.le_of_ble_eq_true rfl) rfl ?_
  refine r_lload (i := 38) (k0 := 1) rfl rfl ?_
  refine r_lconst (v := 0) (i := 39) rfl rfl ?_
  refine r_lcmpge (i := 40) (j := 41) (tgt := 70) rfl rfl (by decide) (fun hc => ?_) (fun hc => ?_)
  · have hF := ok_it hc hF
    refine xm_sub (Ls' := [(0, _), (4, _), (6, _)]) [2, 1, 0] rfl ?_
    exact t_Pn_meetSide_b70 hn (fun p h => hq p h) hF
  have hF := ok_if hc hF
  refine r_lload (i := 42) (k0 := 1) rfl rfl ?_
  refine r_lneg (i := 43) rfl ?_
  refine r_lstore (i := 44) (Ls' := [(4, _), (6, _), (0, _), (1, _), (2, _), (3, _)]) rfl (Nat.le_of_ble_eq_true rfl) rfl ?_
  refine r_lload (i := 45) (k0 := 1) rfl rfl ?_
  refine r_lneg (i := 46) rfl ?_
  refine r_lstore (i := 47) (Ls' := [(6, _), (4, _), (0, _), (1, _), (2, _), (3, _)]) rfl (Nat.le_of_ble_eq_true rfl) rfl ?_
  refine xm_sub (Ls' := [(0, _), (4, _), (6, _)]) [2, 1, 0] rfl ?_
  exact t_Pn_meetSide_b70 hn (fun p h => hq p h) hF
set_option maxHeartbeats 4000000 in
set_option maxRecDepth 100000 in
theorem t_Pn_meetSide {x1 : Int32} {x2 : Int32} {x3 : Int32} {n : Nat} {I : xm_I} {L : xm_L} {K : xm_I × xm_L → Prop} (hn : 86 ≤ n) (hF : ok (f_Pn_meetSide x1 x2 x3 I L) K) : xm_C 0 mt_Pn_meetSide [.ref 30, .int x1, .int x2, .int x3] (I, L, RC n, n) 0 0 (pV (fun p : xm_I × xm_L => (p.1, p.2, RC n, n)) K) := by
  unfold f_Pn_meetSide at hF
  refine xm_enter (by decide +kernel) dv_Pn_meetSide (Nat.le_of_ble_eq_true rfl) ?_
  exact t_Pn_meetSide_b0 hn (fun p hp => ⟨p, rfl, rfl, hp⟩) hF

noncomputable def f_Pn_paintHatchStroke_b165 (x2 : Int32) (x3 : Int32) (l6 : Int64) (l8 : Int64) (l10 : Int64) (y0 : Int64) (I : xm_I) (L : xm_L) : Option (xm_I) :=
  if (l6 * y0) ≤ (l10 * l8) then (
    (f_Mk_isFull I).bind fun p_1 =>
    if p_1 = 0 then (
      (f_Fr_sheetY (Int32.toInt64 x2) 1 I).bind fun p_2 =>
      (f_Fr_sheetX l6 l8 I).bind fun p_3 =>
      (f_Fr_sheetX l10 y0 I).bind fun p_4 =>
      (f_Mk_add 83 p_3 p_2 p_4 p_2 x3 I).bind fun p_5 =>
      some (p_5))
    else (
    (f_Mk_lose 1 I).bind fun p_6 =>
    some (p_6)))
  else (
  some (I))
noncomputable def f_Pn_paintHatchStroke_b146 (x1 : Int32) (x2 : Int32) (x3 : Int32) (x5 : Int32) (l6 : Int64) (l8 : Int64) (y0 : Int64) (I : xm_I) (L : xm_L) : Option (xm_I) :=
  if x5 = 0 then (
    gd (0 ≤ (x1 + 1).toInt ∧ (x1 + 1).toInt < 12) <|
    f_Pn_paintHatchStroke_b165 x2 x3 l6 l8 y0 (L 37 (Int32.toNatClampNeg (x1 + 1))) I L)
  else (
  f_Pn_paintHatchStroke_b165 x2 x3 l6 l8 y0 1 I L)
noncomputable def f_Pn_paintHatchStroke_b120 (x1 : Int32) (x2 : Int32) (x3 : Int32) (x5 : Int32) (l6 : Int64) (y0 : Int64) (I : xm_I) (L : xm_L) : Option (xm_I) :=
  if x5 = 0 then (
    gd (0 ≤ (x1 + 1).toInt ∧ (x1 + 1).toInt < 12) <|
    f_Pn_paintHatchStroke_b146 x1 x2 x3 x5 l6 y0 (L 36 (Int32.toNatClampNeg (x1 + 1))) I L)
  else (
  f_Pn_paintHatchStroke_b146 x1 x2 x3 x5 l6 y0 (Int32.toInt64 (I 14 1)) I L)
noncomputable def f_Pn_paintHatchStroke_b103 (x1 : Int32) (x2 : Int32) (x3 : Int32) (x4 : Int32) (x5 : Int32) (y0 : Int64) (I : xm_I) (L : xm_L) : Option (xm_I) :=
  if x4 = 0 then (
    gd (0 ≤ (x1).toInt ∧ (x1).toInt < 12) <|
    f_Pn_paintHatchStroke_b120 x1 x2 x3 x5 y0 (L 37 (Int32.toNatClampNeg x1)) I L)
  else (
  f_Pn_paintHatchStroke_b120 x1 x2 x3 x5 y0 1 I L)
noncomputable def f_Pn_paintHatchStroke_b79 (x1 : Int32) (x2 : Int32) (x3 : Int32) (x4 : Int32) (y0 : Int32) (I : xm_I) (L : xm_L) : Option (xm_I) :=
  if x4 = 0 then (
    gd (0 ≤ (x1).toInt ∧ (x1).toInt < 12) <|
    f_Pn_paintHatchStroke_b103 x1 x2 x3 x4 y0 (L 36 (Int32.toNatClampNeg x1)) I L)
  else (
  f_Pn_paintHatchStroke_b103 x1 x2 x3 x4 y0 (Int32.toInt64 (I 14 0)) I L)
noncomputable def f_Pn_paintHatchStroke_b43 (x1 : Int32) (x2 : Int32) (x3 : Int32) (y0 : Int32) (I : xm_I) (L : xm_L) : Option (xm_I) :=
  gd (0 ≤ (x1 + 1).toInt ∧ (x1 + 1).toInt < 12) <|
  gd (0 ≤ (x1 + 1).toInt ∧ (x1 + 1).toInt < 12) <|
  if (L 36 (Int32.toNatClampNeg (x1 + 1))) ≤ ((Int32.toInt64 (I 14 1)) * (L 37 (Int32.toNatClampNeg (x1 + 1)))) then (
    f_Pn_paintHatchStroke_b79 x1 x2 x3 y0 0 I L)
  else (
  f_Pn_paintHatchStroke_b79 x1 x2 x3 y0 1 I L)
noncomputable def f_Pn_paintHatchStroke_b0 (x1 : Int32) (x2 : Int32) (x3 : Int32) (I : xm_I) (L : xm_L) : Option (xm_I) :=
  if x1 < 0 then (
    some (I))
  else (
  if (x1 + 1) < 12 then (
    gd (0 ≤ (x1).toInt ∧ (x1).toInt < 12) <|
    gd (0 ≤ (x1).toInt ∧ (x1).toInt < 12) <|
    if ((Int32.toInt64 (I 14 0)) * (L 37 (Int32.toNatClampNeg x1))) ≤ (L 36 (Int32.toNatClampNeg x1)) then (
      f_Pn_paintHatchStroke_b43 x1 x2 x3 0 I L)
    else (
    f_Pn_paintHatchStroke_b43 x1 x2 x3 1 I L))
  else (
  some (I)))
noncomputable def f_Pn_paintHatchStroke (x1 : Int32) (x2 : Int32) (x3 : Int32) (I : xm_I) (L : xm_L) : Option (xm_I) := f_Pn_paintHatchStroke_b0 x1 x2 x3 I L
set_option maxHeartbeats 4000000 in
set_option maxRecDepth 100000 in
theorem t_Pn_paintHatchStroke_b165 {x2 : Int32} {x3 : Int32} {l6 : Int64} {l8 : Int64} {l10 : Int64} {y0 : Int64} {n : Nat} {I : xm_I} {L : xm_L} {K : xm_I → Prop} {Q : Option Value → xm_H → Prop} (hn : 86 ≤ n) (hq : ∀ p : xm_I, K p → Q none (p, L, RC n, n)) (hF : ok (f_Pn_paintHatchStroke_b165 x2 x3 l6 l8 l10 y0 I L) K) : xm_J 3 mt_Pn_paintHatchStroke 165 [(0, .ref 30), (2, .int x2), (3, .int x3), (6, .long l6), (8, .long l8), (10, .long l10)] [.long y0] (I, L, RC n, n) 0 0 Q := by
  unfold f_Pn_paintHatchStroke_b165 at hF
  refine r_lstore (i := 95) (Ls' := [(12, _), (0, _), (2, _), (3, _), (6, _), (8, _), (10, _)]) rfl (Nat.le_of_ble_eq_true rfl) rfl ?_
  refine r_lload (i := 96) (k0 := 4) rfl rfl ?_
  refine r_lload (i := 97) (k0 := 0) rfl rfl ?_
  refine r_lmul (i := 98) rfl ?_
  refine r_lload (i := 99) (k0 := 6) rfl rfl ?_
  refine r_lload (i := 100) (k0 := 5) rfl rfl ?_
  refine r_lmul (i := 101) rfl ?_
  refine r_lcmple (i := 102) (j := 103) (tgt := 182) rfl rfl (by decide) (fun hc => ?_) (fun hc => ?_)
  · have hF := ok_it hc hF
    refine r_aload_n (i := 105) (k0 := 1) rfl rfl rfl ?_
    refine q_getr (b := 17) (i := 106) rfl fl_Pn_47 rfl (xm_in rfl hn) rfl rfl ?_
    refine c_V0I (i := 107) rfl vm_Mk_isFull lk_Pn_164 (t_Mk_isFull hn (ok_bind hF)) (Nat.le_of_ble_eq_true rfl) (xm_in rfl hn) rfl rfl (Nat.le_of_ble_eq_true rfl) (fun p_1 hF => ?_)
    refine r_ifeq (i := 108) (tgt := 201) rfl (by decide) (fun hc => ?_) (fun hc => ?_)
    · have hF := ok_it hc hF
      refine r_aload_n (i := 114) (k0 := 1) rfl rfl rfl ?_
      refine q_getr (b := 14) (i := 115) rfl fl_Pn_43 rfl (xm_in rfl hn) rfl rfl ?_
      refine r_iload_n (i := 116) (k0 := 2) rfl rfl rfl ?_
      refine r_i2l (i := 117) rfl ?_
      refine r_lconst (v := 1) (i := 118) rfl rfl ?_
      refine c_V2I (i := 119) rfl vm_Fr_sheetY lk_Pn_131 (t_Fr_sheetY hn (ok_bind hF)) (Nat.le_of_ble_eq_true rfl) (xm_in rfl hn) rfl rfl (Nat.le_of_ble_eq_true rfl) (fun p_2 hF => ?_)
      refine r_istore (i := 120) (Ls' := [(14, _), (12, _), (0, _), (2, _), (3, _), (6, _), (8, _), (10, _)]) rfl (Nat.le_of_ble_eq_true rfl) rfl ?_
      refine r_aload_n (i := 121) (k0 := 2) rfl rfl rfl ?_
      refine q_getr (b := 17) (i := 122) rfl fl_Pn_47 rfl (xm_in rfl hn) rfl rfl ?_
      refine r_bipush (v := 83) (i := 123) rfl kb_83 ?_
      refine r_aload_n (i := 124) (k0 := 2) rfl rfl rfl ?_
      refine q_getr (b := 14) (i := 125) rfl fl_Pn_43 rfl (xm_in rfl hn) rfl rfl ?_
      refine r_lload (i := 126) (k0 := 5) rfl rfl ?_
      refine r_lload (i := 127) (k0 := 6) rfl rfl ?_
      refine c_V2I (i := 128) rfl vm_Fr_sheetX lk_Pn_127 (t_Fr_sheetX hn (ok_bind hF)) (Nat.le_of_ble_eq_true rfl) (xm_in rfl hn) rfl rfl (Nat.le_of_ble_eq_true rfl) (fun p_3 hF => ?_)
      refine r_iload (i := 129) (k0 := 0) rfl rfl ?_
      refine r_aload_n (i := 130) (k0 := 2) rfl rfl rfl ?_
      refine q_getr (b := 14) (i := 131) rfl fl_Pn_43 rfl (xm_in rfl hn) rfl rfl ?_
      refine r_lload (i := 132) (k0 := 7) rfl rfl ?_
      refine r_lload (i := 133) (k0 := 1) rfl rfl ?_
      refine c_V2I (i := 134) rfl vm_Fr_sheetX lk_Pn_127 (t_Fr_sheetX hn (ok_bind hF)) (Nat.le_of_ble_eq_true rfl) (xm_in rfl hn) rfl rfl (Nat.le_of_ble_eq_true rfl) (fun p_4 hF => ?_)
      refine r_iload (i := 135) (k0 := 0) rfl rfl ?_
      refine r_iload_n (i := 136) (k0 := 4) rfl rfl rfl ?_
      refine c_V6V (i := 137) rfl vm_Mk_add lk_Pn_74 (t_Mk_add hn (ok_bind hF)) (Nat.le_of_ble_eq_true rfl) (xm_in rfl hn) rfl rfl (Nat.le_of_ble_eq_true rfl) (fun p_5 hF => ?_)
      have hQ := hq _ (ok_some hF)
      exact r_return (i := 138) rfl rfl hQ
    have hF := ok_if hc hF
    refine r_aload_n (i := 109) (k0 := 1) rfl rfl rfl ?_
    refine q_getr (b := 17) (i := 110) rfl fl_Pn_47 rfl (xm_in rfl hn) rfl rfl ?_
    refine r_iconst (v := 1) (i := 111) rfl ki_1 ?_
    refine c_V1V (i := 112) rfl vm_Mk_lose lk_Pn_123 (t_Mk_lose hn (ok_bind hF)) (Nat.le_of_ble_eq_true rfl) (xm_in rfl hn) rfl rfl (Nat.le_of_ble_eq_true rfl) (fun p_6 hF => ?_)
    have hQ := hq _ (ok_some hF)
    exact r_return (i := 113) rfl rfl hQ
  have hF := ok_if hc hF
  have hQ := hq _ (ok_some hF)
  exact r_return (i := 104) rfl rfl hQ
set_option maxHeartbeats 4000000 in
set_option maxRecDepth 100000 in
theorem t_Pn_paintHatchStroke_b146 {x1 : Int32} {x2 : Int32} {x3 : Int32} {x5 : Int32} {l6 : Int64} {l8 : Int64} {y0 : Int64} {n : Nat} {I : xm_I} {L : xm_L} {K : xm_I → Prop} {Q : Option Value → xm_H → Prop} (hn : 86 ≤ n) (hq : ∀ p : xm_I, K p → Q none (p, L, RC n, n)) (hF : ok (f_Pn_paintHatchStroke_b146 x1 x2 x3 x5 l6 l8 y0 I L) K) : xm_J 3 mt_Pn_paintHatchStroke 146 [(0, .ref 30), (1, .int x1), (2, .int x2), (3, .int x3), (5, .int x5), (6, .long l6), (8, .long l8)] [.long y0] (I, L, RC n, n) 0 0 Q := by
  unfold f_Pn_paintHatchStroke_b146 at hF
  refine r_lstore (i := 84) (Ls' := [(10, _), (0, _), (1, _), (2, _), (3, _), (5, _), (6, _), (8, _)]) rfl (Nat.le_of_ble_eq_true rfl) rfl ?_
  refine r_iload (i := 85) (k0 := 5) rfl rfl ?_
  refine r_ifeq (i := 86) (tgt := 157) rfl (by decide) (fun hc => ?_) (fun hc => ?_)
  · have hF := ok_it hc hF
    refine r_aload_n (i := 89) (k0 := 1) rfl rfl rfl ?_
    refine q_getr (b := 37) (i := 90) rfl fl_Pn_32 rfl (xm_in rfl hn) rfl rfl ?_
    refine r_iload_n (i := 91) (k0 := 2) rfl rfl rfl ?_
    refine r_iconst (v := 1) (i := 92) rfl ki_1 ?_
    refine r_iadd (i := 93) rfl ?_
    obtain ⟨hi, hF⟩ := ok_gd hF
    refine q_laload (i := 94) rfl (xm_in rfl hn) rfl hi ?_
    refine xm_sub (Ls' := [(0, _), (2, _), (3, _), (6, _), (8, _), (10, _)]) [1, 3, 4, 6, 7, 0] rfl ?_
    exact t_Pn_paintHatchStroke_b165 hn (fun p h => hq p h) hF
  have hF := ok_if hc hF
  refine r_lconst (v := 1) (i := 87) rfl rfl ?_
  refine r_goto (i := 88) (tgt := 165) rfl (by decide) ?_
  refine xm_sub (Ls' := [(0, _), (2, _), (3, _), (6, _), (8, _), (10, _)]) [1, 3, 4, 6, 7, 0] rfl ?_
  exact t_Pn_paintHatchStroke_b165 hn (fun p h => hq p h) hF
set_option maxHeartbeats 4000000 in
set_option maxRecDepth 100000 in
theorem t_Pn_paintHatchStroke_b120 {x1 : Int32} {x2 : Int32} {x3 : Int32} {x5 : Int32} {l6 : Int64} {y0 : Int64} {n : Nat} {I : xm_I} {L : xm_L} {K : xm_I → Prop} {Q : Option Value → xm_H → Prop} (hn : 86 ≤ n) (hq : ∀ p : xm_I, K p → Q none (p, L, RC n, n)) (hF : ok (f_Pn_paintHatchStroke_b120 x1 x2 x3 x5 l6 y0 I L) K) : xm_J 3 mt_Pn_paintHatchStroke 120 [(0, .ref 30), (1, .int x1), (2, .int x2), (3, .int x3), (5, .int x5), (6, .long l6)] [.long y0] (I, L, RC n, n) 0 0 Q := by
  unfold f_Pn_paintHatchStroke_b120 at hF
  refine r_lstore (i := 70) (Ls' := [(8, _), (0, _), (1, _), (2, _), (3, _), (5, _), (6, _)]) rfl (Nat.le_of_ble_eq_true rfl) rfl ?_
  refine r_iload (i := 71) (k0 := 5) rfl rfl ?_
  refine r_ifeq (i := 72) (tgt := 138) rfl (by decide) (fun hc => ?_) (fun hc => ?_)
  · have hF := ok_it hc hF
    refine r_aload_n (i := 78) (k0 := 1) rfl rfl rfl ?_
    refine q_getr (b := 36) (i := 79) rfl fl_Pn_28 rfl (xm_in rfl hn) rfl rfl ?_
    refine r_iload_n (i := 80) (k0 := 2) rfl rfl rfl ?_
    refine r_iconst (v := 1) (i := 81) rfl ki_1 ?_
    refine r_iadd (i := 82) rfl ?_
    obtain ⟨hi, hF⟩ := ok_gd hF
    refine q_laload (i := 83) rfl (xm_in rfl hn) rfl hi ?_
    refine xm_sub (Ls' := [(0, _), (1, _), (2, _), (3, _), (5, _), (6, _), (8, _)]) [1, 2, 3, 4, 5, 6, 0] rfl ?_
    exact t_Pn_paintHatchStroke_b146 hn (fun p h => hq p h) hF
  have hF := ok_if hc hF
  refine r_aload_n (i := 73) (k0 := 1) rfl rfl rfl ?_
  refine q_getr (b := 14) (i := 74) rfl fl_Pn_43 rfl (xm_in rfl hn) rfl rfl ?_
  refine q_geti (i := 75) rfl fl_Pn_88 (xm_in rfl hn) rfl ?_
  refine r_i2l (i := 76) rfl ?_
  refine r_goto (i := 77) (tgt := 146) rfl (by decide) ?_
  refine xm_sub (Ls' := [(0, _), (1, _), (2, _), (3, _), (5, _), (6, _), (8, _)]) [1, 2, 3, 4, 5, 6, 0] rfl ?_
  exact t_Pn_paintHatchStroke_b146 hn (fun p h => hq p h) hF
set_option maxHeartbeats 4000000 in
set_option maxRecDepth 100000 in
theorem t_Pn_paintHatchStroke_b103 {x1 : Int32} {x2 : Int32} {x3 : Int32} {x4 : Int32} {x5 : Int32} {y0 : Int64} {n : Nat} {I : xm_I} {L : xm_L} {K : xm_I → Prop} {Q : Option Value → xm_H → Prop} (hn : 86 ≤ n) (hq : ∀ p : xm_I, K p → Q none (p, L, RC n, n)) (hF : ok (f_Pn_paintHatchStroke_b103 x1 x2 x3 x4 x5 y0 I L) K) : xm_J 3 mt_Pn_paintHatchStroke 103 [(0, .ref 30), (1, .int x1), (2, .int x2), (3, .int x3), (4, .int x4), (5, .int x5)] [.long y0] (I, L, RC n, n) 0 0 Q := by
  unfold f_Pn_paintHatchStroke_b103 at hF
  refine r_lstore (i := 61) (Ls' := [(6, _), (0, _), (1, _), (2, _), (3, _), (4, _), (5, _)]) rfl (Nat.le_of_ble_eq_true rfl) rfl ?_
  refine r_iload (i := 62) (k0 := 5) rfl rfl ?_
  refine r_ifeq (i := 63) (tgt := 114) rfl (by decide) (fun hc => ?_) (fun hc => ?_)
  · have hF := ok_it hc hF
    refine r_aload_n (i := 66) (k0 := 1) rfl rfl rfl ?_
    refine q_getr (b := 37) (i := 67) rfl fl_Pn_32 rfl (xm_in rfl hn) rfl rfl ?_
    refine r_iload_n (i := 68) (k0 := 2) rfl rfl rfl ?_
    obtain ⟨hi, hF⟩ := ok_gd hF
    refine q_laload (i := 69) rfl (xm_in rfl hn) rfl hi ?_
    refine xm_sub (Ls' := [(0, _), (1, _), (2, _), (3, _), (5, _), (6, _)]) [1, 2, 3, 4, 6, 0] rfl ?_
    exact t_Pn_paintHatchStroke_b120 hn (fun p h => hq p h) hF
  have hF := ok_if hc hF
  refine r_lconst (v := 1) (i := 64) rfl rfl ?_
  refine r_goto (i := 65) (tgt := 120) rfl (by decide) ?_
  refine xm_sub (Ls' := [(0, _), (1, _), (2, _), (3, _), (5, _), (6, _)]) [1, 2, 3, 4, 6, 0] rfl ?_
  exact t_Pn_paintHatchStroke_b120 hn (fun p h => hq p h) hF
set_option maxHeartbeats 4000000 in
set_option maxRecDepth 100000 in
theorem t_Pn_paintHatchStroke_b79 {x1 : Int32} {x2 : Int32} {x3 : Int32} {x4 : Int32} {y0 : Int32} {n : Nat} {I : xm_I} {L : xm_L} {K : xm_I → Prop} {Q : Option Value → xm_H → Prop} (hn : 86 ≤ n) (hq : ∀ p : xm_I, K p → Q none (p, L, RC n, n)) (hF : ok (f_Pn_paintHatchStroke_b79 x1 x2 x3 x4 y0 I L) K) : xm_J 3 mt_Pn_paintHatchStroke 79 [(0, .ref 30), (1, .int x1), (2, .int x2), (3, .int x3), (4, .int x4)] [.int y0] (I, L, RC n, n) 0 0 Q := by
  unfold f_Pn_paintHatchStroke_b79 at hF
  refine r_istore (i := 49) (Ls' := [(5, _), (0, _), (1, _), (2, _), (3, _), (4, _)]) rfl (Nat.le_of_ble_eq_true rfl) rfl ?_
  refine r_iload (i := 50) (k0 := 5) rfl rfl ?_
  refine r_ifeq (i := 51) (tgt := 97) rfl (by decide) (fun hc => ?_) (fun hc => ?_)
  · have hF := ok_it hc hF
    refine r_aload_n (i := 57) (k0 := 1) rfl rfl rfl ?_
    refine q_getr (b := 36) (i := 58) rfl fl_Pn_28 rfl (xm_in rfl hn) rfl rfl ?_
    refine r_iload_n (i := 59) (k0 := 2) rfl rfl rfl ?_
    obtain ⟨hi, hF⟩ := ok_gd hF
    refine q_laload (i := 60) rfl (xm_in rfl hn) rfl hi ?_
    refine xm_sub (Ls' := [(0, _), (1, _), (2, _), (3, _), (4, _), (5, _)]) [1, 2, 3, 4, 5, 0] rfl ?_
    exact t_Pn_paintHatchStroke_b103 hn (fun p h => hq p h) hF
  have hF := ok_if hc hF
  refine r_aload_n (i := 52) (k0 := 1) rfl rfl rfl ?_
  refine q_getr (b := 14) (i := 53) rfl fl_Pn_43 rfl (xm_in rfl hn) rfl rfl ?_
  refine q_geti (i := 54) rfl fl_Pn_85 (xm_in rfl hn) rfl ?_
  refine r_i2l (i := 55) rfl ?_
  refine r_goto (i := 56) (tgt := 103) rfl (by decide) ?_
  refine xm_sub (Ls' := [(0, _), (1, _), (2, _), (3, _), (4, _), (5, _)]) [1, 2, 3, 4, 5, 0] rfl ?_
  exact t_Pn_paintHatchStroke_b103 hn (fun p h => hq p h) hF
set_option maxHeartbeats 4000000 in
set_option maxRecDepth 100000 in
theorem t_Pn_paintHatchStroke_b43 {x1 : Int32} {x2 : Int32} {x3 : Int32} {y0 : Int32} {n : Nat} {I : xm_I} {L : xm_L} {K : xm_I → Prop} {Q : Option Value → xm_H → Prop} (hn : 86 ≤ n) (hq : ∀ p : xm_I, K p → Q none (p, L, RC n, n)) (hF : ok (f_Pn_paintHatchStroke_b43 x1 x2 x3 y0 I L) K) : xm_J 3 mt_Pn_paintHatchStroke 43 [(0, .ref 30), (1, .int x1), (2, .int x2), (3, .int x3)] [.int y0] (I, L, RC n, n) 0 0 Q := by
  unfold f_Pn_paintHatchStroke_b43 at hF
  refine r_istore (i := 26) (Ls' := [(4, _), (0, _), (1, _), (2, _), (3, _)]) rfl (Nat.le_of_ble_eq_true rfl) rfl ?_
  refine r_aload_n (i := 27) (k0 := 1) rfl rfl rfl ?_
  refine q_getr (b := 36) (i := 28) rfl fl_Pn_28 rfl (xm_in rfl hn) rfl rfl ?_
  refine r_iload_n (i := 29) (k0 := 2) rfl rfl rfl ?_
  refine r_iconst (v := 1) (i := 30) rfl ki_1 ?_
  refine r_iadd (i := 31) rfl ?_
  obtain ⟨hi, hF⟩ := ok_gd hF
  refine q_laload (i := 32) rfl (xm_in rfl hn) rfl hi ?_
  refine r_aload_n (i := 33) (k0 := 1) rfl rfl rfl ?_
  refine q_getr (b := 14) (i := 34) rfl fl_Pn_43 rfl (xm_in rfl hn) rfl rfl ?_
  refine q_geti (i := 35) rfl fl_Pn_88 (xm_in rfl hn) rfl ?_
  refine r_i2l (i := 36) rfl ?_
  refine r_aload_n (i := 37) (k0 := 1) rfl rfl rfl ?_
  refine q_getr (b := 37) (i := 38) rfl fl_Pn_32 rfl (xm_in rfl hn) rfl rfl ?_
  refine r_iload_n (i := 39) (k0 := 2) rfl rfl rfl ?_
  refine r_iconst (v := 1) (i := 40) rfl ki_1 ?_
  refine r_iadd (i := 41) rfl ?_
  obtain ⟨hi, hF⟩ := ok_gd hF
  refine q_laload (i := 42) rfl (xm_in rfl hn) rfl hi ?_
  refine r_lmul (i := 43) rfl ?_
  refine r_lcmple (i := 44) (j := 45) (tgt := 78) rfl rfl (by decide) (fun hc => ?_) (fun hc => ?_)
  · have hF := ok_it hc hF
    refine r_iconst (v := 0) (i := 48) rfl ki_0 ?_
    refine xm_sub (Ls' := [(0, _), (1, _), (2, _), (3, _), (4, _)]) [1, 2, 3, 4, 0] rfl ?_
    exact t_Pn_paintHatchStroke_b79 hn (fun p h => hq p h) hF
  have hF := ok_if hc hF
  refine r_iconst (v := 1) (i := 46) rfl ki_1 ?_
  refine r_goto (i := 47) (tgt := 79) rfl (by decide) ?_
  refine xm_sub (Ls' := [(0, _), (1, _), (2, _), (3, _), (4, _)]) [1, 2, 3, 4, 0] rfl ?_
  exact t_Pn_paintHatchStroke_b79 hn (fun p h => hq p h) hF
set_option maxHeartbeats 4000000 in
set_option maxRecDepth 100000 in
theorem t_Pn_paintHatchStroke_b0 {x1 : Int32} {x2 : Int32} {x3 : Int32} {n : Nat} {I : xm_I} {L : xm_L} {K : xm_I → Prop} {Q : Option Value → xm_H → Prop} (hn : 86 ≤ n) (hq : ∀ p : xm_I, K p → Q none (p, L, RC n, n)) (hF : ok (f_Pn_paintHatchStroke_b0 x1 x2 x3 I L) K) : xm_J 3 mt_Pn_paintHatchStroke 0 [(0, .ref 30), (1, .int x1), (2, .int x2), (3, .int x3)] [] (I, L, RC n, n) 0 0 Q := by
  unfold f_Pn_paintHatchStroke_b0 at hF
  refine r_iload_n (i := 0) (k0 := 1) rfl rfl rfl ?_
  refine r_iflt (i := 1) (tgt := 12) rfl (by decide) (fun hc => ?_) (fun hc => ?_)
  · have hF := ok_it hc hF
    have hQ := hq _ (ok_some hF)
    exact r_return (i := 7) rfl rfl hQ
  have hF := ok_if hc hF
  refine r_iload_n (i := 2) (k0 := 1) rfl rfl rfl ?_
  refine r_iconst (v := 1) (i := 3) rfl ki_1 ?_
  refine r_iadd (i := 4) rfl ?_
  refine r_bipush (v := 12) (i := 5) rfl kb_12 ?_
  refine r_icmplt (i := 6) (tgt := 13) rfl (by decide) (fun hc => ?_) (fun hc => ?_)
  · have hF := ok_it hc hF
    refine r_aload_n (i := 8) (k0 := 0) rfl rfl rfl ?_
    refine q_getr (b := 36) (i := 9) rfl fl_Pn_28 rfl (xm_in rfl hn) rfl rfl ?_
    refine r_iload_n (i := 10) (k0 := 1) rfl rfl rfl ?_
    obtain ⟨hi, hF⟩ := ok_gd hF
    refine q_laload (i := 11) rfl (xm_in rfl hn) rfl hi ?_
    refine r_aload_n (i := 12) (k0 := 0) rfl rfl rfl ?_
    refine q_getr (b := 14) (i := 13) rfl fl_Pn_43 rfl (xm_in rfl hn) rfl rfl ?_
    refine q_geti (i := 14) rfl fl_Pn_85 (xm_in rfl hn) rfl ?_
    refine r_i2l (i := 15) rfl ?_
    refine r_aload_n (i := 16) (k0 := 0) rfl rfl rfl ?_
    refine q_getr (b := 37) (i := 17) rfl fl_Pn_32 rfl (xm_in rfl hn) rfl rfl ?_
    refine r_iload_n (i := 18) (k0 := 1) rfl rfl rfl ?_
    obtain ⟨hi, hF⟩ := ok_gd hF
    refine q_laload (i := 19) rfl (xm_in rfl hn) rfl hi ?_
    refine r_lmul (i := 20) rfl ?_
    refine r_lcmpge (i := 21) (j := 22) (tgt := 42) rfl rfl (by decide) (fun hc => ?_) (fun hc => ?_)
    · have hF := ok_it hc hF
      refine r_iconst (v := 0) (i := 25) rfl ki_0 ?_
      exact t_Pn_paintHatchStroke_b43 hn (fun p h => hq p h) hF
    have hF := ok_if hc hF
    refine r_iconst (v := 1) (i := 23) rfl ki_1 ?_
    refine r_goto (i := 24) (tgt := 43) rfl (by decide) ?_
    exact t_Pn_paintHatchStroke_b43 hn (fun p h => hq p h) hF
  have hF := ok_if hc hF
  have hQ := hq _ (ok_some hF)
  exact r_return (i := 7) rfl rfl hQ
set_option maxHeartbeats 4000000 in
set_option maxRecDepth 100000 in
theorem t_Pn_paintHatchStroke {x1 : Int32} {x2 : Int32} {x3 : Int32} {n : Nat} {I : xm_I} {L : xm_L} {K : xm_I → Prop} (hn : 86 ≤ n) (hF : ok (f_Pn_paintHatchStroke x1 x2 x3 I L) K) : xm_C 3 mt_Pn_paintHatchStroke [.ref 30, .int x1, .int x2, .int x3] (I, L, RC n, n) 0 0 (pV (fun p : xm_I => (p, L, RC n, n)) K) := by
  unfold f_Pn_paintHatchStroke at hF
  refine xm_enter (by decide +kernel) dv_Pn_paintHatchStroke (Nat.le_of_ble_eq_true rfl) ?_
  exact t_Pn_paintHatchStroke_b0 hn (fun p hp => ⟨p, rfl, rfl, hp⟩) hF

noncomputable def f_Pn_paintHatch_s84 (x1 : Int32) (x2 : Int32) (L : xm_L) (s : Int32 × xm_I) : Option ((Int32 × xm_I) ⊕ (xm_I × xm_L)) :=
  if (s.2 30 13) ≤ (s.1 + 1) then (
    some (.inr (s.2, L)))
  else (
  (f_Pn_paintHatchStroke s.1 x1 x2 s.2 L).bind fun p_1 =>
  let x3_2 : Int32 := s.1 + 2
  some (.inl (x3_2, p_1)))
noncomputable def f_Pn_paintHatch_b84 (x1 : Int32) (x2 : Int32) (L : xm_L) (s : Int32 × xm_I) : Option (xm_I × xm_L) := lp (f_Pn_paintHatch_s84 x1 x2 L) s
noncomputable def f_Pn_paintHatch_b76 (x1 : Int32) (x2 : Int32) (x3 : Int32) (I : xm_I) (L : xm_L) : Option ((Int32 × xm_I × xm_L) ⊕ (xm_I × xm_L)) :=
  let x3_1 : Int32 := x3 + 1
  some (.inl (x3_1, I, L))
noncomputable def f_Pn_paintHatch_b65 (x1 : Int32) (x2 : Int32) (x3 : Int32) (x4 : Int32) (y0 : Int32) (y1 : Int32) (I : xm_I) (L : xm_L) : Option ((Int32 × xm_I × xm_L) ⊕ (xm_I × xm_L)) :=
  if y0 = y1 then (
    f_Pn_paintHatch_b76 x1 x2 x3 I L)
  else (
  (f_Pn_meetSide x3 x4 x1 I L).bind fun p_1 =>
  f_Pn_paintHatch_b76 x1 x2 x3 p_1.1 p_1.2)
noncomputable def f_Pn_paintHatch_b49 (x1 : Int32) (x2 : Int32) (x3 : Int32) (x4 : Int32) (y0 : Int32) (I : xm_I) (L : xm_L) : Option ((Int32 × xm_I × xm_L) ⊕ (xm_I × xm_L)) :=
  gd (0 ≤ (x4).toInt ∧ (x4).toInt < 12) <|
  if x1 < (I 35 (Int32.toNatClampNeg x4)) then (
    f_Pn_paintHatch_b65 x1 x2 x3 x4 y0 0 I L)
  else (
  f_Pn_paintHatch_b65 x1 x2 x3 x4 y0 1 I L)
noncomputable def f_Pn_paintHatch_b32 (x1 : Int32) (x2 : Int32) (x3 : Int32) (y0 : Int32) (I : xm_I) (L : xm_L) : Option ((Int32 × xm_I × xm_L) ⊕ (xm_I × xm_L)) :=
  gd (0 ≤ (x3).toInt ∧ (x3).toInt < 12) <|
  if x1 < (I 35 (Int32.toNatClampNeg x3)) then (
    f_Pn_paintHatch_b49 x1 x2 x3 y0 0 I L)
  else (
  f_Pn_paintHatch_b49 x1 x2 x3 y0 1 I L)
noncomputable def f_Pn_paintHatch_s7 (x1 : Int32) (x2 : Int32) (s : Int32 × xm_I × xm_L) : Option ((Int32 × xm_I × xm_L) ⊕ (xm_I × xm_L)) :=
  if (s.2.1 30 12) ≤ s.1 then (
    (f_Pn_paintHatch_b84 x1 x2 s.2.2 (0, s.2.1)).map .inr)
  else (
  if (s.2.1 30 12) ≤ (s.1 + 1) then (
    f_Pn_paintHatch_b32 x1 x2 s.1 0 s.2.1 s.2.2)
  else (
  f_Pn_paintHatch_b32 x1 x2 s.1 (s.1 + 1) s.2.1 s.2.2))
noncomputable def f_Pn_paintHatch_b7 (x1 : Int32) (x2 : Int32) (s : Int32 × xm_I × xm_L) : Option (xm_I × xm_L) := lp (f_Pn_paintHatch_s7 x1 x2) s
noncomputable def f_Pn_paintHatch_b0 (x1 : Int32) (x2 : Int32) (I : xm_I) (L : xm_L) : Option (xm_I × xm_L) :=
  let I_1 : xm_I := up2 I 30 13 0
  f_Pn_paintHatch_b7 x1 x2 (0, I_1, L)
noncomputable def f_Pn_paintHatch (x1 : Int32) (x2 : Int32) (I : xm_I) (L : xm_L) : Option (xm_I × xm_L) := f_Pn_paintHatch_b0 x1 x2 I L
set_option maxHeartbeats 4000000 in
set_option maxRecDepth 100000 in
theorem t_Pn_paintHatch_s84 {x1 : Int32} {x2 : Int32} {s : Int32 × xm_I} {n : Nat} {L : xm_L} {K : (Int32 × xm_I) ⊕ (xm_I × xm_L) → Prop} {Q : Option Value → xm_H → Prop} (hn : 86 ≤ n) (hq : ∀ p : xm_I × xm_L, K (.inr p) → Q none (p.1, p.2, RC n, n)) (hg0 : ∀ s : Int32 × xm_I, K (.inl s) → xm_J 4 mt_Pn_paintHatch 84 [(0, .ref 30), (1, .int x1), (2, .int x2), (3, .int s.1)] [] (s.2, L, RC n, n) 0 0 Q) (hF : ok (f_Pn_paintHatch_s84 x1 x2 L s) K) : xm_J 4 mt_Pn_paintHatch 84 [(0, .ref 30), (1, .int x1), (2, .int x2), (3, .int s.1)] [] (s.2, L, RC n, n) 0 0 Q := by
  unfold f_Pn_paintHatch_s84 at hF
  refine r_iload_n (i := 49) (k0 := 3) rfl rfl rfl ?_
  refine r_iconst (v := 1) (i := 50) rfl ki_1 ?_
  refine r_iadd (i := 51) rfl ?_
  refine r_aload_n (i := 52) (k0 := 0) rfl rfl rfl ?_
  refine q_geti (i := 53) rfl fl_Pn_194 (xm_in rfl hn) rfl ?_
  refine r_icmpge (i := 54) (tgt := 107) rfl (by decide) (fun hc => ?_) (fun hc => ?_)
  · have hF := ok_it hc hF
    have hQ := hq _ (ok_some hF)
    exact r_return (i := 62) rfl rfl hQ
  have hF := ok_if hc hF
  refine r_aload_n (i := 55) (k0 := 0) rfl rfl rfl ?_
  refine r_iload_n (i := 56) (k0 := 3) rfl rfl rfl ?_
  refine r_iload_n (i := 57) (k0 := 1) rfl rfl rfl ?_
  refine r_iload_n (i := 58) (k0 := 2) rfl rfl rfl ?_
  refine c_V3V (i := 59) rfl vm_Pn_paintHatchStroke lk_Pn_200 (t_Pn_paintHatchStroke hn (ok_bind hF)) (Nat.le_of_ble_eq_true rfl) (xm_in rfl hn) rfl rfl (Nat.le_of_ble_eq_true rfl) (fun p_1 hF => ?_)
  refine q_iinc (i := 60) (k0 := 3) (Ls' := [(3, _), (0, _), (1, _), (2, _)]) rfl ki_2 rfl (Nat.le_of_ble_eq_true rfl) rfl ?_
  refine r_goto (i := 61) (tgt := 84) rfl (by decide) ?_
  refine xm_sub (Ls' := [(0, _), (1, _), (2, _), (3, _)]) [1, 2, 3, 0] rfl ?_
  have hJ := hg0 _ (ok_some hF)
  exact hJ
set_option maxHeartbeats 4000000 in
set_option maxRecDepth 100000 in
theorem t_Pn_paintHatch_b84 {x1 : Int32} {x2 : Int32} {s : Int32 × xm_I} {n : Nat} {L : xm_L} {K : xm_I × xm_L → Prop} {Q : Option Value → xm_H → Prop} (hn : 86 ≤ n) (hq : ∀ p : xm_I × xm_L, K p → Q none (p.1, p.2, RC n, n)) (hF : ok (f_Pn_paintHatch_b84 x1 x2 L s) K) : xm_J 4 mt_Pn_paintHatch 84 [(0, .ref 30), (1, .int x1), (2, .int x2), (3, .int s.1)] [] (s.2, L, RC n, n) 0 0 Q :=
  lp_J (G := fun z => xm_J 4 mt_Pn_paintHatch 84 [(0, .ref 30), (1, .int x1), (2, .int x2), (3, .int z.1)] [] (z.2, L, RC n, n) 0 0 Q) (fun z hF => t_Pn_paintHatch_s84 hn (fun p h => hq p h) (fun z h => h) hF) s hF
set_option maxHeartbeats 4000000 in
set_option maxRecDepth 100000 in
theorem t_Pn_paintHatch_b76 {x1 : Int32} {x2 : Int32} {x3 : Int32} {n : Nat} {I : xm_I} {L : xm_L} {K : (Int32 × xm_I × xm_L) ⊕ (xm_I × xm_L) → Prop} {Q : Option Value → xm_H → Prop} (hn : 86 ≤ n) (hq : ∀ p : xm_I × xm_L, K (.inr p) → Q none (p.1, p.2, RC n, n)) (hg0 : ∀ s : Int32 × xm_I × xm_L, K (.inl s) → xm_J 4 mt_Pn_paintHatch 7 [(0, .ref 30), (1, .int x1), (2, .int x2), (3, .int s.1)] [] (s.2.1, s.2.2, RC n, n) 0 0 Q) (hF : ok (f_Pn_paintHatch_b76 x1 x2 x3 I L) K) : xm_J 4 mt_Pn_paintHatch 76 [(0, .ref 30), (1, .int x1), (2, .int x2), (3, .int x3)] [] (I, L, RC n, n) 0 0 Q := by
  unfold f_Pn_paintHatch_b76 at hF
  refine q_iinc (i := 45) (k0 := 3) (Ls' := [(3, _), (0, _), (1, _), (2, _)]) rfl ki_1 rfl (Nat.le_of_ble_eq_true rfl) rfl ?_
  refine r_goto (i := 46) (tgt := 7) rfl (by decide) ?_
  refine xm_sub (Ls' := [(0, _), (1, _), (2, _), (3, _)]) [1, 2, 3, 0] rfl ?_
  have hJ := hg0 _ (ok_some hF)
  exact hJ
set_option maxHeartbeats 4000000 in
set_option maxRecDepth 100000 in
theorem t_Pn_paintHatch_b65 {x1 : Int32} {x2 : Int32} {x3 : Int32} {x4 : Int32} {y0 : Int32} {y1 : Int32} {n : Nat} {I : xm_I} {L : xm_L} {K : (Int32 × xm_I × xm_L) ⊕ (xm_I × xm_L) → Prop} {Q : Option Value → xm_H → Prop} (hn : 86 ≤ n) (hq : ∀ p : xm_I × xm_L, K (.inr p) → Q none (p.1, p.2, RC n, n)) (hg0 : ∀ s : Int32 × xm_I × xm_L, K (.inl s) → xm_J 4 mt_Pn_paintHatch 7 [(0, .ref 30), (1, .int x1), (2, .int x2), (3, .int s.1)] [] (s.2.1, s.2.2, RC n, n) 0 0 Q) (hF : ok (f_Pn_paintHatch_b65 x1 x2 x3 x4 y0 y1 I L) K) : xm_J 4 mt_Pn_paintHatch 65 [(0, .ref 30), (1, .int x1), (2, .int x2), (3, .int x3), (4, .int x4)] [.int y1, .int y0] (I, L, RC n, n) 0 0 Q := by
  unfold f_Pn_paintHatch_b65 at hF
  refine r_icmpeq (i := 39) (tgt := 76) rfl (by decide) (fun hc => ?_) (fun hc => ?_)
  · have hF := ok_it hc hF
    refine xm_sub (Ls' := [(0, _), (1, _), (2, _), (3, _)]) [0, 1, 2, 3] rfl ?_
    exact t_Pn_paintHatch_b76 hn (fun p h => hq p h) (fun z h => hg0 z h) hF
  have hF := ok_if hc hF
  refine r_aload_n (i := 40) (k0 := 0) rfl rfl rfl ?_
  refine r_iload_n (i := 41) (k0 := 3) rfl rfl rfl ?_
  refine r_iload (i := 42) (k0 := 4) rfl rfl ?_
  refine r_iload_n (i := 43) (k0 := 1) rfl rfl rfl ?_
  refine c_V3V (i := 44) rfl vm_Pn_meetSide lk_Pn_197 (t_Pn_meetSide hn (ok_bind hF)) (Nat.le_of_ble_eq_true rfl) (xm_in rfl hn) rfl rfl (Nat.le_of_ble_eq_true rfl) (fun p_1 hF => ?_)
  refine xm_sub (Ls' := [(0, _), (1, _), (2, _), (3, _)]) [0, 1, 2, 3] rfl ?_
  exact t_Pn_paintHatch_b76 hn (fun p h => hq p h) (fun z h => hg0 z h) hF
set_option maxHeartbeats 4000000 in
set_option maxRecDepth 100000 in
theorem t_Pn_paintHatch_b49 {x1 : Int32} {x2 : Int32} {x3 : Int32} {x4 : Int32} {y0 : Int32} {n : Nat} {I : xm_I} {L : xm_L} {K : (Int32 × xm_I × xm_L) ⊕ (xm_I × xm_L) → Prop} {Q : Option Value → xm_H → Prop} (hn : 86 ≤ n) (hq : ∀ p : xm_I × xm_L, K (.inr p) → Q none (p.1, p.2, RC n, n)) (hg0 : ∀ s : Int32 × xm_I × xm_L, K (.inl s) → xm_J 4 mt_Pn_paintHatch 7 [(0, .ref 30), (1, .int x1), (2, .int x2), (3, .int s.1)] [] (s.2.1, s.2.2, RC n, n) 0 0 Q) (hF : ok (f_Pn_paintHatch_b49 x1 x2 x3 x4 y0 I L) K) : xm_J 4 mt_Pn_paintHatch 49 [(0, .ref 30), (1, .int x1), (2, .int x2), (3, .int x3), (4, .int x4)] [.int y0] (I, L, RC n, n) 0 0 Q := by
  unfold f_Pn_paintHatch_b49 at hF
  refine r_aload_n (i := 30) (k0 := 0) rfl rfl rfl ?_
  refine q_getr (b := 35) (i := 31) rfl fl_Pn_25 rfl (xm_in rfl hn) rfl rfl ?_
  refine r_iload (i := 32) (k0 := 4) rfl rfl ?_
  obtain ⟨hi, hF⟩ := ok_gd hF
  refine q_iaload (i := 33) rfl (xm_in rfl hn) rfl hi ?_
  refine r_iload_n (i := 34) (k0 := 1) rfl rfl rfl ?_
  refine r_icmpgt (i := 35) (tgt := 64) rfl (by decide) (fun hc => ?_) (fun hc => ?_)
  · have hF := ok_it hc hF
    refine r_iconst (v := 0) (i := 38) rfl ki_0 ?_
    exact t_Pn_paintHatch_b65 hn (fun p h => hq p h) (fun z h => hg0 z h) hF
  have hF := ok_if hc hF
  refine r_iconst (v := 1) (i := 36) rfl ki_1 ?_
  refine r_goto (i := 37) (tgt := 65) rfl (by decide) ?_
  exact t_Pn_paintHatch_b65 hn (fun p h => hq p h) (fun z h => hg0 z h) hF
set_option maxHeartbeats 4000000 in
set_option maxRecDepth 100000 in
theorem t_Pn_paintHatch_b32 {x1 : Int32} {x2 : Int32} {x3 : Int32} {y0 : Int32} {n : Nat} {I : xm_I} {L : xm_L} {K : (Int32 × xm_I × xm_L) ⊕ (xm_I × xm_L) → Prop} {Q : Option Value → xm_H → Prop} (hn : 86 ≤ n) (hq : ∀ p : xm_I × xm_L, K (.inr p) → Q none (p.1, p.2, RC n, n)) (hg0 : ∀ s : Int32 × xm_I × xm_L, K (.inl s) → xm_J 4 mt_Pn_paintHatch 7 [(0, .ref 30), (1, .int x1), (2, .int x2), (3, .int s.1)] [] (s.2.1, s.2.2, RC n, n) 0 0 Q) (hF : ok (f_Pn_paintHatch_b32 x1 x2 x3 y0 I L) K) : xm_J 4 mt_Pn_paintHatch 32 [(0, .ref 30), (1, .int x1), (2, .int x2), (3, .int x3)] [.int y0] (I, L, RC n, n) 0 0 Q := by
  unfold f_Pn_paintHatch_b32 at hF
  refine r_istore (i := 20) (Ls' := [(4, _), (0, _), (1, _), (2, _), (3, _)]) rfl (Nat.le_of_ble_eq_true rfl) rfl ?_
  refine r_aload_n (i := 21) (k0 := 1) rfl rfl rfl ?_
  refine q_getr (b := 35) (i := 22) rfl fl_Pn_25 rfl (xm_in rfl hn) rfl rfl ?_
  refine r_iload_n (i := 23) (k0 := 4) rfl rfl rfl ?_
  obtain ⟨hi, hF⟩ := ok_gd hF
  refine q_iaload (i := 24) rfl (xm_in rfl hn) rfl hi ?_
  refine r_iload_n (i := 25) (k0 := 2) rfl rfl rfl ?_
  refine r_icmpgt (i := 26) (tgt := 48) rfl (by decide) (fun hc => ?_) (fun hc => ?_)
  · have hF := ok_it hc hF
    refine r_iconst (v := 0) (i := 29) rfl ki_0 ?_
    refine xm_sub (Ls' := [(0, _), (1, _), (2, _), (3, _), (4, _)]) [1, 2, 3, 4, 0] rfl ?_
    exact t_Pn_paintHatch_b49 hn (fun p h => hq p h) (fun z h => hg0 z h) hF
  have hF := ok_if hc hF
  refine r_iconst (v := 1) (i := 27) rfl ki_1 ?_
  refine r_goto (i := 28) (tgt := 49) rfl (by decide) ?_
  refine xm_sub (Ls' := [(0, _), (1, _), (2, _), (3, _), (4, _)]) [1, 2, 3, 4, 0] rfl ?_
  exact t_Pn_paintHatch_b49 hn (fun p h => hq p h) (fun z h => hg0 z h) hF
set_option maxHeartbeats 4000000 in
set_option maxRecDepth 100000 in
theorem t_Pn_paintHatch_s7 {x1 : Int32} {x2 : Int32} {s : Int32 × xm_I × xm_L} {n : Nat} {K : (Int32 × xm_I × xm_L) ⊕ (xm_I × xm_L) → Prop} {Q : Option Value → xm_H → Prop} (hn : 86 ≤ n) (hq : ∀ p : xm_I × xm_L, K (.inr p) → Q none (p.1, p.2, RC n, n)) (hg0 : ∀ s : Int32 × xm_I × xm_L, K (.inl s) → xm_J 4 mt_Pn_paintHatch 7 [(0, .ref 30), (1, .int x1), (2, .int x2), (3, .int s.1)] [] (s.2.1, s.2.2, RC n, n) 0 0 Q) (hF : ok (f_Pn_paintHatch_s7 x1 x2 s) K) : xm_J 4 mt_Pn_paintHatch 7 [(0, .ref 30), (1, .int x1), (2, .int x2), (3, .int s.1)] [] (s.2.1, s.2.2, RC n, n) 0 0 Q := by
  unfold f_Pn_paintHatch_s7 at hF
  refine r_iload_n (i := 5) (k0 := 3) rfl rfl rfl ?_
  refine r_aload_n (i := 6) (k0 := 0) rfl rfl rfl ?_
  refine q_geti (i := 7) rfl fl_Pn_151 (xm_in rfl hn) rfl ?_
  refine r_icmpge (i := 8) (tgt := 82) rfl (by decide) (fun hc => ?_) (fun hc => ?_)
  · have hF := ok_it hc hF
    refine r_iconst (v := 0) (i := 47) rfl ki_0 ?_
    refine r_istore_n (i := 48) (Ls' := [(3, _), (0, _), (1, _), (2, _)]) rfl rfl (Nat.le_of_ble_eq_true rfl) rfl ?_
    refine xm_sub (Ls' := [(0, _), (1, _), (2, _), (3, _)]) [1, 2, 3, 0] rfl ?_
    exact t_Pn_paintHatch_b84 hn (fun p h => hq p h) (ok_map hF)
  have hF := ok_if hc hF
  refine r_iload_n (i := 9) (k0 := 3) rfl rfl rfl ?_
  refine r_iconst (v := 1) (i := 10) rfl ki_1 ?_
  refine r_iadd (i := 11) rfl ?_
  refine r_aload_n (i := 12) (k0 := 0) rfl rfl rfl ?_
  refine q_geti (i := 13) rfl fl_Pn_151 (xm_in rfl hn) rfl ?_
  refine r_icmpge (i := 14) (tgt := 31) rfl (by decide) (fun hc => ?_) (fun hc => ?_)
  · have hF := ok_it hc hF
    refine r_iconst (v := 0) (i := 19) rfl ki_0 ?_
    exact t_Pn_paintHatch_b32 hn (fun p h => hq p h) (fun z h => hg0 z h) hF
  have hF := ok_if hc hF
  refine r_iload_n (i := 15) (k0 := 3) rfl rfl rfl ?_
  refine r_iconst (v := 1) (i := 16) rfl ki_1 ?_
  refine r_iadd (i := 17) rfl ?_
  refine r_goto (i := 18) (tgt := 32) rfl (by decide) ?_
  exact t_Pn_paintHatch_b32 hn (fun p h => hq p h) (fun z h => hg0 z h) hF
set_option maxHeartbeats 4000000 in
set_option maxRecDepth 100000 in
theorem t_Pn_paintHatch_b7 {x1 : Int32} {x2 : Int32} {s : Int32 × xm_I × xm_L} {n : Nat} {K : xm_I × xm_L → Prop} {Q : Option Value → xm_H → Prop} (hn : 86 ≤ n) (hq : ∀ p : xm_I × xm_L, K p → Q none (p.1, p.2, RC n, n)) (hF : ok (f_Pn_paintHatch_b7 x1 x2 s) K) : xm_J 4 mt_Pn_paintHatch 7 [(0, .ref 30), (1, .int x1), (2, .int x2), (3, .int s.1)] [] (s.2.1, s.2.2, RC n, n) 0 0 Q :=
  lp_J (G := fun z => xm_J 4 mt_Pn_paintHatch 7 [(0, .ref 30), (1, .int x1), (2, .int x2), (3, .int z.1)] [] (z.2.1, z.2.2, RC n, n) 0 0 Q) (fun z hF => t_Pn_paintHatch_s7 hn (fun p h => hq p h) (fun z h => h) hF) s hF
set_option maxHeartbeats 4000000 in
set_option maxRecDepth 100000 in
theorem t_Pn_paintHatch_b0 {x1 : Int32} {x2 : Int32} {n : Nat} {I : xm_I} {L : xm_L} {K : xm_I × xm_L → Prop} {Q : Option Value → xm_H → Prop} (hn : 86 ≤ n) (hq : ∀ p : xm_I × xm_L, K p → Q none (p.1, p.2, RC n, n)) (hF : ok (f_Pn_paintHatch_b0 x1 x2 I L) K) : xm_J 4 mt_Pn_paintHatch 0 [(0, .ref 30), (1, .int x1), (2, .int x2)] [] (I, L, RC n, n) 0 0 Q := by
  unfold f_Pn_paintHatch_b0 at hF
  refine r_aload_n (i := 0) (k0 := 0) rfl rfl rfl ?_
  refine r_iconst (v := 0) (i := 1) rfl ki_0 ?_
  refine q_puti (i := 2) rfl fl_Pn_194 (fun h => Bool.noConfusion h) (xm_in rfl hn) rfl ?_
  refine r_iconst (v := 0) (i := 3) rfl ki_0 ?_
  refine r_istore_n (i := 4) (Ls' := [(3, _), (0, _), (1, _), (2, _)]) rfl rfl (Nat.le_of_ble_eq_true rfl) rfl ?_
  refine xm_sub (Ls' := [(0, _), (1, _), (2, _), (3, _)]) [1, 2, 3, 0] rfl ?_
  exact t_Pn_paintHatch_b7 hn (fun p h => hq p h) hF
set_option maxHeartbeats 4000000 in
set_option maxRecDepth 100000 in
theorem t_Pn_paintHatch {x1 : Int32} {x2 : Int32} {n : Nat} {I : xm_I} {L : xm_L} {K : xm_I × xm_L → Prop} (hn : 86 ≤ n) (hF : ok (f_Pn_paintHatch x1 x2 I L) K) : xm_C 4 mt_Pn_paintHatch [.ref 30, .int x1, .int x2] (I, L, RC n, n) 0 0 (pV (fun p : xm_I × xm_L => (p.1, p.2, RC n, n)) K) := by
  unfold f_Pn_paintHatch at hF
  refine xm_enter (by decide +kernel) dv_Pn_paintHatch (Nat.le_of_ble_eq_true rfl) ?_
  exact t_Pn_paintHatch_b0 hn (fun p hp => ⟨p, rfl, rfl, hp⟩) hF

noncomputable def f_Pn_takeCorners_s19 (x1 : Int32) (s : Int32 × xm_I) : Option ((Int32 × xm_I) ⊕ (xm_I)) :=
  if (s.2 30 12) ≤ s.1 then (
    some (.inr (s.2)))
  else (
  (f_Fg_xOf x1 s.1 s.2).bind fun p_1 =>
  gd (0 ≤ (s.1).toInt ∧ (s.1).toInt < 12) <|
  let I_2 : xm_I := up2 s.2 34 (Int32.toNatClampNeg s.1) p_1
  (f_Fg_yOf x1 s.1 I_2).bind fun p_3 =>
  gd (0 ≤ (s.1).toInt ∧ (s.1).toInt < 12) <|
  let I_4 : xm_I := up2 I_2 35 (Int32.toNatClampNeg s.1) p_3
  let x2_5 : Int32 := s.1 + 1
  some (.inl (x2_5, I_4)))
noncomputable def f_Pn_takeCorners_b19 (x1 : Int32) (s : Int32 × xm_I) : Option (xm_I) := lp (f_Pn_takeCorners_s19 x1) s
noncomputable def f_Pn_takeCorners_b0 (x1 : Int32) (I : xm_I) : Option (xm_I) :=
  (f_Fg_cornersOf x1 I).bind fun p_1 =>
  (f_Jm_min_I p_1 12).bind fun p_2 =>
  let I_3 : xm_I := up2 I 30 12 p_2
  f_Pn_takeCorners_b19 x1 (0, I_3)
noncomputable def f_Pn_takeCorners (x1 : Int32) (I : xm_I) : Option (xm_I) := f_Pn_takeCorners_b0 x1 I
set_option maxHeartbeats 4000000 in
set_option maxRecDepth 100000 in
theorem t_Pn_takeCorners_s19 {x1 : Int32} {s : Int32 × xm_I} {n : Nat} {L : xm_L} {K : (Int32 × xm_I) ⊕ (xm_I) → Prop} {Q : Option Value → xm_H → Prop} (hn : 86 ≤ n) (hq : ∀ p : xm_I, K (.inr p) → Q none (p, L, RC n, n)) (hg0 : ∀ s : Int32 × xm_I, K (.inl s) → xm_J 3 mt_Pn_takeCorners 19 [(0, .ref 30), (1, .int x1), (2, .int s.1)] [] (s.2, L, RC n, n) 0 0 Q) (hF : ok (f_Pn_takeCorners_s19 x1 s) K) : xm_J 3 mt_Pn_takeCorners 19 [(0, .ref 30), (1, .int x1), (2, .int s.1)] [] (s.2, L, RC n, n) 0 0 Q := by
  unfold f_Pn_takeCorners_s19 at hF
  refine r_iload_n (i := 10) (k0 := 2) rfl rfl rfl ?_
  refine r_aload_n (i := 11) (k0 := 0) rfl rfl rfl ?_
  refine q_geti (i := 12) rfl fl_Pn_151 (xm_in rfl hn) rfl ?_
  refine r_icmpge (i := 13) (tgt := 63) rfl (by decide) (fun hc => ?_) (fun hc => ?_)
  · have hF := ok_it hc hF
    have hQ := hq _ (ok_some hF)
    exact r_return (i := 34) rfl rfl hQ
  have hF := ok_if hc hF
  refine r_aload_n (i := 14) (k0 := 0) rfl rfl rfl ?_
  refine q_getr (b := 34) (i := 15) rfl fl_Pn_22 rfl (xm_in rfl hn) rfl rfl ?_
  refine r_iload_n (i := 16) (k0 := 2) rfl rfl rfl ?_
  refine r_aload_n (i := 17) (k0 := 0) rfl rfl rfl ?_
  refine q_getr (b := 6) (i := 18) rfl fl_Pn_35 rfl (xm_in rfl hn) rfl rfl ?_
  refine r_iload_n (i := 19) (k0 := 1) rfl rfl rfl ?_
  refine r_iload_n (i := 20) (k0 := 2) rfl rfl rfl ?_
  refine c_V2I (i := 21) rfl vm_Fg_xOf lk_Pn_188 (t_Fg_xOf hn (ok_bind hF)) (Nat.le_of_ble_eq_true rfl) (xm_in rfl hn) rfl rfl (Nat.le_of_ble_eq_true rfl) (fun p_1 hF => ?_)
  obtain ⟨hi, hF⟩ := ok_gd hF
  refine q_iastore (i := 22) rfl (xm_in rfl hn) rfl hi ?_
  refine r_aload_n (i := 23) (k0 := 0) rfl rfl rfl ?_
  refine q_getr (b := 35) (i := 24) rfl fl_Pn_25 rfl (xm_in rfl hn) rfl rfl ?_
  refine r_iload_n (i := 25) (k0 := 2) rfl rfl rfl ?_
  refine r_aload_n (i := 26) (k0 := 0) rfl rfl rfl ?_
  refine q_getr (b := 6) (i := 27) rfl fl_Pn_35 rfl (xm_in rfl hn) rfl rfl ?_
  refine r_iload_n (i := 28) (k0 := 1) rfl rfl rfl ?_
  refine r_iload_n (i := 29) (k0 := 2) rfl rfl rfl ?_
  refine c_V2I (i := 30) rfl vm_Fg_yOf lk_Pn_191 (t_Fg_yOf hn (ok_bind hF)) (Nat.le_of_ble_eq_true rfl) (xm_in rfl hn) rfl rfl (Nat.le_of_ble_eq_true rfl) (fun p_3 hF => ?_)
  obtain ⟨hi, hF⟩ := ok_gd hF
  refine q_iastore (i := 31) rfl (xm_in rfl hn) rfl hi ?_
  refine q_iinc (i := 32) (k0 := 2) (Ls' := [(2, _), (0, _), (1, _)]) rfl ki_1 rfl (Nat.le_of_ble_eq_true rfl) rfl ?_
  refine r_goto (i := 33) (tgt := 19) rfl (by decide) ?_
  refine xm_sub (Ls' := [(0, _), (1, _), (2, _)]) [1, 2, 0] rfl ?_
  have hJ := hg0 _ (ok_some hF)
  exact hJ
set_option maxHeartbeats 4000000 in
set_option maxRecDepth 100000 in
theorem t_Pn_takeCorners_b19 {x1 : Int32} {s : Int32 × xm_I} {n : Nat} {L : xm_L} {K : xm_I → Prop} {Q : Option Value → xm_H → Prop} (hn : 86 ≤ n) (hq : ∀ p : xm_I, K p → Q none (p, L, RC n, n)) (hF : ok (f_Pn_takeCorners_b19 x1 s) K) : xm_J 3 mt_Pn_takeCorners 19 [(0, .ref 30), (1, .int x1), (2, .int s.1)] [] (s.2, L, RC n, n) 0 0 Q :=
  lp_J (G := fun z => xm_J 3 mt_Pn_takeCorners 19 [(0, .ref 30), (1, .int x1), (2, .int z.1)] [] (z.2, L, RC n, n) 0 0 Q) (fun z hF => t_Pn_takeCorners_s19 hn (fun p h => hq p h) (fun z h => h) hF) s hF
set_option maxHeartbeats 4000000 in
set_option maxRecDepth 100000 in
theorem t_Pn_takeCorners_b0 {x1 : Int32} {n : Nat} {I : xm_I} {L : xm_L} {K : xm_I → Prop} {Q : Option Value → xm_H → Prop} (hn : 86 ≤ n) (hq : ∀ p : xm_I, K p → Q none (p, L, RC n, n)) (hF : ok (f_Pn_takeCorners_b0 x1 I) K) : xm_J 3 mt_Pn_takeCorners 0 [(0, .ref 30), (1, .int x1)] [] (I, L, RC n, n) 0 0 Q := by
  unfold f_Pn_takeCorners_b0 at hF
  refine r_aload_n (i := 0) (k0 := 0) rfl rfl rfl ?_
  refine r_aload_n (i := 1) (k0 := 0) rfl rfl rfl ?_
  refine q_getr (b := 6) (i := 2) rfl fl_Pn_35 rfl (xm_in rfl hn) rfl rfl ?_
  refine r_iload_n (i := 3) (k0 := 1) rfl rfl rfl ?_
  refine c_V1I (i := 4) rfl vm_Fg_cornersOf lk_Pn_185 (t_Fg_cornersOf hn (ok_bind hF)) (Nat.le_of_ble_eq_true rfl) (xm_in rfl hn) rfl rfl (Nat.le_of_ble_eq_true rfl) (fun p_1 hF => ?_)
  refine r_bipush (v := 12) (i := 5) rfl kb_12 ?_
  refine c_S2I (i := 6) rfl sm_Jm_min_I lk_Pn_114 (t_Jm_min_I hn (ok_bind hF)) (Nat.le_of_ble_eq_true rfl) rfl (Nat.le_of_ble_eq_true rfl) (fun p_2 hF => ?_)
  refine q_puti (i := 7) rfl fl_Pn_151 (fun h => Bool.noConfusion h) (xm_in rfl hn) rfl ?_
  refine r_iconst (v := 0) (i := 8) rfl ki_0 ?_
  refine r_istore_n (i := 9) (Ls' := [(2, _), (0, _), (1, _)]) rfl rfl (Nat.le_of_ble_eq_true rfl) rfl ?_
  refine xm_sub (Ls' := [(0, _), (1, _), (2, _)]) [1, 2, 0] rfl ?_
  exact t_Pn_takeCorners_b19 hn (fun p h => hq p h) hF
set_option maxHeartbeats 4000000 in
set_option maxRecDepth 100000 in
theorem t_Pn_takeCorners {x1 : Int32} {n : Nat} {I : xm_I} {L : xm_L} {K : xm_I → Prop} (hn : 86 ≤ n) (hF : ok (f_Pn_takeCorners x1 I) K) : xm_C 3 mt_Pn_takeCorners [.ref 30, .int x1] (I, L, RC n, n) 0 0 (pV (fun p : xm_I => (p, L, RC n, n)) K) := by
  unfold f_Pn_takeCorners at hF
  refine xm_enter (by decide +kernel) dv_Pn_takeCorners (Nat.le_of_ble_eq_true rfl) ?_
  exact t_Pn_takeCorners_b0 hn (fun p hp => ⟨p, rfl, rfl, hp⟩) hF

noncomputable def f_Pn_paintArea_b181 (x1 : Int32) (x4 : Int32) (x5 : Int32) (x6 : Int32) (x7 : Int32) (I : xm_I) (L : xm_L) : Option ((Int32 × xm_I × xm_L) ⊕ (xm_I × xm_L)) :=
  (f_Fg_styleOf x1 I).bind fun p_1 =>
  (f_Pn_paintHatch x7 p_1 I L).bind fun p_2 =>
  let x7_3 : Int32 := x7 + x5
  some (.inl (x7_3, p_2.1, p_2.2))
noncomputable def f_Pn_paintArea_s138 (x1 : Int32) (x4 : Int32) (x5 : Int32) (x6 : Int32) (s : Int32 × xm_I × xm_L) : Option ((Int32 × xm_I × xm_L) ⊕ (xm_I × xm_L)) :=
  if x5 ≤ 0 then (
    some (.inr (s.2.1, s.2.2)))
  else (
  if x6 < s.1 then (
    some (.inr (s.2.1, s.2.2)))
  else (
  if x4 = 0 then (
    f_Pn_paintArea_b181 x1 x4 x5 x6 s.1 s.2.1 s.2.2)
  else (
  (f_Mk_isFull s.2.1).bind fun p_1 =>
  if p_1 = 0 then (
    f_Pn_paintArea_b181 x1 x4 x5 x6 s.1 s.2.1 s.2.2)
  else (
  (f_Pn_hatchStrokes s.1 x6 s.2.1).bind fun p_2 =>
  (f_Mk_lose p_2 s.2.1).bind fun p_3 =>
  some (.inr (p_3, s.2.2))))))
noncomputable def f_Pn_paintArea_b138 (x1 : Int32) (x4 : Int32) (x5 : Int32) (x6 : Int32) (s : Int32 × xm_I × xm_L) : Option (xm_I × xm_L) := lp (f_Pn_paintArea_s138 x1 x4 x5 x6) s
noncomputable def f_Pn_paintArea_s30 (x1 : Int32) (I : xm_I) (L : xm_L) (s : Int32 × Int32 × Int32 × Int32) : Option ((Int32 × Int32 × Int32 × Int32) ⊕ (xm_I × xm_L)) :=
  if (I 30 12) ≤ s.2.2.2 then (
    let x5_1 : Int32 := I 14 8
    (f_Jm_min_I s.2.1 (I 14 3)).bind fun p_2 =>
    (f_Jm_max_I s.1 (I 14 2)).bind fun p_3 =>
    (f_D_multipleFrom p_3 x5_1).bind fun p_4 =>
    (f_Pn_paintArea_b138 x1 s.2.2.1 x5_1 p_2 (p_4, I, L)).map .inr)
  else (
  gd (0 ≤ (s.2.2.2).toInt ∧ (s.2.2.2).toInt < 12) <|
  (f_Jm_min_I s.1 (I 35 (Int32.toNatClampNeg s.2.2.2))).bind fun p_5 =>
  gd (0 ≤ (s.2.2.2).toInt ∧ (s.2.2.2).toInt < 12) <|
  (f_Jm_max_I s.2.1 (I 35 (Int32.toNatClampNeg s.2.2.2))).bind fun p_6 =>
  gd (0 ≤ (s.2.2.2).toInt ∧ (s.2.2.2).toInt < 12) <|
  (f_D_isWithin (I 34 (Int32.toNatClampNeg s.2.2.2)) (I 14 0) (I 14 1)).bind fun p_7 =>
  let x4_8 : Int32 := s.2.2.1 &&& p_7
  let x5_9 : Int32 := s.2.2.2 + 1
  some (.inl (p_5, p_6, x4_8, x5_9)))
noncomputable def f_Pn_paintArea_b30 (x1 : Int32) (I : xm_I) (L : xm_L) (s : Int32 × Int32 × Int32 × Int32) : Option (xm_I × xm_L) := lp (f_Pn_paintArea_s30 x1 I L) s
noncomputable def f_Pn_paintArea_b0 (x1 : Int32) (I : xm_I) (L : xm_L) : Option (xm_I × xm_L) :=
  (f_Pn_takeCorners x1 I).bind fun p_1 =>
  (f_Pn_anchorArea x1 p_1).bind fun p_2 =>
  let x2_3 : Int32 := p_2 35 (Int32.toNatClampNeg 0)
  let x3_4 : Int32 := p_2 35 (Int32.toNatClampNeg 0)
  f_Pn_paintArea_b30 x1 p_2 L (x2_3, x3_4, 1, 0)
noncomputable def f_Pn_paintArea (x1 : Int32) (I : xm_I) (L : xm_L) : Option (xm_I × xm_L) := f_Pn_paintArea_b0 x1 I L
set_option maxHeartbeats 4000000 in
set_option maxRecDepth 100000 in
theorem t_Pn_paintArea_b181 {x1 : Int32} {x4 : Int32} {x5 : Int32} {x6 : Int32} {x7 : Int32} {n : Nat} {I : xm_I} {L : xm_L} {K : (Int32 × xm_I × xm_L) ⊕ (xm_I × xm_L) → Prop} {Q : Option Value → xm_H → Prop} (hn : 86 ≤ n) (hq : ∀ p : xm_I × xm_L, K (.inr p) → Q none (p.1, p.2, RC n, n)) (hg0 : ∀ s : Int32 × xm_I × xm_L, K (.inl s) → xm_J 5 mt_Pn_paintArea 138 [(0, .ref 30), (1, .int x1), (4, .int x4), (5, .int x5), (6, .int x6), (7, .int s.1)] [] (s.2.1, s.2.2, RC n, n) 0 0 Q) (hF : ok (f_Pn_paintArea_b181 x1 x4 x5 x6 x7 I L) K) : xm_J 5 mt_Pn_paintArea 181 [(0, .ref 30), (1, .int x1), (4, .int x4), (5, .int x5), (6, .int x6), (7, .int x7)] [] (I, L, RC n, n) 0 0 Q := by
  unfold f_Pn_paintArea_b181 at hF
  refine r_aload_n (i := 91) (k0 := 0) rfl rfl rfl ?_
  refine r_iload (i := 92) (k0 := 5) rfl rfl ?_
  refine r_aload_n (i := 93) (k0 := 0) rfl rfl rfl ?_
  refine q_getr (b := 6) (i := 94) rfl fl_Pn_35 rfl (xm_in rfl hn) rfl rfl ?_
  refine r_iload_n (i := 95) (k0 := 1) rfl rfl rfl ?_
  refine c_V1I (i := 96) rfl vm_Fg_styleOf lk_Pn_171 (t_Fg_styleOf hn (ok_bind hF)) (Nat.le_of_ble_eq_true rfl) (xm_in rfl hn) rfl rfl (Nat.le_of_ble_eq_true rfl) (fun p_1 hF => ?_)
  refine c_V2V (i := 97) rfl vm_Pn_paintHatch lk_Pn_174 (t_Pn_paintHatch hn (ok_bind hF)) (Nat.le_of_ble_eq_true rfl) (xm_in rfl hn) rfl rfl (Nat.le_of_ble_eq_true rfl) (fun p_2 hF => ?_)
  refine r_iload (i := 98) (k0 := 5) rfl rfl ?_
  refine r_iload (i := 99) (k0 := 3) rfl rfl ?_
  refine r_iadd (i := 100) rfl ?_
  refine r_istore (i := 101) (Ls' := [(7, _), (0, _), (1, _), (4, _), (5, _), (6, _)]) rfl (Nat.le_of_ble_eq_true rfl) rfl ?_
  refine r_goto (i := 102) (tgt := 138) rfl (by decide) ?_
  refine xm_sub (Ls' := [(0, _), (1, _), (4, _), (5, _), (6, _), (7, _)]) [1, 2, 3, 4, 5, 0] rfl ?_
  have hJ := hg0 _ (ok_some hF)
  exact hJ
set_option maxHeartbeats 4000000 in
set_option maxRecDepth 100000 in
theorem t_Pn_paintArea_s138 {x1 : Int32} {x4 : Int32} {x5 : Int32} {x6 : Int32} {s : Int32 × xm_I × xm_L} {n : Nat} {K : (Int32 × xm_I × xm_L) ⊕ (xm_I × xm_L) → Prop} {Q : Option Value → xm_H → Prop} (hn : 86 ≤ n) (hq : ∀ p : xm_I × xm_L, K (.inr p) → Q none (p.1, p.2, RC n, n)) (hg0 : ∀ s : Int32 × xm_I × xm_L, K (.inl s) → xm_J 5 mt_Pn_paintArea 138 [(0, .ref 30), (1, .int x1), (4, .int x4), (5, .int x5), (6, .int x6), (7, .int s.1)] [] (s.2.1, s.2.2, RC n, n) 0 0 Q) (hF : ok (f_Pn_paintArea_s138 x1 x4 x5 x6 s) K) : xm_J 5 mt_Pn_paintArea 138 [(0, .ref 30), (1, .int x1), (4, .int x4), (5, .int x5), (6, .int x6), (7, .int s.1)] [] (s.2.1, s.2.2, RC n, n) 0 0 Q := by
  unfold f_Pn_paintArea_s138 at hF
  refine r_iload (i := 72) (k0 := 3) rfl rfl ?_
  refine r_ifle (i := 73) (tgt := 205) rfl (by decide) (fun hc => ?_) (fun hc => ?_)
  · have hF := ok_it hc hF
    have hQ := hq _ (ok_some hF)
    exact r_return (i := 103) rfl rfl hQ
  have hF := ok_if hc hF
  refine r_iload (i := 74) (k0 := 5) rfl rfl ?_
  refine r_iload (i := 75) (k0 := 4) rfl rfl ?_
  refine r_icmpgt (i := 76) (tgt := 205) rfl (by decide) (fun hc => ?_) (fun hc => ?_)
  · have hF := ok_it hc hF
    have hQ := hq _ (ok_some hF)
    exact r_return (i := 103) rfl rfl hQ
  have hF := ok_if hc hF
  refine r_iload (i := 77) (k0 := 2) rfl rfl ?_
  refine r_ifeq (i := 78) (tgt := 181) rfl (by decide) (fun hc => ?_) (fun hc => ?_)
  · have hF := ok_it hc hF
    exact t_Pn_paintArea_b181 hn (fun p h => hq p h) (fun z h => hg0 z h) hF
  have hF := ok_if hc hF
  refine r_aload_n (i := 79) (k0 := 0) rfl rfl rfl ?_
  refine q_getr (b := 17) (i := 80) rfl fl_Pn_47 rfl (xm_in rfl hn) rfl rfl ?_
  refine c_V0I (i := 81) rfl vm_Mk_isFull lk_Pn_164 (t_Mk_isFull hn (ok_bind hF)) (Nat.le_of_ble_eq_true rfl) (xm_in rfl hn) rfl rfl (Nat.le_of_ble_eq_true rfl) (fun p_1 hF => ?_)
  refine r_ifeq (i := 82) (tgt := 181) rfl (by decide) (fun hc => ?_) (fun hc => ?_)
  · have hF := ok_it hc hF
    exact t_Pn_paintArea_b181 hn (fun p h => hq p h) (fun z h => hg0 z h) hF
  have hF := ok_if hc hF
  refine r_aload_n (i := 83) (k0 := 0) rfl rfl rfl ?_
  refine q_getr (b := 17) (i := 84) rfl fl_Pn_47 rfl (xm_in rfl hn) rfl rfl ?_
  refine r_aload_n (i := 85) (k0 := 0) rfl rfl rfl ?_
  refine r_iload (i := 86) (k0 := 5) rfl rfl ?_
  refine r_iload (i := 87) (k0 := 4) rfl rfl ?_
  refine c_V2I (i := 88) rfl vm_Pn_hatchStrokes lk_Pn_168 (t_Pn_hatchStrokes hn (ok_bind hF)) (Nat.le_of_ble_eq_true rfl) (xm_in rfl hn) rfl rfl (Nat.le_of_ble_eq_true rfl) (fun p_2 hF => ?_)
  refine c_V1V (i := 89) rfl vm_Mk_lose lk_Pn_123 (t_Mk_lose hn (ok_bind hF)) (Nat.le_of_ble_eq_true rfl) (xm_in rfl hn) rfl rfl (Nat.le_of_ble_eq_true rfl) (fun p_3 hF => ?_)
  have hQ := hq _ (ok_some hF)
  exact r_return (i := 90) rfl rfl hQ
set_option maxHeartbeats 4000000 in
set_option maxRecDepth 100000 in
theorem t_Pn_paintArea_b138 {x1 : Int32} {x4 : Int32} {x5 : Int32} {x6 : Int32} {s : Int32 × xm_I × xm_L} {n : Nat} {K : xm_I × xm_L → Prop} {Q : Option Value → xm_H → Prop} (hn : 86 ≤ n) (hq : ∀ p : xm_I × xm_L, K p → Q none (p.1, p.2, RC n, n)) (hF : ok (f_Pn_paintArea_b138 x1 x4 x5 x6 s) K) : xm_J 5 mt_Pn_paintArea 138 [(0, .ref 30), (1, .int x1), (4, .int x4), (5, .int x5), (6, .int x6), (7, .int s.1)] [] (s.2.1, s.2.2, RC n, n) 0 0 Q :=
  lp_J (G := fun z => xm_J 5 mt_Pn_paintArea 138 [(0, .ref 30), (1, .int x1), (4, .int x4), (5, .int x5), (6, .int x6), (7, .int z.1)] [] (z.2.1, z.2.2, RC n, n) 0 0 Q) (fun z hF => t_Pn_paintArea_s138 hn (fun p h => hq p h) (fun z h => h) hF) s hF
set_option maxHeartbeats 4000000 in
set_option maxRecDepth 100000 in
theorem t_Pn_paintArea_s30 {x1 : Int32} {s : Int32 × Int32 × Int32 × Int32} {n : Nat} {I : xm_I} {L : xm_L} {K : (Int32 × Int32 × Int32 × Int32) ⊕ (xm_I × xm_L) → Prop} {Q : Option Value → xm_H → Prop} (hn : 86 ≤ n) (hq : ∀ p : xm_I × xm_L, K (.inr p) → Q none (p.1, p.2, RC n, n)) (hg0 : ∀ s : Int32 × Int32 × Int32 × Int32, K (.inl s) → xm_J 5 mt_Pn_paintArea 30 [(0, .ref 30), (1, .int x1), (2, .int s.1), (3, .int s.2.1), (4, .int s.2.2.1), (5, .int s.2.2.2)] [] (I, L, RC n, n) 0 0 Q) (hF : ok (f_Pn_paintArea_s30 x1 I L s) K) : xm_J 5 mt_Pn_paintArea 30 [(0, .ref 30), (1, .int x1), (2, .int s.1), (3, .int s.2.1), (4, .int s.2.2.1), (5, .int s.2.2.2)] [] (I, L, RC n, n) 0 0 Q := by
  unfold f_Pn_paintArea_s30 at hF
  refine r_iload (i := 20) (k0 := 5) rfl rfl ?_
  refine r_aload_n (i := 21) (k0 := 0) rfl rfl rfl ?_
  refine q_geti (i := 22) rfl fl_Pn_151 (xm_in rfl hn) rfl ?_
  refine r_icmpge (i := 23) (tgt := 98) rfl (by decide) (fun hc => ?_) (fun hc => ?_)
  · have hF := ok_it hc hF
    refine r_aload_n (i := 54) (k0 := 0) rfl rfl rfl ?_
    refine q_getr (b := 14) (i := 55) rfl fl_Pn_43 rfl (xm_in rfl hn) rfl rfl ?_
    refine q_geti (i := 56) rfl fl_Pn_161 (xm_in rfl hn) rfl ?_
    refine r_istore (i := 57) (Ls' := [(5, _), (0, _), (1, _), (2, _), (3, _), (4, _)]) rfl (Nat.le_of_ble_eq_true rfl) rfl ?_
    refine r_iload_n (i := 58) (k0 := 4) rfl rfl rfl ?_
    refine r_aload_n (i := 59) (k0 := 1) rfl rfl rfl ?_
    refine q_getr (b := 14) (i := 60) rfl fl_Pn_43 rfl (xm_in rfl hn) rfl rfl ?_
    refine q_geti (i := 61) rfl fl_Pn_98 (xm_in rfl hn) rfl ?_
    refine c_S2I (i := 62) rfl sm_Jm_min_I lk_Pn_114 (t_Jm_min_I hn (ok_bind hF)) (Nat.le_of_ble_eq_true rfl) rfl (Nat.le_of_ble_eq_true rfl) (fun p_2 hF => ?_)
    refine r_istore (i := 63) (Ls' := [(6, _), (5, _), (0, _), (1, _), (2, _), (3, _), (4, _)]) rfl (Nat.le_of_ble_eq_true rfl) rfl ?_
    refine r_iload_n (i := 64) (k0 := 4) rfl rfl rfl ?_
    refine r_aload_n (i := 65) (k0 := 2) rfl rfl rfl ?_
    refine q_getr (b := 14) (i := 66) rfl fl_Pn_43 rfl (xm_in rfl hn) rfl rfl ?_
    refine q_geti (i := 67) rfl fl_Pn_95 (xm_in rfl hn) rfl ?_
    refine c_S2I (i := 68) rfl sm_Jm_max_I lk_Pn_154 (t_Jm_max_I hn (ok_bind hF)) (Nat.le_of_ble_eq_true rfl) rfl (Nat.le_of_ble_eq_true rfl) (fun p_3 hF => ?_)
    refine r_iload (i := 69) (k0 := 1) rfl rfl ?_
    refine c_N2I (i := 70) rfl sm_D_multipleFrom lk_Pn_101 (t_D_multipleFrom hn (ok_bind hF)) (Nat.le_of_ble_eq_true rfl) rfl (Nat.le_of_ble_eq_true rfl) (fun p_4 hF => ?_)
    refine r_istore (i := 71) (Ls' := [(7, _), (6, _), (5, _), (0, _), (1, _), (2, _), (3, _), (4, _)]) rfl (Nat.le_of_ble_eq_true rfl) rfl ?_
    refine xm_sub (Ls' := [(0, _), (1, _), (4, _), (5, _), (6, _), (7, _)]) [3, 4, 7, 2, 1, 0] rfl ?_
    exact t_Pn_paintArea_b138 hn (fun p h => hq p h) (ok_map hF)
  have hF := ok_if hc hF
  refine r_iload_n (i := 24) (k0 := 2) rfl rfl rfl ?_
  refine r_aload_n (i := 25) (k0 := 0) rfl rfl rfl ?_
  refine q_getr (b := 35) (i := 26) rfl fl_Pn_25 rfl (xm_in rfl hn) rfl rfl ?_
  refine r_iload (i := 27) (k0 := 5) rfl rfl ?_
  obtain ⟨hi, hF⟩ := ok_gd hF
  refine q_iaload (i := 28) rfl (xm_in rfl hn) rfl hi ?_
  refine c_S2I (i := 29) rfl sm_Jm_min_I lk_Pn_114 (t_Jm_min_I hn (ok_bind hF)) (Nat.le_of_ble_eq_true rfl) rfl (Nat.le_of_ble_eq_true rfl) (fun p_5 hF => ?_)
  refine r_istore_n (i := 30) (Ls' := [(2, _), (0, _), (1, _), (3, _), (4, _), (5, _)]) rfl rfl (Nat.le_of_ble_eq_true rfl) rfl ?_
  refine r_iload_n (i := 31) (k0 := 3) rfl rfl rfl ?_
  refine r_aload_n (i := 32) (k0 := 1) rfl rfl rfl ?_
  refine q_getr (b := 35) (i := 33) rfl fl_Pn_25 rfl (xm_in rfl hn) rfl rfl ?_
  refine r_iload (i := 34) (k0 := 5) rfl rfl ?_
  obtain ⟨hi, hF⟩ := ok_gd hF
  refine q_iaload (i := 35) rfl (xm_in rfl hn) rfl hi ?_
  refine c_S2I (i := 36) rfl sm_Jm_max_I lk_Pn_154 (t_Jm_max_I hn (ok_bind hF)) (Nat.le_of_ble_eq_true rfl) rfl (Nat.le_of_ble_eq_true rfl) (fun p_6 hF => ?_)
  refine r_istore_n (i := 37) (Ls' := [(3, _), (2, _), (0, _), (1, _), (4, _), (5, _)]) rfl rfl (Nat.le_of_ble_eq_true rfl) rfl ?_
  refine r_iload (i := 38) (k0 := 4) rfl rfl ?_
  refine r_aload_n (i := 39) (k0 := 2) rfl rfl rfl ?_
  refine q_getr (b := 34) (i := 40) rfl fl_Pn_22 rfl (xm_in rfl hn) rfl rfl ?_
  refine r_iload (i := 41) (k0 := 5) rfl rfl ?_
  obtain ⟨hi, hF⟩ := ok_gd hF
  refine q_iaload (i := 42) rfl (xm_in rfl hn) rfl hi ?_
  refine r_aload_n (i := 43) (k0 := 2) rfl rfl rfl ?_
  refine q_getr (b := 14) (i := 44) rfl fl_Pn_43 rfl (xm_in rfl hn) rfl rfl ?_
  refine q_geti (i := 45) rfl fl_Pn_85 (xm_in rfl hn) rfl ?_
  refine r_aload_n (i := 46) (k0 := 2) rfl rfl rfl ?_
  refine q_getr (b := 14) (i := 47) rfl fl_Pn_43 rfl (xm_in rfl hn) rfl rfl ?_
  refine q_geti (i := 48) rfl fl_Pn_88 (xm_in rfl hn) rfl ?_
  refine c_N3I (i := 49) rfl sm_D_isWithin lk_Pn_157 (t_D_isWithin hn (ok_bind hF)) (Nat.le_of_ble_eq_true rfl) rfl (Nat.le_of_ble_eq_true rfl) (fun p_7 hF => ?_)
  refine r_iand (i := 50) rfl ?_
  refine r_istore (i := 51) (Ls' := [(4, _), (3, _), (2, _), (0, _), (1, _), (5, _)]) rfl (Nat.le_of_ble_eq_true rfl) rfl ?_
  refine q_iinc (i := 52) (k0 := 5) (Ls' := [(5, _), (4, _), (3, _), (2, _), (0, _), (1, _)]) rfl ki_1 rfl (Nat.le_of_ble_eq_true rfl) rfl ?_
  refine r_goto (i := 53) (tgt := 30) rfl (by decide) ?_
  refine xm_sub (Ls' := [(0, _), (1, _), (2, _), (3, _), (4, _), (5, _)]) [4, 5, 3, 2, 1, 0] rfl ?_
  have hJ := hg0 _ (ok_some hF)
  exact hJ
set_option maxHeartbeats 4000000 in
set_option maxRecDepth 100000 in
theorem t_Pn_paintArea_b30 {x1 : Int32} {s : Int32 × Int32 × Int32 × Int32} {n : Nat} {I : xm_I} {L : xm_L} {K : xm_I × xm_L → Prop} {Q : Option Value → xm_H → Prop} (hn : 86 ≤ n) (hq : ∀ p : xm_I × xm_L, K p → Q none (p.1, p.2, RC n, n)) (hF : ok (f_Pn_paintArea_b30 x1 I L s) K) : xm_J 5 mt_Pn_paintArea 30 [(0, .ref 30), (1, .int x1), (2, .int s.1), (3, .int s.2.1), (4, .int s.2.2.1), (5, .int s.2.2.2)] [] (I, L, RC n, n) 0 0 Q :=
  lp_J (G := fun z => xm_J 5 mt_Pn_paintArea 30 [(0, .ref 30), (1, .int x1), (2, .int z.1), (3, .int z.2.1), (4, .int z.2.2.1), (5, .int z.2.2.2)] [] (I, L, RC n, n) 0 0 Q) (fun z hF => t_Pn_paintArea_s30 hn (fun p h => hq p h) (fun z h => h) hF) s hF
set_option maxHeartbeats 4000000 in
set_option maxRecDepth 100000 in
theorem t_Pn_paintArea_b0 {x1 : Int32} {n : Nat} {I : xm_I} {L : xm_L} {K : xm_I × xm_L → Prop} {Q : Option Value → xm_H → Prop} (hn : 86 ≤ n) (hq : ∀ p : xm_I × xm_L, K p → Q none (p.1, p.2, RC n, n)) (hF : ok (f_Pn_paintArea_b0 x1 I L) K) : xm_J 5 mt_Pn_paintArea 0 [(0, .ref 30), (1, .int x1)] [] (I, L, RC n, n) 0 0 Q := by
  unfold f_Pn_paintArea_b0 at hF
  refine r_aload_n (i := 0) (k0 := 0) rfl rfl rfl ?_
  refine r_iload_n (i := 1) (k0 := 1) rfl rfl rfl ?_
  refine c_V1V (i := 2) rfl vm_Pn_takeCorners lk_Pn_145 (t_Pn_takeCorners hn (ok_bind hF)) (Nat.le_of_ble_eq_true rfl) (xm_in rfl hn) rfl rfl (Nat.le_of_ble_eq_true rfl) (fun p_1 hF => ?_)
  refine r_aload_n (i := 3) (k0 := 0) rfl rfl rfl ?_
  refine r_iload_n (i := 4) (k0 := 1) rfl rfl rfl ?_
  refine c_V1V (i := 5) rfl vm_Pn_anchorArea lk_Pn_148 (t_Pn_anchorArea hn (ok_bind hF)) (Nat.le_of_ble_eq_true rfl) (xm_in rfl hn) rfl rfl (Nat.le_of_ble_eq_true rfl) (fun p_2 hF => ?_)
  refine r_aload_n (i := 6) (k0 := 0) rfl rfl rfl ?_
  refine q_getr (b := 35) (i := 7) rfl fl_Pn_25 rfl (xm_in rfl hn) rfl rfl ?_
  refine r_iconst (v := 0) (i := 8) rfl ki_0 ?_
  refine q_iaload (i := 9) rfl (xm_in rfl hn) rfl ⟨by decide, by decide⟩ ?_
  refine r_istore_n (i := 10) (Ls' := [(2, _), (0, _), (1, _)]) rfl rfl (Nat.le_of_ble_eq_true rfl) rfl ?_
  refine r_aload_n (i := 11) (k0 := 1) rfl rfl rfl ?_
  refine q_getr (b := 35) (i := 12) rfl fl_Pn_25 rfl (xm_in rfl hn) rfl rfl ?_
  refine r_iconst (v := 0) (i := 13) rfl ki_0 ?_
  refine q_iaload (i := 14) rfl (xm_in rfl hn) rfl ⟨by decide, by decide⟩ ?_
  refine r_istore_n (i := 15) (Ls' := [(3, _), (2, _), (0, _), (1, _)]) rfl rfl (Nat.le_of_ble_eq_true rfl) rfl ?_
  refine r_iconst (v := 1) (i := 16) rfl ki_1 ?_
  refine r_istore (i := 17) (Ls' := [(4, _), (3, _), (2, _), (0, _), (1, _)]) rfl (Nat.le_of_ble_eq_true rfl) rfl ?_
  refine r_iconst (v := 0) (i := 18) rfl ki_0 ?_
  refine r_istore (i := 19) (Ls' := [(5, _), (4, _), (3, _), (2, _), (0, _), (1, _)]) rfl (Nat.le_of_ble_eq_true rfl) rfl ?_
  refine xm_sub (Ls' := [(0, _), (1, _), (2, _), (3, _), (4, _), (5, _)]) [4, 5, 3, 2, 1, 0] rfl ?_
  exact t_Pn_paintArea_b30 hn (fun p h => hq p h) hF
set_option maxHeartbeats 4000000 in
set_option maxRecDepth 100000 in
theorem t_Pn_paintArea {x1 : Int32} {n : Nat} {I : xm_I} {L : xm_L} {K : xm_I × xm_L → Prop} (hn : 86 ≤ n) (hF : ok (f_Pn_paintArea x1 I L) K) : xm_C 5 mt_Pn_paintArea [.ref 30, .int x1] (I, L, RC n, n) 0 0 (pV (fun p : xm_I × xm_L => (p.1, p.2, RC n, n)) K) := by
  unfold f_Pn_paintArea at hF
  refine xm_enter (by decide +kernel) dv_Pn_paintArea (Nat.le_of_ble_eq_true rfl) ?_
  exact t_Pn_paintArea_b0 hn (fun p hp => ⟨p, rfl, rfl, hp⟩) hF

noncomputable def f_Pn_paintAreas_b42 (x1 : Int32) (I : xm_I) (L : xm_L) : Option ((Int32 × xm_I × xm_L) ⊕ (xm_I × xm_L)) :=
  let x1_1 : Int32 := x1 + 1
  some (.inl (x1_1, I, L))
noncomputable def f_Pn_paintAreas_s2 (s : Int32 × xm_I × xm_L) : Option ((Int32 × xm_I × xm_L) ⊕ (xm_I × xm_L)) :=
  if (s.2.1 6 9) ≤ s.1 then (
    some (.inr (s.2.1, s.2.2)))
  else (
  (f_Fg_kindOf s.1 s.2.1).bind fun p_1 =>
  if p_1 = 7 then (
    (f_Fg_isDrawn s.1 s.2.1).bind fun p_2 =>
    if p_2 = 0 then (
      f_Pn_paintAreas_b42 s.1 s.2.1 s.2.2)
    else (
    (f_Pn_paintArea s.1 s.2.1 s.2.2).bind fun p_3 =>
    f_Pn_paintAreas_b42 s.1 p_3.1 p_3.2))
  else (
    f_Pn_paintAreas_b42 s.1 s.2.1 s.2.2))
noncomputable def f_Pn_paintAreas_b2 (s : Int32 × xm_I × xm_L) : Option (xm_I × xm_L) := lp (f_Pn_paintAreas_s2) s
noncomputable def f_Pn_paintAreas_b0 (I : xm_I) (L : xm_L) : Option (xm_I × xm_L) :=
  f_Pn_paintAreas_b2 (0, I, L)
noncomputable def f_Pn_paintAreas (I : xm_I) (L : xm_L) : Option (xm_I × xm_L) := f_Pn_paintAreas_b0 I L
set_option maxHeartbeats 4000000 in
set_option maxRecDepth 100000 in
theorem t_Pn_paintAreas_b42 {x1 : Int32} {n : Nat} {I : xm_I} {L : xm_L} {K : (Int32 × xm_I × xm_L) ⊕ (xm_I × xm_L) → Prop} {Q : Option Value → xm_H → Prop} (hn : 86 ≤ n) (hq : ∀ p : xm_I × xm_L, K (.inr p) → Q none (p.1, p.2, RC n, n)) (hg0 : ∀ s : Int32 × xm_I × xm_L, K (.inl s) → xm_J 6 mt_Pn_paintAreas 2 [(0, .ref 30), (1, .int s.1)] [] (s.2.1, s.2.2, RC n, n) 0 0 Q) (hF : ok (f_Pn_paintAreas_b42 x1 I L) K) : xm_J 6 mt_Pn_paintAreas 42 [(0, .ref 30), (1, .int x1)] [] (I, L, RC n, n) 0 0 Q := by
  unfold f_Pn_paintAreas_b42 at hF
  refine q_iinc (i := 21) (k0 := 1) (Ls' := [(1, _), (0, _)]) rfl ki_1 rfl (Nat.le_of_ble_eq_true rfl) rfl ?_
  refine r_goto (i := 22) (tgt := 2) rfl (by decide) ?_
  refine xm_sub (Ls' := [(0, _), (1, _)]) [1, 0] rfl ?_
  have hJ := hg0 _ (ok_some hF)
  exact hJ
set_option maxHeartbeats 4000000 in
set_option maxRecDepth 100000 in
theorem t_Pn_paintAreas_s2 {s : Int32 × xm_I × xm_L} {n : Nat} {K : (Int32 × xm_I × xm_L) ⊕ (xm_I × xm_L) → Prop} {Q : Option Value → xm_H → Prop} (hn : 86 ≤ n) (hq : ∀ p : xm_I × xm_L, K (.inr p) → Q none (p.1, p.2, RC n, n)) (hg0 : ∀ s : Int32 × xm_I × xm_L, K (.inl s) → xm_J 6 mt_Pn_paintAreas 2 [(0, .ref 30), (1, .int s.1)] [] (s.2.1, s.2.2, RC n, n) 0 0 Q) (hF : ok (f_Pn_paintAreas_s2 s) K) : xm_J 6 mt_Pn_paintAreas 2 [(0, .ref 30), (1, .int s.1)] [] (s.2.1, s.2.2, RC n, n) 0 0 Q := by
  unfold f_Pn_paintAreas_s2 at hF
  refine r_iload_n (i := 2) (k0 := 1) rfl rfl rfl ?_
  refine r_aload_n (i := 3) (k0 := 0) rfl rfl rfl ?_
  refine q_getr (b := 6) (i := 4) rfl fl_Pn_35 rfl (xm_in rfl hn) rfl rfl ?_
  refine q_geti (i := 5) rfl fl_Pn_134 (xm_in rfl hn) rfl ?_
  refine r_icmpge (i := 6) (tgt := 48) rfl (by decide) (fun hc => ?_) (fun hc => ?_)
  · have hF := ok_it hc hF
    have hQ := hq _ (ok_some hF)
    exact r_return (i := 23) rfl rfl hQ
  have hF := ok_if hc hF
  refine r_aload_n (i := 7) (k0 := 0) rfl rfl rfl ?_
  refine q_getr (b := 6) (i := 8) rfl fl_Pn_35 rfl (xm_in rfl hn) rfl rfl ?_
  refine r_iload_n (i := 9) (k0 := 1) rfl rfl rfl ?_
  refine c_V1I (i := 10) rfl vm_Fg_kindOf lk_Pn_135 (t_Fg_kindOf hn (ok_bind hF)) (Nat.le_of_ble_eq_true rfl) (xm_in rfl hn) rfl rfl (Nat.le_of_ble_eq_true rfl) (fun p_1 hF => ?_)
  refine r_bipush (v := 7) (i := 11) rfl kb_7 ?_
  refine r_icmpne (i := 12) (tgt := 42) rfl (by decide) (fun hc => ?_) (fun hc => ?_)
  · have hF := ok_if hc hF
    exact t_Pn_paintAreas_b42 hn (fun p h => hq p h) (fun z h => hg0 z h) hF
  have hF := ok_it hc hF
  refine r_aload_n (i := 13) (k0 := 0) rfl rfl rfl ?_
  refine q_getr (b := 6) (i := 14) rfl fl_Pn_35 rfl (xm_in rfl hn) rfl rfl ?_
  refine r_iload_n (i := 15) (k0 := 1) rfl rfl rfl ?_
  refine c_V1I (i := 16) rfl vm_Fg_isDrawn lk_Pn_139 (t_Fg_isDrawn hn (ok_bind hF)) (Nat.le_of_ble_eq_true rfl) (xm_in rfl hn) rfl rfl (Nat.le_of_ble_eq_true rfl) (fun p_2 hF => ?_)
  refine r_ifeq (i := 17) (tgt := 42) rfl (by decide) (fun hc => ?_) (fun hc => ?_)
  · have hF := ok_it hc hF
    exact t_Pn_paintAreas_b42 hn (fun p h => hq p h) (fun z h => hg0 z h) hF
  have hF := ok_if hc hF
  refine r_aload_n (i := 18) (k0 := 0) rfl rfl rfl ?_
  refine r_iload_n (i := 19) (k0 := 1) rfl rfl rfl ?_
  refine c_V1V (i := 20) rfl vm_Pn_paintArea lk_Pn_142 (t_Pn_paintArea hn (ok_bind hF)) (Nat.le_of_ble_eq_true rfl) (xm_in rfl hn) rfl rfl (Nat.le_of_ble_eq_true rfl) (fun p_3 hF => ?_)
  exact t_Pn_paintAreas_b42 hn (fun p h => hq p h) (fun z h => hg0 z h) hF
set_option maxHeartbeats 4000000 in
set_option maxRecDepth 100000 in
theorem t_Pn_paintAreas_b2 {s : Int32 × xm_I × xm_L} {n : Nat} {K : xm_I × xm_L → Prop} {Q : Option Value → xm_H → Prop} (hn : 86 ≤ n) (hq : ∀ p : xm_I × xm_L, K p → Q none (p.1, p.2, RC n, n)) (hF : ok (f_Pn_paintAreas_b2 s) K) : xm_J 6 mt_Pn_paintAreas 2 [(0, .ref 30), (1, .int s.1)] [] (s.2.1, s.2.2, RC n, n) 0 0 Q :=
  lp_J (G := fun z => xm_J 6 mt_Pn_paintAreas 2 [(0, .ref 30), (1, .int z.1)] [] (z.2.1, z.2.2, RC n, n) 0 0 Q) (fun z hF => t_Pn_paintAreas_s2 hn (fun p h => hq p h) (fun z h => h) hF) s hF
set_option maxHeartbeats 4000000 in
set_option maxRecDepth 100000 in
theorem t_Pn_paintAreas_b0 {n : Nat} {I : xm_I} {L : xm_L} {K : xm_I × xm_L → Prop} {Q : Option Value → xm_H → Prop} (hn : 86 ≤ n) (hq : ∀ p : xm_I × xm_L, K p → Q none (p.1, p.2, RC n, n)) (hF : ok (f_Pn_paintAreas_b0 I L) K) : xm_J 6 mt_Pn_paintAreas 0 [(0, .ref 30)] [] (I, L, RC n, n) 0 0 Q := by
  unfold f_Pn_paintAreas_b0 at hF
  refine r_iconst (v := 0) (i := 0) rfl ki_0 ?_
  refine r_istore_n (i := 1) (Ls' := [(1, _), (0, _)]) rfl rfl (Nat.le_of_ble_eq_true rfl) rfl ?_
  refine xm_sub (Ls' := [(0, _), (1, _)]) [1, 0] rfl ?_
  exact t_Pn_paintAreas_b2 hn (fun p h => hq p h) hF
set_option maxHeartbeats 4000000 in
set_option maxRecDepth 100000 in
theorem t_Pn_paintAreas {n : Nat} {I : xm_I} {L : xm_L} {K : xm_I × xm_L → Prop} (hn : 86 ≤ n) (hF : ok (f_Pn_paintAreas I L) K) : xm_C 6 mt_Pn_paintAreas [.ref 30] (I, L, RC n, n) 0 0 (pV (fun p : xm_I × xm_L => (p.1, p.2, RC n, n)) K) := by
  unfold f_Pn_paintAreas at hF
  refine xm_enter (by decide +kernel) dv_Pn_paintAreas (Nat.le_of_ble_eq_true rfl) ?_
  exact t_Pn_paintAreas_b0 hn (fun p hp => ⟨p, rfl, rfl, hp⟩) hF

noncomputable def f_Pn_paintGridStroke_b0 (x1 : Int32) (x2 : Int32) (I : xm_I) : Option (xm_I) :=
  if x2 = 0 then (
    (f_Fr_sheetY (Int32.toInt64 x1) 1 I).bind fun p_1 =>
    (f_Fr_sheetX (Int32.toInt64 (I 14 0)) 1 I).bind fun p_2 =>
    (f_Fr_sheetX (Int32.toInt64 (I 14 1)) 1 I).bind fun p_3 =>
    (f_Mk_add 83 p_2 p_1 p_3 p_1 1 I).bind fun p_4 =>
    some (p_4))
  else (
  (f_Fr_sheetX (Int32.toInt64 x1) 1 I).bind fun p_5 =>
  (f_Fr_sheetY (Int32.toInt64 (I 14 2)) 1 I).bind fun p_6 =>
  (f_Fr_sheetY (Int32.toInt64 (I 14 3)) 1 I).bind fun p_7 =>
  (f_Mk_add 83 p_5 p_6 p_5 p_7 1 I).bind fun p_8 =>
  some (p_8))
noncomputable def f_Pn_paintGridStroke (x1 : Int32) (x2 : Int32) (I : xm_I) : Option (xm_I) := f_Pn_paintGridStroke_b0 x1 x2 I
set_option maxHeartbeats 4000000 in
set_option maxRecDepth 100000 in
theorem t_Pn_paintGridStroke_b0 {x1 : Int32} {x2 : Int32} {n : Nat} {I : xm_I} {L : xm_L} {K : xm_I → Prop} {Q : Option Value → xm_H → Prop} (hn : 86 ≤ n) (hq : ∀ p : xm_I, K p → Q none (p, L, RC n, n)) (hF : ok (f_Pn_paintGridStroke_b0 x1 x2 I) K) : xm_J 3 mt_Pn_paintGridStroke 0 [(0, .ref 30), (1, .int x1), (2, .int x2)] [] (I, L, RC n, n) 0 0 Q := by
  unfold f_Pn_paintGridStroke_b0 at hF
  refine r_iload_n (i := 0) (k0 := 2) rfl rfl rfl ?_
  refine r_ifeq (i := 1) (tgt := 62) rfl (by decide) (fun hc => ?_) (fun hc => ?_)
  · have hF := ok_it hc hF
    refine r_aload_n (i := 33) (k0 := 0) rfl rfl rfl ?_
    refine q_getr (b := 14) (i := 34) rfl fl_Pn_43 rfl (xm_in rfl hn) rfl rfl ?_
    refine r_iload_n (i := 35) (k0 := 1) rfl rfl rfl ?_
    refine r_i2l (i := 36) rfl ?_
    refine r_lconst (v := 1) (i := 37) rfl rfl ?_
    refine c_V2I (i := 38) rfl vm_Fr_sheetY lk_Pn_131 (t_Fr_sheetY hn (ok_bind hF)) (Nat.le_of_ble_eq_true rfl) (xm_in rfl hn) rfl rfl (Nat.le_of_ble_eq_true rfl) (fun p_1 hF => ?_)
    refine r_istore_n (i := 39) (Ls' := [(3, _), (0, _), (1, _), (2, _)]) rfl rfl (Nat.le_of_ble_eq_true rfl) rfl ?_
    refine r_aload_n (i := 40) (k0 := 1) rfl rfl rfl ?_
    refine q_getr (b := 17) (i := 41) rfl fl_Pn_47 rfl (xm_in rfl hn) rfl rfl ?_
    refine r_bipush (v := 83) (i := 42) rfl kb_83 ?_
    refine r_aload_n (i := 43) (k0 := 1) rfl rfl rfl ?_
    refine q_getr (b := 14) (i := 44) rfl fl_Pn_43 rfl (xm_in rfl hn) rfl rfl ?_
    refine r_aload_n (i := 45) (k0 := 1) rfl rfl rfl ?_
    refine q_getr (b := 14) (i := 46) rfl fl_Pn_43 rfl (xm_in rfl hn) rfl rfl ?_
    refine q_geti (i := 47) rfl fl_Pn_85 (xm_in rfl hn) rfl ?_
    refine r_i2l (i := 48) rfl ?_
    refine r_lconst (v := 1) (i := 49) rfl rfl ?_
    refine c_V2I (i := 50) rfl vm_Fr_sheetX lk_Pn_127 (t_Fr_sheetX hn (ok_bind hF)) (Nat.le_of_ble_eq_true rfl) (xm_in rfl hn) rfl rfl (Nat.le_of_ble_eq_true rfl) (fun p_2 hF => ?_)
    refine r_iload_n (i := 51) (k0 := 0) rfl rfl rfl ?_
    refine r_aload_n (i := 52) (k0 := 1) rfl rfl rfl ?_
    refine q_getr (b := 14) (i := 53) rfl fl_Pn_43 rfl (xm_in rfl hn) rfl rfl ?_
    refine r_aload_n (i := 54) (k0 := 1) rfl rfl rfl ?_
    refine q_getr (b := 14) (i := 55) rfl fl_Pn_43 rfl (xm_in rfl hn) rfl rfl ?_
    refine q_geti (i := 56) rfl fl_Pn_88 (xm_in rfl hn) rfl ?_
    refine r_i2l (i := 57) rfl ?_
    refine r_lconst (v := 1) (i := 58) rfl rfl ?_
    refine c_V2I (i := 59) rfl vm_Fr_sheetX lk_Pn_127 (t_Fr_sheetX hn (ok_bind hF)) (Nat.le_of_ble_eq_true rfl) (xm_in rfl hn) rfl rfl (Nat.le_of_ble_eq_true rfl) (fun p_3 hF => ?_)
    refine r_iload_n (i := 60) (k0 := 0) rfl rfl rfl ?_
    refine r_iconst (v := 1) (i := 61) rfl ki_1 ?_
    refine c_V6V (i := 62) rfl vm_Mk_add lk_Pn_74 (t_Mk_add hn (ok_bind hF)) (Nat.le_of_ble_eq_true rfl) (xm_in rfl hn) rfl rfl (Nat.le_of_ble_eq_true rfl) (fun p_4 hF => ?_)
    have hQ := hq _ (ok_some hF)
    exact r_return (i := 63) rfl rfl hQ
  have hF := ok_if hc hF
  refine r_aload_n (i := 2) (k0 := 0) rfl rfl rfl ?_
  refine q_getr (b := 14) (i := 3) rfl fl_Pn_43 rfl (xm_in rfl hn) rfl rfl ?_
  refine r_iload_n (i := 4) (k0 := 1) rfl rfl rfl ?_
  refine r_i2l (i := 5) rfl ?_
  refine r_lconst (v := 1) (i := 6) rfl rfl ?_
  refine c_V2I (i := 7) rfl vm_Fr_sheetX lk_Pn_127 (t_Fr_sheetX hn (ok_bind hF)) (Nat.le_of_ble_eq_true rfl) (xm_in rfl hn) rfl rfl (Nat.le_of_ble_eq_true rfl) (fun p_5 hF => ?_)
  refine r_istore_n (i := 8) (Ls' := [(3, _), (0, _), (1, _), (2, _)]) rfl rfl (Nat.le_of_ble_eq_true rfl) rfl ?_
  refine r_aload_n (i := 9) (k0 := 1) rfl rfl rfl ?_
  refine q_getr (b := 17) (i := 10) rfl fl_Pn_47 rfl (xm_in rfl hn) rfl rfl ?_
  refine r_bipush (v := 83) (i := 11) rfl kb_83 ?_
  refine r_iload_n (i := 12) (k0 := 0) rfl rfl rfl ?_
  refine r_aload_n (i := 13) (k0 := 1) rfl rfl rfl ?_
  refine q_getr (b := 14) (i := 14) rfl fl_Pn_43 rfl (xm_in rfl hn) rfl rfl ?_
  refine r_aload_n (i := 15) (k0 := 1) rfl rfl rfl ?_
  refine q_getr (b := 14) (i := 16) rfl fl_Pn_43 rfl (xm_in rfl hn) rfl rfl ?_
  refine q_geti (i := 17) rfl fl_Pn_95 (xm_in rfl hn) rfl ?_
  refine r_i2l (i := 18) rfl ?_
  refine r_lconst (v := 1) (i := 19) rfl rfl ?_
  refine c_V2I (i := 20) rfl vm_Fr_sheetY lk_Pn_131 (t_Fr_sheetY hn (ok_bind hF)) (Nat.le_of_ble_eq_true rfl) (xm_in rfl hn) rfl rfl (Nat.le_of_ble_eq_true rfl) (fun p_6 hF => ?_)
  refine r_iload_n (i := 21) (k0 := 0) rfl rfl rfl ?_
  refine r_aload_n (i := 22) (k0 := 1) rfl rfl rfl ?_
  refine q_getr (b := 14) (i := 23) rfl fl_Pn_43 rfl (xm_in rfl hn) rfl rfl ?_
  refine r_aload_n (i := 24) (k0 := 1) rfl rfl rfl ?_
  refine q_getr (b := 14) (i := 25) rfl fl_Pn_43 rfl (xm_in rfl hn) rfl rfl ?_
  refine q_geti (i := 26) rfl fl_Pn_98 (xm_in rfl hn) rfl ?_
  refine r_i2l (i := 27) rfl ?_
  refine r_lconst (v := 1) (i := 28) rfl rfl ?_
  refine c_V2I (i := 29) rfl vm_Fr_sheetY lk_Pn_131 (t_Fr_sheetY hn (ok_bind hF)) (Nat.le_of_ble_eq_true rfl) (xm_in rfl hn) rfl rfl (Nat.le_of_ble_eq_true rfl) (fun p_7 hF => ?_)
  refine r_iconst (v := 1) (i := 30) rfl ki_1 ?_
  refine c_V6V (i := 31) rfl vm_Mk_add lk_Pn_74 (t_Mk_add hn (ok_bind hF)) (Nat.le_of_ble_eq_true rfl) (xm_in rfl hn) rfl rfl (Nat.le_of_ble_eq_true rfl) (fun p_8 hF => ?_)
  refine r_goto (i := 32) (tgt := 117) rfl (by decide) ?_
  have hQ := hq _ (ok_some hF)
  exact r_return (i := 63) rfl rfl hQ
set_option maxHeartbeats 4000000 in
set_option maxRecDepth 100000 in
theorem t_Pn_paintGridStroke {x1 : Int32} {x2 : Int32} {n : Nat} {I : xm_I} {L : xm_L} {K : xm_I → Prop} (hn : 86 ≤ n) (hF : ok (f_Pn_paintGridStroke x1 x2 I) K) : xm_C 3 mt_Pn_paintGridStroke [.ref 30, .int x1, .int x2] (I, L, RC n, n) 0 0 (pV (fun p : xm_I => (p, L, RC n, n)) K) := by
  unfold f_Pn_paintGridStroke at hF
  refine xm_enter (by decide +kernel) dv_Pn_paintGridStroke (Nat.le_of_ble_eq_true rfl) ?_
  exact t_Pn_paintGridStroke_b0 hn (fun p hp => ⟨p, rfl, rfl, hp⟩) hF

noncomputable def f_Pn_paintGridWay_s47 (x3 : Int32) (x4 : Int32) (x5 : Int32) (x6 : Int32) (x7 : Int32) (s : Int32 × xm_I) : Option ((Int32 × xm_I) ⊕ (xm_I)) :=
  if x7 ≤ s.1 then (
    (f_Mk_lose (x6 - x7) s.2).bind fun p_1 =>
    some (.inr (p_1)))
  else (
  (f_Pn_paintGridStroke (x5 + (s.1 * x4)) x3 s.2).bind fun p_2 =>
  let x8_3 : Int32 := s.1 + 1
  some (.inl (x8_3, p_2)))
noncomputable def f_Pn_paintGridWay_b47 (x3 : Int32) (x4 : Int32) (x5 : Int32) (x6 : Int32) (x7 : Int32) (s : Int32 × xm_I) : Option (xm_I) := lp (f_Pn_paintGridWay_s47 x3 x4 x5 x6 x7) s
noncomputable def f_Pn_paintGridWay_b0 (x1 : Int32) (x2 : Int32) (x3 : Int32) (I : xm_I) : Option (xm_I) :=
  let x4_1 : Int32 := I 14 7
  (f_D_multipleFrom x1 x4_1).bind fun p_2 =>
  (f_D_multiplesWithin x1 x2 x4_1).bind fun p_3 =>
  (f_Jm_min_I p_3 (600 - (I 17 4))).bind fun p_4 =>
  f_Pn_paintGridWay_b47 x3 x4_1 p_2 p_3 p_4 (0, I)
noncomputable def f_Pn_paintGridWay (x1 : Int32) (x2 : Int32) (x3 : Int32) (I : xm_I) : Option (xm_I) := f_Pn_paintGridWay_b0 x1 x2 x3 I
set_option maxHeartbeats 4000000 in
set_option maxRecDepth 100000 in
theorem t_Pn_paintGridWay_s47 {x3 : Int32} {x4 : Int32} {x5 : Int32} {x6 : Int32} {x7 : Int32} {s : Int32 × xm_I} {n : Nat} {L : xm_L} {K : (Int32 × xm_I) ⊕ (xm_I) → Prop} {Q : Option Value → xm_H → Prop} (hn : 86 ≤ n) (hq : ∀ p : xm_I, K (.inr p) → Q none (p, L, RC n, n)) (hg0 : ∀ s : Int32 × xm_I, K (.inl s) → xm_J 4 mt_Pn_paintGridWay 47 [(0, .ref 30), (3, .int x3), (4, .int x4), (5, .int x5), (6, .int x6), (7, .int x7), (8, .int s.1)] [] (s.2, L, RC n, n) 0 0 Q) (hF : ok (f_Pn_paintGridWay_s47 x3 x4 x5 x6 x7 s) K) : xm_J 4 mt_Pn_paintGridWay 47 [(0, .ref 30), (3, .int x3), (4, .int x4), (5, .int x5), (6, .int x6), (7, .int x7), (8, .int s.1)] [] (s.2, L, RC n, n) 0 0 Q := by
  unfold f_Pn_paintGridWay_s47 at hF
  refine r_iload (i := 23) (k0 := 6) rfl rfl ?_
  refine r_iload (i := 24) (k0 := 5) rfl rfl ?_
  refine r_icmpge (i := 25) (tgt := 73) rfl (by decide) (fun hc => ?_) (fun hc => ?_)
  · have hF := ok_it hc hF
    refine r_aload_n (i := 36) (k0 := 0) rfl rfl rfl ?_
    refine q_getr (b := 17) (i := 37) rfl fl_Pn_47 rfl (xm_in rfl hn) rfl rfl ?_
    refine r_iload (i := 38) (k0 := 4) rfl rfl ?_
    refine r_iload (i := 39) (k0 := 5) rfl rfl ?_
    refine r_isub (i := 40) rfl ?_
    refine c_V1V (i := 41) rfl vm_Mk_lose lk_Pn_123 (t_Mk_lose hn (ok_bind hF)) (Nat.le_of_ble_eq_true rfl) (xm_in rfl hn) rfl rfl (Nat.le_of_ble_eq_true rfl) (fun p_1 hF => ?_)
    have hQ := hq _ (ok_some hF)
    exact r_return (i := 42) rfl rfl hQ
  have hF := ok_if hc hF
  refine r_aload_n (i := 26) (k0 := 0) rfl rfl rfl ?_
  refine r_iload (i := 27) (k0 := 3) rfl rfl ?_
  refine r_iload (i := 28) (k0 := 6) rfl rfl ?_
  refine r_iload (i := 29) (k0 := 2) rfl rfl ?_
  refine r_imul (i := 30) rfl ?_
  refine r_iadd (i := 31) rfl ?_
  refine r_iload_n (i := 32) (k0 := 1) rfl rfl rfl ?_
  refine c_V2V (i := 33) rfl vm_Pn_paintGridStroke lk_Pn_119 (t_Pn_paintGridStroke hn (ok_bind hF)) (Nat.le_of_ble_eq_true rfl) (xm_in rfl hn) rfl rfl (Nat.le_of_ble_eq_true rfl) (fun p_2 hF => ?_)
  refine q_iinc (i := 34) (k0 := 6) (Ls' := [(8, _), (0, _), (3, _), (4, _), (5, _), (6, _), (7, _)]) rfl ki_1 rfl (Nat.le_of_ble_eq_true rfl) rfl ?_
  refine r_goto (i := 35) (tgt := 47) rfl (by decide) ?_
  refine xm_sub (Ls' := [(0, _), (3, _), (4, _), (5, _), (6, _), (7, _), (8, _)]) [1, 2, 3, 4, 5, 6, 0] rfl ?_
  have hJ := hg0 _ (ok_some hF)
  exact hJ
set_option maxHeartbeats 4000000 in
set_option maxRecDepth 100000 in
theorem t_Pn_paintGridWay_b47 {x3 : Int32} {x4 : Int32} {x5 : Int32} {x6 : Int32} {x7 : Int32} {s : Int32 × xm_I} {n : Nat} {L : xm_L} {K : xm_I → Prop} {Q : Option Value → xm_H → Prop} (hn : 86 ≤ n) (hq : ∀ p : xm_I, K p → Q none (p, L, RC n, n)) (hF : ok (f_Pn_paintGridWay_b47 x3 x4 x5 x6 x7 s) K) : xm_J 4 mt_Pn_paintGridWay 47 [(0, .ref 30), (3, .int x3), (4, .int x4), (5, .int x5), (6, .int x6), (7, .int x7), (8, .int s.1)] [] (s.2, L, RC n, n) 0 0 Q :=
  lp_J (G := fun z => xm_J 4 mt_Pn_paintGridWay 47 [(0, .ref 30), (3, .int x3), (4, .int x4), (5, .int x5), (6, .int x6), (7, .int x7), (8, .int z.1)] [] (z.2, L, RC n, n) 0 0 Q) (fun z hF => t_Pn_paintGridWay_s47 hn (fun p h => hq p h) (fun z h => h) hF) s hF
set_option maxHeartbeats 4000000 in
set_option maxRecDepth 100000 in
theorem t_Pn_paintGridWay_b0 {x1 : Int32} {x2 : Int32} {x3 : Int32} {n : Nat} {I : xm_I} {L : xm_L} {K : xm_I → Prop} {Q : Option Value → xm_H → Prop} (hn : 86 ≤ n) (hq : ∀ p : xm_I, K p → Q none (p, L, RC n, n)) (hF : ok (f_Pn_paintGridWay_b0 x1 x2 x3 I) K) : xm_J 4 mt_Pn_paintGridWay 0 [(0, .ref 30), (1, .int x1), (2, .int x2), (3, .int x3)] [] (I, L, RC n, n) 0 0 Q := by
  unfold f_Pn_paintGridWay_b0 at hF
  refine r_aload_n (i := 0) (k0 := 0) rfl rfl rfl ?_
  refine q_getr (b := 14) (i := 1) rfl fl_Pn_43 rfl (xm_in rfl hn) rfl rfl ?_
  refine q_geti (i := 2) rfl fl_Pn_82 (xm_in rfl hn) rfl ?_
  refine r_istore (i := 3) (Ls' := [(4, _), (0, _), (1, _), (2, _), (3, _)]) rfl (Nat.le_of_ble_eq_true rfl) rfl ?_
  refine r_iload_n (i := 4) (k0 := 2) rfl rfl rfl ?_
  refine r_iload (i := 5) (k0 := 0) rfl rfl ?_
  refine c_N2I (i := 6) rfl sm_D_multipleFrom lk_Pn_101 (t_D_multipleFrom hn (ok_bind hF)) (Nat.le_of_ble_eq_true rfl) rfl (Nat.le_of_ble_eq_true rfl) (fun p_2 hF => ?_)
  refine r_istore (i := 7) (Ls' := [(5, _), (4, _), (0, _), (1, _), (2, _), (3, _)]) rfl (Nat.le_of_ble_eq_true rfl) rfl ?_
  refine r_iload_n (i := 8) (k0 := 3) rfl rfl rfl ?_
  refine r_iload_n (i := 9) (k0 := 4) rfl rfl rfl ?_
  refine r_iload (i := 10) (k0 := 1) rfl rfl ?_
  refine c_N3I (i := 11) rfl sm_D_multiplesWithin lk_Pn_107 (t_D_multiplesWithin hn (ok_bind hF)) (Nat.le_of_ble_eq_true rfl) rfl (Nat.le_of_ble_eq_true rfl) (fun p_3 hF => ?_)
  refine r_istore (i := 12) (Ls' := [(6, _), (5, _), (4, _), (0, _), (1, _), (2, _), (3, _)]) rfl (Nat.le_of_ble_eq_true rfl) rfl ?_
  refine r_iload (i := 13) (k0 := 0) rfl rfl ?_
  refine r_sipush (v := 600) (i := 14) rfl ks_600 ?_
  refine r_aload_n (i := 15) (k0 := 3) rfl rfl rfl ?_
  refine q_getr (b := 17) (i := 16) rfl fl_Pn_47 rfl (xm_in rfl hn) rfl rfl ?_
  refine q_geti (i := 17) rfl fl_Pn_111 (xm_in rfl hn) rfl ?_
  refine r_isub (i := 18) rfl ?_
  refine c_S2I (i := 19) rfl sm_Jm_min_I lk_Pn_114 (t_Jm_min_I hn (ok_bind hF)) (Nat.le_of_ble_eq_true rfl) rfl (Nat.le_of_ble_eq_true rfl) (fun p_4 hF => ?_)
  refine r_istore (i := 20) (Ls' := [(7, _), (6, _), (5, _), (4, _), (0, _), (1, _), (2, _), (3, _)]) rfl (Nat.le_of_ble_eq_true rfl) rfl ?_
  refine r_iconst (v := 0) (i := 21) rfl ki_0 ?_
  refine r_istore (i := 22) (Ls' := [(8, _), (7, _), (6, _), (5, _), (4, _), (0, _), (1, _), (2, _), (3, _)]) rfl (Nat.le_of_ble_eq_true rfl) rfl ?_
  refine xm_sub (Ls' := [(0, _), (3, _), (4, _), (5, _), (6, _), (7, _), (8, _)]) [5, 8, 4, 3, 2, 1, 0] rfl ?_
  exact t_Pn_paintGridWay_b47 hn (fun p h => hq p h) hF
set_option maxHeartbeats 4000000 in
set_option maxRecDepth 100000 in
theorem t_Pn_paintGridWay {x1 : Int32} {x2 : Int32} {x3 : Int32} {n : Nat} {I : xm_I} {L : xm_L} {K : xm_I → Prop} (hn : 86 ≤ n) (hF : ok (f_Pn_paintGridWay x1 x2 x3 I) K) : xm_C 4 mt_Pn_paintGridWay [.ref 30, .int x1, .int x2, .int x3] (I, L, RC n, n) 0 0 (pV (fun p : xm_I => (p, L, RC n, n)) K) := by
  unfold f_Pn_paintGridWay at hF
  refine xm_enter (by decide +kernel) dv_Pn_paintGridWay (Nat.le_of_ble_eq_true rfl) ?_
  exact t_Pn_paintGridWay_b0 hn (fun p hp => ⟨p, rfl, rfl, hp⟩) hF

noncomputable def f_Pn_paintGrid_b0 (I : xm_I) : Option (xm_I) :=
  if 0 < (I 14 7) then (
    (f_Pn_paintGridWay (I 14 0) (I 14 1) 1 I).bind fun p_1 =>
    (f_Pn_paintGridWay (p_1 14 2) (p_1 14 3) 0 p_1).bind fun p_2 =>
    some (p_2))
  else (
  some (I))
noncomputable def f_Pn_paintGrid (I : xm_I) : Option (xm_I) := f_Pn_paintGrid_b0 I
set_option maxHeartbeats 4000000 in
set_option maxRecDepth 100000 in
theorem t_Pn_paintGrid_b0 {n : Nat} {I : xm_I} {L : xm_L} {K : xm_I → Prop} {Q : Option Value → xm_H → Prop} (hn : 86 ≤ n) (hq : ∀ p : xm_I, K p → Q none (p, L, RC n, n)) (hF : ok (f_Pn_paintGrid_b0 I) K) : xm_J 5 mt_Pn_paintGrid 0 [(0, .ref 30)] [] (I, L, RC n, n) 0 0 Q := by
  unfold f_Pn_paintGrid_b0 at hF
  refine r_aload_n (i := 0) (k0 := 0) rfl rfl rfl ?_
  refine q_getr (b := 14) (i := 1) rfl fl_Pn_43 rfl (xm_in rfl hn) rfl rfl ?_
  refine q_geti (i := 2) rfl fl_Pn_82 (xm_in rfl hn) rfl ?_
  refine r_ifgt (i := 3) (tgt := 11) rfl (by decide) (fun hc => ?_) (fun hc => ?_)
  · have hF := ok_it hc hF
    refine r_aload_n (i := 5) (k0 := 0) rfl rfl rfl ?_
    refine r_aload_n (i := 6) (k0 := 0) rfl rfl rfl ?_
    refine q_getr (b := 14) (i := 7) rfl fl_Pn_43 rfl (xm_in rfl hn) rfl rfl ?_
    refine q_geti (i := 8) rfl fl_Pn_85 (xm_in rfl hn) rfl ?_
    refine r_aload_n (i := 9) (k0 := 0) rfl rfl rfl ?_
    refine q_getr (b := 14) (i := 10) rfl fl_Pn_43 rfl (xm_in rfl hn) rfl rfl ?_
    refine q_geti (i := 11) rfl fl_Pn_88 (xm_in rfl hn) rfl ?_
    refine r_iconst (v := 1) (i := 12) rfl ki_1 ?_
    refine c_V3V (i := 13) rfl vm_Pn_paintGridWay lk_Pn_91 (t_Pn_paintGridWay hn (ok_bind hF)) (Nat.le_of_ble_eq_true rfl) (xm_in rfl hn) rfl rfl (Nat.le_of_ble_eq_true rfl) (fun p_1 hF => ?_)
    refine r_aload_n (i := 14) (k0 := 0) rfl rfl rfl ?_
    refine r_aload_n (i := 15) (k0 := 0) rfl rfl rfl ?_
    refine q_getr (b := 14) (i := 16) rfl fl_Pn_43 rfl (xm_in rfl hn) rfl rfl ?_
    refine q_geti (i := 17) rfl fl_Pn_95 (xm_in rfl hn) rfl ?_
    refine r_aload_n (i := 18) (k0 := 0) rfl rfl rfl ?_
    refine q_getr (b := 14) (i := 19) rfl fl_Pn_43 rfl (xm_in rfl hn) rfl rfl ?_
    refine q_geti (i := 20) rfl fl_Pn_98 (xm_in rfl hn) rfl ?_
    refine r_iconst (v := 0) (i := 21) rfl ki_0 ?_
    refine c_V3V (i := 22) rfl vm_Pn_paintGridWay lk_Pn_91 (t_Pn_paintGridWay hn (ok_bind hF)) (Nat.le_of_ble_eq_true rfl) (xm_in rfl hn) rfl rfl (Nat.le_of_ble_eq_true rfl) (fun p_2 hF => ?_)
    have hQ := hq _ (ok_some hF)
    exact r_return (i := 23) rfl rfl hQ
  have hF := ok_if hc hF
  have hQ := hq _ (ok_some hF)
  exact r_return (i := 4) rfl rfl hQ
set_option maxHeartbeats 4000000 in
set_option maxRecDepth 100000 in
theorem t_Pn_paintGrid {n : Nat} {I : xm_I} {L : xm_L} {K : xm_I → Prop} (hn : 86 ≤ n) (hF : ok (f_Pn_paintGrid I) K) : xm_C 5 mt_Pn_paintGrid [.ref 30] (I, L, RC n, n) 0 0 (pV (fun p : xm_I => (p, L, RC n, n)) K) := by
  unfold f_Pn_paintGrid at hF
  refine xm_enter (by decide +kernel) dv_Pn_paintGrid (Nat.le_of_ble_eq_true rfl) ?_
  exact t_Pn_paintGrid_b0 hn (fun p hp => ⟨p, rfl, rfl, hp⟩) hF

noncomputable def f_D_octant_b19 (x0 : Int32) (x1 : Int32) : Option (Int32) :=
  if x1 ≤ 0 then (
    if 0 ≤ x0 then (
      if (-x1) ≤ x0 then (
        some (7))
      else (
      some (6)))
    else (
    if x1 ≤ x0 then (
      some (5))
    else (
    some (4))))
  else (
  if x1 ≤ (-x0) then (
    some (3))
  else (
  some (2)))
noncomputable def f_D_octant_b0 (x0 : Int32) (x1 : Int32) : Option (Int32) :=
  if x1 < 0 then (
    f_D_octant_b19 x0 x1)
  else (
  if x0 ≤ 0 then (
    f_D_octant_b19 x0 x1)
  else (
  if x0 ≤ x1 then (
    some (1))
  else (
  some (0))))
noncomputable def f_D_octant (x0 : Int32) (x1 : Int32) : Option (Int32) := f_D_octant_b0 x0 x1
set_option maxHeartbeats 4000000 in
set_option maxRecDepth 100000 in
theorem t_D_octant_b19 {x0 : Int32} {x1 : Int32} {n : Nat} {I : xm_I} {L : xm_L} {K : Int32 → Prop} {Q : Option Value → xm_H → Prop} (hn : 86 ≤ n) (hq : ∀ p : Int32, K p → Q (some (.int p)) (I, L, RC n, n)) (hF : ok (f_D_octant_b19 x0 x1) K) : xm_J 0 mt_D_octant 19 [(0, .int x0), (1, .int x1)] [] (I, L, RC n, n) 0 0 Q := by
  unfold f_D_octant_b19 at hF
  refine r_iload_n (i := 11) (k0 := 1) rfl rfl rfl ?_
  refine r_ifle (i := 12) (tgt := 35) rfl (by decide) (fun hc => ?_) (fun hc => ?_)
  · have hF := ok_it hc hF
    refine r_iload_n (i := 21) (k0 := 0) rfl rfl rfl ?_
    refine r_ifge (i := 22) (tgt := 50) rfl (by decide) (fun hc => ?_) (fun hc => ?_)
    · have hF := ok_it hc hF
      refine r_iload_n (i := 30) (k0 := 1) rfl rfl rfl ?_
      refine r_ineg (i := 31) rfl ?_
      refine r_iload_n (i := 32) (k0 := 0) rfl rfl rfl ?_
      refine r_icmple (i := 33) (tgt := 61) rfl (by decide) (fun hc => ?_) (fun hc => ?_)
      · have hF := ok_it hc hF
        refine r_bipush (v := 7) (i := 36) rfl kb_7 ?_
        have hQ := hq _ (ok_some hF)
        exact r_ireturn (i := 37) rfl rfl rfl hQ
      have hF := ok_if hc hF
      refine r_bipush (v := 6) (i := 34) rfl kb_6 ?_
      refine r_goto (i := 35) (tgt := 63) rfl (by decide) ?_
      have hQ := hq _ (ok_some hF)
      exact r_ireturn (i := 37) rfl rfl rfl hQ
    have hF := ok_if hc hF
    refine r_iload_n (i := 23) (k0 := 1) rfl rfl rfl ?_
    refine r_iload_n (i := 24) (k0 := 0) rfl rfl rfl ?_
    refine r_icmple (i := 25) (tgt := 48) rfl (by decide) (fun hc => ?_) (fun hc => ?_)
    · have hF := ok_it hc hF
      refine r_iconst (v := 5) (i := 28) rfl ki_5 ?_
      have hQ := hq _ (ok_some hF)
      exact r_ireturn (i := 29) rfl rfl rfl hQ
    have hF := ok_if hc hF
    refine r_iconst (v := 4) (i := 26) rfl ki_4 ?_
    refine r_goto (i := 27) (tgt := 49) rfl (by decide) ?_
    have hQ := hq _ (ok_some hF)
    exact r_ireturn (i := 29) rfl rfl rfl hQ
  have hF := ok_if hc hF
  refine r_iload_n (i := 13) (k0 := 1) rfl rfl rfl ?_
  refine r_iload_n (i := 14) (k0 := 0) rfl rfl rfl ?_
  refine r_ineg (i := 15) rfl ?_
  refine r_icmple (i := 16) (tgt := 33) rfl (by decide) (fun hc => ?_) (fun hc => ?_)
  · have hF := ok_it hc hF
    refine r_iconst (v := 3) (i := 19) rfl ki_3 ?_
    have hQ := hq _ (ok_some hF)
    exact r_ireturn (i := 20) rfl rfl rfl hQ
  have hF := ok_if hc hF
  refine r_iconst (v := 2) (i := 17) rfl ki_2 ?_
  refine r_goto (i := 18) (tgt := 34) rfl (by decide) ?_
  have hQ := hq _ (ok_some hF)
  exact r_ireturn (i := 20) rfl rfl rfl hQ
set_option maxHeartbeats 4000000 in
set_option maxRecDepth 100000 in
theorem t_D_octant_b0 {x0 : Int32} {x1 : Int32} {n : Nat} {I : xm_I} {L : xm_L} {K : Int32 → Prop} {Q : Option Value → xm_H → Prop} (hn : 86 ≤ n) (hq : ∀ p : Int32, K p → Q (some (.int p)) (I, L, RC n, n)) (hF : ok (f_D_octant_b0 x0 x1) K) : xm_J 0 mt_D_octant 0 [(0, .int x0), (1, .int x1)] [] (I, L, RC n, n) 0 0 Q := by
  unfold f_D_octant_b0 at hF
  refine r_iload_n (i := 0) (k0 := 1) rfl rfl rfl ?_
  refine r_iflt (i := 1) (tgt := 19) rfl (by decide) (fun hc => ?_) (fun hc => ?_)
  · have hF := ok_it hc hF
    exact t_D_octant_b19 hn (fun p h => hq p h) hF
  have hF := ok_if hc hF
  refine r_iload_n (i := 2) (k0 := 0) rfl rfl rfl ?_
  refine r_ifle (i := 3) (tgt := 19) rfl (by decide) (fun hc => ?_) (fun hc => ?_)
  · have hF := ok_it hc hF
    exact t_D_octant_b19 hn (fun p h => hq p h) hF
  have hF := ok_if hc hF
  refine r_iload_n (i := 4) (k0 := 1) rfl rfl rfl ?_
  refine r_iload_n (i := 5) (k0 := 0) rfl rfl rfl ?_
  refine r_icmpge (i := 6) (tgt := 17) rfl (by decide) (fun hc => ?_) (fun hc => ?_)
  · have hF := ok_it hc hF
    refine r_iconst (v := 1) (i := 9) rfl ki_1 ?_
    have hQ := hq _ (ok_some hF)
    exact r_ireturn (i := 10) rfl rfl rfl hQ
  have hF := ok_if hc hF
  refine r_iconst (v := 0) (i := 7) rfl ki_0 ?_
  refine r_goto (i := 8) (tgt := 18) rfl (by decide) ?_
  have hQ := hq _ (ok_some hF)
  exact r_ireturn (i := 10) rfl rfl rfl hQ
set_option maxHeartbeats 4000000 in
set_option maxRecDepth 100000 in
theorem t_D_octant {x0 : Int32} {x1 : Int32} {n : Nat} {I : xm_I} {L : xm_L} {K : Int32 → Prop} (hn : 86 ≤ n) (hF : ok (f_D_octant x0 x1) K) : xm_C 0 mt_D_octant [.int x0, .int x1] (I, L, RC n, n) 0 0 (pI (fun p : Int32 => p) (fun p : Int32 => (I, L, RC n, n)) K) := by
  unfold f_D_octant at hF
  refine xm_enter (by decide +kernel) dv_D_octant (Nat.le_of_ble_eq_true rfl) ?_
  exact t_D_octant_b0 hn (fun p hp => ⟨p, rfl, rfl, hp⟩) hF

noncomputable def f_Fr_holds_b0 (l1 : Int64) (l3 : Int64) (x5 : Int32) (I : xm_I) : Option (Int32) :=
  if l1 < ((Int32.toInt64 (I 14 0)) * (Int32.toInt64 x5)) then (
    some (0))
  else (
  if ((Int32.toInt64 (I 14 1)) * (Int32.toInt64 x5)) < l1 then (
    some (0))
  else (
  if l3 < ((Int32.toInt64 (I 14 2)) * (Int32.toInt64 x5)) then (
    some (0))
  else (
  if ((Int32.toInt64 (I 14 3)) * (Int32.toInt64 x5)) < l3 then (
    some (0))
  else (
  some (1)))))
noncomputable def f_Fr_holds (l1 : Int64) (l3 : Int64) (x5 : Int32) (I : xm_I) : Option (Int32) := f_Fr_holds_b0 l1 l3 x5 I
set_option maxHeartbeats 4000000 in
set_option maxRecDepth 100000 in
theorem t_Fr_holds_b0 {l1 : Int64} {l3 : Int64} {x5 : Int32} {n : Nat} {I : xm_I} {L : xm_L} {K : Int32 → Prop} {Q : Option Value → xm_H → Prop} (hn : 86 ≤ n) (hq : ∀ p : Int32, K p → Q (some (.int p)) (I, L, RC n, n)) (hF : ok (f_Fr_holds_b0 l1 l3 x5 I) K) : xm_J 0 mt_Fr_holds 0 [(0, .ref 14), (1, .long l1), (3, .long l3), (5, .int x5)] [] (I, L, RC n, n) 0 0 Q := by
  unfold f_Fr_holds_b0 at hF
  refine r_lload_n (i := 0) (k0 := 1) rfl rfl rfl ?_
  refine r_aload_n (i := 1) (k0 := 0) rfl rfl rfl ?_
  refine q_geti (i := 2) rfl fl_Fr_7 (xm_in rfl hn) rfl ?_
  refine r_i2l (i := 3) rfl ?_
  refine r_iload (i := 4) (k0 := 3) rfl rfl ?_
  refine r_i2l (i := 5) rfl ?_
  refine r_lmul (i := 6) rfl ?_
  refine r_lcmplt (i := 7) (j := 8) (tgt := 60) rfl rfl (by decide) (fun hc => ?_) (fun hc => ?_)
  · have hF := ok_it hc hF
    refine r_iconst (v := 0) (i := 38) rfl ki_0 ?_
    have hQ := hq _ (ok_some hF)
    exact r_ireturn (i := 39) rfl rfl rfl hQ
  have hF := ok_if hc hF
  refine r_lload_n (i := 9) (k0 := 1) rfl rfl rfl ?_
  refine r_aload_n (i := 10) (k0 := 0) rfl rfl rfl ?_
  refine q_geti (i := 11) rfl fl_Fr_13 (xm_in rfl hn) rfl ?_
  refine r_i2l (i := 12) rfl ?_
  refine r_iload (i := 13) (k0 := 3) rfl rfl ?_
  refine r_i2l (i := 14) rfl ?_
  refine r_lmul (i := 15) rfl ?_
  refine r_lcmpgt (i := 16) (j := 17) (tgt := 60) rfl rfl (by decide) (fun hc => ?_) (fun hc => ?_)
  · have hF := ok_it hc hF
    refine r_iconst (v := 0) (i := 38) rfl ki_0 ?_
    have hQ := hq _ (ok_some hF)
    exact r_ireturn (i := 39) rfl rfl rfl hQ
  have hF := ok_if hc hF
  refine r_lload_n (i := 18) (k0 := 2) rfl rfl rfl ?_
  refine r_aload_n (i := 19) (k0 := 0) rfl rfl rfl ?_
  refine q_geti (i := 20) rfl fl_Fr_16 (xm_in rfl hn) rfl ?_
  refine r_i2l (i := 21) rfl ?_
  refine r_iload (i := 22) (k0 := 3) rfl rfl ?_
  refine r_i2l (i := 23) rfl ?_
  refine r_lmul (i := 24) rfl ?_
  refine r_lcmplt (i := 25) (j := 26) (tgt := 60) rfl rfl (by decide) (fun hc => ?_) (fun hc => ?_)
  · have hF := ok_it hc hF
    refine r_iconst (v := 0) (i := 38) rfl ki_0 ?_
    have hQ := hq _ (ok_some hF)
    exact r_ireturn (i := 39) rfl rfl rfl hQ
  have hF := ok_if hc hF
  refine r_lload_n (i := 27) (k0 := 2) rfl rfl rfl ?_
  refine r_aload_n (i := 28) (k0 := 0) rfl rfl rfl ?_
  refine q_geti (i := 29) rfl fl_Fr_19 (xm_in rfl hn) rfl ?_
  refine r_i2l (i := 30) rfl ?_
  refine r_iload (i := 31) (k0 := 3) rfl rfl ?_
  refine r_i2l (i := 32) rfl ?_
  refine r_lmul (i := 33) rfl ?_
  refine r_lcmpgt (i := 34) (j := 35) (tgt := 60) rfl rfl (by decide) (fun hc => ?_) (fun hc => ?_)
  · have hF := ok_it hc hF
    refine r_iconst (v := 0) (i := 38) rfl ki_0 ?_
    have hQ := hq _ (ok_some hF)
    exact r_ireturn (i := 39) rfl rfl rfl hQ
  have hF := ok_if hc hF
  refine r_iconst (v := 1) (i := 36) rfl ki_1 ?_
  refine r_goto (i := 37) (tgt := 61) rfl (by decide) ?_
  have hQ := hq _ (ok_some hF)
  exact r_ireturn (i := 39) rfl rfl rfl hQ
set_option maxHeartbeats 4000000 in
set_option maxRecDepth 100000 in
theorem t_Fr_holds {l1 : Int64} {l3 : Int64} {x5 : Int32} {n : Nat} {I : xm_I} {L : xm_L} {K : Int32 → Prop} (hn : 86 ≤ n) (hF : ok (f_Fr_holds l1 l3 x5 I) K) : xm_C 0 mt_Fr_holds [.ref 14, .long l1, .long l3, .int x5] (I, L, RC n, n) 0 0 (pI (fun p : Int32 => p) (fun p : Int32 => (I, L, RC n, n)) K) := by
  unfold f_Fr_holds at hF
  refine xm_enter (by decide +kernel) dv_Fr_holds (Nat.le_of_ble_eq_true rfl) ?_
  exact t_Fr_holds_b0 hn (fun p hp => ⟨p, rfl, rfl, hp⟩) hF

noncomputable def f_Pn_openingOf_b0 (l0 : Int64) (l2 : Int64) (l4 : Int64) (l6 : Int64) : Option (Int32) :=
  let l8_1 : Int64 := (l0 * l6) - (l2 * l4)
  let l10_2 : Int64 := (l0 * l4) + (l2 * l6)
  if l8_1 = 0 then (
    if 0 ≤ l10_2 then (
      some (4))
    else (
    some (3)))
  else (
    if l10_2 ≤ 0 then (
      if l10_2 = 0 then (
        some (1))
      else (
        some (2)))
    else (
    some (0)))
noncomputable def f_Pn_openingOf (l0 : Int64) (l2 : Int64) (l4 : Int64) (l6 : Int64) : Option (Int32) := f_Pn_openingOf_b0 l0 l2 l4 l6
set_option maxHeartbeats 4000000 in
set_option maxRecDepth 100000 in
theorem t_Pn_openingOf_b0 {l0 : Int64} {l2 : Int64} {l4 : Int64} {l6 : Int64} {n : Nat} {I : xm_I} {L : xm_L} {K : Int32 → Prop} {Q : Option Value → xm_H → Prop} (hn : 86 ≤ n) (hq : ∀ p : Int32, K p → Q (some (.int p)) (I, L, RC n, n)) (hF : ok (f_Pn_openingOf_b0 l0 l2 l4 l6) K) : xm_J 0 mt_Pn_openingOf 0 [(0, .long l0), (2, .long l2), (4, .long l4), (6, .long l6)] [] (I, L, RC n, n) 0 0 Q := by
  unfold f_Pn_openingOf_b0 at hF
  refine r_lload_n (i := 0) (k0 := 0) rfl rfl rfl ?_
  refine r_lload (i := 1) (k0 := 3) rfl rfl ?_
  refine r_lmul (i := 2) rfl ?_
  refine r_lload_n (i := 3) (k0 := 1) rfl rfl rfl ?_
  refine r_lload (i := 4) (k0 := 2) rfl rfl ?_
  refine r_lmul (i := 5) rfl ?_
  refine r_lsub (i := 6) rfl ?_
  refine r_lstore (i := 7) (Ls' := [(8, _), (0, _), (2, _), (4, _), (6, _)]) rfl (Nat.le_of_ble_eq_true rfl) rfl ?_
  refine r_lload_n (i := 8) (k0 := 1) rfl rfl rfl ?_
  refine r_lload (i := 9) (k0 := 3) rfl rfl ?_
  refine r_lmul (i := 10) rfl ?_
  refine r_lload_n (i := 11) (k0 := 2) rfl rfl rfl ?_
  refine r_lload (i := 12) (k0 := 4) rfl rfl ?_
  refine r_lmul (i := 13) rfl ?_
  refine r_ladd (i := 14) rfl ?_
  refine r_lstore (i := 15) (Ls' := [(10, _), (8, _), (0, _), (2, _), (4, _), (6, _)]) rfl (Nat.le_of_ble_eq_true rfl) rfl ?_
  refine r_lload (i := 16) (k0 := 1) rfl rfl ?_
  refine r_lconst (v := 0) (i := 17) rfl rfl ?_
  refine r_lcmpne (i := 18) (j := 19) (tgt := 42) rfl rfl (by decide) (fun hc => ?_) (fun hc => ?_)
  · have hF := ok_if hc hF
    refine r_lload (i := 28) (k0 := 0) rfl rfl ?_
    refine r_lconst (v := 0) (i := 29) rfl rfl ?_
    refine r_lcmple (i := 30) (j := 31) (tgt := 53) rfl rfl (by decide) (fun hc => ?_) (fun hc => ?_)
    · have hF := ok_it hc hF
      refine r_lload (i := 34) (k0 := 0) rfl rfl ?_
      refine r_lconst (v := 0) (i := 35) rfl rfl ?_
      refine r_lcmpne (i := 36) (j := 37) (tgt := 64) rfl rfl (by decide) (fun hc => ?_) (fun hc => ?_)
      · have hF := ok_if hc hF
        refine r_iconst (v := 2) (i := 40) rfl ki_2 ?_
        have hQ := hq _ (ok_some hF)
        exact r_ireturn (i := 41) rfl rfl rfl hQ
      have hF := ok_it hc hF
      refine r_iconst (v := 1) (i := 38) rfl ki_1 ?_
      refine r_goto (i := 39) (tgt := 65) rfl (by decide) ?_
      have hQ := hq _ (ok_some hF)
      exact r_ireturn (i := 41) rfl rfl rfl hQ
    have hF := ok_if hc hF
    refine r_iconst (v := 0) (i := 32) rfl ki_0 ?_
    refine r_goto (i := 33) (tgt := 65) rfl (by decide) ?_
    have hQ := hq _ (ok_some hF)
    exact r_ireturn (i := 41) rfl rfl rfl hQ
  have hF := ok_it hc hF
  refine r_lload (i := 20) (k0 := 0) rfl rfl ?_
  refine r_lconst (v := 0) (i := 21) rfl rfl ?_
  refine r_lcmpge (i := 22) (j := 23) (tgt := 40) rfl rfl (by decide) (fun hc => ?_) (fun hc => ?_)
  · have hF := ok_it hc hF
    refine r_iconst (v := 4) (i := 26) rfl ki_4 ?_
    have hQ := hq _ (ok_some hF)
    exact r_ireturn (i := 27) rfl rfl rfl hQ
  have hF := ok_if hc hF
  refine r_iconst (v := 3) (i := 24) rfl ki_3 ?_
  refine r_goto (i := 25) (tgt := 41) rfl (by decide) ?_
  have hQ := hq _ (ok_some hF)
  exact r_ireturn (i := 27) rfl rfl rfl hQ
set_option maxHeartbeats 4000000 in
set_option maxRecDepth 100000 in
theorem t_Pn_openingOf {l0 : Int64} {l2 : Int64} {l4 : Int64} {l6 : Int64} {n : Nat} {I : xm_I} {L : xm_L} {K : Int32 → Prop} (hn : 86 ≤ n) (hF : ok (f_Pn_openingOf l0 l2 l4 l6) K) : xm_C 0 mt_Pn_openingOf [.long l0, .long l2, .long l4, .long l6] (I, L, RC n, n) 0 0 (pI (fun p : Int32 => p) (fun p : Int32 => (I, L, RC n, n)) K) := by
  unfold f_Pn_openingOf at hF
  refine xm_enter (by decide +kernel) dv_Pn_openingOf (Nat.le_of_ble_eq_true rfl) ?_
  exact t_Pn_openingOf_b0 hn (fun p hp => ⟨p, rfl, rfl, hp⟩) hF

noncomputable def f_Pn_paintAngle_b0 (x1 : Int32) (I : xm_I) : Option (xm_I) :=
  (f_Fg_xOf x1 1 I).bind fun p_1 =>
  (f_Fg_yOf x1 1 I).bind fun p_2 =>
  (f_Fr_holds (Int32.toInt64 p_1) (Int32.toInt64 p_2) 1 I).bind fun p_3 =>
  if p_3 = 0 then (
    some (I))
  else (
    (f_Fg_xOf x1 0 I).bind fun p_4 =>
    let x4_5 : Int32 := p_4 - p_1
    (f_Fg_yOf x1 0 I).bind fun p_6 =>
    let x5_7 : Int32 := p_6 - p_2
    (f_Fg_xOf x1 2 I).bind fun p_8 =>
    let x6_9 : Int32 := p_8 - p_1
    (f_Fg_yOf x1 2 I).bind fun p_10 =>
    let x7_11 : Int32 := p_10 - p_2
    (f_Fr_sheetX (Int32.toInt64 p_1) 1 I).bind fun p_12 =>
    (f_Fr_sheetY (Int32.toInt64 p_2) 1 I).bind fun p_13 =>
    (f_Pn_openingOf (Int32.toInt64 x4_5) (Int32.toInt64 x5_7) (Int32.toInt64 x6_9) (Int32.toInt64 x7_11)).bind fun p_14 =>
    (f_D_octant x4_5 x5_7).bind fun p_15 =>
    (f_D_octant x6_9 x7_11).bind fun p_16 =>
    (f_Mk_add 65 p_12 p_13 p_15 p_16 p_14 I).bind fun p_17 =>
    (f_Pn_anchor x1 p_12 p_13 p_17).bind fun p_18 =>
    some (p_18))
noncomputable def f_Pn_paintAngle (x1 : Int32) (I : xm_I) : Option (xm_I) := f_Pn_paintAngle_b0 x1 I
set_option maxHeartbeats 4000000 in
set_option maxRecDepth 100000 in
theorem t_Pn_paintAngle_b0 {x1 : Int32} {n : Nat} {I : xm_I} {L : xm_L} {K : xm_I → Prop} {Q : Option Value → xm_H → Prop} (hn : 86 ≤ n) (hq : ∀ p : xm_I, K p → Q none (p, L, RC n, n)) (hF : ok (f_Pn_paintAngle_b0 x1 I) K) : xm_J 3 mt_Pn_paintAngle 0 [(0, .ref 30), (1, .int x1)] [] (I, L, RC n, n) 0 0 Q := by
  unfold f_Pn_paintAngle_b0 at hF
  refine r_aload_n (i := 0) (k0 := 0) rfl rfl rfl ?_
  refine q_getr (b := 6) (i := 1) rfl fl_Pn_35 rfl (xm_in rfl hn) rfl rfl ?_
  refine r_iload_n (i := 2) (k0 := 1) rfl rfl rfl ?_
  refine r_iconst (v := 1) (i := 3) rfl ki_1 ?_
  refine c_V2I (i := 4) rfl vm_Fg_xOf lk_Pn_188 (t_Fg_xOf hn (ok_bind hF)) (Nat.le_of_ble_eq_true rfl) (xm_in rfl hn) rfl rfl (Nat.le_of_ble_eq_true rfl) (fun p_1 hF => ?_)
  refine r_istore_n (i := 5) (Ls' := [(2, _), (0, _), (1, _)]) rfl rfl (Nat.le_of_ble_eq_true rfl) rfl ?_
  refine r_aload_n (i := 6) (k0 := 1) rfl rfl rfl ?_
  refine q_getr (b := 6) (i := 7) rfl fl_Pn_35 rfl (xm_in rfl hn) rfl rfl ?_
  refine r_iload_n (i := 8) (k0 := 2) rfl rfl rfl ?_
  refine r_iconst (v := 1) (i := 9) rfl ki_1 ?_
  refine c_V2I (i := 10) rfl vm_Fg_yOf lk_Pn_191 (t_Fg_yOf hn (ok_bind hF)) (Nat.le_of_ble_eq_true rfl) (xm_in rfl hn) rfl rfl (Nat.le_of_ble_eq_true rfl) (fun p_2 hF => ?_)
  refine r_istore_n (i := 11) (Ls' := [(3, _), (2, _), (0, _), (1, _)]) rfl rfl (Nat.le_of_ble_eq_true rfl) rfl ?_
  refine r_aload_n (i := 12) (k0 := 2) rfl rfl rfl ?_
  refine q_getr (b := 14) (i := 13) rfl fl_Pn_43 rfl (xm_in rfl hn) rfl rfl ?_
  refine r_iload_n (i := 14) (k0 := 1) rfl rfl rfl ?_
  refine r_i2l (i := 15) rfl ?_
  refine r_iload_n (i := 16) (k0 := 0) rfl rfl rfl ?_
  refine r_i2l (i := 17) rfl ?_
  refine r_iconst (v := 1) (i := 18) rfl ki_1 ?_
  refine c_V3I (i := 19) rfl vm_Fr_holds lk_Pn_221 (t_Fr_holds hn (ok_bind hF)) (Nat.le_of_ble_eq_true rfl) (xm_in rfl hn) rfl rfl (Nat.le_of_ble_eq_true rfl) (fun p_3 hF => ?_)
  refine r_ifne (i := 20) (tgt := 36) rfl (by decide) (fun hc => ?_) (fun hc => ?_)
  · have hF := ok_if hc hF
    refine r_aload_n (i := 22) (k0 := 2) rfl rfl rfl ?_
    refine q_getr (b := 6) (i := 23) rfl fl_Pn_35 rfl (xm_in rfl hn) rfl rfl ?_
    refine r_iload_n (i := 24) (k0 := 3) rfl rfl rfl ?_
    refine r_iconst (v := 0) (i := 25) rfl ki_0 ?_
    refine c_V2I (i := 26) rfl vm_Fg_xOf lk_Pn_188 (t_Fg_xOf hn (ok_bind hF)) (Nat.le_of_ble_eq_true rfl) (xm_in rfl hn) rfl rfl (Nat.le_of_ble_eq_true rfl) (fun p_4 hF => ?_)
    refine r_iload_n (i := 27) (k0 := 1) rfl rfl rfl ?_
    refine r_isub (i := 28) rfl ?_
    refine r_istore (i := 29) (Ls' := [(4, _), (3, _), (2, _), (0, _), (1, _)]) rfl (Nat.le_of_ble_eq_true rfl) rfl ?_
    refine r_aload_n (i := 30) (k0 := 3) rfl rfl rfl ?_
    refine q_getr (b := 6) (i := 31) rfl fl_Pn_35 rfl (xm_in rfl hn) rfl rfl ?_
    refine r_iload_n (i := 32) (k0 := 4) rfl rfl rfl ?_
    refine r_iconst (v := 0) (i := 33) rfl ki_0 ?_
    refine c_V2I (i := 34) rfl vm_Fg_yOf lk_Pn_191 (t_Fg_yOf hn (ok_bind hF)) (Nat.le_of_ble_eq_true rfl) (xm_in rfl hn) rfl rfl (Nat.le_of_ble_eq_true rfl) (fun p_6 hF => ?_)
    refine r_iload_n (i := 35) (k0 := 1) rfl rfl rfl ?_
    refine r_isub (i := 36) rfl ?_
    refine r_istore (i := 37) (Ls' := [(5, _), (4, _), (3, _), (2, _), (0, _), (1, _)]) rfl (Nat.le_of_ble_eq_true rfl) rfl ?_
    refine r_aload_n (i := 38) (k0 := 4) rfl rfl rfl ?_
    refine q_getr (b := 6) (i := 39) rfl fl_Pn_35 rfl (xm_in rfl hn) rfl rfl ?_
    refine r_iload_n (i := 40) (k0 := 5) rfl rfl rfl ?_
    refine r_iconst (v := 2) (i := 41) rfl ki_2 ?_
    refine c_V2I (i := 42) rfl vm_Fg_xOf lk_Pn_188 (t_Fg_xOf hn (ok_bind hF)) (Nat.le_of_ble_eq_true rfl) (xm_in rfl hn) rfl rfl (Nat.le_of_ble_eq_true rfl) (fun p_8 hF => ?_)
    refine r_iload_n (i := 43) (k0 := 3) rfl rfl rfl ?_
    refine r_isub (i := 44) rfl ?_
    refine r_istore (i := 45) (Ls' := [(6, _), (5, _), (4, _), (3, _), (2, _), (0, _), (1, _)]) rfl (Nat.le_of_ble_eq_true rfl) rfl ?_
    refine r_aload_n (i := 46) (k0 := 5) rfl rfl rfl ?_
    refine q_getr (b := 6) (i := 47) rfl fl_Pn_35 rfl (xm_in rfl hn) rfl rfl ?_
    refine r_iload_n (i := 48) (k0 := 6) rfl rfl rfl ?_
    refine r_iconst (v := 2) (i := 49) rfl ki_2 ?_
    refine c_V2I (i := 50) rfl vm_Fg_yOf lk_Pn_191 (t_Fg_yOf hn (ok_bind hF)) (Nat.le_of_ble_eq_true rfl) (xm_in rfl hn) rfl rfl (Nat.le_of_ble_eq_true rfl) (fun p_10 hF => ?_)
    refine r_iload_n (i := 51) (k0 := 3) rfl rfl rfl ?_
    refine r_isub (i := 52) rfl ?_
    refine r_istore (i := 53) (Ls' := [(7, _), (6, _), (5, _), (4, _), (3, _), (2, _), (0, _), (1, _)]) rfl (Nat.le_of_ble_eq_true rfl) rfl ?_
    refine r_aload_n (i := 54) (k0 := 6) rfl rfl rfl ?_
    refine q_getr (b := 14) (i := 55) rfl fl_Pn_43 rfl (xm_in rfl hn) rfl rfl ?_
    refine r_iload_n (i := 56) (k0 := 5) rfl rfl rfl ?_
    refine r_i2l (i := 57) rfl ?_
    refine r_lconst (v := 1) (i := 58) rfl rfl ?_
    refine c_V2I (i := 59) rfl vm_Fr_sheetX lk_Pn_127 (t_Fr_sheetX hn (ok_bind hF)) (Nat.le_of_ble_eq_true rfl) (xm_in rfl hn) rfl rfl (Nat.le_of_ble_eq_true rfl) (fun p_12 hF => ?_)
    refine r_istore (i := 60) (Ls' := [(8, _), (7, _), (6, _), (5, _), (4, _), (3, _), (2, _), (0, _), (1, _)]) rfl (Nat.le_of_ble_eq_true rfl) rfl ?_
    refine r_aload_n (i := 61) (k0 := 7) rfl rfl rfl ?_
    refine q_getr (b := 14) (i := 62) rfl fl_Pn_43 rfl (xm_in rfl hn) rfl rfl ?_
    refine r_iload_n (i := 63) (k0 := 5) rfl rfl rfl ?_
    refine r_i2l (i := 64) rfl ?_
    refine r_lconst (v := 1) (i := 65) rfl rfl ?_
    refine c_V2I (i := 66) rfl vm_Fr_sheetY lk_Pn_131 (t_Fr_sheetY hn (ok_bind hF)) (Nat.le_of_ble_eq_true rfl) (xm_in rfl hn) rfl rfl (Nat.le_of_ble_eq_true rfl) (fun p_13 hF => ?_)
    refine r_istore (i := 67) (Ls' := [(9, _), (8, _), (7, _), (6, _), (5, _), (4, _), (3, _), (2, _), (0, _), (1, _)]) rfl (Nat.le_of_ble_eq_true rfl) rfl ?_
    refine r_iload (i := 68) (k0 := 5) rfl rfl ?_
    refine r_i2l (i := 69) rfl ?_
    refine r_iload (i := 70) (k0 := 4) rfl rfl ?_
    refine r_i2l (i := 71) rfl ?_
    refine r_iload (i := 72) (k0 := 3) rfl rfl ?_
    refine r_i2l (i := 73) rfl ?_
    refine r_iload (i := 74) (k0 := 2) rfl rfl ?_
    refine r_i2l (i := 75) rfl ?_
    refine c_S4I (i := 76) rfl sm_Pn_openingOf lk_Pn_262 (t_Pn_openingOf hn (ok_bind hF)) (Nat.le_of_ble_eq_true rfl) rfl (Nat.le_of_ble_eq_true rfl) (fun p_14 hF => ?_)
    refine r_istore (i := 77) (Ls' := [(10, _), (9, _), (8, _), (7, _), (6, _), (5, _), (4, _), (3, _), (2, _), (0, _), (1, _)]) rfl (Nat.le_of_ble_eq_true rfl) rfl ?_
    refine r_aload_n (i := 78) (k0 := 9) rfl rfl rfl ?_
    refine q_getr (b := 17) (i := 79) rfl fl_Pn_47 rfl (xm_in rfl hn) rfl rfl ?_
    refine r_bipush (v := 65) (i := 80) rfl kb_65 ?_
    refine r_iload (i := 81) (k0 := 2) rfl rfl ?_
    refine r_iload (i := 82) (k0 := 1) rfl rfl ?_
    refine r_iload (i := 83) (k0 := 6) rfl rfl ?_
    refine r_iload (i := 84) (k0 := 5) rfl rfl ?_
    refine c_N2I (i := 85) rfl sm_D_octant lk_Pn_266 (t_D_octant hn (ok_bind hF)) (Nat.le_of_ble_eq_true rfl) rfl (Nat.le_of_ble_eq_true rfl) (fun p_15 hF => ?_)
    refine r_iload (i := 86) (k0 := 4) rfl rfl ?_
    refine r_iload (i := 87) (k0 := 3) rfl rfl ?_
    refine c_N2I (i := 88) rfl sm_D_octant lk_Pn_266 (t_D_octant hn (ok_bind hF)) (Nat.le_of_ble_eq_true rfl) rfl (Nat.le_of_ble_eq_true rfl) (fun p_16 hF => ?_)
    refine r_iload (i := 89) (k0 := 0) rfl rfl ?_
    refine c_V6V (i := 90) rfl vm_Mk_add lk_Pn_74 (t_Mk_add hn (ok_bind hF)) (Nat.le_of_ble_eq_true rfl) (xm_in rfl hn) rfl rfl (Nat.le_of_ble_eq_true rfl) (fun p_17 hF => ?_)
    refine r_aload_n (i := 91) (k0 := 9) rfl rfl rfl ?_
    refine r_iload_n (i := 92) (k0 := 10) rfl rfl rfl ?_
    refine r_iload (i := 93) (k0 := 2) rfl rfl ?_
    refine r_iload (i := 94) (k0 := 1) rfl rfl ?_
    refine c_V3V (i := 95) rfl vm_Pn_anchor lk_Pn_181 (t_Pn_anchor hn (ok_bind hF)) (Nat.le_of_ble_eq_true rfl) (xm_in rfl hn) rfl rfl (Nat.le_of_ble_eq_true rfl) (fun p_18 hF => ?_)
    have hQ := hq _ (ok_some hF)
    exact r_return (i := 96) rfl rfl hQ
  have hF := ok_it hc hF
  have hQ := hq _ (ok_some hF)
  exact r_return (i := 21) rfl rfl hQ
set_option maxHeartbeats 4000000 in
set_option maxRecDepth 100000 in
theorem t_Pn_paintAngle {x1 : Int32} {n : Nat} {I : xm_I} {L : xm_L} {K : xm_I → Prop} (hn : 86 ≤ n) (hF : ok (f_Pn_paintAngle x1 I) K) : xm_C 3 mt_Pn_paintAngle [.ref 30, .int x1] (I, L, RC n, n) 0 0 (pV (fun p : xm_I => (p, L, RC n, n)) K) := by
  unfold f_Pn_paintAngle at hF
  refine xm_enter (by decide +kernel) dv_Pn_paintAngle (Nat.le_of_ble_eq_true rfl) ?_
  exact t_Pn_paintAngle_b0 hn (fun p hp => ⟨p, rfl, rfl, hp⟩) hF

noncomputable def f_Fg_squareOfSpan_b0 (x1 : Int32) (I : xm_I) : Option (Int64) :=
  (f_Fg_xOf x1 1 I).bind fun p_1 =>
  (f_Fg_xOf x1 0 I).bind fun p_2 =>
  let l2_3 : Int64 := Int32.toInt64 (p_1 - p_2)
  (f_Fg_yOf x1 1 I).bind fun p_4 =>
  (f_Fg_yOf x1 0 I).bind fun p_5 =>
  let l4_6 : Int64 := Int32.toInt64 (p_4 - p_5)
  some ((l2_3 * l2_3) + (l4_6 * l4_6))
noncomputable def f_Fg_squareOfSpan (x1 : Int32) (I : xm_I) : Option (Int64) := f_Fg_squareOfSpan_b0 x1 I
set_option maxHeartbeats 4000000 in
set_option maxRecDepth 100000 in
theorem t_Fg_squareOfSpan_b0 {x1 : Int32} {n : Nat} {I : xm_I} {L : xm_L} {K : Int64 → Prop} {Q : Option Value → xm_H → Prop} (hn : 86 ≤ n) (hq : ∀ p : Int64, K p → Q (some (.long p)) (I, L, RC n, n)) (hF : ok (f_Fg_squareOfSpan_b0 x1 I) K) : xm_J 3 mt_Fg_squareOfSpan 0 [(0, .ref 6), (1, .int x1)] [] (I, L, RC n, n) 0 0 Q := by
  unfold f_Fg_squareOfSpan_b0 at hF
  refine r_aload_n (i := 0) (k0 := 0) rfl rfl rfl ?_
  refine r_iload_n (i := 1) (k0 := 1) rfl rfl rfl ?_
  refine r_iconst (v := 1) (i := 2) rfl ki_1 ?_
  refine c_V2I (i := 3) rfl vm_Fg_xOf lk_Fg_92 (t_Fg_xOf hn (ok_bind hF)) (Nat.le_of_ble_eq_true rfl) (xm_in rfl hn) rfl rfl (Nat.le_of_ble_eq_true rfl) (fun p_1 hF => ?_)
  refine r_aload_n (i := 4) (k0 := 0) rfl rfl rfl ?_
  refine r_iload_n (i := 5) (k0 := 1) rfl rfl rfl ?_
  refine r_iconst (v := 0) (i := 6) rfl ki_0 ?_
  refine c_V2I (i := 7) rfl vm_Fg_xOf lk_Fg_92 (t_Fg_xOf hn (ok_bind hF)) (Nat.le_of_ble_eq_true rfl) (xm_in rfl hn) rfl rfl (Nat.le_of_ble_eq_true rfl) (fun p_2 hF => ?_)
  refine r_isub (i := 8) rfl ?_
  refine r_i2l (i := 9) rfl ?_
  refine r_lstore_n (i := 10) (Ls' := [(2, _), (0, _), (1, _)]) rfl rfl (Nat.le_of_ble_eq_true rfl) rfl ?_
  refine r_aload_n (i := 11) (k0 := 1) rfl rfl rfl ?_
  refine r_iload_n (i := 12) (k0 := 2) rfl rfl rfl ?_
  refine r_iconst (v := 1) (i := 13) rfl ki_1 ?_
  refine c_V2I (i := 14) rfl vm_Fg_yOf lk_Fg_96 (t_Fg_yOf hn (ok_bind hF)) (Nat.le_of_ble_eq_true rfl) (xm_in rfl hn) rfl rfl (Nat.le_of_ble_eq_true rfl) (fun p_4 hF => ?_)
  refine r_aload_n (i := 15) (k0 := 1) rfl rfl rfl ?_
  refine r_iload_n (i := 16) (k0 := 2) rfl rfl rfl ?_
  refine r_iconst (v := 0) (i := 17) rfl ki_0 ?_
  refine c_V2I (i := 18) rfl vm_Fg_yOf lk_Fg_96 (t_Fg_yOf hn (ok_bind hF)) (Nat.le_of_ble_eq_true rfl) (xm_in rfl hn) rfl rfl (Nat.le_of_ble_eq_true rfl) (fun p_5 hF => ?_)
  refine r_isub (i := 19) rfl ?_
  refine r_i2l (i := 20) rfl ?_
  refine r_lstore (i := 21) (Ls' := [(4, _), (2, _), (0, _), (1, _)]) rfl (Nat.le_of_ble_eq_true rfl) rfl ?_
  refine r_lload_n (i := 22) (k0 := 1) rfl rfl rfl ?_
  refine r_lload_n (i := 23) (k0 := 1) rfl rfl rfl ?_
  refine r_lmul (i := 24) rfl ?_
  refine r_lload (i := 25) (k0 := 0) rfl rfl ?_
  refine r_lload (i := 26) (k0 := 0) rfl rfl ?_
  refine r_lmul (i := 27) rfl ?_
  refine r_ladd (i := 28) rfl ?_
  have hQ := hq _ (ok_some hF)
  exact r_lreturn (i := 29) rfl rfl hQ
set_option maxHeartbeats 4000000 in
set_option maxRecDepth 100000 in
theorem t_Fg_squareOfSpan {x1 : Int32} {n : Nat} {I : xm_I} {L : xm_L} {K : Int64 → Prop} (hn : 86 ≤ n) (hF : ok (f_Fg_squareOfSpan x1 I) K) : xm_C 3 mt_Fg_squareOfSpan [.ref 6, .int x1] (I, L, RC n, n) 0 0 (pL (fun p : Int64 => p) (fun p : Int64 => (I, L, RC n, n)) K) := by
  unfold f_Fg_squareOfSpan at hF
  refine xm_enter (by decide +kernel) dv_Fg_squareOfSpan (Nat.le_of_ble_eq_true rfl) ?_
  exact t_Fg_squareOfSpan_b0 hn (fun p hp => ⟨p, rfl, rfl, hp⟩) hF

noncomputable def f_Fr_holdsCircle_b0 (x1 : Int32) (x2 : Int32) (l3 : Int64) (I : xm_I) : Option (Int32) :=
  (f_Jm_min_I (x1 - (I 14 0)) ((I 14 1) - x1)).bind fun p_1 =>
  (f_Jm_min_I (x2 - (I 14 2)) ((I 14 3) - x2)).bind fun p_2 =>
  (f_Jm_min_I p_1 p_2).bind fun p_3 =>
  let l5_4 : Int64 := Int32.toInt64 p_3
  if l5_4 < 0 then (
    some (0))
  else (
  if (l5_4 * l5_4) < l3 then (
    some (0))
  else (
  some (1)))
noncomputable def f_Fr_holdsCircle (x1 : Int32) (x2 : Int32) (l3 : Int64) (I : xm_I) : Option (Int32) := f_Fr_holdsCircle_b0 x1 x2 l3 I
set_option maxHeartbeats 4000000 in
set_option maxRecDepth 100000 in
theorem t_Fr_holdsCircle_b0 {x1 : Int32} {x2 : Int32} {l3 : Int64} {n : Nat} {I : xm_I} {L : xm_L} {K : Int32 → Prop} {Q : Option Value → xm_H → Prop} (hn : 86 ≤ n) (hq : ∀ p : Int32, K p → Q (some (.int p)) (I, L, RC n, n)) (hF : ok (f_Fr_holdsCircle_b0 x1 x2 l3 I) K) : xm_J 1 mt_Fr_holdsCircle 0 [(0, .ref 14), (1, .int x1), (2, .int x2), (3, .long l3)] [] (I, L, RC n, n) 0 0 Q := by
  unfold f_Fr_holdsCircle_b0 at hF
  refine r_iload_n (i := 0) (k0 := 1) rfl rfl rfl ?_
  refine r_aload_n (i := 1) (k0 := 0) rfl rfl rfl ?_
  refine q_geti (i := 2) rfl fl_Fr_7 (xm_in rfl hn) rfl ?_
  refine r_isub (i := 3) rfl ?_
  refine r_aload_n (i := 4) (k0 := 0) rfl rfl rfl ?_
  refine q_geti (i := 5) rfl fl_Fr_13 (xm_in rfl hn) rfl ?_
  refine r_iload_n (i := 6) (k0 := 1) rfl rfl rfl ?_
  refine r_isub (i := 7) rfl ?_
  refine c_S2I (i := 8) rfl sm_Jm_min_I lk_Fr_83 (t_Jm_min_I hn (ok_bind hF)) (Nat.le_of_ble_eq_true rfl) rfl (Nat.le_of_ble_eq_true rfl) (fun p_1 hF => ?_)
  refine r_iload_n (i := 9) (k0 := 2) rfl rfl rfl ?_
  refine r_aload_n (i := 10) (k0 := 0) rfl rfl rfl ?_
  refine q_geti (i := 11) rfl fl_Fr_16 (xm_in rfl hn) rfl ?_
  refine r_isub (i := 12) rfl ?_
  refine r_aload_n (i := 13) (k0 := 0) rfl rfl rfl ?_
  refine q_geti (i := 14) rfl fl_Fr_19 (xm_in rfl hn) rfl ?_
  refine r_iload_n (i := 15) (k0 := 2) rfl rfl rfl ?_
  refine r_isub (i := 16) rfl ?_
  refine c_S2I (i := 17) rfl sm_Jm_min_I lk_Fr_83 (t_Jm_min_I hn (ok_bind hF)) (Nat.le_of_ble_eq_true rfl) rfl (Nat.le_of_ble_eq_true rfl) (fun p_2 hF => ?_)
  refine c_S2I (i := 18) rfl sm_Jm_min_I lk_Fr_83 (t_Jm_min_I hn (ok_bind hF)) (Nat.le_of_ble_eq_true rfl) rfl (Nat.le_of_ble_eq_true rfl) (fun p_3 hF => ?_)
  refine r_i2l (i := 19) rfl ?_
  refine r_lstore (i := 20) (Ls' := [(5, _), (0, _), (1, _), (2, _), (3, _)]) rfl (Nat.le_of_ble_eq_true rfl) rfl ?_
  refine r_lload (i := 21) (k0 := 0) rfl rfl ?_
  refine r_lconst (v := 0) (i := 22) rfl rfl ?_
  refine r_lcmplt (i := 23) (j := 24) (tgt := 57) rfl rfl (by decide) (fun hc => ?_) (fun hc => ?_)
  · have hF := ok_it hc hF
    refine r_iconst (v := 0) (i := 33) rfl ki_0 ?_
    have hQ := hq _ (ok_some hF)
    exact r_ireturn (i := 34) rfl rfl rfl hQ
  have hF := ok_if hc hF
  refine r_lload (i := 25) (k0 := 0) rfl rfl ?_
  refine r_lload (i := 26) (k0 := 0) rfl rfl ?_
  refine r_lmul (i := 27) rfl ?_
  refine r_lload_n (i := 28) (k0 := 4) rfl rfl rfl ?_
  refine r_lcmplt (i := 29) (j := 30) (tgt := 57) rfl rfl (by decide) (fun hc => ?_) (fun hc => ?_)
  · have hF := ok_it hc hF
    refine r_iconst (v := 0) (i := 33) rfl ki_0 ?_
    have hQ := hq _ (ok_some hF)
    exact r_ireturn (i := 34) rfl rfl rfl hQ
  have hF := ok_if hc hF
  refine r_iconst (v := 1) (i := 31) rfl ki_1 ?_
  refine r_goto (i := 32) (tgt := 58) rfl (by decide) ?_
  have hQ := hq _ (ok_some hF)
  exact r_ireturn (i := 34) rfl rfl rfl hQ
set_option maxHeartbeats 4000000 in
set_option maxRecDepth 100000 in
theorem t_Fr_holdsCircle {x1 : Int32} {x2 : Int32} {l3 : Int64} {n : Nat} {I : xm_I} {L : xm_L} {K : Int32 → Prop} (hn : 86 ≤ n) (hF : ok (f_Fr_holdsCircle x1 x2 l3 I) K) : xm_C 1 mt_Fr_holdsCircle [.ref 14, .int x1, .int x2, .long l3] (I, L, RC n, n) 0 0 (pI (fun p : Int32 => p) (fun p : Int32 => (I, L, RC n, n)) K) := by
  unfold f_Fr_holdsCircle at hF
  refine xm_enter (by decide +kernel) dv_Fr_holdsCircle (Nat.le_of_ble_eq_true rfl) ?_
  exact t_Fr_holdsCircle_b0 hn (fun p hp => ⟨p, rfl, rfl, hp⟩) hF

noncomputable def f_Jm_abs_I_b0 (x0 : Int32) : Option (Int32) :=
  if 0 ≤ x0 then (
    some (x0))
  else (
  some (-x0))
noncomputable def f_Jm_abs_I (x0 : Int32) : Option (Int32) := f_Jm_abs_I_b0 x0
set_option maxHeartbeats 4000000 in
set_option maxRecDepth 100000 in
theorem t_Jm_abs_I_b0 {x0 : Int32} {n : Nat} {I : xm_I} {L : xm_L} {K : Int32 → Prop} {Q : Option Value → xm_H → Prop} (hn : 86 ≤ n) (hq : ∀ p : Int32, K p → Q (some (.int p)) (I, L, RC n, n)) (hF : ok (f_Jm_abs_I_b0 x0) K) : xm_J 0 mt_Jm_abs_I 0 [(0, .int x0)] [] (I, L, RC n, n) 0 0 Q := by
  unfold f_Jm_abs_I_b0 at hF
  refine r_iload_n (i := 0) (k0 := 0) rfl rfl rfl ?_
  refine r_ifge (i := 1) (tgt := 9) rfl (by decide) (fun hc => ?_) (fun hc => ?_)
  · have hF := ok_it hc hF
    refine r_iload_n (i := 5) (k0 := 0) rfl rfl rfl ?_
    have hQ := hq _ (ok_some hF)
    exact r_ireturn (i := 6) rfl rfl rfl hQ
  have hF := ok_if hc hF
  refine r_iload_n (i := 2) (k0 := 0) rfl rfl rfl ?_
  refine r_ineg (i := 3) rfl ?_
  refine r_goto (i := 4) (tgt := 10) rfl (by decide) ?_
  have hQ := hq _ (ok_some hF)
  exact r_ireturn (i := 6) rfl rfl rfl hQ
set_option maxHeartbeats 4000000 in
set_option maxRecDepth 100000 in
theorem t_Jm_abs_I {x0 : Int32} {n : Nat} {I : xm_I} {L : xm_L} {K : Int32 → Prop} (hn : 86 ≤ n) (hF : ok (f_Jm_abs_I x0) K) : xm_C 0 mt_Jm_abs_I [.int x0] (I, L, RC n, n) 0 0 (pI (fun p : Int32 => p) (fun p : Int32 => (I, L, RC n, n)) K) := by
  unfold f_Jm_abs_I at hF
  refine xm_enter (by decide +kernel) dv_Jm_abs_I (Nat.le_of_ble_eq_true rfl) ?_
  exact t_Jm_abs_I_b0 hn (fun p hp => ⟨p, rfl, rfl, hp⟩) hF

noncomputable def f_Fr_meetsCircle_b0 (x1 : Int32) (x2 : Int32) (l3 : Int64) (I : xm_I) : Option (Int32) :=
  (f_Jm_max_I ((I 14 0) - x1) (x1 - (I 14 1))).bind fun p_1 =>
  (f_Jm_max_I 0 p_1).bind fun p_2 =>
  let l5_3 : Int64 := Int32.toInt64 p_2
  (f_Jm_max_I ((I 14 2) - x2) (x2 - (I 14 3))).bind fun p_4 =>
  (f_Jm_max_I 0 p_4).bind fun p_5 =>
  let l7_6 : Int64 := Int32.toInt64 p_5
  (f_Jm_abs_I (x1 - (I 14 0))).bind fun p_7 =>
  (f_Jm_abs_I ((I 14 1) - x1)).bind fun p_8 =>
  (f_Jm_max_I p_7 p_8).bind fun p_9 =>
  let l9_10 : Int64 := Int32.toInt64 p_9
  (f_Jm_abs_I (x2 - (I 14 2))).bind fun p_11 =>
  (f_Jm_abs_I ((I 14 3) - x2)).bind fun p_12 =>
  (f_Jm_max_I p_11 p_12).bind fun p_13 =>
  let l11_14 : Int64 := Int32.toInt64 p_13
  if l3 < ((l5_3 * l5_3) + (l7_6 * l7_6)) then (
    some (0))
  else (
  if ((l9_10 * l9_10) + (l11_14 * l11_14)) < l3 then (
    some (0))
  else (
  some (1)))
noncomputable def f_Fr_meetsCircle (x1 : Int32) (x2 : Int32) (l3 : Int64) (I : xm_I) : Option (Int32) := f_Fr_meetsCircle_b0 x1 x2 l3 I
set_option maxHeartbeats 4000000 in
set_option maxRecDepth 100000 in
theorem t_Fr_meetsCircle_b0 {x1 : Int32} {x2 : Int32} {l3 : Int64} {n : Nat} {I : xm_I} {L : xm_L} {K : Int32 → Prop} {Q : Option Value → xm_H → Prop} (hn : 86 ≤ n) (hq : ∀ p : Int32, K p → Q (some (.int p)) (I, L, RC n, n)) (hF : ok (f_Fr_meetsCircle_b0 x1 x2 l3 I) K) : xm_J 1 mt_Fr_meetsCircle 0 [(0, .ref 14), (1, .int x1), (2, .int x2), (3, .long l3)] [] (I, L, RC n, n) 0 0 Q := by
  unfold f_Fr_meetsCircle_b0 at hF
  refine r_iconst (v := 0) (i := 0) rfl ki_0 ?_
  refine r_aload_n (i := 1) (k0 := 0) rfl rfl rfl ?_
  refine q_geti (i := 2) rfl fl_Fr_7 (xm_in rfl hn) rfl ?_
  refine r_iload_n (i := 3) (k0 := 1) rfl rfl rfl ?_
  refine r_isub (i := 4) rfl ?_
  refine r_iload_n (i := 5) (k0 := 1) rfl rfl rfl ?_
  refine r_aload_n (i := 6) (k0 := 0) rfl rfl rfl ?_
  refine q_geti (i := 7) rfl fl_Fr_13 (xm_in rfl hn) rfl ?_
  refine r_isub (i := 8) rfl ?_
  refine c_S2I (i := 9) rfl sm_Jm_max_I lk_Fr_73 (t_Jm_max_I hn (ok_bind hF)) (Nat.le_of_ble_eq_true rfl) rfl (Nat.le_of_ble_eq_true rfl) (fun p_1 hF => ?_)
  refine c_S2I (i := 10) rfl sm_Jm_max_I lk_Fr_73 (t_Jm_max_I hn (ok_bind hF)) (Nat.le_of_ble_eq_true rfl) rfl (Nat.le_of_ble_eq_true rfl) (fun p_2 hF => ?_)
  refine r_i2l (i := 11) rfl ?_
  refine r_lstore (i := 12) (Ls' := [(5, _), (0, _), (1, _), (2, _), (3, _)]) rfl (Nat.le_of_ble_eq_true rfl) rfl ?_
  refine r_iconst (v := 0) (i := 13) rfl ki_0 ?_
  refine r_aload_n (i := 14) (k0 := 1) rfl rfl rfl ?_
  refine q_geti (i := 15) rfl fl_Fr_16 (xm_in rfl hn) rfl ?_
  refine r_iload_n (i := 16) (k0 := 3) rfl rfl rfl ?_
  refine r_isub (i := 17) rfl ?_
  refine r_iload_n (i := 18) (k0 := 3) rfl rfl rfl ?_
  refine r_aload_n (i := 19) (k0 := 1) rfl rfl rfl ?_
  refine q_geti (i := 20) rfl fl_Fr_19 (xm_in rfl hn) rfl ?_
  refine r_isub (i := 21) rfl ?_
  refine c_S2I (i := 22) rfl sm_Jm_max_I lk_Fr_73 (t_Jm_max_I hn (ok_bind hF)) (Nat.le_of_ble_eq_true rfl) rfl (Nat.le_of_ble_eq_true rfl) (fun p_4 hF => ?_)
  refine c_S2I (i := 23) rfl sm_Jm_max_I lk_Fr_73 (t_Jm_max_I hn (ok_bind hF)) (Nat.le_of_ble_eq_true rfl) rfl (Nat.le_of_ble_eq_true rfl) (fun p_5 hF => ?_)
  refine r_i2l (i := 24) rfl ?_
  refine r_lstore (i := 25) (Ls' := [(7, _), (5, _), (0, _), (1, _), (2, _), (3, _)]) rfl (Nat.le_of_ble_eq_true rfl) rfl ?_
  refine r_iload_n (i := 26) (k0 := 3) rfl rfl rfl ?_
  refine r_aload_n (i := 27) (k0 := 2) rfl rfl rfl ?_
  refine q_geti (i := 28) rfl fl_Fr_7 (xm_in rfl hn) rfl ?_
  refine r_isub (i := 29) rfl ?_
  refine c_S1I (i := 30) rfl sm_Jm_abs_I lk_Fr_79 (t_Jm_abs_I hn (ok_bind hF)) (Nat.le_of_ble_eq_true rfl) rfl (Nat.le_of_ble_eq_true rfl) (fun p_7 hF => ?_)
  refine r_aload_n (i := 31) (k0 := 2) rfl rfl rfl ?_
  refine q_geti (i := 32) rfl fl_Fr_13 (xm_in rfl hn) rfl ?_
  refine r_iload_n (i := 33) (k0 := 3) rfl rfl rfl ?_
  refine r_isub (i := 34) rfl ?_
  refine c_S1I (i := 35) rfl sm_Jm_abs_I lk_Fr_79 (t_Jm_abs_I hn (ok_bind hF)) (Nat.le_of_ble_eq_true rfl) rfl (Nat.le_of_ble_eq_true rfl) (fun p_8 hF => ?_)
  refine c_S2I (i := 36) rfl sm_Jm_max_I lk_Fr_73 (t_Jm_max_I hn (ok_bind hF)) (Nat.le_of_ble_eq_true rfl) rfl (Nat.le_of_ble_eq_true rfl) (fun p_9 hF => ?_)
  refine r_i2l (i := 37) rfl ?_
  refine r_lstore (i := 38) (Ls' := [(9, _), (7, _), (5, _), (0, _), (1, _), (2, _), (3, _)]) rfl (Nat.le_of_ble_eq_true rfl) rfl ?_
  refine r_iload_n (i := 39) (k0 := 5) rfl rfl rfl ?_
  refine r_aload_n (i := 40) (k0 := 3) rfl rfl rfl ?_
  refine q_geti (i := 41) rfl fl_Fr_16 (xm_in rfl hn) rfl ?_
  refine r_isub (i := 42) rfl ?_
  refine c_S1I (i := 43) rfl sm_Jm_abs_I lk_Fr_79 (t_Jm_abs_I hn (ok_bind hF)) (Nat.le_of_ble_eq_true rfl) rfl (Nat.le_of_ble_eq_true rfl) (fun p_11 hF => ?_)
  refine r_aload_n (i := 44) (k0 := 3) rfl rfl rfl ?_
  refine q_geti (i := 45) rfl fl_Fr_19 (xm_in rfl hn) rfl ?_
  refine r_iload_n (i := 46) (k0 := 5) rfl rfl rfl ?_
  refine r_isub (i := 47) rfl ?_
  refine c_S1I (i := 48) rfl sm_Jm_abs_I lk_Fr_79 (t_Jm_abs_I hn (ok_bind hF)) (Nat.le_of_ble_eq_true rfl) rfl (Nat.le_of_ble_eq_true rfl) (fun p_12 hF => ?_)
  refine c_S2I (i := 49) rfl sm_Jm_max_I lk_Fr_73 (t_Jm_max_I hn (ok_bind hF)) (Nat.le_of_ble_eq_true rfl) rfl (Nat.le_of_ble_eq_true rfl) (fun p_13 hF => ?_)
  refine r_i2l (i := 50) rfl ?_
  refine r_lstore (i := 51) (Ls' := [(11, _), (9, _), (7, _), (5, _), (0, _), (1, _), (2, _), (3, _)]) rfl (Nat.le_of_ble_eq_true rfl) rfl ?_
  refine r_lload (i := 52) (k0 := 3) rfl rfl ?_
  refine r_lload (i := 53) (k0 := 3) rfl rfl ?_
  refine r_lmul (i := 54) rfl ?_
  refine r_lload (i := 55) (k0 := 2) rfl rfl ?_
  refine r_lload (i := 56) (k0 := 2) rfl rfl ?_
  refine r_lmul (i := 57) rfl ?_
  refine r_ladd (i := 58) rfl ?_
  refine r_lload_n (i := 59) (k0 := 7) rfl rfl rfl ?_
  refine r_lcmpgt (i := 60) (j := 61) (tgt := 128) rfl rfl (by decide) (fun hc => ?_) (fun hc => ?_)
  · have hF := ok_it hc hF
    refine r_iconst (v := 0) (i := 74) rfl ki_0 ?_
    have hQ := hq _ (ok_some hF)
    exact r_ireturn (i := 75) rfl rfl rfl hQ
  have hF := ok_if hc hF
  refine r_lload_n (i := 62) (k0 := 7) rfl rfl rfl ?_
  refine r_lload (i := 63) (k0 := 1) rfl rfl ?_
  refine r_lload (i := 64) (k0 := 1) rfl rfl ?_
  refine r_lmul (i := 65) rfl ?_
  refine r_lload (i := 66) (k0 := 0) rfl rfl ?_
  refine r_lload (i := 67) (k0 := 0) rfl rfl ?_
  refine r_lmul (i := 68) rfl ?_
  refine r_ladd (i := 69) rfl ?_
  refine r_lcmpgt (i := 70) (j := 71) (tgt := 128) rfl rfl (by decide) (fun hc => ?_) (fun hc => ?_)
  · have hF := ok_it hc hF
    refine r_iconst (v := 0) (i := 74) rfl ki_0 ?_
    have hQ := hq _ (ok_some hF)
    exact r_ireturn (i := 75) rfl rfl rfl hQ
  have hF := ok_if hc hF
  refine r_iconst (v := 1) (i := 72) rfl ki_1 ?_
  refine r_goto (i := 73) (tgt := 129) rfl (by decide) ?_
  have hQ := hq _ (ok_some hF)
  exact r_ireturn (i := 75) rfl rfl rfl hQ
set_option maxHeartbeats 4000000 in
set_option maxRecDepth 100000 in
theorem t_Fr_meetsCircle {x1 : Int32} {x2 : Int32} {l3 : Int64} {n : Nat} {I : xm_I} {L : xm_L} {K : Int32 → Prop} (hn : 86 ≤ n) (hF : ok (f_Fr_meetsCircle x1 x2 l3 I) K) : xm_C 1 mt_Fr_meetsCircle [.ref 14, .int x1, .int x2, .long l3] (I, L, RC n, n) 0 0 (pI (fun p : Int32 => p) (fun p : Int32 => (I, L, RC n, n)) K) := by
  unfold f_Fr_meetsCircle at hF
  refine xm_enter (by decide +kernel) dv_Fr_meetsCircle (Nat.le_of_ble_eq_true rfl) ?_
  exact t_Fr_meetsCircle_b0 hn (fun p hp => ⟨p, rfl, rfl, hp⟩) hF
