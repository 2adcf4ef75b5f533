/-! ===== turned: D_squareRoot Fr_sheetLength Pn_paintCircle Pn_paintDot Cu_endNotBehind Cu_startNotBefore Cu_cutAxis Cu_cut Cu_firstX Cu_firstY Cu_lastX Cu_lastY Cu_setWay Pn_paintStraight Fg_strokesOf Pn_paintTicks Pn_paintOther Pn_paintOthers So_acrossOf So_risingOf Pn_paintEdge Pn_paintSolid ===== -/
noncomputable def f_D_squareRoot_b32 (l0 : Int64) (l2 : Int64) (x4 : Int32) : Option ((Int64 × Int32) ⊕ (Int64)) :=
  let x4_1 : Int32 := x4 + (-1)
  some (.inl (l2, x4_1))
noncomputable def f_D_squareRoot_s6 (l0 : Int64) (s : Int64 × Int32) : Option ((Int64 × Int32) ⊕ (Int64)) :=
  if s.2 < 0 then (
    some (.inr (s.1)))
  else (
  let l5_1 : Int64 := s.1 + (1 <<< (Int32.toInt64 s.2 &&& 63))
  if l0 < (l5_1 * l5_1) then (
    f_D_squareRoot_b32 l0 s.1 s.2)
  else (
  f_D_squareRoot_b32 l0 l5_1 s.2))
noncomputable def f_D_squareRoot_b6 (l0 : Int64) (s : Int64 × Int32) : Option (Int64) := lp (f_D_squareRoot_s6 l0) s
noncomputable def f_D_squareRoot_b0 (l0 : Int64) : Option (Int64) :=
  f_D_squareRoot_b6 l0 (0, 30)
noncomputable def f_D_squareRoot (l0 : Int64) : Option (Int64) := f_D_squareRoot_b0 l0
set_option maxHeartbeats 4000000 in
set_option maxRecDepth 100000 in
theorem t_D_squareRoot_b32 {l0 : Int64} {l2 : Int64} {x4 : Int32} {n : Nat} {I : xm_I} {L : xm_L} {K : (Int64 × Int32) ⊕ (Int64) → Prop} {Q : Option Value → xm_H → Prop} (hn : 86 ≤ n) (hq : ∀ p : Int64, K (.inr p) → Q (some (.long p)) (I, L, RC n, n)) (hg0 : ∀ s : Int64 × Int32, K (.inl s) → xm_J 0 mt_D_squareRoot 6 [(0, .long l0), (2, .long s.1), (4, .int s.2)] [] (I, L, RC n, n) 0 0 Q) (hF : ok (f_D_squareRoot_b32 l0 l2 x4) K) : xm_J 0 mt_D_squareRoot 32 [(0, .long l0), (2, .long l2), (4, .int x4)] [] (I, L, RC n, n) 0 0 Q := by
  unfold f_D_squareRoot_b32 at hF
  refine q_iinc (i := 20) (k0 := 2) (Ls' := [(4, _), (0, _), (2, _)]) rfl ki_m1 rfl (Nat.le_of_ble_eq_true rfl) rfl ?_
  refine r_goto (i := 21) (tgt := 6) rfl (by decide) ?_
  refine xm_sub (Ls' := [(0, _), (2, _), (4, _)]) [1, 2, 0] rfl ?_
  have hJ := hg0 _ (ok_some hF)
  exact hJ
set_option maxHeartbeats 4000000 in
set_option maxRecDepth 100000 in
theorem t_D_squareRoot_s6 {l0 : Int64} {s : Int64 × Int32} {n : Nat} {I : xm_I} {L : xm_L} {K : (Int64 × Int32) ⊕ (Int64) → Prop} {Q : Option Value → xm_H → Prop} (hn : 86 ≤ n) (hq : ∀ p : Int64, K (.inr p) → Q (some (.long p)) (I, L, RC n, n)) (hg0 : ∀ s : Int64 × Int32, K (.inl s) → xm_J 0 mt_D_squareRoot 6 [(0, .long l0), (2, .long s.1), (4, .int s.2)] [] (I, L, RC n, n) 0 0 Q) (hF : ok (f_D_squareRoot_s6 l0 s) K) : xm_J 0 mt_D_squareRoot 6 [(0, .long l0), (2, .long s.1), (4, .int s.2)] [] (I, L, RC n, n) 0 0 Q := by
  unfold f_D_squareRoot_s6 at hF
  refine r_iload (i := 4) (k0 := 2) rfl rfl ?_
  refine r_iflt (i := 5) (tgt := 38) rfl (by decide) (fun hc => ?_) (fun hc => ?_)
  · have hF := ok_it hc hF
    refine r_lload_n (i := 22) (k0 := 1) rfl rfl rfl ?_
    have hQ := hq _ (ok_some hF)
    exact r_lreturn (i := 23) rfl rfl hQ
  have hF := ok_if hc hF
  refine r_lload_n (i := 6) (k0 := 1) rfl rfl rfl ?_
  refine r_lconst (v := 1) (i := 7) rfl rfl ?_
  refine r_iload (i := 8) (k0 := 2) rfl rfl ?_
  refine r_lshl (i := 9) rfl ?_
  refine r_ladd (i := 10) rfl ?_
  refine r_lstore (i := 11) (Ls' := [(5, _), (0, _), (2, _), (4, _)]) rfl (Nat.le_of_ble_eq_true rfl) rfl ?_
  refine r_lload (i := 12) (k0 := 0) rfl rfl ?_
  refine r_lload (i := 13) (k0 := 0) rfl rfl ?_
  refine r_lmul (i := 14) rfl ?_
  refine r_lload_n (i := 15) (k0 := 1) rfl rfl rfl ?_
  refine r_lcmpgt (i := 16) (j := 17) (tgt := 32) rfl rfl (by decide) (fun hc => ?_) (fun hc => ?_)
  · have hF := ok_it hc hF
    refine xm_sub (Ls' := [(0, _), (2, _), (4, _)]) [1, 2, 3] rfl ?_
    exact t_D_squareRoot_b32 hn (fun p h => hq p h) (fun z h => hg0 z h) hF
  have hF := ok_if hc hF
  refine r_lload (i := 18) (k0 := 0) rfl rfl ?_
  refine r_lstore_n (i := 19) (Ls' := [(2, _), (5, _), (0, _), (4, _)]) rfl rfl (Nat.le_of_ble_eq_true rfl) rfl ?_
  refine xm_sub (Ls' := [(0, _), (2, _), (4, _)]) [2, 0, 3] rfl ?_
  exact t_D_squareRoot_b32 hn (fun p h => hq p h) (fun z h => hg0 z h) hF
set_option maxHeartbeats 4000000 in
set_option maxRecDepth 100000 in
theorem t_D_squareRoot_b6 {l0 : Int64} {s : Int64 × Int32} {n : Nat} {I : xm_I} {L : xm_L} {K : Int64 → Prop} {Q : Option Value → xm_H → Prop} (hn : 86 ≤ n) (hq : ∀ p : Int64, K p → Q (some (.long p)) (I, L, RC n, n)) (hF : ok (f_D_squareRoot_b6 l0 s) K) : xm_J 0 mt_D_squareRoot 6 [(0, .long l0), (2, .long s.1), (4, .int s.2)] [] (I, L, RC n, n) 0 0 Q :=
  lp_J (G := fun z => xm_J 0 mt_D_squareRoot 6 [(0, .long l0), (2, .long z.1), (4, .int z.2)] [] (I, L, RC n, n) 0 0 Q) (fun z hF => t_D_squareRoot_s6 hn (fun p h => hq p h) (fun z h => h) hF) s hF
set_option maxHeartbeats 4000000 in
set_option maxRecDepth 100000 in
theorem t_D_squareRoot_b0 {l0 : Int64} {n : Nat} {I : xm_I} {L : xm_L} {K : Int64 → Prop} {Q : Option Value → xm_H → Prop} (hn : 86 ≤ n) (hq : ∀ p : Int64, K p → Q (some (.long p)) (I, L, RC n, n)) (hF : ok (f_D_squareRoot_b0 l0) K) : xm_J 0 mt_D_squareRoot 0 [(0, .long l0)] [] (I, L, RC n, n) 0 0 Q := by
  unfold f_D_squareRoot_b0 at hF
  refine r_lconst (v := 0) (i := 0) rfl rfl ?_
  refine r_lstore_n (i := 1) (Ls' := [(2, _), (0, _)]) rfl rfl (Nat.le_of_ble_eq_true rfl) rfl ?_
  refine r_bipush (v := 30) (i := 2) rfl kb_30 ?_
  refine r_istore (i := 3) (Ls' := [(4, _), (2, _), (0, _)]) rfl (Nat.le_of_ble_eq_true rfl) rfl ?_
  refine xm_sub (Ls' := [(0, _), (2, _), (4, _)]) [2, 1, 0] rfl ?_
  exact t_D_squareRoot_b6 hn (fun p h => hq p h) hF
set_option maxHeartbeats 4000000 in
set_option maxRecDepth 100000 in
theorem t_D_squareRoot {l0 : Int64} {n : Nat} {I : xm_I} {L : xm_L} {K : Int64 → Prop} (hn : 86 ≤ n) (hF : ok (f_D_squareRoot l0) K) : xm_C 0 mt_D_squareRoot [.long l0] (I, L, RC n, n) 0 0 (pL (fun p : Int64 => p) (fun p : Int64 => (I, L, RC n, n)) K) := by
  unfold f_D_squareRoot at hF
  refine xm_enter (by decide +kernel) dv_D_squareRoot (Nat.le_of_ble_eq_true rfl) ?_
  exact t_D_squareRoot_b0 hn (fun p hp => ⟨p, rfl, rfl, hp⟩) hF

noncomputable def f_Fr_sheetLength_b0 (l1 : Int64) (I : xm_I) : Option (Int32) :=
  if 0 < (I 14 10) then (
    gd (¬ ((Int32.toInt64 (I 14 10)) * (Int32.toInt64 (I 14 10))) = 0) <|
    (f_D_squareRoot ((((4 * (Int32.toInt64 (I 14 9))) * (Int32.toInt64 (I 14 9))) * l1) / ((Int32.toInt64 (I 14 10)) * (Int32.toInt64 (I 14 10))))).bind fun p_1 =>
    some (Int64.toInt32 ((p_1 + 1) / 2)))
  else (
  some (0))
noncomputable def f_Fr_sheetLength (l1 : Int64) (I : xm_I) : Option (Int32) := f_Fr_sheetLength_b0 l1 I
set_option maxHeartbeats 4000000 in
set_option maxRecDepth 100000 in
theorem t_Fr_sheetLength_b0 {l1 : Int64} {n : Nat} {I : xm_I} {L : xm_L} {K : Int32 → Prop} {Q : Option Value → xm_H → Prop} (hn : 86 ≤ n) (hq : ∀ p : Int32, K p → Q (some (.int p)) (I, L, RC n, n)) (hF : ok (f_Fr_sheetLength_b0 l1 I) K) : xm_J 1 mt_Fr_sheetLength 0 [(0, .ref 14), (1, .long l1)] [] (I, L, RC n, n) 0 0 Q := by
  unfold f_Fr_sheetLength_b0 at hF
  refine r_aload_n (i := 0) (k0 := 0) rfl rfl rfl ?_
  refine q_geti (i := 1) rfl fl_Fr_40 (xm_in rfl hn) rfl ?_
  refine r_ifgt (i := 2) (tgt := 9) rfl (by decide) (fun hc => ?_) (fun hc => ?_)
  · have hF := ok_it hc hF
    refine r_ldc2 (i := 5) rfl ct_Fr_68 ?_
    refine r_aload_n (i := 6) (k0 := 0) rfl rfl rfl ?_
    refine q_geti (i := 7) rfl fl_Fr_37 (xm_in rfl hn) rfl ?_
    refine r_i2l (i := 8) rfl ?_
    refine r_lmul (i := 9) rfl ?_
    refine r_aload_n (i := 10) (k0 := 0) rfl rfl rfl ?_
    refine q_geti (i := 11) rfl fl_Fr_37 (xm_in rfl hn) rfl ?_
    refine r_i2l (i := 12) rfl ?_
    refine r_lmul (i := 13) rfl ?_
    refine r_lload_n (i := 14) (k0 := 1) rfl rfl rfl ?_
    refine r_lmul (i := 15) rfl ?_
    refine r_aload_n (i := 16) (k0 := 0) rfl rfl rfl ?_
    refine q_geti (i := 17) rfl fl_Fr_40 (xm_in rfl hn) rfl ?_
    refine r_i2l (i := 18) rfl ?_
    refine r_aload_n (i := 19) (k0 := 0) rfl rfl rfl ?_
    refine q_geti (i := 20) rfl fl_Fr_40 (xm_in rfl hn) rfl ?_
    refine r_i2l (i := 21) rfl ?_
    refine r_lmul (i := 22) rfl ?_
    obtain ⟨hi, hF⟩ := ok_gd hF
    refine r_ldiv (i := 23) rfl hi ?_
    refine c_N1L (i := 24) rfl sm_D_squareRoot lk_Fr_70 (t_D_squareRoot hn (ok_bind hF)) (Nat.le_of_ble_eq_true rfl) rfl (Nat.le_of_ble_eq_true rfl) (fun p_1 hF => ?_)
    refine r_lstore_n (i := 25) (Ls' := [(3, _), (0, _), (1, _)]) rfl rfl (Nat.le_of_ble_eq_true rfl) rfl ?_
    refine r_lload_n (i := 26) (k0 := 0) rfl rfl rfl ?_
    refine r_lconst (v := 1) (i := 27) rfl rfl ?_
    refine r_ladd (i := 28) rfl ?_
    refine r_ldc2 (i := 29) rfl ct_Fr_52 ?_
    refine r_ldiv (i := 30) rfl (by decide) ?_
    refine r_l2i (i := 31) rfl ?_
    have hQ := hq _ (ok_some hF)
    exact r_ireturn (i := 32) rfl rfl rfl hQ
  have hF := ok_if hc hF
  refine r_iconst (v := 0) (i := 3) rfl ki_0 ?_
  have hQ := hq _ (ok_some hF)
  exact r_ireturn (i := 4) rfl rfl rfl hQ
set_option maxHeartbeats 4000000 in
set_option maxRecDepth 100000 in
theorem t_Fr_sheetLength {l1 : Int64} {n : Nat} {I : xm_I} {L : xm_L} {K : Int32 → Prop} (hn : 86 ≤ n) (hF : ok (f_Fr_sheetLength l1 I) K) : xm_C 1 mt_Fr_sheetLength [.ref 14, .long l1] (I, L, RC n, n) 0 0 (pI (fun p : Int32 => p) (fun p : Int32 => (I, L, RC n, n)) K) := by
  unfold f_Fr_sheetLength at hF
  refine xm_enter (by decide +kernel) dv_Fr_sheetLength (Nat.le_of_ble_eq_true rfl) ?_
  exact t_Fr_sheetLength_b0 hn (fun p hp => ⟨p, rfl, rfl, hp⟩) hF

noncomputable def f_Pn_paintCircle_b99 (x1 : Int32) (x6 : Int32) (x7 : Int32) (x8 : Int32) (y0 : Int32) (I : xm_I) : Option (xm_I) :=
  (f_Fg_styleOf x1 I).bind fun p_1 =>
  (f_Mk_add 67 x6 x7 x8 y0 p_1 I).bind fun p_2 =>
  (f_Pn_anchor x1 x6 (x7 - x8) p_2).bind fun p_3 =>
  some (p_3)
noncomputable def f_Pn_paintCircle_b0 (x1 : Int32) (I : xm_I) : Option (xm_I) :=
  (f_Fg_xOf x1 0 I).bind fun p_1 =>
  (f_Fg_yOf x1 0 I).bind fun p_2 =>
  (f_Fg_squareOfSpan x1 I).bind fun p_3 =>
  (f_Fr_meetsCircle p_1 p_2 p_3 I).bind fun p_4 =>
  if p_4 = 0 then (
    some (I))
  else (
    (f_Fr_sheetX (Int32.toInt64 p_1) 1 I).bind fun p_5 =>
    (f_Fr_sheetY (Int32.toInt64 p_2) 1 I).bind fun p_6 =>
    (f_Fr_sheetLength p_3 I).bind fun p_7 =>
    (f_Fr_holdsCircle p_1 p_2 p_3 I).bind fun p_8 =>
    if p_8 = 0 then (
      f_Pn_paintCircle_b99 x1 p_5 p_6 p_7 1 I)
    else (
    f_Pn_paintCircle_b99 x1 p_5 p_6 p_7 0 I))
noncomputable def f_Pn_paintCircle (x1 : Int32) (I : xm_I) : Option (xm_I) := f_Pn_paintCircle_b0 x1 I
set_option maxHeartbeats 4000000 in
set_option maxRecDepth 100000 in
theorem t_Pn_paintCircle_b99 {x1 : Int32} {x6 : Int32} {x7 : Int32} {x8 : Int32} {y0 : Int32} {n : Nat} {I : xm_I} {L : xm_L} {K : xm_I → Prop} {Q : Option Value → xm_H → Prop} (hn : 86 ≤ n) (hq : ∀ p : xm_I, K p → Q none (p, L, RC n, n)) (hF : ok (f_Pn_paintCircle_b99 x1 x6 x7 x8 y0 I) K) : xm_J 4 mt_Pn_paintCircle 99 [(0, .ref 30), (1, .int x1), (6, .int x6), (7, .int x7), (8, .int x8)] [.int y0] (I, L, RC n, n) 0 0 Q := by
  unfold f_Pn_paintCircle_b99 at hF
  refine r_istore (i := 54) (Ls' := [(9, _), (0, _), (1, _), (6, _), (7, _), (8, _)]) rfl (Nat.le_of_ble_eq_true rfl) rfl ?_
  refine r_aload_n (i := 55) (k0 := 1) rfl rfl rfl ?_
  refine q_getr (b := 17) (i := 56) rfl fl_Pn_47 rfl (xm_in rfl hn) rfl rfl ?_
  refine r_bipush (v := 67) (i := 57) rfl kb_67 ?_
  refine r_iload (i := 58) (k0 := 3) rfl rfl ?_
  refine r_iload (i := 59) (k0 := 4) rfl rfl ?_
  refine r_iload (i := 60) (k0 := 5) rfl rfl ?_
  refine r_iload (i := 61) (k0 := 0) rfl rfl ?_
  refine r_aload_n (i := 62) (k0 := 1) rfl rfl rfl ?_
  refine q_getr (b := 6) (i := 63) rfl fl_Pn_35 rfl (xm_in rfl hn) rfl rfl ?_
  refine r_iload_n (i := 64) (k0 := 2) rfl rfl rfl ?_
  refine c_V1I (i := 65) rfl vm_Fg_styleOf lk_Pn_171 (t_Fg_styleOf hn (ok_bind hF)) (Nat.le_of_ble_eq_true rfl) (xm_in rfl hn) rfl rfl (Nat.le_of_ble_eq_true rfl) (fun p_1 hF => ?_)
  refine c_V6V (i := 66) rfl vm_Mk_add lk_Pn_74 (t_Mk_add hn (ok_bind hF)) (Nat.le_of_ble_eq_true rfl) (xm_in rfl hn) rfl rfl (Nat.le_of_ble_eq_true rfl) (fun p_2 hF => ?_)
  refine r_aload_n (i := 67) (k0 := 1) rfl rfl rfl ?_
  refine r_iload_n (i := 68) (k0 := 2) rfl rfl rfl ?_
  refine r_iload (i := 69) (k0 := 3) rfl rfl ?_
  refine r_iload (i := 70) (k0 := 4) rfl rfl ?_
  refine r_iload (i := 71) (k0 := 5) rfl rfl ?_
  refine r_isub (i := 72) rfl ?_
  refine c_V3V (i := 73) rfl vm_Pn_anchor lk_Pn_181 (t_Pn_anchor hn (ok_bind hF)) (Nat.le_of_ble_eq_true rfl) (xm_in rfl hn) rfl rfl (Nat.le_of_ble_eq_true rfl) (fun p_3 hF => ?_)
  have hQ := hq _ (ok_some hF)
  exact r_return (i := 74) rfl rfl hQ
set_option maxHeartbeats 4000000 in
set_option maxRecDepth 100000 in
theorem t_Pn_paintCircle_b0 {x1 : Int32} {n : Nat} {I : xm_I} {L : xm_L} {K : xm_I → Prop} {Q : Option Value → xm_H → Prop} (hn : 86 ≤ n) (hq : ∀ p : xm_I, K p → Q none (p, L, RC n, n)) (hF : ok (f_Pn_paintCircle_b0 x1 I) K) : xm_J 4 mt_Pn_paintCircle 0 [(0, .ref 30), (1, .int x1)] [] (I, L, RC n, n) 0 0 Q := by
  unfold f_Pn_paintCircle_b0 at hF
  refine r_aload_n (i := 0) (k0 := 0) rfl rfl rfl ?_
  refine q_getr (b := 6) (i := 1) rfl fl_Pn_35 rfl (xm_in rfl hn) rfl rfl ?_
  refine r_iload_n (i := 2) (k0 := 1) rfl rfl rfl ?_
  refine r_iconst (v := 0) (i := 3) rfl ki_0 ?_
  refine c_V2I (i := 4) rfl vm_Fg_xOf lk_Pn_188 (t_Fg_xOf hn (ok_bind hF)) (Nat.le_of_ble_eq_true rfl) (xm_in rfl hn) rfl rfl (Nat.le_of_ble_eq_true rfl) (fun p_1 hF => ?_)
  refine r_istore_n (i := 5) (Ls' := [(2, _), (0, _), (1, _)]) rfl rfl (Nat.le_of_ble_eq_true rfl) rfl ?_
  refine r_aload_n (i := 6) (k0 := 1) rfl rfl rfl ?_
  refine q_getr (b := 6) (i := 7) rfl fl_Pn_35 rfl (xm_in rfl hn) rfl rfl ?_
  refine r_iload_n (i := 8) (k0 := 2) rfl rfl rfl ?_
  refine r_iconst (v := 0) (i := 9) rfl ki_0 ?_
  refine c_V2I (i := 10) rfl vm_Fg_yOf lk_Pn_191 (t_Fg_yOf hn (ok_bind hF)) (Nat.le_of_ble_eq_true rfl) (xm_in rfl hn) rfl rfl (Nat.le_of_ble_eq_true rfl) (fun p_2 hF => ?_)
  refine r_istore_n (i := 11) (Ls' := [(3, _), (2, _), (0, _), (1, _)]) rfl rfl (Nat.le_of_ble_eq_true rfl) rfl ?_
  refine r_aload_n (i := 12) (k0 := 2) rfl rfl rfl ?_
  refine q_getr (b := 6) (i := 13) rfl fl_Pn_35 rfl (xm_in rfl hn) rfl rfl ?_
  refine r_iload_n (i := 14) (k0 := 3) rfl rfl rfl ?_
  refine c_V1L (i := 15) rfl vm_Fg_squareOfSpan lk_Pn_247 (t_Fg_squareOfSpan hn (ok_bind hF)) (Nat.le_of_ble_eq_true rfl) (xm_in rfl hn) rfl rfl (Nat.le_of_ble_eq_true rfl) (fun p_3 hF => ?_)
  refine r_lstore (i := 16) (Ls' := [(4, _), (3, _), (2, _), (0, _), (1, _)]) rfl (Nat.le_of_ble_eq_true rfl) rfl ?_
  refine r_aload_n (i := 17) (k0 := 3) rfl rfl rfl ?_
  refine q_getr (b := 14) (i := 18) rfl fl_Pn_43 rfl (xm_in rfl hn) rfl rfl ?_
  refine r_iload_n (i := 19) (k0 := 2) rfl rfl rfl ?_
  refine r_iload_n (i := 20) (k0 := 1) rfl rfl rfl ?_
  refine r_lload (i := 21) (k0 := 0) rfl rfl ?_
  refine c_V3I (i := 22) rfl vm_Fr_meetsCircle lk_Pn_251 (t_Fr_meetsCircle hn (ok_bind hF)) (Nat.le_of_ble_eq_true rfl) (xm_in rfl hn) rfl rfl (Nat.le_of_ble_eq_true rfl) (fun p_4 hF => ?_)
  refine r_ifne (i := 23) (tgt := 45) rfl (by decide) (fun hc => ?_) (fun hc => ?_)
  · have hF := ok_if hc hF
    refine r_aload_n (i := 25) (k0 := 3) rfl rfl rfl ?_
    refine q_getr (b := 14) (i := 26) rfl fl_Pn_43 rfl (xm_in rfl hn) rfl rfl ?_
    refine r_iload_n (i := 27) (k0 := 2) rfl rfl rfl ?_
    refine r_i2l (i := 28) rfl ?_
    refine r_lconst (v := 1) (i := 29) rfl rfl ?_
    refine c_V2I (i := 30) rfl vm_Fr_sheetX lk_Pn_127 (t_Fr_sheetX hn (ok_bind hF)) (Nat.le_of_ble_eq_true rfl) (xm_in rfl hn) rfl rfl (Nat.le_of_ble_eq_true rfl) (fun p_5 hF => ?_)
    refine r_istore (i := 31) (Ls' := [(6, _), (4, _), (3, _), (2, _), (0, _), (1, _)]) rfl (Nat.le_of_ble_eq_true rfl) rfl ?_
    refine r_aload_n (i := 32) (k0 := 4) rfl rfl rfl ?_
    refine q_getr (b := 14) (i := 33) rfl fl_Pn_43 rfl (xm_in rfl hn) rfl rfl ?_
    refine r_iload_n (i := 34) (k0 := 2) rfl rfl rfl ?_
    refine r_i2l (i := 35) rfl ?_
    refine r_lconst (v := 1) (i := 36) rfl rfl ?_
    refine c_V2I (i := 37) rfl vm_Fr_sheetY lk_Pn_131 (t_Fr_sheetY hn (ok_bind hF)) (Nat.le_of_ble_eq_true rfl) (xm_in rfl hn) rfl rfl (Nat.le_of_ble_eq_true rfl) (fun p_6 hF => ?_)
    refine r_istore (i := 38) (Ls' := [(7, _), (6, _), (4, _), (3, _), (2, _), (0, _), (1, _)]) rfl (Nat.le_of_ble_eq_true rfl) rfl ?_
    refine r_aload_n (i := 39) (k0 := 5) rfl rfl rfl ?_
    refine q_getr (b := 14) (i := 40) rfl fl_Pn_43 rfl (xm_in rfl hn) rfl rfl ?_
    refine r_lload (i := 41) (k0 := 2) rfl rfl ?_
    refine c_V1I (i := 42) rfl vm_Fr_sheetLength lk_Pn_255 (t_Fr_sheetLength hn (ok_bind hF)) (Nat.le_of_ble_eq_true rfl) (xm_in rfl hn) rfl rfl (Nat.le_of_ble_eq_true rfl) (fun p_7 hF => ?_)
    refine r_istore (i := 43) (Ls' := [(8, _), (7, _), (6, _), (4, _), (3, _), (2, _), (0, _), (1, _)]) rfl (Nat.le_of_ble_eq_true rfl) rfl ?_
    refine r_aload_n (i := 44) (k0 := 6) rfl rfl rfl ?_
    refine q_getr (b := 14) (i := 45) rfl fl_Pn_43 rfl (xm_in rfl hn) rfl rfl ?_
    refine r_iload_n (i := 46) (k0 := 5) rfl rfl rfl ?_
    refine r_iload_n (i := 47) (k0 := 4) rfl rfl rfl ?_
    refine r_lload (i := 48) (k0 := 3) rfl rfl ?_
    refine c_V3I (i := 49) rfl vm_Fr_holdsCircle lk_Pn_259 (t_Fr_holdsCircle hn (ok_bind hF)) (Nat.le_of_ble_eq_true rfl) (xm_in rfl hn) rfl rfl (Nat.le_of_ble_eq_true rfl) (fun p_8 hF => ?_)
    refine r_ifeq (i := 50) (tgt := 98) rfl (by decide) (fun hc => ?_) (fun hc => ?_)
    · have hF := ok_it hc hF
      refine r_iconst (v := 1) (i := 53) rfl ki_1 ?_
      refine xm_sub (Ls' := [(0, _), (1, _), (6, _), (7, _), (8, _)]) [6, 7, 2, 1, 0] rfl ?_
      exact t_Pn_paintCircle_b99 hn (fun p h => hq p h) hF
    have hF := ok_if hc hF
    refine r_iconst (v := 0) (i := 51) rfl ki_0 ?_
    refine r_goto (i := 52) (tgt := 99) rfl (by decide) ?_
    refine xm_sub (Ls' := [(0, _), (1, _), (6, _), (7, _), (8, _)]) [6, 7, 2, 1, 0] rfl ?_
    exact t_Pn_paintCircle_b99 hn (fun p h => hq p h) hF
  have hF := ok_it hc hF
  have hQ := hq _ (ok_some hF)
  exact r_return (i := 24) rfl rfl hQ
set_option maxHeartbeats 4000000 in
set_option maxRecDepth 100000 in
theorem t_Pn_paintCircle {x1 : Int32} {n : Nat} {I : xm_I} {L : xm_L} {K : xm_I → Prop} (hn : 86 ≤ n) (hF : ok (f_Pn_paintCircle x1 I) K) : xm_C 4 mt_Pn_paintCircle [.ref 30, .int x1] (I, L, RC n, n) 0 0 (pV (fun p : xm_I => (p, L, RC n, n)) K) := by
  unfold f_Pn_paintCircle at hF
  refine xm_enter (by decide +kernel) dv_Pn_paintCircle (Nat.le_of_ble_eq_true rfl) ?_
  exact t_Pn_paintCircle_b0 hn (fun p hp => ⟨p, rfl, rfl, hp⟩) hF

noncomputable def f_Pn_paintDot_b0 (x1 : Int32) (I : xm_I) : Option (xm_I) :=
  (f_Fg_xOf x1 0 I).bind fun p_1 =>
  (f_Fg_yOf x1 0 I).bind fun p_2 =>
  (f_Fr_holds (Int32.toInt64 p_1) (Int32.toInt64 p_2) 1 I).bind fun p_3 =>
  if p_3 = 0 then (
    some (I))
  else (
    (f_Fr_sheetX (Int32.toInt64 p_1) 1 I).bind fun p_4 =>
    (f_Fr_sheetY (Int32.toInt64 p_2) 1 I).bind fun p_5 =>
    (f_Fg_styleOf x1 I).bind fun p_6 =>
    (f_Mk_add 68 p_4 p_5 p_6 0 0 I).bind fun p_7 =>
    (f_Pn_anchor x1 p_4 p_5 p_7).bind fun p_8 =>
    some (p_8))
noncomputable def f_Pn_paintDot (x1 : Int32) (I : xm_I) : Option (xm_I) := f_Pn_paintDot_b0 x1 I
set_option maxHeartbeats 4000000 in
set_option maxRecDepth 100000 in
theorem t_Pn_paintDot_b0 {x1 : Int32} {n : Nat} {I : xm_I} {L : xm_L} {K : xm_I → Prop} {Q : Option Value → xm_H → Prop} (hn : 86 ≤ n) (hq : ∀ p : xm_I, K p → Q none (p, L, RC n, n)) (hF : ok (f_Pn_paintDot_b0 x1 I) K) : xm_J 3 mt_Pn_paintDot 0 [(0, .ref 30), (1, .int x1)] [] (I, L, RC n, n) 0 0 Q := by
  unfold f_Pn_paintDot_b0 at hF
  refine r_aload_n (i := 0) (k0 := 0) rfl rfl rfl ?_
  refine q_getr (b := 6) (i := 1) rfl fl_Pn_35 rfl (xm_in rfl hn) rfl rfl ?_
  refine r_iload_n (i := 2) (k0 := 1) rfl rfl rfl ?_
  refine r_iconst (v := 0) (i := 3) rfl ki_0 ?_
  refine c_V2I (i := 4) rfl vm_Fg_xOf lk_Pn_188 (t_Fg_xOf hn (ok_bind hF)) (Nat.le_of_ble_eq_true rfl) (xm_in rfl hn) rfl rfl (Nat.le_of_ble_eq_true rfl) (fun p_1 hF => ?_)
  refine r_istore_n (i := 5) (Ls' := [(2, _), (0, _), (1, _)]) rfl rfl (Nat.le_of_ble_eq_true rfl) rfl ?_
  refine r_aload_n (i := 6) (k0 := 1) rfl rfl rfl ?_
  refine q_getr (b := 6) (i := 7) rfl fl_Pn_35 rfl (xm_in rfl hn) rfl rfl ?_
  refine r_iload_n (i := 8) (k0 := 2) rfl rfl rfl ?_
  refine r_iconst (v := 0) (i := 9) rfl ki_0 ?_
  refine c_V2I (i := 10) rfl vm_Fg_yOf lk_Pn_191 (t_Fg_yOf hn (ok_bind hF)) (Nat.le_of_ble_eq_true rfl) (xm_in rfl hn) rfl rfl (Nat.le_of_ble_eq_true rfl) (fun p_2 hF => ?_)
  refine r_istore_n (i := 11) (Ls' := [(3, _), (2, _), (0, _), (1, _)]) rfl rfl (Nat.le_of_ble_eq_true rfl) rfl ?_
  refine r_aload_n (i := 12) (k0 := 2) rfl rfl rfl ?_
  refine q_getr (b := 14) (i := 13) rfl fl_Pn_43 rfl (xm_in rfl hn) rfl rfl ?_
  refine r_iload_n (i := 14) (k0 := 1) rfl rfl rfl ?_
  refine r_i2l (i := 15) rfl ?_
  refine r_iload_n (i := 16) (k0 := 0) rfl rfl rfl ?_
  refine r_i2l (i := 17) rfl ?_
  refine r_iconst (v := 1) (i := 18) rfl ki_1 ?_
  refine c_V3I (i := 19) rfl vm_Fr_holds lk_Pn_221 (t_Fr_holds hn (ok_bind hF)) (Nat.le_of_ble_eq_true rfl) (xm_in rfl hn) rfl rfl (Nat.le_of_ble_eq_true rfl) (fun p_3 hF => ?_)
  refine r_ifne (i := 20) (tgt := 36) rfl (by decide) (fun hc => ?_) (fun hc => ?_)
  · have hF := ok_if hc hF
    refine r_aload_n (i := 22) (k0 := 2) rfl rfl rfl ?_
    refine q_getr (b := 14) (i := 23) rfl fl_Pn_43 rfl (xm_in rfl hn) rfl rfl ?_
    refine r_iload_n (i := 24) (k0 := 1) rfl rfl rfl ?_
    refine r_i2l (i := 25) rfl ?_
    refine r_lconst (v := 1) (i := 26) rfl rfl ?_
    refine c_V2I (i := 27) rfl vm_Fr_sheetX lk_Pn_127 (t_Fr_sheetX hn (ok_bind hF)) (Nat.le_of_ble_eq_true rfl) (xm_in rfl hn) rfl rfl (Nat.le_of_ble_eq_true rfl) (fun p_4 hF => ?_)
    refine r_istore (i := 28) (Ls' := [(4, _), (3, _), (2, _), (0, _), (1, _)]) rfl (Nat.le_of_ble_eq_true rfl) rfl ?_
    refine r_aload_n (i := 29) (k0 := 3) rfl rfl rfl ?_
    refine q_getr (b := 14) (i := 30) rfl fl_Pn_43 rfl (xm_in rfl hn) rfl rfl ?_
    refine r_iload_n (i := 31) (k0 := 1) rfl rfl rfl ?_
    refine r_i2l (i := 32) rfl ?_
    refine r_lconst (v := 1) (i := 33) rfl rfl ?_
    refine c_V2I (i := 34) rfl vm_Fr_sheetY lk_Pn_131 (t_Fr_sheetY hn (ok_bind hF)) (Nat.le_of_ble_eq_true rfl) (xm_in rfl hn) rfl rfl (Nat.le_of_ble_eq_true rfl) (fun p_5 hF => ?_)
    refine r_istore (i := 35) (Ls' := [(5, _), (4, _), (3, _), (2, _), (0, _), (1, _)]) rfl (Nat.le_of_ble_eq_true rfl) rfl ?_
    refine r_aload_n (i := 36) (k0 := 4) rfl rfl rfl ?_
    refine q_getr (b := 17) (i := 37) rfl fl_Pn_47 rfl (xm_in rfl hn) rfl rfl ?_
    refine r_bipush (v := 68) (i := 38) rfl kb_68 ?_
    refine r_iload (i := 39) (k0 := 1) rfl rfl ?_
    refine r_iload (i := 40) (k0 := 0) rfl rfl ?_
    refine r_aload_n (i := 41) (k0 := 4) rfl rfl rfl ?_
    refine q_getr (b := 6) (i := 42) rfl fl_Pn_35 rfl (xm_in rfl hn) rfl rfl ?_
    refine r_iload_n (i := 43) (k0 := 5) rfl rfl rfl ?_
    refine c_V1I (i := 44) rfl vm_Fg_styleOf lk_Pn_171 (t_Fg_styleOf hn (ok_bind hF)) (Nat.le_of_ble_eq_true rfl) (xm_in rfl hn) rfl rfl (Nat.le_of_ble_eq_true rfl) (fun p_6 hF => ?_)
    refine r_iconst (v := 0) (i := 45) rfl ki_0 ?_
    refine r_iconst (v := 0) (i := 46) rfl ki_0 ?_
    refine c_V6V (i := 47) rfl vm_Mk_add lk_Pn_74 (t_Mk_add hn (ok_bind hF)) (Nat.le_of_ble_eq_true rfl) (xm_in rfl hn) rfl rfl (Nat.le_of_ble_eq_true rfl) (fun p_7 hF => ?_)
    refine r_aload_n (i := 48) (k0 := 4) rfl rfl rfl ?_
    refine r_iload_n (i := 49) (k0 := 5) rfl rfl rfl ?_
    refine r_iload (i := 50) (k0 := 1) rfl rfl ?_
    refine r_iload (i := 51) (k0 := 0) rfl rfl ?_
    refine c_V3V (i := 52) rfl vm_Pn_anchor lk_Pn_181 (t_Pn_anchor hn (ok_bind hF)) (Nat.le_of_ble_eq_true rfl) (xm_in rfl hn) rfl rfl (Nat.le_of_ble_eq_true rfl) (fun p_8 hF => ?_)
    have hQ := hq _ (ok_some hF)
    exact r_return (i := 53) rfl rfl hQ
  have hF := ok_it hc hF
  have hQ := hq _ (ok_some hF)
  exact r_return (i := 21) rfl rfl hQ
set_option maxHeartbeats 4000000 in
set_option maxRecDepth 100000 in
theorem t_Pn_paintDot {x1 : Int32} {n : Nat} {I : xm_I} {L : xm_L} {K : xm_I → Prop} (hn : 86 ≤ n) (hF : ok (f_Pn_paintDot x1 I) K) : xm_C 3 mt_Pn_paintDot [.ref 30, .int x1] (I, L, RC n, n) 0 0 (pV (fun p : xm_I => (p, L, RC n, n)) K) := by
  unfold f_Pn_paintDot at hF
  refine xm_enter (by decide +kernel) dv_Pn_paintDot (Nat.le_of_ble_eq_true rfl) ?_
  exact t_Pn_paintDot_b0 hn (fun p hp => ⟨p, rfl, rfl, hp⟩) hF

noncomputable def f_Cu_endNotBehind_b0 (l1 : Int64) (l3 : Int64) (L : xm_L) : Option (xm_L) :=
  if ((L 38 7) * l3) ≤ (l1 * (L 38 8)) then (
    some (L))
  else (
  let L_1 : xm_L := up2 L 38 7 l1
  let L_2 : xm_L := up2 L_1 38 8 l3
  some (L_2))
noncomputable def f_Cu_endNotBehind (l1 : Int64) (l3 : Int64) (L : xm_L) : Option (xm_L) := f_Cu_endNotBehind_b0 l1 l3 L
set_option maxHeartbeats 4000000 in
set_option maxRecDepth 100000 in
theorem t_Cu_endNotBehind_b0 {l1 : Int64} {l3 : Int64} {n : Nat} {I : xm_I} {L : xm_L} {K : xm_L → Prop} {Q : Option Value → xm_H → Prop} (hn : 86 ≤ n) (hq : ∀ p : xm_L, K p → Q none (I, p, RC n, n)) (hF : ok (f_Cu_endNotBehind_b0 l1 l3 L) K) : xm_J 0 mt_Cu_endNotBehind 0 [(0, .ref 38), (1, .long l1), (3, .long l3)] [] (I, L, RC n, n) 0 0 Q := by
  unfold f_Cu_endNotBehind_b0 at hF
  refine r_lload_n (i := 0) (k0 := 1) rfl rfl rfl ?_
  refine r_aload_n (i := 1) (k0 := 0) rfl rfl rfl ?_
  refine q_getl (i := 2) rfl fl_Cu_42 (xm_in rfl hn) rfl ?_
  refine r_lmul (i := 3) rfl ?_
  refine r_aload_n (i := 4) (k0 := 0) rfl rfl rfl ?_
  refine q_getl (i := 5) rfl fl_Cu_39 (xm_in rfl hn) rfl ?_
  refine r_lload_n (i := 6) (k0 := 2) rfl rfl rfl ?_
  refine r_lmul (i := 7) rfl ?_
  refine r_lcmpge (i := 8) (j := 9) (tgt := 26) rfl rfl (by decide) (fun hc => ?_) (fun hc => ?_)
  · have hF := ok_it hc hF
    have hQ := hq _ (ok_some hF)
    exact r_return (i := 16) rfl rfl hQ
  have hF := ok_if hc hF
  refine r_aload_n (i := 10) (k0 := 0) rfl rfl rfl ?_
  refine r_lload_n (i := 11) (k0 := 1) rfl rfl rfl ?_
  refine q_putl (i := 12) rfl fl_Cu_39 (fun h => Bool.noConfusion h) (xm_in rfl hn) rfl ?_
  refine r_aload_n (i := 13) (k0 := 0) rfl rfl rfl ?_
  refine r_lload_n (i := 14) (k0 := 2) rfl rfl rfl ?_
  refine q_putl (i := 15) rfl fl_Cu_42 (fun h => Bool.noConfusion h) (xm_in rfl hn) rfl ?_
  have hQ := hq _ (ok_some hF)
  exact r_return (i := 16) rfl rfl hQ
set_option maxHeartbeats 4000000 in
set_option maxRecDepth 100000 in
theorem t_Cu_endNotBehind {l1 : Int64} {l3 : Int64} {n : Nat} {I : xm_I} {L : xm_L} {K : xm_L → Prop} (hn : 86 ≤ n) (hF : ok (f_Cu_endNotBehind l1 l3 L) K) : xm_C 0 mt_Cu_endNotBehind [.ref 38, .long l1, .long l3] (I, L, RC n, n) 0 0 (pV (fun p : xm_L => (I, p, RC n, n)) K) := by
  unfold f_Cu_endNotBehind at hF
  refine xm_enter (by decide +kernel) dv_Cu_endNotBehind (Nat.le_of_ble_eq_true rfl) ?_
  exact t_Cu_endNotBehind_b0 hn (fun p hp => ⟨p, rfl, rfl, hp⟩) hF

noncomputable def f_Cu_startNotBefore_b0 (l1 : Int64) (l3 : Int64) (L : xm_L) : Option (xm_L) :=
  if (l1 * (L 38 6)) ≤ ((L 38 5) * l3) then (
    some (L))
  else (
  let L_1 : xm_L := up2 L 38 5 l1
  let L_2 : xm_L := up2 L_1 38 6 l3
  some (L_2))
noncomputable def f_Cu_startNotBefore (l1 : Int64) (l3 : Int64) (L : xm_L) : Option (xm_L) := f_Cu_startNotBefore_b0 l1 l3 L
set_option maxHeartbeats 4000000 in
set_option maxRecDepth 100000 in
theorem t_Cu_startNotBefore_b0 {l1 : Int64} {l3 : Int64} {n : Nat} {I : xm_I} {L : xm_L} {K : xm_L → Prop} {Q : Option Value → xm_H → Prop} (hn : 86 ≤ n) (hq : ∀ p : xm_L, K p → Q none (I, p, RC n, n)) (hF : ok (f_Cu_startNotBefore_b0 l1 l3 L) K) : xm_J 0 mt_Cu_startNotBefore 0 [(0, .ref 38), (1, .long l1), (3, .long l3)] [] (I, L, RC n, n) 0 0 Q := by
  unfold f_Cu_startNotBefore_b0 at hF
  refine r_lload_n (i := 0) (k0 := 1) rfl rfl rfl ?_
  refine r_aload_n (i := 1) (k0 := 0) rfl rfl rfl ?_
  refine q_getl (i := 2) rfl fl_Cu_34 (xm_in rfl hn) rfl ?_
  refine r_lmul (i := 3) rfl ?_
  refine r_aload_n (i := 4) (k0 := 0) rfl rfl rfl ?_
  refine q_getl (i := 5) rfl fl_Cu_30 (xm_in rfl hn) rfl ?_
  refine r_lload_n (i := 6) (k0 := 2) rfl rfl rfl ?_
  refine r_lmul (i := 7) rfl ?_
  refine r_lcmple (i := 8) (j := 9) (tgt := 26) rfl rfl (by decide) (fun hc => ?_) (fun hc => ?_)
  · have hF := ok_it hc hF
    have hQ := hq _ (ok_some hF)
    exact r_return (i := 16) rfl rfl hQ
  have hF := ok_if hc hF
  refine r_aload_n (i := 10) (k0 := 0) rfl rfl rfl ?_
  refine r_lload_n (i := 11) (k0 := 1) rfl rfl rfl ?_
  refine q_putl (i := 12) rfl fl_Cu_30 (fun h => Bool.noConfusion h) (xm_in rfl hn) rfl ?_
  refine r_aload_n (i := 13) (k0 := 0) rfl rfl rfl ?_
  refine r_lload_n (i := 14) (k0 := 2) rfl rfl rfl ?_
  refine q_putl (i := 15) rfl fl_Cu_34 (fun h => Bool.noConfusion h) (xm_in rfl hn) rfl ?_
  have hQ := hq _ (ok_some hF)
  exact r_return (i := 16) rfl rfl hQ
set_option maxHeartbeats 4000000 in
set_option maxRecDepth 100000 in
theorem t_Cu_startNotBefore {l1 : Int64} {l3 : Int64} {n : Nat} {I : xm_I} {L : xm_L} {K : xm_L → Prop} (hn : 86 ≤ n) (hF : ok (f_Cu_startNotBefore l1 l3 L) K) : xm_C 0 mt_Cu_startNotBefore [.ref 38, .long l1, .long l3] (I, L, RC n, n) 0 0 (pV (fun p : xm_L => (I, p, RC n, n)) K) := by
  unfold f_Cu_startNotBefore at hF
  refine xm_enter (by decide +kernel) dv_Cu_startNotBefore (Nat.le_of_ble_eq_true rfl) ?_
  exact t_Cu_startNotBefore_b0 hn (fun p hp => ⟨p, rfl, rfl, hp⟩) hF

noncomputable def f_Cu_cutAxis_b0 (x1 : Int32) (x2 : Int32) (x3 : Int32) (x4 : Int32) (L : xm_L) : Option (Int32 × xm_L) :=
  if x2 = 0 then (
    if x1 < x3 then (
      some (0, L))
    else (
    if x4 < x1 then (
      some (0, L))
    else (
    some (1, L))))
  else (
    if x2 ≤ 0 then (
      (f_Cu_startNotBefore (Int32.toInt64 (x1 - x4)) (Int32.toInt64 (-x2)) L).bind fun p_1 =>
      (f_Cu_endNotBehind (Int32.toInt64 (x1 - x3)) (Int32.toInt64 (-x2)) p_1).bind fun p_2 =>
      some (1, p_2))
    else (
    (f_Cu_startNotBefore (Int32.toInt64 (x3 - x1)) (Int32.toInt64 x2) L).bind fun p_3 =>
    (f_Cu_endNotBehind (Int32.toInt64 (x4 - x1)) (Int32.toInt64 x2) p_3).bind fun p_4 =>
    some (1, p_4)))
noncomputable def f_Cu_cutAxis (x1 : Int32) (x2 : Int32) (x3 : Int32) (x4 : Int32) (L : xm_L) : Option (Int32 × xm_L) := f_Cu_cutAxis_b0 x1 x2 x3 x4 L
set_option maxHeartbeats 4000000 in
set_option maxRecDepth 100000 in
theorem t_Cu_cutAxis_b0 {x1 : Int32} {x2 : Int32} {x3 : Int32} {x4 : Int32} {n : Nat} {I : xm_I} {L : xm_L} {K : Int32 × xm_L → Prop} {Q : Option Value → xm_H → Prop} (hn : 86 ≤ n) (hq : ∀ p : Int32 × xm_L, K p → Q (some (.int p.1)) (I, p.2, RC n, n)) (hF : ok (f_Cu_cutAxis_b0 x1 x2 x3 x4 L) K) : xm_J 1 mt_Cu_cutAxis 0 [(0, .ref 38), (1, .int x1), (2, .int x2), (3, .int x3), (4, .int x4)] [] (I, L, RC n, n) 0 0 Q := by
  unfold f_Cu_cutAxis_b0 at hF
  refine r_iload_n (i := 0) (k0 := 2) rfl rfl rfl ?_
  refine r_ifne (i := 1) (tgt := 21) rfl (by decide) (fun hc => ?_) (fun hc => ?_)
  · have hF := ok_if hc hF
    refine r_iload_n (i := 12) (k0 := 2) rfl rfl rfl ?_
    refine r_ifle (i := 13) (tgt := 49) rfl (by decide) (fun hc => ?_) (fun hc => ?_)
    · have hF := ok_it hc hF
      refine r_aload_n (i := 31) (k0 := 0) rfl rfl rfl ?_
      refine r_iload_n (i := 32) (k0 := 1) rfl rfl rfl ?_
      refine r_iload (i := 33) (k0 := 4) rfl rfl ?_
      refine r_isub (i := 34) rfl ?_
      refine r_i2l (i := 35) rfl ?_
      refine r_iload_n (i := 36) (k0 := 2) rfl rfl rfl ?_
      refine r_ineg (i := 37) rfl ?_
      refine r_i2l (i := 38) rfl ?_
      refine c_V2V (i := 39) rfl vm_Cu_startNotBefore lk_Cu_63 (t_Cu_startNotBefore hn (ok_bind hF)) (Nat.le_of_ble_eq_true rfl) (xm_in rfl hn) rfl rfl (Nat.le_of_ble_eq_true rfl) (fun p_1 hF => ?_)
      refine r_aload_n (i := 40) (k0 := 0) rfl rfl rfl ?_
      refine r_iload_n (i := 41) (k0 := 1) rfl rfl rfl ?_
      refine r_iload_n (i := 42) (k0 := 3) rfl rfl rfl ?_
      refine r_isub (i := 43) rfl ?_
      refine r_i2l (i := 44) rfl ?_
      refine r_iload_n (i := 45) (k0 := 2) rfl rfl rfl ?_
      refine r_ineg (i := 46) rfl ?_
      refine r_i2l (i := 47) rfl ?_
      refine c_V2V (i := 48) rfl vm_Cu_endNotBehind lk_Cu_67 (t_Cu_endNotBehind hn (ok_bind hF)) (Nat.le_of_ble_eq_true rfl) (xm_in rfl hn) rfl rfl (Nat.le_of_ble_eq_true rfl) (fun p_2 hF => ?_)
      refine r_iconst (v := 1) (i := 49) rfl ki_1 ?_
      have hQ := hq _ (ok_some hF)
      exact r_ireturn (i := 50) rfl rfl rfl hQ
    have hF := ok_if hc hF
    refine r_aload_n (i := 14) (k0 := 0) rfl rfl rfl ?_
    refine r_iload_n (i := 15) (k0 := 3) rfl rfl rfl ?_
    refine r_iload_n (i := 16) (k0 := 1) rfl rfl rfl ?_
    refine r_isub (i := 17) rfl ?_
    refine r_i2l (i := 18) rfl ?_
    refine r_iload_n (i := 19) (k0 := 2) rfl rfl rfl ?_
    refine r_i2l (i := 20) rfl ?_
    refine c_V2V (i := 21) rfl vm_Cu_startNotBefore lk_Cu_63 (t_Cu_startNotBefore hn (ok_bind hF)) (Nat.le_of_ble_eq_true rfl) (xm_in rfl hn) rfl rfl (Nat.le_of_ble_eq_true rfl) (fun p_3 hF => ?_)
    refine r_aload_n (i := 22) (k0 := 0) rfl rfl rfl ?_
    refine r_iload (i := 23) (k0 := 4) rfl rfl ?_
    refine r_iload_n (i := 24) (k0 := 1) rfl rfl rfl ?_
    refine r_isub (i := 25) rfl ?_
    refine r_i2l (i := 26) rfl ?_
    refine r_iload_n (i := 27) (k0 := 2) rfl rfl rfl ?_
    refine r_i2l (i := 28) rfl ?_
    refine c_V2V (i := 29) rfl vm_Cu_endNotBehind lk_Cu_67 (t_Cu_endNotBehind hn (ok_bind hF)) (Nat.le_of_ble_eq_true rfl) (xm_in rfl hn) rfl rfl (Nat.le_of_ble_eq_true rfl) (fun p_4 hF => ?_)
    refine r_goto (i := 30) (tgt := 72) rfl (by decide) ?_
    refine r_iconst (v := 1) (i := 49) rfl ki_1 ?_
    have hQ := hq _ (ok_some hF)
    exact r_ireturn (i := 50) rfl rfl rfl hQ
  have hF := ok_it hc hF
  refine r_iload_n (i := 2) (k0 := 1) rfl rfl rfl ?_
  refine r_iload_n (i := 3) (k0 := 3) rfl rfl rfl ?_
  refine r_icmplt (i := 4) (tgt := 19) rfl (by decide) (fun hc => ?_) (fun hc => ?_)
  · have hF := ok_it hc hF
    refine r_iconst (v := 0) (i := 10) rfl ki_0 ?_
    have hQ := hq _ (ok_some hF)
    exact r_ireturn (i := 11) rfl rfl rfl hQ
  have hF := ok_if hc hF
  refine r_iload_n (i := 5) (k0 := 1) rfl rfl rfl ?_
  refine r_iload (i := 6) (k0 := 4) rfl rfl ?_
  refine r_icmpgt (i := 7) (tgt := 19) rfl (by decide) (fun hc => ?_) (fun hc => ?_)
  · have hF := ok_it hc hF
    refine r_iconst (v := 0) (i := 10) rfl ki_0 ?_
    have hQ := hq _ (ok_some hF)
    exact r_ireturn (i := 11) rfl rfl rfl hQ
  have hF := ok_if hc hF
  refine r_iconst (v := 1) (i := 8) rfl ki_1 ?_
  refine r_goto (i := 9) (tgt := 20) rfl (by decide) ?_
  have hQ := hq _ (ok_some hF)
  exact r_ireturn (i := 11) rfl rfl rfl hQ
set_option maxHeartbeats 4000000 in
set_option maxRecDepth 100000 in
theorem t_Cu_cutAxis {x1 : Int32} {x2 : Int32} {x3 : Int32} {x4 : Int32} {n : Nat} {I : xm_I} {L : xm_L} {K : Int32 × xm_L → Prop} (hn : 86 ≤ n) (hF : ok (f_Cu_cutAxis x1 x2 x3 x4 L) K) : xm_C 1 mt_Cu_cutAxis [.ref 38, .int x1, .int x2, .int x3, .int x4] (I, L, RC n, n) 0 0 (pI (fun p : Int32 × xm_L => p.1) (fun p : Int32 × xm_L => (I, p.2, RC n, n)) K) := by
  unfold f_Cu_cutAxis at hF
  refine xm_enter (by decide +kernel) dv_Cu_cutAxis (Nat.le_of_ble_eq_true rfl) ?_
  exact t_Cu_cutAxis_b0 hn (fun p hp => ⟨p, rfl, rfl, hp⟩) hF

noncomputable def f_Cu_cut_b34 (y1 : Int64) (I : xm_I) (L : xm_L) : Option (Int32 × xm_L) :=
  let L_1 : xm_L := up2 L 38 7 y1
  let L_2 : xm_L := up2 L_1 38 8 1
  (f_Cu_cutAxis (I 38 1) (I 38 3) (I 14 0) (I 14 1) L_2).bind fun p_3 =>
  if p_3.1 = 0 then (
    some (0, p_3.2))
  else (
  (f_Cu_cutAxis (I 38 2) (I 38 4) (I 14 2) (I 14 3) p_3.2).bind fun p_4 =>
  if p_4.1 = 0 then (
    some (0, p_4.2))
  else (
  if ((p_4.2 38 7) * (p_4.2 38 6)) < ((p_4.2 38 5) * (p_4.2 38 8)) then (
    some (0, p_4.2))
  else (
  some (1, p_4.2))))
noncomputable def f_Cu_cut_b13 (x1 : Int32) (y1 : Int64) (I : xm_I) (L : xm_L) : Option (Int32 × xm_L) :=
  let L_1 : xm_L := up2 L 38 5 y1
  let L_2 : xm_L := up2 L_1 38 6 1
  if x1 = 1 then (
    f_Cu_cut_b34 1 I L_2)
  else (
    f_Cu_cut_b34 1000000 I L_2)
noncomputable def f_Cu_cut_b0 (x1 : Int32) (I : xm_I) (L : xm_L) : Option (Int32 × xm_L) :=
  if x1 = 2 then (
    f_Cu_cut_b13 x1 ((-1000000)) I L)
  else (
    f_Cu_cut_b13 x1 0 I L)
noncomputable def f_Cu_cut (x1 : Int32) (I : xm_I) (L : xm_L) : Option (Int32 × xm_L) := f_Cu_cut_b0 x1 I L
set_option maxHeartbeats 4000000 in
set_option maxRecDepth 100000 in
theorem t_Cu_cut_b34 {y1 : Int64} {n : Nat} {I : xm_I} {L : xm_L} {K : Int32 × xm_L → Prop} {Q : Option Value → xm_H → Prop} (hn : 86 ≤ n) (hq : ∀ p : Int32 × xm_L, K p → Q (some (.int p.1)) (I, p.2, RC n, n)) (hF : ok (f_Cu_cut_b34 y1 I L) K) : xm_J 2 mt_Cu_cut 34 [(0, .ref 38)] [.long y1, .ref 38] (I, L, RC n, n) 0 0 Q := by
  unfold f_Cu_cut_b34 at hF
  refine q_putl (i := 18) rfl fl_Cu_39 (fun h => Bool.noConfusion h) (xm_in rfl hn) rfl ?_
  refine r_aload_n (i := 19) (k0 := 0) rfl rfl rfl ?_
  refine r_lconst (v := 1) (i := 20) rfl rfl ?_
  refine q_putl (i := 21) rfl fl_Cu_42 (fun h => Bool.noConfusion h) (xm_in rfl hn) rfl ?_
  refine r_aload_n (i := 22) (k0 := 0) rfl rfl rfl ?_
  refine r_aload_n (i := 23) (k0 := 0) rfl rfl rfl ?_
  refine q_geti (i := 24) rfl fl_Cu_13 (xm_in rfl hn) rfl ?_
  refine r_aload_n (i := 25) (k0 := 0) rfl rfl rfl ?_
  refine q_geti (i := 26) rfl fl_Cu_20 (xm_in rfl hn) rfl ?_
  refine r_aload_n (i := 27) (k0 := 0) rfl rfl rfl ?_
  refine q_getr (b := 14) (i := 28) rfl fl_Cu_7 rfl (xm_in rfl hn) rfl rfl ?_
  refine q_geti (i := 29) rfl fl_Cu_45 (xm_in rfl hn) rfl ?_
  refine r_aload_n (i := 30) (k0 := 0) rfl rfl rfl ?_
  refine q_getr (b := 14) (i := 31) rfl fl_Cu_7 rfl (xm_in rfl hn) rfl rfl ?_
  refine q_geti (i := 32) rfl fl_Cu_50 (xm_in rfl hn) rfl ?_
  refine c_V4I (i := 33) rfl vm_Cu_cutAxis lk_Cu_53 (t_Cu_cutAxis hn (ok_bind hF)) (Nat.le_of_ble_eq_true rfl) (xm_in rfl hn) rfl rfl (Nat.le_of_ble_eq_true rfl) (fun p_3 hF => ?_)
  refine r_ifeq (i := 34) (tgt := 126) rfl (by decide) (fun hc => ?_) (fun hc => ?_)
  · have hF := ok_it hc hF
    refine r_iconst (v := 0) (i := 62) rfl ki_0 ?_
    have hQ := hq _ (ok_some hF)
    exact r_ireturn (i := 63) rfl rfl rfl hQ
  have hF := ok_if hc hF
  refine r_aload_n (i := 35) (k0 := 0) rfl rfl rfl ?_
  refine r_aload_n (i := 36) (k0 := 0) rfl rfl rfl ?_
  refine q_geti (i := 37) rfl fl_Cu_17 (xm_in rfl hn) rfl ?_
  refine r_aload_n (i := 38) (k0 := 0) rfl rfl rfl ?_
  refine q_geti (i := 39) rfl fl_Cu_23 (xm_in rfl hn) rfl ?_
  refine r_aload_n (i := 40) (k0 := 0) rfl rfl rfl ?_
  refine q_getr (b := 14) (i := 41) rfl fl_Cu_7 rfl (xm_in rfl hn) rfl rfl ?_
  refine q_geti (i := 42) rfl fl_Cu_57 (xm_in rfl hn) rfl ?_
  refine r_aload_n (i := 43) (k0 := 0) rfl rfl rfl ?_
  refine q_getr (b := 14) (i := 44) rfl fl_Cu_7 rfl (xm_in rfl hn) rfl rfl ?_
  refine q_geti (i := 45) rfl fl_Cu_60 (xm_in rfl hn) rfl ?_
  refine c_V4I (i := 46) rfl vm_Cu_cutAxis lk_Cu_53 (t_Cu_cutAxis hn (ok_bind hF)) (Nat.le_of_ble_eq_true rfl) (xm_in rfl hn) rfl rfl (Nat.le_of_ble_eq_true rfl) (fun p_4 hF => ?_)
  refine r_ifeq (i := 47) (tgt := 126) rfl (by decide) (fun hc => ?_) (fun hc => ?_)
  · have hF := ok_it hc hF
    refine r_iconst (v := 0) (i := 62) rfl ki_0 ?_
    have hQ := hq _ (ok_some hF)
    exact r_ireturn (i := 63) rfl rfl rfl hQ
  have hF := ok_if hc hF
  refine r_aload_n (i := 48) (k0 := 0) rfl rfl rfl ?_
  refine q_getl (i := 49) rfl fl_Cu_30 (xm_in rfl hn) rfl ?_
  refine r_aload_n (i := 50) (k0 := 0) rfl rfl rfl ?_
  refine q_getl (i := 51) rfl fl_Cu_42 (xm_in rfl hn) rfl ?_
  refine r_lmul (i := 52) rfl ?_
  refine r_aload_n (i := 53) (k0 := 0) rfl rfl rfl ?_
  refine q_getl (i := 54) rfl fl_Cu_39 (xm_in rfl hn) rfl ?_
  refine r_aload_n (i := 55) (k0 := 0) rfl rfl rfl ?_
  refine q_getl (i := 56) rfl fl_Cu_34 (xm_in rfl hn) rfl ?_
  refine r_lmul (i := 57) rfl ?_
  refine r_lcmpgt (i := 58) (j := 59) (tgt := 126) rfl rfl (by decide) (fun hc => ?_) (fun hc => ?_)
  · have hF := ok_it hc hF
    refine r_iconst (v := 0) (i := 62) rfl ki_0 ?_
    have hQ := hq _ (ok_some hF)
    exact r_ireturn (i := 63) rfl rfl rfl hQ
  have hF := ok_if hc hF
  refine r_iconst (v := 1) (i := 60) rfl ki_1 ?_
  refine r_goto (i := 61) (tgt := 127) rfl (by decide) ?_
  have hQ := hq _ (ok_some hF)
  exact r_ireturn (i := 63) rfl rfl rfl hQ
set_option maxHeartbeats 4000000 in
set_option maxRecDepth 100000 in
theorem t_Cu_cut_b13 {x1 : Int32} {y1 : Int64} {n : Nat} {I : xm_I} {L : xm_L} {K : Int32 × xm_L → Prop} {Q : Option Value → xm_H → Prop} (hn : 86 ≤ n) (hq : ∀ p : Int32 × xm_L, K p → Q (some (.int p.1)) (I, p.2, RC n, n)) (hF : ok (f_Cu_cut_b13 x1 y1 I L) K) : xm_J 2 mt_Cu_cut 13 [(0, .ref 38), (1, .int x1)] [.long y1, .ref 38] (I, L, RC n, n) 0 0 Q := by
  unfold f_Cu_cut_b13 at hF
  refine q_putl (i := 7) rfl fl_Cu_30 (fun h => Bool.noConfusion h) (xm_in rfl hn) rfl ?_
  refine r_aload_n (i := 8) (k0 := 0) rfl rfl rfl ?_
  refine r_lconst (v := 1) (i := 9) rfl rfl ?_
  refine q_putl (i := 10) rfl fl_Cu_34 (fun h => Bool.noConfusion h) (xm_in rfl hn) rfl ?_
  refine r_aload_n (i := 11) (k0 := 0) rfl rfl rfl ?_
  refine r_iload_n (i := 12) (k0 := 1) rfl rfl rfl ?_
  refine r_iconst (v := 1) (i := 13) rfl ki_1 ?_
  refine r_icmpne (i := 14) (tgt := 31) rfl (by decide) (fun hc => ?_) (fun hc => ?_)
  · have hF := ok_if hc hF
    refine r_ldc2 (i := 17) rfl ct_Cu_37 ?_
    refine xm_sub (Ls' := [(0, _)]) [0] rfl ?_
    exact t_Cu_cut_b34 hn (fun p h => hq p h) hF
  have hF := ok_it hc hF
  refine r_lconst (v := 1) (i := 15) rfl rfl ?_
  refine r_goto (i := 16) (tgt := 34) rfl (by decide) ?_
  refine xm_sub (Ls' := [(0, _)]) [0] rfl ?_
  exact t_Cu_cut_b34 hn (fun p h => hq p h) hF
set_option maxHeartbeats 4000000 in
set_option maxRecDepth 100000 in
theorem t_Cu_cut_b0 {x1 : Int32} {n : Nat} {I : xm_I} {L : xm_L} {K : Int32 × xm_L → Prop} {Q : Option Value → xm_H → Prop} (hn : 86 ≤ n) (hq : ∀ p : Int32 × xm_L, K p → Q (some (.int p.1)) (I, p.2, RC n, n)) (hF : ok (f_Cu_cut_b0 x1 I L) K) : xm_J 2 mt_Cu_cut 0 [(0, .ref 38), (1, .int x1)] [] (I, L, RC n, n) 0 0 Q := by
  unfold f_Cu_cut_b0 at hF
  refine r_aload_n (i := 0) (k0 := 0) rfl rfl rfl ?_
  refine r_iload_n (i := 1) (k0 := 1) rfl rfl rfl ?_
  refine r_iconst (v := 2) (i := 2) rfl ki_2 ?_
  refine r_icmpne (i := 3) (tgt := 12) rfl (by decide) (fun hc => ?_) (fun hc => ?_)
  · have hF := ok_if hc hF
    refine r_lconst (v := 0) (i := 6) rfl rfl ?_
    exact t_Cu_cut_b13 hn (fun p h => hq p h) hF
  have hF := ok_it hc hF
  refine r_ldc2 (i := 4) rfl ct_Cu_28 ?_
  refine r_goto (i := 5) (tgt := 13) rfl (by decide) ?_
  exact t_Cu_cut_b13 hn (fun p h => hq p h) hF
set_option maxHeartbeats 4000000 in
set_option maxRecDepth 100000 in
theorem t_Cu_cut {x1 : Int32} {n : Nat} {I : xm_I} {L : xm_L} {K : Int32 × xm_L → Prop} (hn : 86 ≤ n) (hF : ok (f_Cu_cut x1 I L) K) : xm_C 2 mt_Cu_cut [.ref 38, .int x1] (I, L, RC n, n) 0 0 (pI (fun p : Int32 × xm_L => p.1) (fun p : Int32 × xm_L => (I, p.2, RC n, n)) K) := by
  unfold f_Cu_cut at hF
  refine xm_enter (by decide +kernel) dv_Cu_cut (Nat.le_of_ble_eq_true rfl) ?_
  exact t_Cu_cut_b0 hn (fun p hp => ⟨p, rfl, rfl, hp⟩) hF

noncomputable def f_Cu_firstX_b0 (I : xm_I) (L : xm_L) : Option (Int32) :=
  (f_Fr_sheetX (((Int32.toInt64 (I 38 1)) * (L 38 6)) + ((Int32.toInt64 (I 38 3)) * (L 38 5))) (L 38 6) I).bind fun p_1 =>
  some (p_1)
noncomputable def f_Cu_firstX (I : xm_I) (L : xm_L) : Option (Int32) := f_Cu_firstX_b0 I L
set_option maxHeartbeats 4000000 in
set_option maxRecDepth 100000 in
theorem t_Cu_firstX_b0 {n : Nat} {I : xm_I} {L : xm_L} {K : Int32 → Prop} {Q : Option Value → xm_H → Prop} (hn : 86 ≤ n) (hq : ∀ p : Int32, K p → Q (some (.int p)) (I, L, RC n, n)) (hF : ok (f_Cu_firstX_b0 I L) K) : xm_J 3 mt_Cu_firstX 0 [(0, .ref 38)] [] (I, L, RC n, n) 0 0 Q := by
  unfold f_Cu_firstX_b0 at hF
  refine r_aload_n (i := 0) (k0 := 0) rfl rfl rfl ?_
  refine q_getr (b := 14) (i := 1) rfl fl_Cu_7 rfl (xm_in rfl hn) rfl rfl ?_
  refine r_aload_n (i := 2) (k0 := 0) rfl rfl rfl ?_
  refine q_geti (i := 3) rfl fl_Cu_13 (xm_in rfl hn) rfl ?_
  refine r_i2l (i := 4) rfl ?_
  refine r_aload_n (i := 5) (k0 := 0) rfl rfl rfl ?_
  refine q_getl (i := 6) rfl fl_Cu_34 (xm_in rfl hn) rfl ?_
  refine r_lmul (i := 7) rfl ?_
  refine r_aload_n (i := 8) (k0 := 0) rfl rfl rfl ?_
  refine q_geti (i := 9) rfl fl_Cu_20 (xm_in rfl hn) rfl ?_
  refine r_i2l (i := 10) rfl ?_
  refine r_aload_n (i := 11) (k0 := 0) rfl rfl rfl ?_
  refine q_getl (i := 12) rfl fl_Cu_30 (xm_in rfl hn) rfl ?_
  refine r_lmul (i := 13) rfl ?_
  refine r_ladd (i := 14) rfl ?_
  refine r_aload_n (i := 15) (k0 := 0) rfl rfl rfl ?_
  refine q_getl (i := 16) rfl fl_Cu_34 (xm_in rfl hn) rfl ?_
  refine c_V2I (i := 17) rfl vm_Fr_sheetX lk_Cu_70 (t_Fr_sheetX hn (ok_bind hF)) (Nat.le_of_ble_eq_true rfl) (xm_in rfl hn) rfl rfl (Nat.le_of_ble_eq_true rfl) (fun p_1 hF => ?_)
  have hQ := hq _ (ok_some hF)
  exact r_ireturn (i := 18) rfl rfl rfl hQ
set_option maxHeartbeats 4000000 in
set_option maxRecDepth 100000 in
theorem t_Cu_firstX {n : Nat} {I : xm_I} {L : xm_L} {K : Int32 → Prop} (hn : 86 ≤ n) (hF : ok (f_Cu_firstX I L) K) : xm_C 3 mt_Cu_firstX [.ref 38] (I, L, RC n, n) 0 0 (pI (fun p : Int32 => p) (fun p : Int32 => (I, L, RC n, n)) K) := by
  unfold f_Cu_firstX at hF
  refine xm_enter (by decide +kernel) dv_Cu_firstX (Nat.le_of_ble_eq_true rfl) ?_
  exact t_Cu_firstX_b0 hn (fun p hp => ⟨p, rfl, rfl, hp⟩) hF

noncomputable def f_Cu_firstY_b0 (I : xm_I) (L : xm_L) : Option (Int32) :=
  (f_Fr_sheetY (((Int32.toInt64 (I 38 2)) * (L 38 6)) + ((Int32.toInt64 (I 38 4)) * (L 38 5))) (L 38 6) I).bind fun p_1 =>
  some (p_1)
noncomputable def f_Cu_firstY (I : xm_I) (L : xm_L) : Option (Int32) := f_Cu_firstY_b0 I L
set_option maxHeartbeats 4000000 in
set_option maxRecDepth 100000 in
theorem t_Cu_firstY_b0 {n : Nat} {I : xm_I} {L : xm_L} {K : Int32 → Prop} {Q : Option Value → xm_H → Prop} (hn : 86 ≤ n) (hq : ∀ p : Int32, K p → Q (some (.int p)) (I, L, RC n, n)) (hF : ok (f_Cu_firstY_b0 I L) K) : xm_J 3 mt_Cu_firstY 0 [(0, .ref 38)] [] (I, L, RC n, n) 0 0 Q := by
  unfold f_Cu_firstY_b0 at hF
  refine r_aload_n (i := 0) (k0 := 0) rfl rfl rfl ?_
  refine q_getr (b := 14) (i := 1) rfl fl_Cu_7 rfl (xm_in rfl hn) rfl rfl ?_
  refine r_aload_n (i := 2) (k0 := 0) rfl rfl rfl ?_
  refine q_geti (i := 3) rfl fl_Cu_17 (xm_in rfl hn) rfl ?_
  refine r_i2l (i := 4) rfl ?_
  refine r_aload_n (i := 5) (k0 := 0) rfl rfl rfl ?_
  refine q_getl (i := 6) rfl fl_Cu_34 (xm_in rfl hn) rfl ?_
  refine r_lmul (i := 7) rfl ?_
  refine r_aload_n (i := 8) (k0 := 0) rfl rfl rfl ?_
  refine q_geti (i := 9) rfl fl_Cu_23 (xm_in rfl hn) rfl ?_
  refine r_i2l (i := 10) rfl ?_
  refine r_aload_n (i := 11) (k0 := 0) rfl rfl rfl ?_
  refine q_getl (i := 12) rfl fl_Cu_30 (xm_in rfl hn) rfl ?_
  refine r_lmul (i := 13) rfl ?_
  refine r_ladd (i := 14) rfl ?_
  refine r_aload_n (i := 15) (k0 := 0) rfl rfl rfl ?_
  refine q_getl (i := 16) rfl fl_Cu_34 (xm_in rfl hn) rfl ?_
  refine c_V2I (i := 17) rfl vm_Fr_sheetY lk_Cu_74 (t_Fr_sheetY hn (ok_bind hF)) (Nat.le_of_ble_eq_true rfl) (xm_in rfl hn) rfl rfl (Nat.le_of_ble_eq_true rfl) (fun p_1 hF => ?_)
  have hQ := hq _ (ok_some hF)
  exact r_ireturn (i := 18) rfl rfl rfl hQ
set_option maxHeartbeats 4000000 in
set_option maxRecDepth 100000 in
theorem t_Cu_firstY {n : Nat} {I : xm_I} {L : xm_L} {K : Int32 → Prop} (hn : 86 ≤ n) (hF : ok (f_Cu_firstY I L) K) : xm_C 3 mt_Cu_firstY [.ref 38] (I, L, RC n, n) 0 0 (pI (fun p : Int32 => p) (fun p : Int32 => (I, L, RC n, n)) K) := by
  unfold f_Cu_firstY at hF
  refine xm_enter (by decide +kernel) dv_Cu_firstY (Nat.le_of_ble_eq_true rfl) ?_
  exact t_Cu_firstY_b0 hn (fun p hp => ⟨p, rfl, rfl, hp⟩) hF

noncomputable def f_Cu_lastX_b0 (I : xm_I) (L : xm_L) : Option (Int32) :=
  (f_Fr_sheetX (((Int32.toInt64 (I 38 1)) * (L 38 8)) + ((Int32.toInt64 (I 38 3)) * (L 38 7))) (L 38 8) I).bind fun p_1 =>
  some (p_1)
noncomputable def f_Cu_lastX (I : xm_I) (L : xm_L) : Option (Int32) := f_Cu_lastX_b0 I L
set_option maxHeartbeats 4000000 in
set_option maxRecDepth 100000 in
theorem t_Cu_lastX_b0 {n : Nat} {I : xm_I} {L : xm_L} {K : Int32 → Prop} {Q : Option Value → xm_H → Prop} (hn : 86 ≤ n) (hq : ∀ p : Int32, K p → Q (some (.int p)) (I, L, RC n, n)) (hF : ok (f_Cu_lastX_b0 I L) K) : xm_J 3 mt_Cu_lastX 0 [(0, .ref 38)] [] (I, L, RC n, n) 0 0 Q := by
  unfold f_Cu_lastX_b0 at hF
  refine r_aload_n (i := 0) (k0 := 0) rfl rfl rfl ?_
  refine q_getr (b := 14) (i := 1) rfl fl_Cu_7 rfl (xm_in rfl hn) rfl rfl ?_
  refine r_aload_n (i := 2) (k0 := 0) rfl rfl rfl ?_
  refine q_geti (i := 3) rfl fl_Cu_13 (xm_in rfl hn) rfl ?_
  refine r_i2l (i := 4) rfl ?_
  refine r_aload_n (i := 5) (k0 := 0) rfl rfl rfl ?_
  refine q_getl (i := 6) rfl fl_Cu_42 (xm_in rfl hn) rfl ?_
  refine r_lmul (i := 7) rfl ?_
  refine r_aload_n (i := 8) (k0 := 0) rfl rfl rfl ?_
  refine q_geti (i := 9) rfl fl_Cu_20 (xm_in rfl hn) rfl ?_
  refine r_i2l (i := 10) rfl ?_
  refine r_aload_n (i := 11) (k0 := 0) rfl rfl rfl ?_
  refine q_getl (i := 12) rfl fl_Cu_39 (xm_in rfl hn) rfl ?_
  refine r_lmul (i := 13) rfl ?_
  refine r_ladd (i := 14) rfl ?_
  refine r_aload_n (i := 15) (k0 := 0) rfl rfl rfl ?_
  refine q_getl (i := 16) rfl fl_Cu_42 (xm_in rfl hn) rfl ?_
  refine c_V2I (i := 17) rfl vm_Fr_sheetX lk_Cu_70 (t_Fr_sheetX hn (ok_bind hF)) (Nat.le_of_ble_eq_true rfl) (xm_in rfl hn) rfl rfl (Nat.le_of_ble_eq_true rfl) (fun p_1 hF => ?_)
  have hQ := hq _ (ok_some hF)
  exact r_ireturn (i := 18) rfl rfl rfl hQ
set_option maxHeartbeats 4000000 in
set_option maxRecDepth 100000 in
theorem t_Cu_lastX {n : Nat} {I : xm_I} {L : xm_L} {K : Int32 → Prop} (hn : 86 ≤ n) (hF : ok (f_Cu_lastX I L) K) : xm_C 3 mt_Cu_lastX [.ref 38] (I, L, RC n, n) 0 0 (pI (fun p : Int32 => p) (fun p : Int32 => (I, L, RC n, n)) K) := by
  unfold f_Cu_lastX at hF
  refine xm_enter (by decide +kernel) dv_Cu_lastX (Nat.le_of_ble_eq_true rfl) ?_
  exact t_Cu_lastX_b0 hn (fun p hp => ⟨p, rfl, rfl, hp⟩) hF

noncomputable def f_Cu_lastY_b0 (I : xm_I) (L : xm_L) : Option (Int32) :=
  (f_Fr_sheetY (((Int32.toInt64 (I 38 2)) * (L 38 8)) + ((Int32.toInt64 (I 38 4)) * (L 38 7))) (L 38 8) I).bind fun p_1 =>
  some (p_1)
noncomputable def f_Cu_lastY (I : xm_I) (L : xm_L) : Option (Int32) := f_Cu_lastY_b0 I L
set_option maxHeartbeats 4000000 in
set_option maxRecDepth 100000 in
theorem t_Cu_lastY_b0 {n : Nat} {I : xm_I} {L : xm_L} {K : Int32 → Prop} {Q : Option Value → xm_H → Prop} (hn : 86 ≤ n) (hq : ∀ p : Int32, K p → Q (some (.int p)) (I, L, RC n, n)) (hF : ok (f_Cu_lastY_b0 I L) K) : xm_J 3 mt_Cu_lastY 0 [(0, .ref 38)] [] (I, L, RC n, n) 0 0 Q := by
  unfold f_Cu_lastY_b0 at hF
  refine r_aload_n (i := 0) (k0 := 0) rfl rfl rfl ?_
  refine q_getr (b := 14) (i := 1) rfl fl_Cu_7 rfl (xm_in rfl hn) rfl rfl ?_
  refine r_aload_n (i := 2) (k0 := 0) rfl rfl rfl ?_
  refine q_geti (i := 3) rfl fl_Cu_17 (xm_in rfl hn) rfl ?_
  refine r_i2l (i := 4) rfl ?_
  refine r_aload_n (i := 5) (k0 := 0) rfl rfl rfl ?_
  refine q_getl (i := 6) rfl fl_Cu_42 (xm_in rfl hn) rfl ?_
  refine r_lmul (i := 7) rfl ?_
  refine r_aload_n (i := 8) (k0 := 0) rfl rfl rfl ?_
  refine q_geti (i := 9) rfl fl_Cu_23 (xm_in rfl hn) rfl ?_
  refine r_i2l (i := 10) rfl ?_
  refine r_aload_n (i := 11) (k0 := 0) rfl rfl rfl ?_
  refine q_getl (i := 12) rfl fl_Cu_39 (xm_in rfl hn) rfl ?_
  refine r_lmul (i := 13) rfl ?_
  refine r_ladd (i := 14) rfl ?_
  refine r_aload_n (i := 15) (k0 := 0) rfl rfl rfl ?_
  refine q_getl (i := 16) rfl fl_Cu_42 (xm_in rfl hn) rfl ?_
  refine c_V2I (i := 17) rfl vm_Fr_sheetY lk_Cu_74 (t_Fr_sheetY hn (ok_bind hF)) (Nat.le_of_ble_eq_true rfl) (xm_in rfl hn) rfl rfl (Nat.le_of_ble_eq_true rfl) (fun p_1 hF => ?_)
  have hQ := hq _ (ok_some hF)
  exact r_ireturn (i := 18) rfl rfl rfl hQ
set_option maxHeartbeats 4000000 in
set_option maxRecDepth 100000 in
theorem t_Cu_lastY {n : Nat} {I : xm_I} {L : xm_L} {K : Int32 → Prop} (hn : 86 ≤ n) (hF : ok (f_Cu_lastY I L) K) : xm_C 3 mt_Cu_lastY [.ref 38] (I, L, RC n, n) 0 0 (pI (fun p : Int32 => p) (fun p : Int32 => (I, L, RC n, n)) K) := by
  unfold f_Cu_lastY at hF
  refine xm_enter (by decide +kernel) dv_Cu_lastY (Nat.le_of_ble_eq_true rfl) ?_
  exact t_Cu_lastY_b0 hn (fun p hp => ⟨p, rfl, rfl, hp⟩) hF

noncomputable def f_Cu_setWay_b0 (x1 : Int32) (x2 : Int32) (x3 : Int32) (x4 : Int32) (I : xm_I) : Option (xm_I) :=
  let I_1 : xm_I := up2 I 38 1 x1
  let I_2 : xm_I := up2 I_1 38 2 x2
  let I_3 : xm_I := up2 I_2 38 3 (x3 - x1)
  let I_4 : xm_I := up2 I_3 38 4 (x4 - x2)
  some (I_4)
noncomputable def f_Cu_setWay (x1 : Int32) (x2 : Int32) (x3 : Int32) (x4 : Int32) (I : xm_I) : Option (xm_I) := f_Cu_setWay_b0 x1 x2 x3 x4 I
set_option maxHeartbeats 4000000 in
set_option maxRecDepth 100000 in
theorem t_Cu_setWay_b0 {x1 : Int32} {x2 : Int32} {x3 : Int32} {x4 : Int32} {n : Nat} {I : xm_I} {L : xm_L} {K : xm_I → Prop} {Q : Option Value → xm_H → Prop} (hn : 86 ≤ n) (hq : ∀ p : xm_I, K p → Q none (p, L, RC n, n)) (hF : ok (f_Cu_setWay_b0 x1 x2 x3 x4 I) K) : xm_J 0 mt_Cu_setWay 0 [(0, .ref 38), (1, .int x1), (2, .int x2), (3, .int x3), (4, .int x4)] [] (I, L, RC n, n) 0 0 Q := by
  unfold f_Cu_setWay_b0 at hF
  refine r_aload_n (i := 0) (k0 := 0) rfl rfl rfl ?_
  refine r_iload_n (i := 1) (k0 := 1) rfl rfl rfl ?_
  refine q_puti (i := 2) rfl fl_Cu_13 (fun h => Bool.noConfusion h) (xm_in rfl hn) rfl ?_
  refine r_aload_n (i := 3) (k0 := 0) rfl rfl rfl ?_
  refine r_iload_n (i := 4) (k0 := 2) rfl rfl rfl ?_
  refine q_puti (i := 5) rfl fl_Cu_17 (fun h => Bool.noConfusion h) (xm_in rfl hn) rfl ?_
  refine r_aload_n (i := 6) (k0 := 0) rfl rfl rfl ?_
  refine r_iload_n (i := 7) (k0 := 3) rfl rfl rfl ?_
  refine r_iload_n (i := 8) (k0 := 1) rfl rfl rfl ?_
  refine r_isub (i := 9) rfl ?_
  refine q_puti (i := 10) rfl fl_Cu_20 (fun h => Bool.noConfusion h) (xm_in rfl hn) rfl ?_
  refine r_aload_n (i := 11) (k0 := 0) rfl rfl rfl ?_
  refine r_iload (i := 12) (k0 := 4) rfl rfl ?_
  refine r_iload_n (i := 13) (k0 := 2) rfl rfl rfl ?_
  refine r_isub (i := 14) rfl ?_
  refine q_puti (i := 15) rfl fl_Cu_23 (fun h => Bool.noConfusion h) (xm_in rfl hn) rfl ?_
  have hQ := hq _ (ok_some hF)
  exact r_return (i := 16) rfl rfl hQ
set_option maxHeartbeats 4000000 in
set_option maxRecDepth 100000 in
theorem t_Cu_setWay {x1 : Int32} {x2 : Int32} {x3 : Int32} {x4 : Int32} {n : Nat} {I : xm_I} {L : xm_L} {K : xm_I → Prop} (hn : 86 ≤ n) (hF : ok (f_Cu_setWay x1 x2 x3 x4 I) K) : xm_C 0 mt_Cu_setWay [.ref 38, .int x1, .int x2, .int x3, .int x4] (I, L, RC n, n) 0 0 (pV (fun p : xm_I => (p, L, RC n, n)) K) := by
  unfold f_Cu_setWay at hF
  refine xm_enter (by decide +kernel) dv_Cu_setWay (Nat.le_of_ble_eq_true rfl) ?_
  exact t_Cu_setWay_b0 hn (fun p hp => ⟨p, rfl, rfl, hp⟩) hF

noncomputable def f_Pn_paintStraight_b0 (x1 : Int32) (I : xm_I) (L : xm_L) : Option (xm_I × xm_L) :=
  (f_Fg_xOf x1 0 I).bind fun p_1 =>
  (f_Fg_yOf x1 0 I).bind fun p_2 =>
  (f_Fg_xOf x1 1 I).bind fun p_3 =>
  (f_Fg_yOf x1 1 I).bind fun p_4 =>
  (f_Cu_setWay p_1 p_2 p_3 p_4 I).bind fun p_5 =>
  (f_Fg_kindOf x1 p_5).bind fun p_6 =>
  (f_Cu_cut p_6 p_5 L).bind fun p_7 =>
  if p_7.1 = 0 then (
    some (p_5, p_7.2))
  else (
    (f_Cu_firstX p_5 p_7.2).bind fun p_8 =>
    (f_Cu_firstY p_5 p_7.2).bind fun p_9 =>
    (f_Cu_lastX p_5 p_7.2).bind fun p_10 =>
    (f_Cu_lastY p_5 p_7.2).bind fun p_11 =>
    (f_Fg_styleOf x1 p_5).bind fun p_12 =>
    (f_Mk_add 83 p_8 p_9 p_10 p_11 p_12 p_5).bind fun p_13 =>
    (f_D_roundedDown (Int32.toInt64 (p_8 + p_10)) 2).bind fun p_14 =>
    (f_D_roundedDown (Int32.toInt64 (p_9 + p_11)) 2).bind fun p_15 =>
    (f_Pn_anchor x1 p_14 p_15 p_13).bind fun p_16 =>
    some (p_16, p_7.2))
noncomputable def f_Pn_paintStraight (x1 : Int32) (I : xm_I) (L : xm_L) : Option (xm_I × xm_L) := f_Pn_paintStraight_b0 x1 I L
set_option maxHeartbeats 4000000 in
set_option maxRecDepth 100000 in
theorem t_Pn_paintStraight_b0 {x1 : Int32} {n : Nat} {I : xm_I} {L : xm_L} {K : xm_I × xm_L → Prop} {Q : Option Value → xm_H → Prop} (hn : 86 ≤ n) (hq : ∀ p : xm_I × xm_L, K p → Q none (p.1, p.2, RC n, n)) (hF : ok (f_Pn_paintStraight_b0 x1 I L) K) : xm_J 4 mt_Pn_paintStraight 0 [(0, .ref 30), (1, .int x1)] [] (I, L, RC n, n) 0 0 Q := by
  unfold f_Pn_paintStraight_b0 at hF
  refine r_aload_n (i := 0) (k0 := 0) rfl rfl rfl ?_
  refine q_getr (b := 38) (i := 1) rfl fl_Pn_56 rfl (xm_in rfl hn) rfl rfl ?_
  refine r_aload_n (i := 2) (k0 := 0) rfl rfl rfl ?_
  refine q_getr (b := 6) (i := 3) rfl fl_Pn_35 rfl (xm_in rfl hn) rfl rfl ?_
  refine r_iload_n (i := 4) (k0 := 1) rfl rfl rfl ?_
  refine r_iconst (v := 0) (i := 5) rfl ki_0 ?_
  refine c_V2I (i := 6) rfl vm_Fg_xOf lk_Pn_188 (t_Fg_xOf hn (ok_bind hF)) (Nat.le_of_ble_eq_true rfl) (xm_in rfl hn) rfl rfl (Nat.le_of_ble_eq_true rfl) (fun p_1 hF => ?_)
  refine r_aload_n (i := 7) (k0 := 0) rfl rfl rfl ?_
  refine q_getr (b := 6) (i := 8) rfl fl_Pn_35 rfl (xm_in rfl hn) rfl rfl ?_
  refine r_iload_n (i := 9) (k0 := 1) rfl rfl rfl ?_
  refine r_iconst (v := 0) (i := 10) rfl ki_0 ?_
  refine c_V2I (i := 11) rfl vm_Fg_yOf lk_Pn_191 (t_Fg_yOf hn (ok_bind hF)) (Nat.le_of_ble_eq_true rfl) (xm_in rfl hn) rfl rfl (Nat.le_of_ble_eq_true rfl) (fun p_2 hF => ?_)
  refine r_aload_n (i := 12) (k0 := 0) rfl rfl rfl ?_
  refine q_getr (b := 6) (i := 13) rfl fl_Pn_35 rfl (xm_in rfl hn) rfl rfl ?_
  refine r_iload_n (i := 14) (k0 := 1) rfl rfl rfl ?_
  refine r_iconst (v := 1) (i := 15) rfl ki_1 ?_
  refine c_V2I (i := 16) rfl vm_Fg_xOf lk_Pn_188 (t_Fg_xOf hn (ok_bind hF)) (Nat.le_of_ble_eq_true rfl) (xm_in rfl hn) rfl rfl (Nat.le_of_ble_eq_true rfl) (fun p_3 hF => ?_)
  refine r_aload_n (i := 17) (k0 := 0) rfl rfl rfl ?_
  refine q_getr (b := 6) (i := 18) rfl fl_Pn_35 rfl (xm_in rfl hn) rfl rfl ?_
  refine r_iload_n (i := 19) (k0 := 1) rfl rfl rfl ?_
  refine r_iconst (v := 1) (i := 20) rfl ki_1 ?_
  refine c_V2I (i := 21) rfl vm_Fg_yOf lk_Pn_191 (t_Fg_yOf hn (ok_bind hF)) (Nat.le_of_ble_eq_true rfl) (xm_in rfl hn) rfl rfl (Nat.le_of_ble_eq_true rfl) (fun p_4 hF => ?_)
  refine c_V4V (i := 22) rfl vm_Cu_setWay lk_Pn_225 (t_Cu_setWay hn (ok_bind hF)) (Nat.le_of_ble_eq_true rfl) (xm_in rfl hn) rfl rfl (Nat.le_of_ble_eq_true rfl) (fun p_5 hF => ?_)
  refine r_aload_n (i := 23) (k0 := 0) rfl rfl rfl ?_
  refine q_getr (b := 38) (i := 24) rfl fl_Pn_56 rfl (xm_in rfl hn) rfl rfl ?_
  refine r_aload_n (i := 25) (k0 := 0) rfl rfl rfl ?_
  refine q_getr (b := 6) (i := 26) rfl fl_Pn_35 rfl (xm_in rfl hn) rfl rfl ?_
  refine r_iload_n (i := 27) (k0 := 1) rfl rfl rfl ?_
  refine c_V1I (i := 28) rfl vm_Fg_kindOf lk_Pn_135 (t_Fg_kindOf hn (ok_bind hF)) (Nat.le_of_ble_eq_true rfl) (xm_in rfl hn) rfl rfl (Nat.le_of_ble_eq_true rfl) (fun p_6 hF => ?_)
  refine c_V1I (i := 29) rfl vm_Cu_cut lk_Pn_229 (t_Cu_cut hn (ok_bind hF)) (Nat.le_of_ble_eq_true rfl) (xm_in rfl hn) rfl rfl (Nat.le_of_ble_eq_true rfl) (fun p_7 hF => ?_)
  refine r_ifne (i := 30) (tgt := 62) rfl (by decide) (fun hc => ?_) (fun hc => ?_)
  · have hF := ok_if hc hF
    refine r_aload_n (i := 32) (k0 := 0) rfl rfl rfl ?_
    refine q_getr (b := 38) (i := 33) rfl fl_Pn_56 rfl (xm_in rfl hn) rfl rfl ?_
    refine c_V0I (i := 34) rfl vm_Cu_firstX lk_Pn_232 (t_Cu_firstX hn (ok_bind hF)) (Nat.le_of_ble_eq_true rfl) (xm_in rfl hn) rfl rfl (Nat.le_of_ble_eq_true rfl) (fun p_8 hF => ?_)
    refine r_istore_n (i := 35) (Ls' := [(2, _), (0, _), (1, _)]) rfl rfl (Nat.le_of_ble_eq_true rfl) rfl ?_
    refine r_aload_n (i := 36) (k0 := 1) rfl rfl rfl ?_
    refine q_getr (b := 38) (i := 37) rfl fl_Pn_56 rfl (xm_in rfl hn) rfl rfl ?_
    refine c_V0I (i := 38) rfl vm_Cu_firstY lk_Pn_236 (t_Cu_firstY hn (ok_bind hF)) (Nat.le_of_ble_eq_true rfl) (xm_in rfl hn) rfl rfl (Nat.le_of_ble_eq_true rfl) (fun p_9 hF => ?_)
    refine r_istore_n (i := 39) (Ls' := [(3, _), (2, _), (0, _), (1, _)]) rfl rfl (Nat.le_of_ble_eq_true rfl) rfl ?_
    refine r_aload_n (i := 40) (k0 := 2) rfl rfl rfl ?_
    refine q_getr (b := 38) (i := 41) rfl fl_Pn_56 rfl (xm_in rfl hn) rfl rfl ?_
    refine c_V0I (i := 42) rfl vm_Cu_lastX lk_Pn_239 (t_Cu_lastX hn (ok_bind hF)) (Nat.le_of_ble_eq_true rfl) (xm_in rfl hn) rfl rfl (Nat.le_of_ble_eq_true rfl) (fun p_10 hF => ?_)
    refine r_istore (i := 43) (Ls' := [(4, _), (3, _), (2, _), (0, _), (1, _)]) rfl (Nat.le_of_ble_eq_true rfl) rfl ?_
    refine r_aload_n (i := 44) (k0 := 3) rfl rfl rfl ?_
    refine q_getr (b := 38) (i := 45) rfl fl_Pn_56 rfl (xm_in rfl hn) rfl rfl ?_
    refine c_V0I (i := 46) rfl vm_Cu_lastY lk_Pn_242 (t_Cu_lastY hn (ok_bind hF)) (Nat.le_of_ble_eq_true rfl) (xm_in rfl hn) rfl rfl (Nat.le_of_ble_eq_true rfl) (fun p_11 hF => ?_)
    refine r_istore (i := 47) (Ls' := [(5, _), (4, _), (3, _), (2, _), (0, _), (1, _)]) rfl (Nat.le_of_ble_eq_true rfl) rfl ?_
    refine r_aload_n (i := 48) (k0 := 4) rfl rfl rfl ?_
    refine q_getr (b := 17) (i := 49) rfl fl_Pn_47 rfl (xm_in rfl hn) rfl rfl ?_
    refine r_bipush (v := 83) (i := 50) rfl kb_83 ?_
    refine r_iload_n (i := 51) (k0 := 3) rfl rfl rfl ?_
    refine r_iload_n (i := 52) (k0 := 2) rfl rfl rfl ?_
    refine r_iload (i := 53) (k0 := 1) rfl rfl ?_
    refine r_iload (i := 54) (k0 := 0) rfl rfl ?_
    refine r_aload_n (i := 55) (k0 := 4) rfl rfl rfl ?_
    refine q_getr (b := 6) (i := 56) rfl fl_Pn_35 rfl (xm_in rfl hn) rfl rfl ?_
    refine r_iload_n (i := 57) (k0 := 5) rfl rfl rfl ?_
    refine c_V1I (i := 58) rfl vm_Fg_styleOf lk_Pn_171 (t_Fg_styleOf hn (ok_bind hF)) (Nat.le_of_ble_eq_true rfl) (xm_in rfl hn) rfl rfl (Nat.le_of_ble_eq_true rfl) (fun p_12 hF => ?_)
    refine c_V6V (i := 59) rfl vm_Mk_add lk_Pn_74 (t_Mk_add hn (ok_bind hF)) (Nat.le_of_ble_eq_true rfl) (xm_in rfl hn) rfl rfl (Nat.le_of_ble_eq_true rfl) (fun p_13 hF => ?_)
    refine r_aload_n (i := 60) (k0 := 4) rfl rfl rfl ?_
    refine r_iload_n (i := 61) (k0 := 5) rfl rfl rfl ?_
    refine r_iload_n (i := 62) (k0 := 3) rfl rfl rfl ?_
    refine r_iload (i := 63) (k0 := 1) rfl rfl ?_
    refine r_iadd (i := 64) rfl ?_
    refine r_i2l (i := 65) rfl ?_
    refine r_ldc2 (i := 66) rfl ct_Pn_245 ?_
    refine c_N2I (i := 67) rfl sm_D_roundedDown lk_Pn_178 (t_D_roundedDown hn (ok_bind hF)) (Nat.le_of_ble_eq_true rfl) rfl (Nat.le_of_ble_eq_true rfl) (fun p_14 hF => ?_)
    refine r_iload_n (i := 68) (k0 := 2) rfl rfl rfl ?_
    refine r_iload (i := 69) (k0 := 0) rfl rfl ?_
    refine r_iadd (i := 70) rfl ?_
    refine r_i2l (i := 71) rfl ?_
    refine r_ldc2 (i := 72) rfl ct_Pn_245 ?_
    refine c_N2I (i := 73) rfl sm_D_roundedDown lk_Pn_178 (t_D_roundedDown hn (ok_bind hF)) (Nat.le_of_ble_eq_true rfl) rfl (Nat.le_of_ble_eq_true rfl) (fun p_15 hF => ?_)
    refine c_V3V (i := 74) rfl vm_Pn_anchor lk_Pn_181 (t_Pn_anchor hn (ok_bind hF)) (Nat.le_of_ble_eq_true rfl) (xm_in rfl hn) rfl rfl (Nat.le_of_ble_eq_true rfl) (fun p_16 hF => ?_)
    have hQ := hq _ (ok_some hF)
    exact r_return (i := 75) rfl rfl hQ
  have hF := ok_it hc hF
  have hQ := hq _ (ok_some hF)
  exact r_return (i := 31) rfl rfl hQ
set_option maxHeartbeats 4000000 in
set_option maxRecDepth 100000 in
theorem t_Pn_paintStraight {x1 : Int32} {n : Nat} {I : xm_I} {L : xm_L} {K : xm_I × xm_L → Prop} (hn : 86 ≤ n) (hF : ok (f_Pn_paintStraight x1 I L) K) : xm_C 4 mt_Pn_paintStraight [.ref 30, .int x1] (I, L, RC n, n) 0 0 (pV (fun p : xm_I × xm_L => (p.1, p.2, RC n, n)) K) := by
  unfold f_Pn_paintStraight at hF
  refine xm_enter (by decide +kernel) dv_Pn_paintStraight (Nat.le_of_ble_eq_true rfl) ?_
  exact t_Pn_paintStraight_b0 hn (fun p hp => ⟨p, rfl, rfl, hp⟩) hF

noncomputable def f_Fg_strokesOf_b0 (x1 : Int32) (I : xm_I) : Option (Int32) :=
  (f_Fg_has x1 I).bind fun p_1 =>
  if p_1 = 0 then (
    some (0))
  else (
  gd (0 ≤ (x1).toInt ∧ (x1).toInt < 40) <|
  some (I 9 (Int32.toNatClampNeg x1)))
noncomputable def f_Fg_strokesOf (x1 : Int32) (I : xm_I) : Option (Int32) := f_Fg_strokesOf_b0 x1 I
set_option maxHeartbeats 4000000 in
set_option maxRecDepth 100000 in
theorem t_Fg_strokesOf_b0 {x1 : Int32} {n : Nat} {I : xm_I} {L : xm_L} {K : Int32 → Prop} {Q : Option Value → xm_H → Prop} (hn : 86 ≤ n) (hq : ∀ p : Int32, K p → Q (some (.int p)) (I, L, RC n, n)) (hF : ok (f_Fg_strokesOf_b0 x1 I) K) : xm_J 1 mt_Fg_strokesOf 0 [(0, .ref 6), (1, .int x1)] [] (I, L, RC n, n) 0 0 Q := by
  unfold f_Fg_strokesOf_b0 at hF
  refine r_aload_n (i := 0) (k0 := 0) rfl rfl rfl ?_
  refine r_iload_n (i := 1) (k0 := 1) rfl rfl rfl ?_
  refine c_V1I (i := 2) rfl vm_Fg_has lk_Fg_59 (t_Fg_has hn (ok_bind hF)) (Nat.le_of_ble_eq_true rfl) (xm_in rfl hn) rfl rfl (Nat.le_of_ble_eq_true rfl) (fun p_1 hF => ?_)
  refine r_ifeq (i := 3) (tgt := 17) rfl (by decide) (fun hc => ?_) (fun hc => ?_)
  · have hF := ok_it hc hF
    refine r_iconst (v := 0) (i := 9) rfl ki_0 ?_
    have hQ := hq _ (ok_some hF)
    exact r_ireturn (i := 10) rfl rfl rfl hQ
  have hF := ok_if hc hF
  refine r_aload_n (i := 4) (k0 := 0) rfl rfl rfl ?_
  refine q_getr (b := 9) (i := 5) rfl fl_Fg_18 rfl (xm_in rfl hn) rfl rfl ?_
  refine r_iload_n (i := 6) (k0 := 1) rfl rfl rfl ?_
  obtain ⟨hi, hF⟩ := ok_gd hF
  refine q_iaload (i := 7) rfl (xm_in rfl hn) rfl hi ?_
  refine r_goto (i := 8) (tgt := 18) rfl (by decide) ?_
  have hQ := hq _ (ok_some hF)
  exact r_ireturn (i := 10) rfl rfl rfl hQ
set_option maxHeartbeats 4000000 in
set_option maxRecDepth 100000 in
theorem t_Fg_strokesOf {x1 : Int32} {n : Nat} {I : xm_I} {L : xm_L} {K : Int32 → Prop} (hn : 86 ≤ n) (hF : ok (f_Fg_strokesOf x1 I) K) : xm_C 1 mt_Fg_strokesOf [.ref 6, .int x1] (I, L, RC n, n) 0 0 (pI (fun p : Int32 => p) (fun p : Int32 => (I, L, RC n, n)) K) := by
  unfold f_Fg_strokesOf at hF
  refine xm_enter (by decide +kernel) dv_Fg_strokesOf (Nat.le_of_ble_eq_true rfl) ?_
  exact t_Fg_strokesOf_b0 hn (fun p hp => ⟨p, rfl, rfl, hp⟩) hF

noncomputable def f_Pn_paintTicks_b0 (x1 : Int32) (I : xm_I) : Option (xm_I) :=
  (f_Fg_xOf x1 0 I).bind fun p_1 =>
  (f_Fg_xOf x1 1 I).bind fun p_2 =>
  let x2_3 : Int32 := p_1 + p_2
  (f_Fg_yOf x1 0 I).bind fun p_4 =>
  (f_Fg_yOf x1 1 I).bind fun p_5 =>
  let x3_6 : Int32 := p_4 + p_5
  (f_Fr_holds (Int32.toInt64 x2_3) (Int32.toInt64 x3_6) 2 I).bind fun p_7 =>
  if p_7 = 0 then (
    some (I))
  else (
    (f_Fr_sheetX (Int32.toInt64 x2_3) 2 I).bind fun p_8 =>
    (f_Fr_sheetY (Int32.toInt64 x3_6) 2 I).bind fun p_9 =>
    (f_Fg_xOf x1 1 I).bind fun p_10 =>
    (f_Fg_xOf x1 0 I).bind fun p_11 =>
    (f_Fg_yOf x1 1 I).bind fun p_12 =>
    (f_Fg_yOf x1 0 I).bind fun p_13 =>
    (f_D_octant (p_10 - p_11) (p_12 - p_13)).bind fun p_14 =>
    (f_Fg_strokesOf x1 I).bind fun p_15 =>
    (f_Mk_add 84 p_8 p_9 p_15 p_14 0 I).bind fun p_16 =>
    (f_Pn_anchor x1 p_8 p_9 p_16).bind fun p_17 =>
    some (p_17))
noncomputable def f_Pn_paintTicks (x1 : Int32) (I : xm_I) : Option (xm_I) := f_Pn_paintTicks_b0 x1 I
set_option maxHeartbeats 4000000 in
set_option maxRecDepth 100000 in
theorem t_Pn_paintTicks_b0 {x1 : Int32} {n : Nat} {I : xm_I} {L : xm_L} {K : xm_I → Prop} {Q : Option Value → xm_H → Prop} (hn : 86 ≤ n) (hq : ∀ p : xm_I, K p → Q none (p, L, RC n, n)) (hF : ok (f_Pn_paintTicks_b0 x1 I) K) : xm_J 3 mt_Pn_paintTicks 0 [(0, .ref 30), (1, .int x1)] [] (I, L, RC n, n) 0 0 Q := by
  unfold f_Pn_paintTicks_b0 at hF
  refine r_aload_n (i := 0) (k0 := 0) rfl rfl rfl ?_
  refine q_getr (b := 6) (i := 1) rfl fl_Pn_35 rfl (xm_in rfl hn) rfl rfl ?_
  refine r_iload_n (i := 2) (k0 := 1) rfl rfl rfl ?_
  refine r_iconst (v := 0) (i := 3) rfl ki_0 ?_
  refine c_V2I (i := 4) rfl vm_Fg_xOf lk_Pn_188 (t_Fg_xOf hn (ok_bind hF)) (Nat.le_of_ble_eq_true rfl) (xm_in rfl hn) rfl rfl (Nat.le_of_ble_eq_true rfl) (fun p_1 hF => ?_)
  refine r_aload_n (i := 5) (k0 := 0) rfl rfl rfl ?_
  refine q_getr (b := 6) (i := 6) rfl fl_Pn_35 rfl (xm_in rfl hn) rfl rfl ?_
  refine r_iload_n (i := 7) (k0 := 1) rfl rfl rfl ?_
  refine r_iconst (v := 1) (i := 8) rfl ki_1 ?_
  refine c_V2I (i := 9) rfl vm_Fg_xOf lk_Pn_188 (t_Fg_xOf hn (ok_bind hF)) (Nat.le_of_ble_eq_true rfl) (xm_in rfl hn) rfl rfl (Nat.le_of_ble_eq_true rfl) (fun p_2 hF => ?_)
  refine r_iadd (i := 10) rfl ?_
  refine r_istore_n (i := 11) (Ls' := [(2, _), (0, _), (1, _)]) rfl rfl (Nat.le_of_ble_eq_true rfl) rfl ?_
  refine r_aload_n (i := 12) (k0 := 1) rfl rfl rfl ?_
  refine q_getr (b := 6) (i := 13) rfl fl_Pn_35 rfl (xm_in rfl hn) rfl rfl ?_
  refine r_iload_n (i := 14) (k0 := 2) rfl rfl rfl ?_
  refine r_iconst (v := 0) (i := 15) rfl ki_0 ?_
  refine c_V2I (i := 16) rfl vm_Fg_yOf lk_Pn_191 (t_Fg_yOf hn (ok_bind hF)) (Nat.le_of_ble_eq_true rfl) (xm_in rfl hn) rfl rfl (Nat.le_of_ble_eq_true rfl) (fun p_4 hF => ?_)
  refine r_aload_n (i := 17) (k0 := 1) rfl rfl rfl ?_
  refine q_getr (b := 6) (i := 18) rfl fl_Pn_35 rfl (xm_in rfl hn) rfl rfl ?_
  refine r_iload_n (i := 19) (k0 := 2) rfl rfl rfl ?_
  refine r_iconst (v := 1) (i := 20) rfl ki_1 ?_
  refine c_V2I (i := 21) rfl vm_Fg_yOf lk_Pn_191 (t_Fg_yOf hn (ok_bind hF)) (Nat.le_of_ble_eq_true rfl) (xm_in rfl hn) rfl rfl (Nat.le_of_ble_eq_true rfl) (fun p_5 hF => ?_)
  refine r_iadd (i := 22) rfl ?_
  refine r_istore_n (i := 23) (Ls' := [(3, _), (2, _), (0, _), (1, _)]) rfl rfl (Nat.le_of_ble_eq_true rfl) rfl ?_
  refine r_aload_n (i := 24) (k0 := 2) rfl rfl rfl ?_
  refine q_getr (b := 14) (i := 25) rfl fl_Pn_43 rfl (xm_in rfl hn) rfl rfl ?_
  refine r_iload_n (i := 26) (k0 := 1) rfl rfl rfl ?_
  refine r_i2l (i := 27) rfl ?_
  refine r_iload_n (i := 28) (k0 := 0) rfl rfl rfl ?_
  refine r_i2l (i := 29) rfl ?_
  refine r_iconst (v := 2) (i := 30) rfl ki_2 ?_
  refine c_V3I (i := 31) rfl vm_Fr_holds lk_Pn_221 (t_Fr_holds hn (ok_bind hF)) (Nat.le_of_ble_eq_true rfl) (xm_in rfl hn) rfl rfl (Nat.le_of_ble_eq_true rfl) (fun p_7 hF => ?_)
  refine r_ifne (i := 32) (tgt := 56) rfl (by decide) (fun hc => ?_) (fun hc => ?_)
  · have hF := ok_if hc hF
    refine r_aload_n (i := 34) (k0 := 2) rfl rfl rfl ?_
    refine q_getr (b := 14) (i := 35) rfl fl_Pn_43 rfl (xm_in rfl hn) rfl rfl ?_
    refine r_iload_n (i := 36) (k0 := 1) rfl rfl rfl ?_
    refine r_i2l (i := 37) rfl ?_
    refine r_ldc2 (i := 38) rfl ct_Pn_245 ?_
    refine c_V2I (i := 39) rfl vm_Fr_sheetX lk_Pn_127 (t_Fr_sheetX hn (ok_bind hF)) (Nat.le_of_ble_eq_true rfl) (xm_in rfl hn) rfl rfl (Nat.le_of_ble_eq_true rfl) (fun p_8 hF => ?_)
    refine r_istore (i := 40) (Ls' := [(4, _), (3, _), (2, _), (0, _), (1, _)]) rfl (Nat.le_of_ble_eq_true rfl) rfl ?_
    refine r_aload_n (i := 41) (k0 := 3) rfl rfl rfl ?_
    refine q_getr (b := 14) (i := 42) rfl fl_Pn_43 rfl (xm_in rfl hn) rfl rfl ?_
    refine r_iload_n (i := 43) (k0 := 1) rfl rfl rfl ?_
    refine r_i2l (i := 44) rfl ?_
    refine r_ldc2 (i := 45) rfl ct_Pn_245 ?_
    refine c_V2I (i := 46) rfl vm_Fr_sheetY lk_Pn_131 (t_Fr_sheetY hn (ok_bind hF)) (Nat.le_of_ble_eq_true rfl) (xm_in rfl hn) rfl rfl (Nat.le_of_ble_eq_true rfl) (fun p_9 hF => ?_)
    refine r_istore (i := 47) (Ls' := [(5, _), (4, _), (3, _), (2, _), (0, _), (1, _)]) rfl (Nat.le_of_ble_eq_true rfl) rfl ?_
    refine r_aload_n (i := 48) (k0 := 4) rfl rfl rfl ?_
    refine q_getr (b := 6) (i := 49) rfl fl_Pn_35 rfl (xm_in rfl hn) rfl rfl ?_
    refine r_iload_n (i := 50) (k0 := 5) rfl rfl rfl ?_
    refine r_iconst (v := 1) (i := 51) rfl ki_1 ?_
    refine c_V2I (i := 52) rfl vm_Fg_xOf lk_Pn_188 (t_Fg_xOf hn (ok_bind hF)) (Nat.le_of_ble_eq_true rfl) (xm_in rfl hn) rfl rfl (Nat.le_of_ble_eq_true rfl) (fun p_10 hF => ?_)
    refine r_aload_n (i := 53) (k0 := 4) rfl rfl rfl ?_
    refine q_getr (b := 6) (i := 54) rfl fl_Pn_35 rfl (xm_in rfl hn) rfl rfl ?_
    refine r_iload_n (i := 55) (k0 := 5) rfl rfl rfl ?_
    refine r_iconst (v := 0) (i := 56) rfl ki_0 ?_
    refine c_V2I (i := 57) rfl vm_Fg_xOf lk_Pn_188 (t_Fg_xOf hn (ok_bind hF)) (Nat.le_of_ble_eq_true rfl) (xm_in rfl hn) rfl rfl (Nat.le_of_ble_eq_true rfl) (fun p_11 hF => ?_)
    refine r_isub (i := 58) rfl ?_
    refine r_aload_n (i := 59) (k0 := 4) rfl rfl rfl ?_
    refine q_getr (b := 6) (i := 60) rfl fl_Pn_35 rfl (xm_in rfl hn) rfl rfl ?_
    refine r_iload_n (i := 61) (k0 := 5) rfl rfl rfl ?_
    refine r_iconst (v := 1) (i := 62) rfl ki_1 ?_
    refine c_V2I (i := 63) rfl vm_Fg_yOf lk_Pn_191 (t_Fg_yOf hn (ok_bind hF)) (Nat.le_of_ble_eq_true rfl) (xm_in rfl hn) rfl rfl (Nat.le_of_ble_eq_true rfl) (fun p_12 hF => ?_)
    refine r_aload_n (i := 64) (k0 := 4) rfl rfl rfl ?_
    refine q_getr (b := 6) (i := 65) rfl fl_Pn_35 rfl (xm_in rfl hn) rfl rfl ?_
    refine r_iload_n (i := 66) (k0 := 5) rfl rfl rfl ?_
    refine r_iconst (v := 0) (i := 67) rfl ki_0 ?_
    refine c_V2I (i := 68) rfl vm_Fg_yOf lk_Pn_191 (t_Fg_yOf hn (ok_bind hF)) (Nat.le_of_ble_eq_true rfl) (xm_in rfl hn) rfl rfl (Nat.le_of_ble_eq_true rfl) (fun p_13 hF => ?_)
    refine r_isub (i := 69) rfl ?_
    refine c_N2I (i := 70) rfl sm_D_octant lk_Pn_266 (t_D_octant hn (ok_bind hF)) (Nat.le_of_ble_eq_true rfl) rfl (Nat.le_of_ble_eq_true rfl) (fun p_14 hF => ?_)
    refine r_istore (i := 71) (Ls' := [(6, _), (5, _), (4, _), (3, _), (2, _), (0, _), (1, _)]) rfl (Nat.le_of_ble_eq_true rfl) rfl ?_
    refine r_aload_n (i := 72) (k0 := 5) rfl rfl rfl ?_
    refine q_getr (b := 17) (i := 73) rfl fl_Pn_47 rfl (xm_in rfl hn) rfl rfl ?_
    refine r_bipush (v := 84) (i := 74) rfl kb_84 ?_
    refine r_iload (i := 75) (k0 := 2) rfl rfl ?_
    refine r_iload (i := 76) (k0 := 1) rfl rfl ?_
    refine r_aload_n (i := 77) (k0 := 5) rfl rfl rfl ?_
    refine q_getr (b := 6) (i := 78) rfl fl_Pn_35 rfl (xm_in rfl hn) rfl rfl ?_
    refine r_iload_n (i := 79) (k0 := 6) rfl rfl rfl ?_
    refine c_V1I (i := 80) rfl vm_Fg_strokesOf lk_Pn_269 (t_Fg_strokesOf hn (ok_bind hF)) (Nat.le_of_ble_eq_true rfl) (xm_in rfl hn) rfl rfl (Nat.le_of_ble_eq_true rfl) (fun p_15 hF => ?_)
    refine r_iload (i := 81) (k0 := 0) rfl rfl ?_
    refine r_iconst (v := 0) (i := 82) rfl ki_0 ?_
    refine c_V6V (i := 83) rfl vm_Mk_add lk_Pn_74 (t_Mk_add hn (ok_bind hF)) (Nat.le_of_ble_eq_true rfl) (xm_in rfl hn) rfl rfl (Nat.le_of_ble_eq_true rfl) (fun p_16 hF => ?_)
    refine r_aload_n (i := 84) (k0 := 5) rfl rfl rfl ?_
    refine r_iload_n (i := 85) (k0 := 6) rfl rfl rfl ?_
    refine r_iload (i := 86) (k0 := 2) rfl rfl ?_
    refine r_iload (i := 87) (k0 := 1) rfl rfl ?_
    refine c_V3V (i := 88) rfl vm_Pn_anchor lk_Pn_181 (t_Pn_anchor hn (ok_bind hF)) (Nat.le_of_ble_eq_true rfl) (xm_in rfl hn) rfl rfl (Nat.le_of_ble_eq_true rfl) (fun p_17 hF => ?_)
    have hQ := hq _ (ok_some hF)
    exact r_return (i := 89) rfl rfl hQ
  have hF := ok_it hc hF
  have hQ := hq _ (ok_some hF)
  exact r_return (i := 33) rfl rfl hQ
set_option maxHeartbeats 4000000 in
set_option maxRecDepth 100000 in
theorem t_Pn_paintTicks {x1 : Int32} {n : Nat} {I : xm_I} {L : xm_L} {K : xm_I → Prop} (hn : 86 ≤ n) (hF : ok (f_Pn_paintTicks x1 I) K) : xm_C 3 mt_Pn_paintTicks [.ref 30, .int x1] (I, L, RC n, n) 0 0 (pV (fun p : xm_I => (p, L, RC n, n)) K) := by
  unfold f_Pn_paintTicks at hF
  refine xm_enter (by decide +kernel) dv_Pn_paintTicks (Nat.le_of_ble_eq_true rfl) ?_
  exact t_Pn_paintTicks_b0 hn (fun p hp => ⟨p, rfl, rfl, hp⟩) hF

noncomputable def f_Pn_paintOther_b60 (x1 : Int32) (I : xm_I) (L : xm_L) : Option (xm_I × xm_L) :=
  (f_Pn_paintStraight x1 I L).bind fun p_1 =>
  some (p_1.1, p_1.2)
noncomputable def f_Pn_paintOther_b0 (x1 : Int32) (I : xm_I) (L : xm_L) : Option (xm_I × xm_L) :=
  (f_Fg_kindOf x1 I).bind fun p_1 =>
  if p_1 = 0 then (
    (f_Pn_paintDot x1 I).bind fun p_2 =>
    some (p_2, L))
  else (
  if p_1 = 1 then (
    f_Pn_paintOther_b60 x1 I L)
  else (
  if p_1 = 2 then (
    f_Pn_paintOther_b60 x1 I L)
  else (
  if p_1 = 3 then (
    f_Pn_paintOther_b60 x1 I L)
  else (
  if p_1 = 4 then (
    (f_Pn_paintCircle x1 I).bind fun p_3 =>
    some (p_3, L))
  else (
  if p_1 = 5 then (
    (f_Pn_paintAngle x1 I).bind fun p_4 =>
    some (p_4, L))
  else (
  if p_1 = 6 then (
    (f_Pn_paintTicks x1 I).bind fun p_5 =>
    some (p_5, L))
  else (
  some (I, L))))))))
noncomputable def f_Pn_paintOther (x1 : Int32) (I : xm_I) (L : xm_L) : Option (xm_I × xm_L) := f_Pn_paintOther_b0 x1 I L
set_option maxHeartbeats 4000000 in
set_option maxRecDepth 100000 in
theorem t_Pn_paintOther_b60 {x1 : Int32} {n : Nat} {I : xm_I} {L : xm_L} {K : xm_I × xm_L → Prop} {Q : Option Value → xm_H → Prop} (hn : 86 ≤ n) (hq : ∀ p : xm_I × xm_L, K p → Q none (p.1, p.2, RC n, n)) (hF : ok (f_Pn_paintOther_b60 x1 I L) K) : xm_J 5 mt_Pn_paintOther 60 [(0, .ref 30), (1, .int x1)] [] (I, L, RC n, n) 0 0 Q := by
  unfold f_Pn_paintOther_b60 at hF
  refine r_aload_n (i := 9) (k0 := 0) rfl rfl rfl ?_
  refine r_iload_n (i := 10) (k0 := 1) rfl rfl rfl ?_
  refine c_V1V (i := 11) rfl vm_Pn_paintStraight lk_Pn_209 (t_Pn_paintStraight hn (ok_bind hF)) (Nat.le_of_ble_eq_true rfl) (xm_in rfl hn) rfl rfl (Nat.le_of_ble_eq_true rfl) (fun p_1 hF => ?_)
  refine r_goto (i := 12) (tgt := 92) rfl (by decide) ?_
  have hQ := hq _ (ok_some hF)
  exact r_return (i := 25) rfl rfl hQ
set_option maxHeartbeats 4000000 in
set_option maxRecDepth 100000 in
theorem t_Pn_paintOther_b0 {x1 : Int32} {n : Nat} {I : xm_I} {L : xm_L} {K : xm_I × xm_L → Prop} {Q : Option Value → xm_H → Prop} (hn : 86 ≤ n) (hq : ∀ p : xm_I × xm_L, K p → Q none (p.1, p.2, RC n, n)) (hF : ok (f_Pn_paintOther_b0 x1 I L) K) : xm_J 5 mt_Pn_paintOther 0 [(0, .ref 30), (1, .int x1)] [] (I, L, RC n, n) 0 0 Q := by
  unfold f_Pn_paintOther_b0 at hF
  refine r_aload_n (i := 0) (k0 := 0) rfl rfl rfl ?_
  refine q_getr (b := 6) (i := 1) rfl fl_Pn_35 rfl (xm_in rfl hn) rfl rfl ?_
  refine r_iload_n (i := 2) (k0 := 1) rfl rfl rfl ?_
  refine c_V1I (i := 3) rfl vm_Fg_kindOf lk_Pn_135 (t_Fg_kindOf hn (ok_bind hF)) (Nat.le_of_ble_eq_true rfl) (xm_in rfl hn) rfl rfl (Nat.le_of_ble_eq_true rfl) (fun p_1 hF => ?_)
  refine r_case 0 (fun hc0 => ?_) (fun hc0 => ?_)
  · have hF := ok_it hc0 hF
    refine r_tsIn (i := 4) (tgt := 52) rfl (by decide) (by decide) rfl (by decide) ?_
    refine r_aload_n (i := 5) (k0 := 0) rfl rfl rfl ?_
    refine r_iload_n (i := 6) (k0 := 1) rfl rfl rfl ?_
    refine c_V1V (i := 7) rfl vm_Pn_paintDot lk_Pn_206 (t_Pn_paintDot hn (ok_bind hF)) (Nat.le_of_ble_eq_true rfl) (xm_in rfl hn) rfl rfl (Nat.le_of_ble_eq_true rfl) (fun p_2 hF => ?_)
    refine r_goto (i := 8) (tgt := 92) rfl (by decide) ?_
    have hQ := hq _ (ok_some hF)
    exact r_return (i := 25) rfl rfl hQ
  have hF := ok_if hc0 hF
  refine r_case 1 (fun hc1 => ?_) (fun hc1 => ?_)
  · have hF := ok_it hc1 hF
    refine r_tsIn (i := 4) (tgt := 60) rfl (by decide) (by decide) rfl (by decide) ?_
    exact t_Pn_paintOther_b60 hn (fun p h => hq p h) hF
  have hF := ok_if hc1 hF
  refine r_case 2 (fun hc2 => ?_) (fun hc2 => ?_)
  · have hF := ok_it hc2 hF
    refine r_tsIn (i := 4) (tgt := 60) rfl (by decide) (by decide) rfl (by decide) ?_
    exact t_Pn_paintOther_b60 hn (fun p h => hq p h) hF
  have hF := ok_if hc2 hF
  refine r_case 3 (fun hc3 => ?_) (fun hc3 => ?_)
  · have hF := ok_it hc3 hF
    refine r_tsIn (i := 4) (tgt := 60) rfl (by decide) (by decide) rfl (by decide) ?_
    exact t_Pn_paintOther_b60 hn (fun p h => hq p h) hF
  have hF := ok_if hc3 hF
  refine r_case 4 (fun hc4 => ?_) (fun hc4 => ?_)
  · have hF := ok_it hc4 hF
    refine r_tsIn (i := 4) (tgt := 68) rfl (by decide) (by decide) rfl (by decide) ?_
    refine r_aload_n (i := 13) (k0 := 0) rfl rfl rfl ?_
    refine r_iload_n (i := 14) (k0 := 1) rfl rfl rfl ?_
    refine c_V1V (i := 15) rfl vm_Pn_paintCircle lk_Pn_212 (t_Pn_paintCircle hn (ok_bind hF)) (Nat.le_of_ble_eq_true rfl) (xm_in rfl hn) rfl rfl (Nat.le_of_ble_eq_true rfl) (fun p_3 hF => ?_)
    refine r_goto (i := 16) (tgt := 92) rfl (by decide) ?_
    have hQ := hq _ (ok_some hF)
    exact r_return (i := 25) rfl rfl hQ
  have hF := ok_if hc4 hF
  refine r_case 5 (fun hc5 => ?_) (fun hc5 => ?_)
  · have hF := ok_it hc5 hF
    refine r_tsIn (i := 4) (tgt := 76) rfl (by decide) (by decide) rfl (by decide) ?_
    refine r_aload_n (i := 17) (k0 := 0) rfl rfl rfl ?_
    refine r_iload_n (i := 18) (k0 := 1) rfl rfl rfl ?_
    refine c_V1V (i := 19) rfl vm_Pn_paintAngle lk_Pn_215 (t_Pn_paintAngle hn (ok_bind hF)) (Nat.le_of_ble_eq_true rfl) (xm_in rfl hn) rfl rfl (Nat.le_of_ble_eq_true rfl) (fun p_4 hF => ?_)
    refine r_goto (i := 20) (tgt := 92) rfl (by decide) ?_
    have hQ := hq _ (ok_some hF)
    exact r_return (i := 25) rfl rfl hQ
  have hF := ok_if hc5 hF
  refine r_case 6 (fun hc6 => ?_) (fun hc6 => ?_)
  · have hF := ok_it hc6 hF
    refine r_tsIn (i := 4) (tgt := 84) rfl (by decide) (by decide) rfl (by decide) ?_
    refine r_aload_n (i := 21) (k0 := 0) rfl rfl rfl ?_
    refine r_iload_n (i := 22) (k0 := 1) rfl rfl rfl ?_
    refine c_V1V (i := 23) rfl vm_Pn_paintTicks lk_Pn_218 (t_Pn_paintTicks hn (ok_bind hF)) (Nat.le_of_ble_eq_true rfl) (xm_in rfl hn) rfl rfl (Nat.le_of_ble_eq_true rfl) (fun p_5 hF => ?_)
    refine r_goto (i := 24) (tgt := 92) rfl (by decide) ?_
    have hQ := hq _ (ok_some hF)
    exact r_return (i := 25) rfl rfl hQ
  have hF := ok_if hc6 hF
  refine r_tsOut (i := 4) (tgt := 92) rfl (by have e0 := lv_neT hc0 (a := 0) (by decide); have e1 := lv_neT hc1 (a := 1) (by decide); have e2 := lv_neT hc2 (a := 2) (by decide); have e3 := lv_neT hc3 (a := 3) (by decide); have e4 := lv_neT hc4 (a := 4) (by decide); have e5 := lv_neT hc5 (a := 5) (by decide); have e6 := lv_neT hc6 (a := 6) (by decide); omega) (by decide) ?_
  have hQ := hq _ (ok_some hF)
  exact r_return (i := 25) rfl rfl hQ
set_option maxHeartbeats 4000000 in
set_option maxRecDepth 100000 in
theorem t_Pn_paintOther {x1 : Int32} {n : Nat} {I : xm_I} {L : xm_L} {K : xm_I × xm_L → Prop} (hn : 86 ≤ n) (hF : ok (f_Pn_paintOther x1 I L) K) : xm_C 5 mt_Pn_paintOther [.ref 30, .int x1] (I, L, RC n, n) 0 0 (pV (fun p : xm_I × xm_L => (p.1, p.2, RC n, n)) K) := by
  unfold f_Pn_paintOther at hF
  refine xm_enter (by decide +kernel) dv_Pn_paintOther (Nat.le_of_ble_eq_true rfl) ?_
  exact t_Pn_paintOther_b0 hn (fun p hp => ⟨p, rfl, rfl, hp⟩) hF

noncomputable def f_Pn_paintOthers_b42 (x1 : Int32) (I : xm_I) (L : xm_L) : Option ((Int32 × xm_I × xm_L) ⊕ (xm_I × xm_L)) :=
  let x1_1 : Int32 := x1 + 1
  some (.inl (x1_1, I, L))
noncomputable def f_Pn_paintOthers_s2 (s : Int32 × xm_I × xm_L) : Option ((Int32 × xm_I × xm_L) ⊕ (xm_I × xm_L)) :=
  if (s.2.1 6 9) ≤ s.1 then (
    some (.inr (s.2.1, s.2.2)))
  else (
  (f_Fg_kindOf s.1 s.2.1).bind fun p_1 =>
  if p_1 = 7 then (
    f_Pn_paintOthers_b42 s.1 s.2.1 s.2.2)
  else (
  (f_Fg_isDrawn s.1 s.2.1).bind fun p_2 =>
  if p_2 = 0 then (
    f_Pn_paintOthers_b42 s.1 s.2.1 s.2.2)
  else (
  (f_Pn_paintOther s.1 s.2.1 s.2.2).bind fun p_3 =>
  f_Pn_paintOthers_b42 s.1 p_3.1 p_3.2)))
noncomputable def f_Pn_paintOthers_b2 (s : Int32 × xm_I × xm_L) : Option (xm_I × xm_L) := lp (f_Pn_paintOthers_s2) s
noncomputable def f_Pn_paintOthers_b0 (I : xm_I) (L : xm_L) : Option (xm_I × xm_L) :=
  f_Pn_paintOthers_b2 (0, I, L)
noncomputable def f_Pn_paintOthers (I : xm_I) (L : xm_L) : Option (xm_I × xm_L) := f_Pn_paintOthers_b0 I L
set_option maxHeartbeats 4000000 in
set_option maxRecDepth 100000 in
theorem t_Pn_paintOthers_b42 {x1 : Int32} {n : Nat} {I : xm_I} {L : xm_L} {K : (Int32 × xm_I × xm_L) ⊕ (xm_I × xm_L) → Prop} {Q : Option Value → xm_H → Prop} (hn : 86 ≤ n) (hq : ∀ p : xm_I × xm_L, K (.inr p) → Q none (p.1, p.2, RC n, n)) (hg0 : ∀ s : Int32 × xm_I × xm_L, K (.inl s) → xm_J 6 mt_Pn_paintOthers 2 [(0, .ref 30), (1, .int s.1)] [] (s.2.1, s.2.2, RC n, n) 0 0 Q) (hF : ok (f_Pn_paintOthers_b42 x1 I L) K) : xm_J 6 mt_Pn_paintOthers 42 [(0, .ref 30), (1, .int x1)] [] (I, L, RC n, n) 0 0 Q := by
  unfold f_Pn_paintOthers_b42 at hF
  refine q_iinc (i := 21) (k0 := 1) (Ls' := [(1, _), (0, _)]) rfl ki_1 rfl (Nat.le_of_ble_eq_true rfl) rfl ?_
  refine r_goto (i := 22) (tgt := 2) rfl (by decide) ?_
  refine xm_sub (Ls' := [(0, _), (1, _)]) [1, 0] rfl ?_
  have hJ := hg0 _ (ok_some hF)
  exact hJ
set_option maxHeartbeats 4000000 in
set_option maxRecDepth 100000 in
theorem t_Pn_paintOthers_s2 {s : Int32 × xm_I × xm_L} {n : Nat} {K : (Int32 × xm_I × xm_L) ⊕ (xm_I × xm_L) → Prop} {Q : Option Value → xm_H → Prop} (hn : 86 ≤ n) (hq : ∀ p : xm_I × xm_L, K (.inr p) → Q none (p.1, p.2, RC n, n)) (hg0 : ∀ s : Int32 × xm_I × xm_L, K (.inl s) → xm_J 6 mt_Pn_paintOthers 2 [(0, .ref 30), (1, .int s.1)] [] (s.2.1, s.2.2, RC n, n) 0 0 Q) (hF : ok (f_Pn_paintOthers_s2 s) K) : xm_J 6 mt_Pn_paintOthers 2 [(0, .ref 30), (1, .int s.1)] [] (s.2.1, s.2.2, RC n, n) 0 0 Q := by
  unfold f_Pn_paintOthers_s2 at hF
  refine r_iload_n (i := 2) (k0 := 1) rfl rfl rfl ?_
  refine r_aload_n (i := 3) (k0 := 0) rfl rfl rfl ?_
  refine q_getr (b := 6) (i := 4) rfl fl_Pn_35 rfl (xm_in rfl hn) rfl rfl ?_
  refine q_geti (i := 5) rfl fl_Pn_134 (xm_in rfl hn) rfl ?_
  refine r_icmpge (i := 6) (tgt := 48) rfl (by decide) (fun hc => ?_) (fun hc => ?_)
  · have hF := ok_it hc hF
    have hQ := hq _ (ok_some hF)
    exact r_return (i := 23) rfl rfl hQ
  have hF := ok_if hc hF
  refine r_aload_n (i := 7) (k0 := 0) rfl rfl rfl ?_
  refine q_getr (b := 6) (i := 8) rfl fl_Pn_35 rfl (xm_in rfl hn) rfl rfl ?_
  refine r_iload_n (i := 9) (k0 := 1) rfl rfl rfl ?_
  refine c_V1I (i := 10) rfl vm_Fg_kindOf lk_Pn_135 (t_Fg_kindOf hn (ok_bind hF)) (Nat.le_of_ble_eq_true rfl) (xm_in rfl hn) rfl rfl (Nat.le_of_ble_eq_true rfl) (fun p_1 hF => ?_)
  refine r_bipush (v := 7) (i := 11) rfl kb_7 ?_
  refine r_icmpeq (i := 12) (tgt := 42) rfl (by decide) (fun hc => ?_) (fun hc => ?_)
  · have hF := ok_it hc hF
    exact t_Pn_paintOthers_b42 hn (fun p h => hq p h) (fun z h => hg0 z h) hF
  have hF := ok_if hc hF
  refine r_aload_n (i := 13) (k0 := 0) rfl rfl rfl ?_
  refine q_getr (b := 6) (i := 14) rfl fl_Pn_35 rfl (xm_in rfl hn) rfl rfl ?_
  refine r_iload_n (i := 15) (k0 := 1) rfl rfl rfl ?_
  refine c_V1I (i := 16) rfl vm_Fg_isDrawn lk_Pn_139 (t_Fg_isDrawn hn (ok_bind hF)) (Nat.le_of_ble_eq_true rfl) (xm_in rfl hn) rfl rfl (Nat.le_of_ble_eq_true rfl) (fun p_2 hF => ?_)
  refine r_ifeq (i := 17) (tgt := 42) rfl (by decide) (fun hc => ?_) (fun hc => ?_)
  · have hF := ok_it hc hF
    exact t_Pn_paintOthers_b42 hn (fun p h => hq p h) (fun z h => hg0 z h) hF
  have hF := ok_if hc hF
  refine r_aload_n (i := 18) (k0 := 0) rfl rfl rfl ?_
  refine r_iload_n (i := 19) (k0 := 1) rfl rfl rfl ?_
  refine c_V1V (i := 20) rfl vm_Pn_paintOther lk_Pn_203 (t_Pn_paintOther hn (ok_bind hF)) (Nat.le_of_ble_eq_true rfl) (xm_in rfl hn) rfl rfl (Nat.le_of_ble_eq_true rfl) (fun p_3 hF => ?_)
  exact t_Pn_paintOthers_b42 hn (fun p h => hq p h) (fun z h => hg0 z h) hF
set_option maxHeartbeats 4000000 in
set_option maxRecDepth 100000 in
theorem t_Pn_paintOthers_b2 {s : Int32 × xm_I × xm_L} {n : Nat} {K : xm_I × xm_L → Prop} {Q : Option Value → xm_H → Prop} (hn : 86 ≤ n) (hq : ∀ p : xm_I × xm_L, K p → Q none (p.1, p.2, RC n, n)) (hF : ok (f_Pn_paintOthers_b2 s) K) : xm_J 6 mt_Pn_paintOthers 2 [(0, .ref 30), (1, .int s.1)] [] (s.2.1, s.2.2, RC n, n) 0 0 Q :=
  lp_J (G := fun z => xm_J 6 mt_Pn_paintOthers 2 [(0, .ref 30), (1, .int z.1)] [] (z.2.1, z.2.2, RC n, n) 0 0 Q) (fun z hF => t_Pn_paintOthers_s2 hn (fun p h => hq p h) (fun z h => h) hF) s hF
set_option maxHeartbeats 4000000 in
set_option maxRecDepth 100000 in
theorem t_Pn_paintOthers_b0 {n : Nat} {I : xm_I} {L : xm_L} {K : xm_I × xm_L → Prop} {Q : Option Value → xm_H → Prop} (hn : 86 ≤ n) (hq : ∀ p : xm_I × xm_L, K p → Q none (p.1, p.2, RC n, n)) (hF : ok (f_Pn_paintOthers_b0 I L) K) : xm_J 6 mt_Pn_paintOthers 0 [(0, .ref 30)] [] (I, L, RC n, n) 0 0 Q := by
  unfold f_Pn_paintOthers_b0 at hF
  refine r_iconst (v := 0) (i := 0) rfl ki_0 ?_
  refine r_istore_n (i := 1) (Ls' := [(1, _), (0, _)]) rfl rfl (Nat.le_of_ble_eq_true rfl) rfl ?_
  refine xm_sub (Ls' := [(0, _), (1, _)]) [1, 0] rfl ?_
  exact t_Pn_paintOthers_b2 hn (fun p h => hq p h) hF
set_option maxHeartbeats 4000000 in
set_option maxRecDepth 100000 in
theorem t_Pn_paintOthers {n : Nat} {I : xm_I} {L : xm_L} {K : xm_I × xm_L → Prop} (hn : 86 ≤ n) (hF : ok (f_Pn_paintOthers I L) K) : xm_C 6 mt_Pn_paintOthers [.ref 30] (I, L, RC n, n) 0 0 (pV (fun p : xm_I × xm_L => (p.1, p.2, RC n, n)) K) := by
  unfold f_Pn_paintOthers at hF
  refine xm_enter (by decide +kernel) dv_Pn_paintOthers (Nat.le_of_ble_eq_true rfl) ?_
  exact t_Pn_paintOthers_b0 hn (fun p hp => ⟨p, rfl, rfl, hp⟩) hF

noncomputable def f_So_acrossOf_b0 (r0 : Nat) (x1 : Int32) (x2 : Int32) (I : xm_I) : Option (Int32) :=
  if x1 < 0 then (
    some (0))
  else (
  if x1 < (I r0 9) then (
    if x2 = 0 then (
      gd (0 ≤ (x1).toInt ∧ (x1).toInt < 12) <|
      some ((I r0 1) * (I (r0 + 1) (Int32.toNatClampNeg x1))))
    else (
    if x2 = 1 then (
      gd (0 ≤ (x1).toInt ∧ (x1).toInt < 12) <|
      some ((I r0 1) * (I (r0 + 1) (Int32.toNatClampNeg x1))))
    else (
    if x2 = 2 then (
      gd (0 ≤ (x1).toInt ∧ (x1).toInt < 12) <|
      some ((I r0 1) * (-(I (r0 + 3) (Int32.toNatClampNeg x1)))))
    else (
    if x2 = 3 then (
      gd (0 ≤ (x1).toInt ∧ (x1).toInt < 12) <|
      gd (0 ≤ (x1).toInt ∧ (x1).toInt < 12) <|
      some ((I r0 1) * ((2 * (I (r0 + 1) (Int32.toNatClampNeg x1))) - (I (r0 + 3) (Int32.toNatClampNeg x1)))))
    else (
    gd (0 ≤ (x1).toInt ∧ (x1).toInt < 12) <|
    gd (0 ≤ (x1).toInt ∧ (x1).toInt < 12) <|
    some ((I r0 1) * ((I (r0 + 1) (Int32.toNatClampNeg x1)) - (I (r0 + 3) (Int32.toNatClampNeg x1)))))))))
  else (
  some (0)))
noncomputable def f_So_acrossOf (r0 : Nat) (x1 : Int32) (x2 : Int32) (I : xm_I) : Option (Int32) := f_So_acrossOf_b0 r0 x1 x2 I
set_option maxHeartbeats 4000000 in
set_option maxRecDepth 100000 in
theorem t_So_acrossOf_b0 {r0 : Nat} {x1 : Int32} {x2 : Int32} {n : Nat} {I : xm_I} {L : xm_L} {K : Int32 → Prop} {Q : Option Value → xm_H → Prop} (hn : 86 ≤ n) (hsr0 : xm_sd n r0) (hq : ∀ p : Int32, K p → Q (some (.int p)) (I, L, RC n, n)) (hF : ok (f_So_acrossOf_b0 r0 x1 x2 I) K) : xm_J 0 mt_So_acrossOf 0 [(0, .ref r0), (1, .int x1), (2, .int x2)] [] (I, L, RC n, n) 0 0 Q := by
  unfold f_So_acrossOf_b0 at hF
  refine r_iload_n (i := 0) (k0 := 1) rfl rfl rfl ?_
  refine r_iflt (i := 1) (tgt := 12) rfl (by decide) (fun hc => ?_) (fun hc => ?_)
  · have hF := ok_it hc hF
    refine r_iconst (v := 0) (i := 6) rfl ki_0 ?_
    have hQ := hq _ (ok_some hF)
    exact r_ireturn (i := 7) rfl rfl rfl hQ
  have hF := ok_if hc hF
  refine r_iload_n (i := 2) (k0 := 1) rfl rfl rfl ?_
  refine r_aload_n (i := 3) (k0 := 0) rfl rfl rfl ?_
  refine q_geti (i := 4) rfl fl_So_40 (xm_sdn hsr0 0 (by decide)) (xm_sdL hsr0 0 (by decide) rfl) ?_
  refine r_icmplt (i := 5) (tgt := 14) rfl (by decide) (fun hc => ?_) (fun hc => ?_)
  · have hF := ok_it hc hF
    refine r_iload_n (i := 8) (k0 := 2) rfl rfl rfl ?_
    refine r_case 0 (fun hc0 => ?_) (fun hc0 => ?_)
    · have hF := ok_it hc0 hF
      refine r_tsIn (i := 9) (tgt := 44) rfl (by decide) (by decide) rfl (by decide) ?_
      refine r_aload_n (i := 10) (k0 := 0) rfl rfl rfl ?_
      refine q_geti (i := 11) rfl fl_So_37 (xm_sdn hsr0 0 (by decide)) (xm_sdL hsr0 0 (by decide) rfl) ?_
      refine r_aload_n (i := 12) (k0 := 0) rfl rfl rfl ?_
      refine q_getr (b := r0 + 1) (i := 13) rfl fl_So_11 rfl (xm_sdn hsr0 0 (by decide)) (xm_sdL hsr0 0 (by decide) rfl) (xm_sr2 hsr0) ?_
      refine r_iload_n (i := 14) (k0 := 1) rfl rfl rfl ?_
      obtain ⟨hi, hF⟩ := ok_gd hF
      refine q_iaload (i := 15) rfl (xm_sdn hsr0 1 (by decide)) (xm_sdL hsr0 1 (by decide) rfl) hi ?_
      refine r_imul (i := 16) rfl ?_
      have hQ := hq _ (ok_some hF)
      exact r_ireturn (i := 17) rfl rfl rfl hQ
    have hF := ok_if hc0 hF
    refine r_case 1 (fun hc1 => ?_) (fun hc1 => ?_)
    · have hF := ok_it hc1 hF
      refine r_tsIn (i := 9) (tgt := 56) rfl (by decide) (by decide) rfl (by decide) ?_
      refine r_aload_n (i := 18) (k0 := 0) rfl rfl rfl ?_
      refine q_geti (i := 19) rfl fl_So_37 (xm_sdn hsr0 0 (by decide)) (xm_sdL hsr0 0 (by decide) rfl) ?_
      refine r_aload_n (i := 20) (k0 := 0) rfl rfl rfl ?_
      refine q_getr (b := r0 + 1) (i := 21) rfl fl_So_11 rfl (xm_sdn hsr0 0 (by decide)) (xm_sdL hsr0 0 (by decide) rfl) (xm_sr2 hsr0) ?_
      refine r_iload_n (i := 22) (k0 := 1) rfl rfl rfl ?_
      obtain ⟨hi, hF⟩ := ok_gd hF
      refine q_iaload (i := 23) rfl (xm_sdn hsr0 1 (by decide)) (xm_sdL hsr0 1 (by decide) rfl) hi ?_
      refine r_imul (i := 24) rfl ?_
      have hQ := hq _ (ok_some hF)
      exact r_ireturn (i := 25) rfl rfl rfl hQ
    have hF := ok_if hc1 hF
    refine r_case 2 (fun hc2 => ?_) (fun hc2 => ?_)
    · have hF := ok_it hc2 hF
      refine r_tsIn (i := 9) (tgt := 68) rfl (by decide) (by decide) rfl (by decide) ?_
      refine r_aload_n (i := 26) (k0 := 0) rfl rfl rfl ?_
      refine q_geti (i := 27) rfl fl_So_37 (xm_sdn hsr0 0 (by decide)) (xm_sdL hsr0 0 (by decide) rfl) ?_
      refine r_aload_n (i := 28) (k0 := 0) rfl rfl rfl ?_
      refine q_getr (b := r0 + 3) (i := 29) rfl fl_So_18 rfl (xm_sdn hsr0 0 (by decide)) (xm_sdL hsr0 0 (by decide) rfl) (xm_sr4 hsr0) ?_
      refine r_iload_n (i := 30) (k0 := 1) rfl rfl rfl ?_
      obtain ⟨hi, hF⟩ := ok_gd hF
      refine q_iaload (i := 31) rfl (xm_sdn hsr0 3 (by decide)) (xm_sdL hsr0 3 (by decide) rfl) hi ?_
      refine r_ineg (i := 32) rfl ?_
      refine r_imul (i := 33) rfl ?_
      have hQ := hq _ (ok_some hF)
      exact r_ireturn (i := 34) rfl rfl rfl hQ
    have hF := ok_if hc2 hF
    refine r_case 3 (fun hc3 => ?_) (fun hc3 => ?_)
    · have hF := ok_it hc3 hF
      refine r_tsIn (i := 9) (tgt := 81) rfl (by decide) (by decide) rfl (by decide) ?_
      refine r_aload_n (i := 35) (k0 := 0) rfl rfl rfl ?_
      refine q_geti (i := 36) rfl fl_So_37 (xm_sdn hsr0 0 (by decide)) (xm_sdL hsr0 0 (by decide) rfl) ?_
      refine r_iconst (v := 2) (i := 37) rfl ki_2 ?_
      refine r_aload_n (i := 38) (k0 := 0) rfl rfl rfl ?_
      refine q_getr (b := r0 + 1) (i := 39) rfl fl_So_11 rfl (xm_sdn hsr0 0 (by decide)) (xm_sdL hsr0 0 (by decide) rfl) (xm_sr2 hsr0) ?_
      refine r_iload_n (i := 40) (k0 := 1) rfl rfl rfl ?_
      obtain ⟨hi, hF⟩ := ok_gd hF
      refine q_iaload (i := 41) rfl (xm_sdn hsr0 1 (by decide)) (xm_sdL hsr0 1 (by decide) rfl) hi ?_
      refine r_imul (i := 42) rfl ?_
      refine r_aload_n (i := 43) (k0 := 0) rfl rfl rfl ?_
      refine q_getr (b := r0 + 3) (i := 44) rfl fl_So_18 rfl (xm_sdn hsr0 0 (by decide)) (xm_sdL hsr0 0 (by decide) rfl) (xm_sr4 hsr0) ?_
      refine r_iload_n (i := 45) (k0 := 1) rfl rfl rfl ?_
      obtain ⟨hi, hF⟩ := ok_gd hF
      refine q_iaload (i := 46) rfl (xm_sdn hsr0 3 (by decide)) (xm_sdL hsr0 3 (by decide) rfl) hi ?_
      refine r_isub (i := 47) rfl ?_
      refine r_imul (i := 48) rfl ?_
      have hQ := hq _ (ok_some hF)
      exact r_ireturn (i := 49) rfl rfl rfl hQ
    have hF := ok_if hc3 hF
    refine r_tsOut (i := 9) (tgt := 102) rfl (by have e0 := lv_neT hc0 (a := 0) (by decide); have e1 := lv_neT hc1 (a := 1) (by decide); have e2 := lv_neT hc2 (a := 2) (by decide); have e3 := lv_neT hc3 (a := 3) (by decide); omega) (by decide) ?_
    refine r_aload_n (i := 50) (k0 := 0) rfl rfl rfl ?_
    refine q_geti (i := 51) rfl fl_So_37 (xm_sdn hsr0 0 (by decide)) (xm_sdL hsr0 0 (by decide) rfl) ?_
    refine r_aload_n (i := 52) (k0 := 0) rfl rfl rfl ?_
    refine q_getr (b := r0 + 1) (i := 53) rfl fl_So_11 rfl (xm_sdn hsr0 0 (by decide)) (xm_sdL hsr0 0 (by decide) rfl) (xm_sr2 hsr0) ?_
    refine r_iload_n (i := 54) (k0 := 1) rfl rfl rfl ?_
    obtain ⟨hi, hF⟩ := ok_gd hF
    refine q_iaload (i := 55) rfl (xm_sdn hsr0 1 (by decide)) (xm_sdL hsr0 1 (by decide) rfl) hi ?_
    refine r_aload_n (i := 56) (k0 := 0) rfl rfl rfl ?_
    refine q_getr (b := r0 + 3) (i := 57) rfl fl_So_18 rfl (xm_sdn hsr0 0 (by decide)) (xm_sdL hsr0 0 (by decide) rfl) (xm_sr4 hsr0) ?_
    refine r_iload_n (i := 58) (k0 := 1) rfl rfl rfl ?_
    obtain ⟨hi, hF⟩ := ok_gd hF
    refine q_iaload (i := 59) rfl (xm_sdn hsr0 3 (by decide)) (xm_sdL hsr0 3 (by decide) rfl) hi ?_
    refine r_isub (i := 60) rfl ?_
    refine r_imul (i := 61) rfl ?_
    have hQ := hq _ (ok_some hF)
    exact r_ireturn (i := 62) rfl rfl rfl hQ
  have hF := ok_if hc hF
  refine r_iconst (v := 0) (i := 6) rfl ki_0 ?_
  have hQ := hq _ (ok_some hF)
  exact r_ireturn (i := 7) rfl rfl rfl hQ
set_option maxHeartbeats 4000000 in
set_option maxRecDepth 100000 in
theorem t_So_acrossOf {r0 : Nat} {x1 : Int32} {x2 : Int32} {n : Nat} {I : xm_I} {L : xm_L} {K : Int32 → Prop} (hn : 86 ≤ n) (hsr0 : xm_sd n r0) (hF : ok (f_So_acrossOf r0 x1 x2 I) K) : xm_C 0 mt_So_acrossOf [.ref r0, .int x1, .int x2] (I, L, RC n, n) 0 0 (pI (fun p : Int32 => p) (fun p : Int32 => (I, L, RC n, n)) K) := by
  unfold f_So_acrossOf at hF
  refine xm_enter (by decide +kernel) dv_So_acrossOf (Nat.le_of_ble_eq_true rfl) ?_
  exact t_So_acrossOf_b0 hn hsr0 (fun p hp => ⟨p, rfl, rfl, hp⟩) hF

noncomputable def f_So_risingOf_b0 (r0 : Nat) (x1 : Int32) (x2 : Int32) (I : xm_I) : Option (Int32) :=
  if x1 < 0 then (
    some (0))
  else (
  if x1 < (I r0 9) then (
    if x2 = 0 then (
      gd (0 ≤ (x1).toInt ∧ (x1).toInt < 12) <|
      some ((I r0 1) * (I (r0 + 2) (Int32.toNatClampNeg x1))))
    else (
    if x2 = 1 then (
      gd (0 ≤ (x1).toInt ∧ (x1).toInt < 12) <|
      some ((I r0 1) * (-(I (r0 + 3) (Int32.toNatClampNeg x1)))))
    else (
    if x2 = 2 then (
      gd (0 ≤ (x1).toInt ∧ (x1).toInt < 12) <|
      some ((I r0 1) * (I (r0 + 2) (Int32.toNatClampNeg x1))))
    else (
    if x2 = 3 then (
      gd (0 ≤ (x1).toInt ∧ (x1).toInt < 12) <|
      gd (0 ≤ (x1).toInt ∧ (x1).toInt < 12) <|
      some ((I r0 1) * ((2 * (I (r0 + 2) (Int32.toNatClampNeg x1))) - (I (r0 + 3) (Int32.toNatClampNeg x1)))))
    else (
    gd (0 ≤ (x1).toInt ∧ (x1).toInt < 12) <|
    gd (0 ≤ (x1).toInt ∧ (x1).toInt < 12) <|
    gd (0 ≤ (x1).toInt ∧ (x1).toInt < 12) <|
    some ((I r0 1) * (((2 * (I (r0 + 2) (Int32.toNatClampNeg x1))) - (I (r0 + 1) (Int32.toNatClampNeg x1))) - (I (r0 + 3) (Int32.toNatClampNeg x1)))))))))
  else (
  some (0)))
noncomputable def f_So_risingOf (r0 : Nat) (x1 : Int32) (x2 : Int32) (I : xm_I) : Option (Int32) := f_So_risingOf_b0 r0 x1 x2 I
set_option maxHeartbeats 4000000 in
set_option maxRecDepth 100000 in
theorem t_So_risingOf_b0 {r0 : Nat} {x1 : Int32} {x2 : Int32} {n : Nat} {I : xm_I} {L : xm_L} {K : Int32 → Prop} {Q : Option Value → xm_H → Prop} (hn : 86 ≤ n) (hsr0 : xm_sd n r0) (hq : ∀ p : Int32, K p → Q (some (.int p)) (I, L, RC n, n)) (hF : ok (f_So_risingOf_b0 r0 x1 x2 I) K) : xm_J 0 mt_So_risingOf 0 [(0, .ref r0), (1, .int x1), (2, .int x2)] [] (I, L, RC n, n) 0 0 Q := by
  unfold f_So_risingOf_b0 at hF
  refine r_iload_n (i := 0) (k0 := 1) rfl rfl rfl ?_
  refine r_iflt (i := 1) (tgt := 12) rfl (by decide) (fun hc => ?_) (fun hc => ?_)
  · have hF := ok_it hc hF
    refine r_iconst (v := 0) (i := 6) rfl ki_0 ?_
    have hQ := hq _ (ok_some hF)
    exact r_ireturn (i := 7) rfl rfl rfl hQ
  have hF := ok_if hc hF
  refine r_iload_n (i := 2) (k0 := 1) rfl rfl rfl ?_
  refine r_aload_n (i := 3) (k0 := 0) rfl rfl rfl ?_
  refine q_geti (i := 4) rfl fl_So_40 (xm_sdn hsr0 0 (by decide)) (xm_sdL hsr0 0 (by decide) rfl) ?_
  refine r_icmplt (i := 5) (tgt := 14) rfl (by decide) (fun hc => ?_) (fun hc => ?_)
  · have hF := ok_it hc hF
    refine r_iload_n (i := 8) (k0 := 2) rfl rfl rfl ?_
    refine r_case 0 (fun hc0 => ?_) (fun hc0 => ?_)
    · have hF := ok_it hc0 hF
      refine r_tsIn (i := 9) (tgt := 44) rfl (by decide) (by decide) rfl (by decide) ?_
      refine r_aload_n (i := 10) (k0 := 0) rfl rfl rfl ?_
      refine q_geti (i := 11) rfl fl_So_37 (xm_sdn hsr0 0 (by decide)) (xm_sdL hsr0 0 (by decide) rfl) ?_
      refine r_aload_n (i := 12) (k0 := 0) rfl rfl rfl ?_
      refine q_getr (b := r0 + 2) (i := 13) rfl fl_So_15 rfl (xm_sdn hsr0 0 (by decide)) (xm_sdL hsr0 0 (by decide) rfl) (xm_sr3 hsr0) ?_
      refine r_iload_n (i := 14) (k0 := 1) rfl rfl rfl ?_
      obtain ⟨hi, hF⟩ := ok_gd hF
      refine q_iaload (i := 15) rfl (xm_sdn hsr0 2 (by decide)) (xm_sdL hsr0 2 (by decide) rfl) hi ?_
      refine r_imul (i := 16) rfl ?_
      have hQ := hq _ (ok_some hF)
      exact r_ireturn (i := 17) rfl rfl rfl hQ
    have hF := ok_if hc0 hF
    refine r_case 1 (fun hc1 => ?_) (fun hc1 => ?_)
    · have hF := ok_it hc1 hF
      refine r_tsIn (i := 9) (tgt := 56) rfl (by decide) (by decide) rfl (by decide) ?_
      refine r_aload_n (i := 18) (k0 := 0) rfl rfl rfl ?_
      refine q_geti (i := 19) rfl fl_So_37 (xm_sdn hsr0 0 (by decide)) (xm_sdL hsr0 0 (by decide) rfl) ?_
      refine r_aload_n (i := 20) (k0 := 0) rfl rfl rfl ?_
      refine q_getr (b := r0 + 3) (i := 21) rfl fl_So_18 rfl (xm_sdn hsr0 0 (by decide)) (xm_sdL hsr0 0 (by decide) rfl) (xm_sr4 hsr0) ?_
      refine r_iload_n (i := 22) (k0 := 1) rfl rfl rfl ?_
      obtain ⟨hi, hF⟩ := ok_gd hF
      refine q_iaload (i := 23) rfl (xm_sdn hsr0 3 (by decide)) (xm_sdL hsr0 3 (by decide) rfl) hi ?_
      refine r_ineg (i := 24) rfl ?_
      refine r_imul (i := 25) rfl ?_
      have hQ := hq _ (ok_some hF)
      exact r_ireturn (i := 26) rfl rfl rfl hQ
    have hF := ok_if hc1 hF
    refine r_case 2 (fun hc2 => ?_) (fun hc2 => ?_)
    · have hF := ok_it hc2 hF
      refine r_tsIn (i := 9) (tgt := 69) rfl (by decide) (by decide) rfl (by decide) ?_
      refine r_aload_n (i := 27) (k0 := 0) rfl rfl rfl ?_
      refine q_geti (i := 28) rfl fl_So_37 (xm_sdn hsr0 0 (by decide)) (xm_sdL hsr0 0 (by decide) rfl) ?_
      refine r_aload_n (i := 29) (k0 := 0) rfl rfl rfl ?_
      refine q_getr (b := r0 + 2) (i := 30) rfl fl_So_15 rfl (xm_sdn hsr0 0 (by decide)) (xm_sdL hsr0 0 (by decide) rfl) (xm_sr3 hsr0) ?_
      refine r_iload_n (i := 31) (k0 := 1) rfl rfl rfl ?_
      obtain ⟨hi, hF⟩ := ok_gd hF
      refine q_iaload (i := 32) rfl (xm_sdn hsr0 2 (by decide)) (xm_sdL hsr0 2 (by decide) rfl) hi ?_
      refine r_imul (i := 33) rfl ?_
      have hQ := hq _ (ok_some hF)
      exact r_ireturn (i := 34) rfl rfl rfl hQ
    have hF := ok_if hc2 hF
    refine r_case 3 (fun hc3 => ?_) (fun hc3 => ?_)
    · have hF := ok_it hc3 hF
      refine r_tsIn (i := 9) (tgt := 81) rfl (by decide) (by decide) rfl (by decide) ?_
      refine r_aload_n (i := 35) (k0 := 0) rfl rfl rfl ?_
      refine q_geti (i := 36) rfl fl_So_37 (xm_sdn hsr0 0 (by decide)) (xm_sdL hsr0 0 (by decide) rfl) ?_
      refine r_iconst (v := 2) (i := 37) rfl ki_2 ?_
      refine r_aload_n (i := 38) (k0 := 0) rfl rfl rfl ?_
      refine q_getr (b := r0 + 2) (i := 39) rfl fl_So_15 rfl (xm_sdn hsr0 0 (by decide)) (xm_sdL hsr0 0 (by decide) rfl) (xm_sr3 hsr0) ?_
      refine r_iload_n (i := 40) (k0 := 1) rfl rfl rfl ?_
      obtain ⟨hi, hF⟩ := ok_gd hF
      refine q_iaload (i := 41) rfl (xm_sdn hsr0 2 (by decide)) (xm_sdL hsr0 2 (by decide) rfl) hi ?_
      refine r_imul (i := 42) rfl ?_
      refine r_aload_n (i := 43) (k0 := 0) rfl rfl rfl ?_
      refine q_getr (b := r0 + 3) (i := 44) rfl fl_So_18 rfl (xm_sdn hsr0 0 (by decide)) (xm_sdL hsr0 0 (by decide) rfl) (xm_sr4 hsr0) ?_
      refine r_iload_n (i := 45) (k0 := 1) rfl rfl rfl ?_
      obtain ⟨hi, hF⟩ := ok_gd hF
      refine q_iaload (i := 46) rfl (xm_sdn hsr0 3 (by decide)) (xm_sdL hsr0 3 (by decide) rfl) hi ?_
      refine r_isub (i := 47) rfl ?_
      refine r_imul (i := 48) rfl ?_
      have hQ := hq _ (ok_some hF)
      exact r_ireturn (i := 49) rfl rfl rfl hQ
    have hF := ok_if hc3 hF
    refine r_tsOut (i := 9) (tgt := 102) rfl (by have e0 := lv_neT hc0 (a := 0) (by decide); have e1 := lv_neT hc1 (a := 1) (by decide); have e2 := lv_neT hc2 (a := 2) (by decide); have e3 := lv_neT hc3 (a := 3) (by decide); omega) (by decide) ?_
    refine r_aload_n (i := 50) (k0 := 0) rfl rfl rfl ?_
    refine q_geti (i := 51) rfl fl_So_37 (xm_sdn hsr0 0 (by decide)) (xm_sdL hsr0 0 (by decide) rfl) ?_
    refine r_iconst (v := 2) (i := 52) rfl ki_2 ?_
    refine r_aload_n (i := 53) (k0 := 0) rfl rfl rfl ?_
    refine q_getr (b := r0 + 2) (i := 54) rfl fl_So_15 rfl (xm_sdn hsr0 0 (by decide)) (xm_sdL hsr0 0 (by decide) rfl) (xm_sr3 hsr0) ?_
    refine r_iload_n (i := 55) (k0 := 1) rfl rfl rfl ?_
    obtain ⟨hi, hF⟩ := ok_gd hF
    refine q_iaload (i := 56) rfl (xm_sdn hsr0 2 (by decide)) (xm_sdL hsr0 2 (by decide) rfl) hi ?_
    refine r_imul (i := 57) rfl ?_
    refine r_aload_n (i := 58) (k0 := 0) rfl rfl rfl ?_
    refine q_getr (b := r0 + 1) (i := 59) rfl fl_So_11 rfl (xm_sdn hsr0 0 (by decide)) (xm_sdL hsr0 0 (by decide) rfl) (xm_sr2 hsr0) ?_
    refine r_iload_n (i := 60) (k0 := 1) rfl rfl rfl ?_
    obtain ⟨hi, hF⟩ := ok_gd hF
    refine q_iaload (i := 61) rfl (xm_sdn hsr0 1 (by decide)) (xm_sdL hsr0 1 (by decide) rfl) hi ?_
    refine r_isub (i := 62) rfl ?_
    refine r_aload_n (i := 63) (k0 := 0) rfl rfl rfl ?_
    refine q_getr (b := r0 + 3) (i := 64) rfl fl_So_18 rfl (xm_sdn hsr0 0 (by decide)) (xm_sdL hsr0 0 (by decide) rfl) (xm_sr4 hsr0) ?_
    refine r_iload_n (i := 65) (k0 := 1) rfl rfl rfl ?_
    obtain ⟨hi, hF⟩ := ok_gd hF
    refine q_iaload (i := 66) rfl (xm_sdn hsr0 3 (by decide)) (xm_sdL hsr0 3 (by decide) rfl) hi ?_
    refine r_isub (i := 67) rfl ?_
    refine r_imul (i := 68) rfl ?_
    have hQ := hq _ (ok_some hF)
    exact r_ireturn (i := 69) rfl rfl rfl hQ
  have hF := ok_if hc hF
  refine r_iconst (v := 0) (i := 6) rfl ki_0 ?_
  have hQ := hq _ (ok_some hF)
  exact r_ireturn (i := 7) rfl rfl rfl hQ
set_option maxHeartbeats 4000000 in
set_option maxRecDepth 100000 in
theorem t_So_risingOf {r0 : Nat} {x1 : Int32} {x2 : Int32} {n : Nat} {I : xm_I} {L : xm_L} {K : Int32 → Prop} (hn : 86 ≤ n) (hsr0 : xm_sd n r0) (hF : ok (f_So_risingOf r0 x1 x2 I) K) : xm_C 0 mt_So_risingOf [.ref r0, .int x1, .int x2] (I, L, RC n, n) 0 0 (pI (fun p : Int32 => p) (fun p : Int32 => (I, L, RC n, n)) K) := by
  unfold f_So_risingOf at hF
  refine xm_enter (by decide +kernel) dv_So_risingOf (Nat.le_of_ble_eq_true rfl) ?_
  exact t_So_risingOf_b0 hn hsr0 (fun p hp => ⟨p, rfl, rfl, hp⟩) hF

noncomputable def f_Pn_paintEdge_b110 (x4 : Int32) (y0 : Int32) (I : xm_I) (L : xm_L) : Option (xm_I × xm_L) :=
  if y0 = 0 then (
    some (I, L))
  else (
  (f_Cu_cut 1 I L).bind fun p_1 =>
  if p_1.1 = 0 then (
    some (I, p_1.2))
  else (
  (f_Cu_firstX I p_1.2).bind fun p_2 =>
  (f_Cu_firstY I p_1.2).bind fun p_3 =>
  (f_Cu_lastX I p_1.2).bind fun p_4 =>
  (f_Cu_lastY I p_1.2).bind fun p_5 =>
  (f_Mk_add 83 p_2 p_3 p_4 p_5 x4 I).bind fun p_6 =>
  some (p_6, p_1.2)))
noncomputable def f_Pn_paintEdge_b105 (x4 : Int32) (I : xm_I) (L : xm_L) : Option (xm_I × xm_L) :=
  f_Pn_paintEdge_b110 x4 1 I L
noncomputable def f_Pn_paintEdge_b0 (r1 : Nat) (x2 : Int32) (x3 : Int32) (x4 : Int32) (I : xm_I) (L : xm_L) : Option (xm_I × xm_L) :=
  (f_Pt_xNow (I r1 0) I).bind fun p_1 =>
  (f_Pt_yNow (I r1 0) I).bind fun p_2 =>
  (f_So_lesserOf x2).bind fun p_3 =>
  (f_So_greaterOf x2).bind fun p_4 =>
  (f_So_acrossOf r1 p_3 x3 I).bind fun p_5 =>
  (f_So_risingOf r1 p_3 x3 I).bind fun p_6 =>
  (f_So_acrossOf r1 p_4 x3 I).bind fun p_7 =>
  (f_So_risingOf r1 p_4 x3 I).bind fun p_8 =>
  (f_Cu_setWay (p_1 + p_5) (p_2 + p_6) (p_1 + p_7) (p_2 + p_8) I).bind fun p_9 =>
  if (p_9 38 3) = 0 then (
    if (p_9 38 4) = 0 then (
      f_Pn_paintEdge_b110 x4 0 p_9 L)
    else (
    f_Pn_paintEdge_b105 x4 p_9 L))
  else (
    f_Pn_paintEdge_b105 x4 p_9 L)
noncomputable def f_Pn_paintEdge (r1 : Nat) (x2 : Int32) (x3 : Int32) (x4 : Int32) (I : xm_I) (L : xm_L) : Option (xm_I × xm_L) := f_Pn_paintEdge_b0 r1 x2 x3 x4 I L
set_option maxHeartbeats 4000000 in
set_option maxRecDepth 100000 in
theorem t_Pn_paintEdge_b110 {x4 : Int32} {y0 : Int32} {n : Nat} {I : xm_I} {L : xm_L} {K : xm_I × xm_L → Prop} {Q : Option Value → xm_H → Prop} (hn : 86 ≤ n) (hq : ∀ p : xm_I × xm_L, K p → Q none (p.1, p.2, RC n, n)) (hF : ok (f_Pn_paintEdge_b110 x4 y0 I L) K) : xm_J 4 mt_Pn_paintEdge 110 [(0, .ref 30), (4, .int x4)] [.int y0] (I, L, RC n, n) 0 0 Q := by
  unfold f_Pn_paintEdge_b110 at hF
  refine r_istore (i := 56) (Ls' := [(9, _), (0, _), (4, _)]) rfl (Nat.le_of_ble_eq_true rfl) rfl ?_
  refine r_iload (i := 57) (k0 := 0) rfl rfl ?_
  refine r_ifeq (i := 58) (tgt := 167) rfl (by decide) (fun hc => ?_) (fun hc => ?_)
  · have hF := ok_it hc hF
    have hQ := hq _ (ok_some hF)
    exact r_return (i := 81) rfl rfl hQ
  have hF := ok_if hc hF
  refine r_aload_n (i := 59) (k0 := 1) rfl rfl rfl ?_
  refine q_getr (b := 38) (i := 60) rfl fl_Pn_56 rfl (xm_in rfl hn) rfl rfl ?_
  refine r_iconst (v := 1) (i := 61) rfl ki_1 ?_
  refine c_V1I (i := 62) rfl vm_Cu_cut lk_Pn_229 (t_Cu_cut hn (ok_bind hF)) (Nat.le_of_ble_eq_true rfl) (xm_in rfl hn) rfl rfl (Nat.le_of_ble_eq_true rfl) (fun p_1 hF => ?_)
  refine r_ifeq (i := 63) (tgt := 167) rfl (by decide) (fun hc => ?_) (fun hc => ?_)
  · have hF := ok_it hc hF
    have hQ := hq _ (ok_some hF)
    exact r_return (i := 81) rfl rfl hQ
  have hF := ok_if hc hF
  refine r_aload_n (i := 64) (k0 := 1) rfl rfl rfl ?_
  refine q_getr (b := 17) (i := 65) rfl fl_Pn_47 rfl (xm_in rfl hn) rfl rfl ?_
  refine r_bipush (v := 83) (i := 66) rfl kb_83 ?_
  refine r_aload_n (i := 67) (k0 := 1) rfl rfl rfl ?_
  refine q_getr (b := 38) (i := 68) rfl fl_Pn_56 rfl (xm_in rfl hn) rfl rfl ?_
  refine c_V0I (i := 69) rfl vm_Cu_firstX lk_Pn_232 (t_Cu_firstX hn (ok_bind hF)) (Nat.le_of_ble_eq_true rfl) (xm_in rfl hn) rfl rfl (Nat.le_of_ble_eq_true rfl) (fun p_2 hF => ?_)
  refine r_aload_n (i := 70) (k0 := 1) rfl rfl rfl ?_
  refine q_getr (b := 38) (i := 71) rfl fl_Pn_56 rfl (xm_in rfl hn) rfl rfl ?_
  refine c_V0I (i := 72) rfl vm_Cu_firstY lk_Pn_236 (t_Cu_firstY hn (ok_bind hF)) (Nat.le_of_ble_eq_true rfl) (xm_in rfl hn) rfl rfl (Nat.le_of_ble_eq_true rfl) (fun p_3 hF => ?_)
  refine r_aload_n (i := 73) (k0 := 1) rfl rfl rfl ?_
  refine q_getr (b := 38) (i := 74) rfl fl_Pn_56 rfl (xm_in rfl hn) rfl rfl ?_
  refine c_V0I (i := 75) rfl vm_Cu_lastX lk_Pn_239 (t_Cu_lastX hn (ok_bind hF)) (Nat.le_of_ble_eq_true rfl) (xm_in rfl hn) rfl rfl (Nat.le_of_ble_eq_true rfl) (fun p_4 hF => ?_)
  refine r_aload_n (i := 76) (k0 := 1) rfl rfl rfl ?_
  refine q_getr (b := 38) (i := 77) rfl fl_Pn_56 rfl (xm_in rfl hn) rfl rfl ?_
  refine c_V0I (i := 78) rfl vm_Cu_lastY lk_Pn_242 (t_Cu_lastY hn (ok_bind hF)) (Nat.le_of_ble_eq_true rfl) (xm_in rfl hn) rfl rfl (Nat.le_of_ble_eq_true rfl) (fun p_5 hF => ?_)
  refine r_iload (i := 79) (k0 := 2) rfl rfl ?_
  refine c_V6V (i := 80) rfl vm_Mk_add lk_Pn_74 (t_Mk_add hn (ok_bind hF)) (Nat.le_of_ble_eq_true rfl) (xm_in rfl hn) rfl rfl (Nat.le_of_ble_eq_true rfl) (fun p_6 hF => ?_)
  have hQ := hq _ (ok_some hF)
  exact r_return (i := 81) rfl rfl hQ
set_option maxHeartbeats 4000000 in
set_option maxRecDepth 100000 in
theorem t_Pn_paintEdge_b105 {x4 : Int32} {n : Nat} {I : xm_I} {L : xm_L} {K : xm_I × xm_L → Prop} {Q : Option Value → xm_H → Prop} (hn : 86 ≤ n) (hq : ∀ p : xm_I × xm_L, K p → Q none (p.1, p.2, RC n, n)) (hF : ok (f_Pn_paintEdge_b105 x4 I L) K) : xm_J 4 mt_Pn_paintEdge 105 [(0, .ref 30), (4, .int x4)] [] (I, L, RC n, n) 0 0 Q := by
  unfold f_Pn_paintEdge_b105 at hF
  refine r_iconst (v := 1) (i := 53) rfl ki_1 ?_
  refine r_goto (i := 54) (tgt := 110) rfl (by decide) ?_
  exact t_Pn_paintEdge_b110 hn (fun p h => hq p h) hF
set_option maxHeartbeats 4000000 in
set_option maxRecDepth 100000 in
theorem t_Pn_paintEdge_b0 {r1 : Nat} {x2 : Int32} {x3 : Int32} {x4 : Int32} {n : Nat} {I : xm_I} {L : xm_L} {K : xm_I × xm_L → Prop} {Q : Option Value → xm_H → Prop} (hn : 86 ≤ n) (hsr1 : xm_sd n r1) (hq : ∀ p : xm_I × xm_L, K p → Q none (p.1, p.2, RC n, n)) (hF : ok (f_Pn_paintEdge_b0 r1 x2 x3 x4 I L) K) : xm_J 4 mt_Pn_paintEdge 0 [(0, .ref 30), (1, .ref r1), (2, .int x2), (3, .int x3), (4, .int x4)] [] (I, L, RC n, n) 0 0 Q := by
  unfold f_Pn_paintEdge_b0 at hF
  refine r_aload_n (i := 0) (k0 := 0) rfl rfl rfl ?_
  refine q_getr (b := 1) (i := 1) rfl fl_Pn_39 rfl (xm_in rfl hn) rfl rfl ?_
  refine r_aload_n (i := 2) (k0 := 1) rfl rfl rfl ?_
  refine q_geti (i := 3) rfl fl_Pn_305 (xm_sdn hsr1 0 (by decide)) (xm_sdL hsr1 0 (by decide) rfl) ?_
  refine c_V1I (i := 4) rfl vm_Pt_xNow lk_Pn_308 (t_Pt_xNow hn (ok_bind hF)) (Nat.le_of_ble_eq_true rfl) (xm_in rfl hn) rfl rfl (Nat.le_of_ble_eq_true rfl) (fun p_1 hF => ?_)
  refine r_istore (i := 5) (Ls' := [(5, _), (0, _), (1, _), (2, _), (3, _), (4, _)]) rfl (Nat.le_of_ble_eq_true rfl) rfl ?_
  refine r_aload_n (i := 6) (k0 := 1) rfl rfl rfl ?_
  refine q_getr (b := 1) (i := 7) rfl fl_Pn_39 rfl (xm_in rfl hn) rfl rfl ?_
  refine r_aload_n (i := 8) (k0 := 2) rfl rfl rfl ?_
  refine q_geti (i := 9) rfl fl_Pn_305 (xm_sdn hsr1 0 (by decide)) (xm_sdL hsr1 0 (by decide) rfl) ?_
  refine c_V1I (i := 10) rfl vm_Pt_yNow lk_Pn_313 (t_Pt_yNow hn (ok_bind hF)) (Nat.le_of_ble_eq_true rfl) (xm_in rfl hn) rfl rfl (Nat.le_of_ble_eq_true rfl) (fun p_2 hF => ?_)
  refine r_istore (i := 11) (Ls' := [(6, _), (5, _), (0, _), (1, _), (2, _), (3, _), (4, _)]) rfl (Nat.le_of_ble_eq_true rfl) rfl ?_
  refine r_iload_n (i := 12) (k0 := 4) rfl rfl rfl ?_
  refine c_S1I (i := 13) rfl sm_So_lesserOf lk_Pn_316 (t_So_lesserOf hn (ok_bind hF)) (Nat.le_of_ble_eq_true rfl) rfl (Nat.le_of_ble_eq_true rfl) (fun p_3 hF => ?_)
  refine r_istore (i := 14) (Ls' := [(7, _), (6, _), (5, _), (0, _), (1, _), (2, _), (3, _), (4, _)]) rfl (Nat.le_of_ble_eq_true rfl) rfl ?_
  refine r_iload_n (i := 15) (k0 := 5) rfl rfl rfl ?_
  refine c_S1I (i := 16) rfl sm_So_greaterOf lk_Pn_319 (t_So_greaterOf hn (ok_bind hF)) (Nat.le_of_ble_eq_true rfl) rfl (Nat.le_of_ble_eq_true rfl) (fun p_4 hF => ?_)
  refine r_istore (i := 17) (Ls' := [(8, _), (7, _), (6, _), (5, _), (0, _), (1, _), (2, _), (3, _), (4, _)]) rfl (Nat.le_of_ble_eq_true rfl) rfl ?_
  refine r_aload_n (i := 18) (k0 := 4) rfl rfl rfl ?_
  refine q_getr (b := 38) (i := 19) rfl fl_Pn_56 rfl (xm_in rfl hn) rfl rfl ?_
  refine r_iload (i := 20) (k0 := 3) rfl rfl ?_
  refine r_aload_n (i := 21) (k0 := 5) rfl rfl rfl ?_
  refine r_iload (i := 22) (k0 := 1) rfl rfl ?_
  refine r_iload_n (i := 23) (k0 := 7) rfl rfl rfl ?_
  refine c_V2I (i := 24) rfl vm_So_acrossOf lk_Pn_322 (t_So_acrossOf hn hsr1 (ok_bind hF)) (Nat.le_of_ble_eq_true rfl) (xm_sdn hsr1 0 (by decide)) (xm_sdL hsr1 0 (by decide) rfl) rfl (Nat.le_of_ble_eq_true rfl) (fun p_5 hF => ?_)
  refine r_iadd (i := 25) rfl ?_
  refine r_iload (i := 26) (k0 := 2) rfl rfl ?_
  refine r_aload_n (i := 27) (k0 := 5) rfl rfl rfl ?_
  refine r_iload (i := 28) (k0 := 1) rfl rfl ?_
  refine r_iload_n (i := 29) (k0 := 7) rfl rfl rfl ?_
  refine c_V2I (i := 30) rfl vm_So_risingOf lk_Pn_325 (t_So_risingOf hn hsr1 (ok_bind hF)) (Nat.le_of_ble_eq_true rfl) (xm_sdn hsr1 0 (by decide)) (xm_sdL hsr1 0 (by decide) rfl) rfl (Nat.le_of_ble_eq_true rfl) (fun p_6 hF => ?_)
  refine r_iadd (i := 31) rfl ?_
  refine r_iload (i := 32) (k0 := 3) rfl rfl ?_
  refine r_aload_n (i := 33) (k0 := 5) rfl rfl rfl ?_
  refine r_iload (i := 34) (k0 := 0) rfl rfl ?_
  refine r_iload_n (i := 35) (k0 := 7) rfl rfl rfl ?_
  refine c_V2I (i := 36) rfl vm_So_acrossOf lk_Pn_322 (t_So_acrossOf hn hsr1 (ok_bind hF)) (Nat.le_of_ble_eq_true rfl) (xm_sdn hsr1 0 (by decide)) (xm_sdL hsr1 0 (by decide) rfl) rfl (Nat.le_of_ble_eq_true rfl) (fun p_7 hF => ?_)
  refine r_iadd (i := 37) rfl ?_
  refine r_iload (i := 38) (k0 := 2) rfl rfl ?_
  refine r_aload_n (i := 39) (k0 := 5) rfl rfl rfl ?_
  refine r_iload (i := 40) (k0 := 0) rfl rfl ?_
  refine r_iload_n (i := 41) (k0 := 7) rfl rfl rfl ?_
  refine c_V2I (i := 42) rfl vm_So_risingOf lk_Pn_325 (t_So_risingOf hn hsr1 (ok_bind hF)) (Nat.le_of_ble_eq_true rfl) (xm_sdn hsr1 0 (by decide)) (xm_sdL hsr1 0 (by decide) rfl) rfl (Nat.le_of_ble_eq_true rfl) (fun p_8 hF => ?_)
  refine r_iadd (i := 43) rfl ?_
  refine c_V4V (i := 44) rfl vm_Cu_setWay lk_Pn_225 (t_Cu_setWay hn (ok_bind hF)) (Nat.le_of_ble_eq_true rfl) (xm_in rfl hn) rfl rfl (Nat.le_of_ble_eq_true rfl) (fun p_9 hF => ?_)
  refine r_aload_n (i := 45) (k0 := 4) rfl rfl rfl ?_
  refine q_getr (b := 38) (i := 46) rfl fl_Pn_56 rfl (xm_in rfl hn) rfl rfl ?_
  refine q_geti (i := 47) rfl fl_Pn_328 (xm_in rfl hn) rfl ?_
  refine r_ifne (i := 48) (tgt := 105) rfl (by decide) (fun hc => ?_) (fun hc => ?_)
  · have hF := ok_if hc hF
    refine xm_sub (Ls' := [(0, _), (4, _)]) [4, 8] rfl ?_
    exact t_Pn_paintEdge_b105 hn (fun p h => hq p h) hF
  have hF := ok_it hc hF
  refine r_aload_n (i := 49) (k0 := 4) rfl rfl rfl ?_
  refine q_getr (b := 38) (i := 50) rfl fl_Pn_56 rfl (xm_in rfl hn) rfl rfl ?_
  refine q_geti (i := 51) rfl fl_Pn_331 (xm_in rfl hn) rfl ?_
  refine r_ifeq (i := 52) (tgt := 109) rfl (by decide) (fun hc => ?_) (fun hc => ?_)
  · have hF := ok_it hc hF
    refine r_iconst (v := 0) (i := 55) rfl ki_0 ?_
    refine xm_sub (Ls' := [(0, _), (4, _)]) [4, 8] rfl ?_
    exact t_Pn_paintEdge_b110 hn (fun p h => hq p h) hF
  have hF := ok_if hc hF
  refine xm_sub (Ls' := [(0, _), (4, _)]) [4, 8] rfl ?_
  exact t_Pn_paintEdge_b105 hn (fun p h => hq p h) hF
set_option maxHeartbeats 4000000 in
set_option maxRecDepth 100000 in
theorem t_Pn_paintEdge {r1 : Nat} {x2 : Int32} {x3 : Int32} {x4 : Int32} {n : Nat} {I : xm_I} {L : xm_L} {K : xm_I × xm_L → Prop} (hn : 86 ≤ n) (hsr1 : xm_sd n r1) (hF : ok (f_Pn_paintEdge r1 x2 x3 x4 I L) K) : xm_C 4 mt_Pn_paintEdge [.ref 30, .ref r1, .int x2, .int x3, .int x4] (I, L, RC n, n) 0 0 (pV (fun p : xm_I × xm_L => (p.1, p.2, RC n, n)) K) := by
  unfold f_Pn_paintEdge at hF
  refine xm_enter (by decide +kernel) dv_Pn_paintEdge (Nat.le_of_ble_eq_true rfl) ?_
  exact t_Pn_paintEdge_b0 hn hsr1 (fun p hp => ⟨p, rfl, rfl, hp⟩) hF

noncomputable def f_Pn_paintSolid_b70 (r1 : Nat) (x2 : Int32) (x3 : Int32) (x4 : Int32) (I : xm_I) (L : xm_L) : Option ((Int32 × xm_I × xm_L) ⊕ (xm_I × xm_L)) :=
  let x4_1 : Int32 := x4 + 1
  some (.inl (x4_1, I, L))
noncomputable def f_Pn_paintSolid_b67 (r1 : Nat) (x2 : Int32) (x3 : Int32) (x4 : Int32) (q1 : Nat) (y2 : Int32) (y3 : Int32) (y4 : Int32) (I : xm_I) (L : xm_L) : Option ((Int32 × xm_I × xm_L) ⊕ (xm_I × xm_L)) :=
  (f_Pn_paintEdge q1 y2 y3 y4 I L).bind fun p_1 =>
  f_Pn_paintSolid_b70 r1 x2 x3 x4 p_1.1 p_1.2
noncomputable def f_Pn_paintSolid_b52 (r1 : Nat) (x2 : Int32) (x3 : Int32) (x4 : Int32) (x5 : Int32) (I : xm_I) (L : xm_L) : Option ((Int32 × xm_I × xm_L) ⊕ (xm_I × xm_L)) :=
  if x5 = 0 then (
    f_Pn_paintSolid_b67 r1 x2 x3 x4 r1 x4 x2 0 I L)
  else (
  f_Pn_paintSolid_b67 r1 x2 x3 x4 r1 x4 x2 1 I L)
noncomputable def f_Pn_paintSolid_s9 (r1 : Nat) (x2 : Int32) (x3 : Int32) (s : Int32 × xm_I × xm_L) : Option ((Int32 × xm_I × xm_L) ⊕ (xm_I × xm_L)) :=
  if 144 ≤ s.1 then (
    some (.inr (s.2.1, s.2.2)))
  else (
  (f_So_isEdge r1 s.1 s.2.1).bind fun p_1 =>
  if p_1 = 0 then (
    f_Pn_paintSolid_b70 r1 x2 x3 s.1 s.2.1 s.2.2)
  else (
  (f_So_isBehind r1 s.1 x3 s.2.1).bind fun p_2 =>
  if p_2 = 0 then (
    f_Pn_paintSolid_b52 r1 x2 x3 s.1 p_2 s.2.1 s.2.2)
  else (
  (f_Fg_isHidden 9 s.2.1).bind fun p_3 =>
  if p_3 = 0 then (
    f_Pn_paintSolid_b52 r1 x2 x3 s.1 p_2 s.2.1 s.2.2)
  else (
    f_Pn_paintSolid_b70 r1 x2 x3 s.1 s.2.1 s.2.2))))
noncomputable def f_Pn_paintSolid_b9 (r1 : Nat) (x2 : Int32) (x3 : Int32) (s : Int32 × xm_I × xm_L) : Option (xm_I × xm_L) := lp (f_Pn_paintSolid_s9 r1 x2 x3) s
noncomputable def f_Pn_paintSolid_b0 (r1 : Nat) (x2 : Int32) (I : xm_I) (L : xm_L) : Option (xm_I × xm_L) :=
  (f_So_facesSeen r1 x2 I).bind fun p_1 =>
  f_Pn_paintSolid_b9 r1 x2 p_1 (0, I, L)
noncomputable def f_Pn_paintSolid (r1 : Nat) (x2 : Int32) (I : xm_I) (L : xm_L) : Option (xm_I × xm_L) := f_Pn_paintSolid_b0 r1 x2 I L
set_option maxHeartbeats 4000000 in
set_option maxRecDepth 100000 in
theorem t_Pn_paintSolid_b70 {r1 : Nat} {x2 : Int32} {x3 : Int32} {x4 : Int32} {n : Nat} {I : xm_I} {L : xm_L} {K : (Int32 × xm_I × xm_L) ⊕ (xm_I × xm_L) → Prop} {Q : Option Value → xm_H → Prop} (hn : 86 ≤ n) (hsr1 : xm_sd n r1) (hq : ∀ p : xm_I × xm_L, K (.inr p) → Q none (p.1, p.2, RC n, n)) (hg0 : ∀ s : Int32 × xm_I × xm_L, K (.inl s) → xm_J 5 mt_Pn_paintSolid 9 [(0, .ref 30), (1, .ref r1), (2, .int x2), (3, .int x3), (4, .int s.1)] [] (s.2.1, s.2.2, RC n, n) 0 0 Q) (hF : ok (f_Pn_paintSolid_b70 r1 x2 x3 x4 I L) K) : xm_J 5 mt_Pn_paintSolid 70 [(0, .ref 30), (1, .ref r1), (2, .int x2), (3, .int x3), (4, .int x4)] [] (I, L, RC n, n) 0 0 Q := by
  unfold f_Pn_paintSolid_b70 at hF
  refine q_iinc (i := 35) (k0 := 4) (Ls' := [(4, _), (0, _), (1, _), (2, _), (3, _)]) rfl ki_1 rfl (Nat.le_of_ble_eq_true rfl) rfl ?_
  refine r_goto (i := 36) (tgt := 9) rfl (by decide) ?_
  refine xm_sub (Ls' := [(0, _), (1, _), (2, _), (3, _), (4, _)]) [1, 2, 3, 4, 0] rfl ?_
  have hJ := hg0 _ (ok_some hF)
  exact hJ
set_option maxHeartbeats 4000000 in
set_option maxRecDepth 100000 in
theorem t_Pn_paintSolid_b67 {r1 : Nat} {x2 : Int32} {x3 : Int32} {x4 : Int32} {q1 : Nat} {y2 : Int32} {y3 : Int32} {y4 : Int32} {n : Nat} {I : xm_I} {L : xm_L} {K : (Int32 × xm_I × xm_L) ⊕ (xm_I × xm_L) → Prop} {Q : Option Value → xm_H → Prop} (hn : 86 ≤ n) (hsr1 : xm_sd n r1) (hsq1 : xm_sd n q1) (hq : ∀ p : xm_I × xm_L, K (.inr p) → Q none (p.1, p.2, RC n, n)) (hg0 : ∀ s : Int32 × xm_I × xm_L, K (.inl s) → xm_J 5 mt_Pn_paintSolid 9 [(0, .ref 30), (1, .ref r1), (2, .int x2), (3, .int x3), (4, .int s.1)] [] (s.2.1, s.2.2, RC n, n) 0 0 Q) (hF : ok (f_Pn_paintSolid_b67 r1 x2 x3 x4 q1 y2 y3 y4 I L) K) : xm_J 5 mt_Pn_paintSolid 67 [(0, .ref 30), (1, .ref r1), (2, .int x2), (3, .int x3), (4, .int x4)] [.int y4, .int y3, .int y2, .ref q1, .ref 30] (I, L, RC n, n) 0 0 Q := by
  unfold f_Pn_paintSolid_b67 at hF
  refine c_V4V (i := 34) rfl vm_Pn_paintEdge lk_Pn_301 (t_Pn_paintEdge hn hsq1 (ok_bind hF)) (Nat.le_of_ble_eq_true rfl) (xm_in rfl hn) rfl rfl (Nat.le_of_ble_eq_true rfl) (fun p_1 hF => ?_)
  exact t_Pn_paintSolid_b70 hn hsr1 (fun p h => hq p h) (fun z h => hg0 z h) hF
set_option maxHeartbeats 4000000 in
set_option maxRecDepth 100000 in
theorem t_Pn_paintSolid_b52 {r1 : Nat} {x2 : Int32} {x3 : Int32} {x4 : Int32} {x5 : Int32} {n : Nat} {I : xm_I} {L : xm_L} {K : (Int32 × xm_I × xm_L) ⊕ (xm_I × xm_L) → Prop} {Q : Option Value → xm_H → Prop} (hn : 86 ≤ n) (hsr1 : xm_sd n r1) (hq : ∀ p : xm_I × xm_L, K (.inr p) → Q none (p.1, p.2, RC n, n)) (hg0 : ∀ s : Int32 × xm_I × xm_L, K (.inl s) → xm_J 5 mt_Pn_paintSolid 9 [(0, .ref 30), (1, .ref r1), (2, .int x2), (3, .int x3), (4, .int s.1)] [] (s.2.1, s.2.2, RC n, n) 0 0 Q) (hF : ok (f_Pn_paintSolid_b52 r1 x2 x3 x4 x5 I L) K) : xm_J 5 mt_Pn_paintSolid 52 [(0, .ref 30), (1, .ref r1), (2, .int x2), (3, .int x3), (4, .int x4), (5, .int x5)] [] (I, L, RC n, n) 0 0 Q := by
  unfold f_Pn_paintSolid_b52 at hF
  refine r_aload_n (i := 25) (k0 := 0) rfl rfl rfl ?_
  refine r_aload_n (i := 26) (k0 := 1) rfl rfl rfl ?_
  refine r_iload (i := 27) (k0 := 4) rfl rfl ?_
  refine r_iload_n (i := 28) (k0 := 2) rfl rfl rfl ?_
  refine r_iload (i := 29) (k0 := 5) rfl rfl ?_
  refine r_ifeq (i := 30) (tgt := 66) rfl (by decide) (fun hc => ?_) (fun hc => ?_)
  · have hF := ok_it hc hF
    refine r_iconst (v := 0) (i := 33) rfl ki_0 ?_
    refine xm_sub (Ls' := [(0, _), (1, _), (2, _), (3, _), (4, _)]) [0, 1, 2, 3, 4] rfl ?_
    exact t_Pn_paintSolid_b67 hn hsr1 hsr1 (fun p h => hq p h) (fun z h => hg0 z h) hF
  have hF := ok_if hc hF
  refine r_iconst (v := 1) (i := 31) rfl ki_1 ?_
  refine r_goto (i := 32) (tgt := 67) rfl (by decide) ?_
  refine xm_sub (Ls' := [(0, _), (1, _), (2, _), (3, _), (4, _)]) [0, 1, 2, 3, 4] rfl ?_
  exact t_Pn_paintSolid_b67 hn hsr1 hsr1 (fun p h => hq p h) (fun z h => hg0 z h) hF
set_option maxHeartbeats 4000000 in
set_option maxRecDepth 100000 in
theorem t_Pn_paintSolid_s9 {r1 : Nat} {x2 : Int32} {x3 : Int32} {s : Int32 × xm_I × xm_L} {n : Nat} {K : (Int32 × xm_I × xm_L) ⊕ (xm_I × xm_L) → Prop} {Q : Option Value → xm_H → Prop} (hn : 86 ≤ n) (hsr1 : xm_sd n r1) (hq : ∀ p : xm_I × xm_L, K (.inr p) → Q none (p.1, p.2, RC n, n)) (hg0 : ∀ s : Int32 × xm_I × xm_L, K (.inl s) → xm_J 5 mt_Pn_paintSolid 9 [(0, .ref 30), (1, .ref r1), (2, .int x2), (3, .int x3), (4, .int s.1)] [] (s.2.1, s.2.2, RC n, n) 0 0 Q) (hF : ok (f_Pn_paintSolid_s9 r1 x2 x3 s) K) : xm_J 5 mt_Pn_paintSolid 9 [(0, .ref 30), (1, .ref r1), (2, .int x2), (3, .int x3), (4, .int s.1)] [] (s.2.1, s.2.2, RC n, n) 0 0 Q := by
  unfold f_Pn_paintSolid_s9 at hF
  refine r_iload (i := 6) (k0 := 4) rfl rfl ?_
  refine r_sipush (v := 144) (i := 7) rfl ks_144 ?_
  refine r_icmpge (i := 8) (tgt := 76) rfl (by decide) (fun hc => ?_) (fun hc => ?_)
  · have hF := ok_it hc hF
    have hQ := hq _ (ok_some hF)
    exact r_return (i := 37) rfl rfl hQ
  have hF := ok_if hc hF
  refine r_aload_n (i := 9) (k0 := 1) rfl rfl rfl ?_
  refine r_iload (i := 10) (k0 := 4) rfl rfl ?_
  refine c_V1I (i := 11) rfl vm_So_isEdge lk_Pn_294 (t_So_isEdge hn hsr1 (ok_bind hF)) (Nat.le_of_ble_eq_true rfl) (xm_sdn hsr1 0 (by decide)) (xm_sdL hsr1 0 (by decide) rfl) rfl (Nat.le_of_ble_eq_true rfl) (fun p_1 hF => ?_)
  refine r_ifeq (i := 12) (tgt := 70) rfl (by decide) (fun hc => ?_) (fun hc => ?_)
  · have hF := ok_it hc hF
    exact t_Pn_paintSolid_b70 hn hsr1 (fun p h => hq p h) (fun z h => hg0 z h) hF
  have hF := ok_if hc hF
  refine r_aload_n (i := 13) (k0 := 1) rfl rfl rfl ?_
  refine r_iload (i := 14) (k0 := 4) rfl rfl ?_
  refine r_iload_n (i := 15) (k0 := 3) rfl rfl rfl ?_
  refine c_V2I (i := 16) rfl vm_So_isBehind lk_Pn_297 (t_So_isBehind hn hsr1 (ok_bind hF)) (Nat.le_of_ble_eq_true rfl) (xm_sdn hsr1 0 (by decide)) (xm_sdL hsr1 0 (by decide) rfl) rfl (Nat.le_of_ble_eq_true rfl) (fun p_2 hF => ?_)
  refine r_istore (i := 17) (Ls' := [(5, _), (0, _), (1, _), (2, _), (3, _), (4, _)]) rfl (Nat.le_of_ble_eq_true rfl) rfl ?_
  refine r_iload (i := 18) (k0 := 0) rfl rfl ?_
  refine r_ifeq (i := 19) (tgt := 52) rfl (by decide) (fun hc => ?_) (fun hc => ?_)
  · have hF := ok_it hc hF
    refine xm_sub (Ls' := [(0, _), (1, _), (2, _), (3, _), (4, _), (5, _)]) [1, 2, 3, 4, 5, 0] rfl ?_
    exact t_Pn_paintSolid_b52 hn hsr1 (fun p h => hq p h) (fun z h => hg0 z h) hF
  have hF := ok_if hc hF
  refine r_aload_n (i := 20) (k0 := 1) rfl rfl rfl ?_
  refine q_getr (b := 6) (i := 21) rfl fl_Pn_35 rfl (xm_in rfl hn) rfl rfl ?_
  refine r_bipush (v := 9) (i := 22) rfl kb_9 ?_
  refine c_V1I (i := 23) rfl vm_Fg_isHidden lk_Pn_272 (t_Fg_isHidden hn (ok_bind hF)) (Nat.le_of_ble_eq_true rfl) (xm_in rfl hn) rfl rfl (Nat.le_of_ble_eq_true rfl) (fun p_3 hF => ?_)
  refine r_ifne (i := 24) (tgt := 70) rfl (by decide) (fun hc => ?_) (fun hc => ?_)
  · have hF := ok_if hc hF
    refine xm_sub (Ls' := [(0, _), (1, _), (2, _), (3, _), (4, _)]) [1, 2, 3, 4, 5] rfl ?_
    exact t_Pn_paintSolid_b70 hn hsr1 (fun p h => hq p h) (fun z h => hg0 z h) hF
  have hF := ok_it hc hF
  refine xm_sub (Ls' := [(0, _), (1, _), (2, _), (3, _), (4, _), (5, _)]) [1, 2, 3, 4, 5, 0] rfl ?_
  exact t_Pn_paintSolid_b52 hn hsr1 (fun p h => hq p h) (fun z h => hg0 z h) hF
set_option maxHeartbeats 4000000 in
set_option maxRecDepth 100000 in
theorem t_Pn_paintSolid_b9 {r1 : Nat} {x2 : Int32} {x3 : Int32} {s : Int32 × xm_I × xm_L} {n : Nat} {K : xm_I × xm_L → Prop} {Q : Option Value → xm_H → Prop} (hn : 86 ≤ n) (hsr1 : xm_sd n r1) (hq : ∀ p : xm_I × xm_L, K p → Q none (p.1, p.2, RC n, n)) (hF : ok (f_Pn_paintSolid_b9 r1 x2 x3 s) K) : xm_J 5 mt_Pn_paintSolid 9 [(0, .ref 30), (1, .ref r1), (2, .int x2), (3, .int x3), (4, .int s.1)] [] (s.2.1, s.2.2, RC n, n) 0 0 Q :=
  lp_J (G := fun z => xm_J 5 mt_Pn_paintSolid 9 [(0, .ref 30), (1, .ref r1), (2, .int x2), (3, .int x3), (4, .int z.1)] [] (z.2.1, z.2.2, RC n, n) 0 0 Q) (fun z hF => t_Pn_paintSolid_s9 hn hsr1 (fun p h => hq p h) (fun z h => h) hF) s hF
set_option maxHeartbeats 4000000 in
set_option maxRecDepth 100000 in
theorem t_Pn_paintSolid_b0 {r1 : Nat} {x2 : Int32} {n : Nat} {I : xm_I} {L : xm_L} {K : xm_I × xm_L → Prop} {Q : Option Value → xm_H → Prop} (hn : 86 ≤ n) (hsr1 : xm_sd n r1) (hq : ∀ p : xm_I × xm_L, K p → Q none (p.1, p.2, RC n, n)) (hF : ok (f_Pn_paintSolid_b0 r1 x2 I L) K) : xm_J 5 mt_Pn_paintSolid 0 [(0, .ref 30), (1, .ref r1), (2, .int x2)] [] (I, L, RC n, n) 0 0 Q := by
  unfold f_Pn_paintSolid_b0 at hF
  refine r_aload_n (i := 0) (k0 := 1) rfl rfl rfl ?_
  refine r_iload_n (i := 1) (k0 := 2) rfl rfl rfl ?_
  refine c_V1I (i := 2) rfl vm_So_facesSeen lk_Pn_289 (t_So_facesSeen hn hsr1 (ok_bind hF)) (Nat.le_of_ble_eq_true rfl) (xm_sdn hsr1 0 (by decide)) (xm_sdL hsr1 0 (by decide) rfl) rfl (Nat.le_of_ble_eq_true rfl) (fun p_1 hF => ?_)
  refine r_istore_n (i := 3) (Ls' := [(3, _), (0, _), (1, _), (2, _)]) rfl rfl (Nat.le_of_ble_eq_true rfl) rfl ?_
  refine r_iconst (v := 0) (i := 4) rfl ki_0 ?_
  refine r_istore (i := 5) (Ls' := [(4, _), (3, _), (0, _), (1, _), (2, _)]) rfl (Nat.le_of_ble_eq_true rfl) rfl ?_
  refine xm_sub (Ls' := [(0, _), (1, _), (2, _), (3, _), (4, _)]) [2, 3, 4, 1, 0] rfl ?_
  exact t_Pn_paintSolid_b9 hn hsr1 (fun p h => hq p h) hF
set_option maxHeartbeats 4000000 in
set_option maxRecDepth 100000 in
theorem t_Pn_paintSolid {r1 : Nat} {x2 : Int32} {n : Nat} {I : xm_I} {L : xm_L} {K : xm_I × xm_L → Prop} (hn : 86 ≤ n) (hsr1 : xm_sd n r1) (hF : ok (f_Pn_paintSolid r1 x2 I L) K) : xm_C 5 mt_Pn_paintSolid [.ref 30, .ref r1, .int x2] (I, L, RC n, n) 0 0 (pV (fun p : xm_I × xm_L => (p.1, p.2, RC n, n)) K) := by
  unfold f_Pn_paintSolid at hF
  refine xm_enter (by decide +kernel) dv_Pn_paintSolid (Nat.le_of_ble_eq_true rfl) ?_
  exact t_Pn_paintSolid_b0 hn hsr1 (fun p hp => ⟨p, rfl, rfl, hp⟩) hF
