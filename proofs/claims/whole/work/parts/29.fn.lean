/-! ===== turned: M_ceiling M_drawGrid M_cross M_show M_drawArea M_has M_octant M_root M_squareOf M_far M_near M_drawCircle M_drawAngle ===== -/
noncomputable def f_M_ceiling_b0 (l0 : Int64) (l2 : Int64) : Option (Int64) :=
  (f_M_floor (-l0) l2).bind fun p_1 =>
  some (-p_1)
noncomputable def f_M_ceiling (l0 : Int64) (l2 : Int64) : Option (Int64) := f_M_ceiling_b0 l0 l2
set_option maxHeartbeats 4000000 in
set_option maxRecDepth 100000 in
theorem t_M_ceiling_b0 {l0 : Int64} {l2 : Int64} {n : Nat} {I : xm_I} {L : xm_L} {K : Int64 → Prop} {Q : Option Value → xm_H → Prop} (hn : 86 ≤ n) (hq : ∀ p : Int64, K p → Q (some (.long p)) (I, L, RC n, n)) (hF : ok (f_M_ceiling_b0 l0 l2) K) : xm_J 1 mt_M_ceiling 0 [(0, .long l0), (2, .long l2)] [] (I, L, RC n, n) 0 0 Q := by
  unfold f_M_ceiling_b0 at hF
  refine r_lload_n (i := 0) (k0 := 0) rfl rfl rfl ?_
  refine r_lneg (i := 1) rfl ?_
  refine r_lload_n (i := 2) (k0 := 1) rfl rfl rfl ?_
  refine c_S2L (i := 3) rfl sm_M_floor lk_M_264 (t_M_floor hn (ok_bind hF)) (Nat.le_of_ble_eq_true rfl) rfl (Nat.le_of_ble_eq_true rfl) (fun p_1 hF => ?_)
  refine r_lneg (i := 4) rfl ?_
  have hQ := hq _ (ok_some hF)
  exact r_lreturn (i := 5) rfl rfl hQ
set_option maxHeartbeats 4000000 in
set_option maxRecDepth 100000 in
theorem t_M_ceiling {l0 : Int64} {l2 : Int64} {n : Nat} {I : xm_I} {L : xm_L} {K : Int64 → Prop} (hn : 86 ≤ n) (hF : ok (f_M_ceiling l0 l2) K) : xm_C 1 mt_M_ceiling [.long l0, .long l2] (I, L, RC n, n) 0 0 (pL (fun p : Int64 => p) (fun p : Int64 => (I, L, RC n, n)) K) := by
  unfold f_M_ceiling at hF
  refine xm_enter (by decide +kernel) dv_M_ceiling (Nat.le_of_ble_eq_true rfl) ?_
  exact t_M_ceiling_b0 hn (fun p hp => ⟨p, rfl, rfl, hp⟩) hF

noncomputable def f_M_drawGrid_s90 (L : xm_L) (s : Int64 × xm_I) : Option ((Int64 × xm_I) ⊕ (xm_I)) :=
  if (Int32.toInt64 (s.2 49 18)) < s.1 then (
    some (.inr (s.2)))
  else (
  (f_M_stroke (Int32.toInt64 (s.2 49 15)) 1 s.1 1 (Int32.toInt64 (s.2 49 16)) 1 s.1 1 1 s.2 L).bind fun p_1 =>
  let l1_2 : Int64 := s.1 + (Int32.toInt64 (p_1 49 22))
  some (.inl (l1_2, p_1)))
noncomputable def f_M_drawGrid_b90 (L : xm_L) (s : Int64 × xm_I) : Option (xm_I) := lp (f_M_drawGrid_s90 L) s
noncomputable def f_M_drawGrid_s28 (L : xm_L) (s : Int64 × xm_I) : Option ((Int64 × xm_I) ⊕ (xm_I)) :=
  if (Int32.toInt64 (s.2 49 16)) < s.1 then (
    (f_M_ceiling (Int32.toInt64 (s.2 49 17)) (Int32.toInt64 (s.2 49 22))).bind fun p_1 =>
    let l1_2 : Int64 := (Int32.toInt64 (s.2 49 22)) * p_1
    (f_M_drawGrid_b90 L (l1_2, s.2)).map .inr)
  else (
  (f_M_stroke s.1 1 (Int32.toInt64 (s.2 49 17)) 1 s.1 1 (Int32.toInt64 (s.2 49 18)) 1 1 s.2 L).bind fun p_3 =>
  let l1_4 : Int64 := s.1 + (Int32.toInt64 (p_3 49 22))
  some (.inl (l1_4, p_3)))
noncomputable def f_M_drawGrid_b28 (L : xm_L) (s : Int64 × xm_I) : Option (xm_I) := lp (f_M_drawGrid_s28 L) s
noncomputable def f_M_drawGrid_b0 (I : xm_I) (L : xm_L) : Option (xm_I) :=
  if (I 49 22) = 0 then (
    some (I))
  else (
    (f_M_ceiling (Int32.toInt64 (I 49 15)) (Int32.toInt64 (I 49 22))).bind fun p_1 =>
    let l1_2 : Int64 := (Int32.toInt64 (I 49 22)) * p_1
    f_M_drawGrid_b28 L (l1_2, I))
noncomputable def f_M_drawGrid (I : xm_I) (L : xm_L) : Option (xm_I) := f_M_drawGrid_b0 I L
set_option maxHeartbeats 4000000 in
set_option maxRecDepth 100000 in
theorem t_M_drawGrid_s90 {s : Int64 × xm_I} {n : Nat} {L : xm_L} {K : (Int64 × xm_I) ⊕ (xm_I) → Prop} {Q : Option Value → xm_H → Prop} (hn : 86 ≤ n) (hq : ∀ p : xm_I, K (.inr p) → Q none (p, L, RC n, n)) (hg0 : ∀ s : Int64 × xm_I, K (.inl s) → xm_J 3 mt_M_drawGrid 90 [(0, .ref 49), (1, .long s.1)] [] (s.2, L, RC n, n) 0 0 Q) (hF : ok (f_M_drawGrid_s90 L s) K) : xm_J 3 mt_M_drawGrid 90 [(0, .ref 49), (1, .long s.1)] [] (s.2, L, RC n, n) 0 0 Q := by
  unfold f_M_drawGrid_s90 at hF
  refine r_lload_n (i := 56) (k0 := 1) rfl rfl rfl ?_
  refine r_aload_n (i := 57) (k0 := 0) rfl rfl rfl ?_
  refine q_geti (i := 58) rfl fl_M_48 (xm_in rfl hn) rfl ?_
  refine r_i2l (i := 59) rfl ?_
  refine r_lcmpgt (i := 60) (j := 61) (tgt := 132) rfl rfl (by decide) (fun hc => ?_) (fun hc => ?_)
  · have hF := ok_it hc hF
    have hQ := hq _ (ok_some hF)
    exact r_return (i := 84) rfl rfl hQ
  have hF := ok_if hc hF
  refine r_aload_n (i := 62) (k0 := 0) rfl rfl rfl ?_
  refine r_aload_n (i := 63) (k0 := 0) rfl rfl rfl ?_
  refine q_geti (i := 64) rfl fl_M_218 (xm_in rfl hn) rfl ?_
  refine r_i2l (i := 65) rfl ?_
  refine r_lconst (v := 1) (i := 66) rfl rfl ?_
  refine r_lload_n (i := 67) (k0 := 1) rfl rfl rfl ?_
  refine r_lconst (v := 1) (i := 68) rfl rfl ?_
  refine r_aload_n (i := 69) (k0 := 0) rfl rfl rfl ?_
  refine q_geti (i := 70) rfl fl_M_44 (xm_in rfl hn) rfl ?_
  refine r_i2l (i := 71) rfl ?_
  refine r_lconst (v := 1) (i := 72) rfl rfl ?_
  refine r_lload_n (i := 73) (k0 := 1) rfl rfl rfl ?_
  refine r_lconst (v := 1) (i := 74) rfl rfl ?_
  refine r_iconst (v := 1) (i := 75) rfl ki_1 ?_
  refine c_V9V (i := 76) rfl vm_M_stroke lk_M_351 (t_M_stroke hn (ok_bind hF)) (Nat.le_of_ble_eq_true rfl) (xm_in rfl hn) rfl rfl (Nat.le_of_ble_eq_true rfl) (fun p_1 hF => ?_)
  refine r_lload_n (i := 77) (k0 := 1) rfl rfl rfl ?_
  refine r_aload_n (i := 78) (k0 := 0) rfl rfl rfl ?_
  refine q_geti (i := 79) rfl fl_M_235 (xm_in rfl hn) rfl ?_
  refine r_i2l (i := 80) rfl ?_
  refine r_ladd (i := 81) rfl ?_
  refine r_lstore_n (i := 82) (Ls' := [(1, _), (0, _)]) rfl rfl (Nat.le_of_ble_eq_true rfl) rfl ?_
  refine r_goto (i := 83) (tgt := 90) rfl (by decide) ?_
  refine xm_sub (Ls' := [(0, _), (1, _)]) [1, 0] rfl ?_
  have hJ := hg0 _ (ok_some hF)
  exact hJ
set_option maxHeartbeats 4000000 in
set_option maxRecDepth 100000 in
theorem t_M_drawGrid_b90 {s : Int64 × xm_I} {n : Nat} {L : xm_L} {K : xm_I → Prop} {Q : Option Value → xm_H → Prop} (hn : 86 ≤ n) (hq : ∀ p : xm_I, K p → Q none (p, L, RC n, n)) (hF : ok (f_M_drawGrid_b90 L s) K) : xm_J 3 mt_M_drawGrid 90 [(0, .ref 49), (1, .long s.1)] [] (s.2, L, RC n, n) 0 0 Q :=
  lp_J (G := fun z => xm_J 3 mt_M_drawGrid 90 [(0, .ref 49), (1, .long z.1)] [] (z.2, L, RC n, n) 0 0 Q) (fun z hF => t_M_drawGrid_s90 hn (fun p h => hq p h) (fun z h => h) hF) s hF
set_option maxHeartbeats 4000000 in
set_option maxRecDepth 100000 in
theorem t_M_drawGrid_s28 {s : Int64 × xm_I} {n : Nat} {L : xm_L} {K : (Int64 × xm_I) ⊕ (xm_I) → Prop} {Q : Option Value → xm_H → Prop} (hn : 86 ≤ n) (hq : ∀ p : xm_I, K (.inr p) → Q none (p, L, RC n, n)) (hg0 : ∀ s : Int64 × xm_I, K (.inl s) → xm_J 3 mt_M_drawGrid 28 [(0, .ref 49), (1, .long s.1)] [] (s.2, L, RC n, n) 0 0 Q) (hF : ok (f_M_drawGrid_s28 L s) K) : xm_J 3 mt_M_drawGrid 28 [(0, .ref 49), (1, .long s.1)] [] (s.2, L, RC n, n) 0 0 Q := by
  unfold f_M_drawGrid_s28 at hF
  refine r_lload_n (i := 16) (k0 := 1) rfl rfl rfl ?_
  refine r_aload_n (i := 17) (k0 := 0) rfl rfl rfl ?_
  refine q_geti (i := 18) rfl fl_M_44 (xm_in rfl hn) rfl ?_
  refine r_i2l (i := 19) rfl ?_
  refine r_lcmpgt (i := 20) (j := 21) (tgt := 70) rfl rfl (by decide) (fun hc => ?_) (fun hc => ?_)
  · have hF := ok_it hc hF
    refine r_aload_n (i := 44) (k0 := 0) rfl rfl rfl ?_
    refine q_geti (i := 45) rfl fl_M_235 (xm_in rfl hn) rfl ?_
    refine r_i2l (i := 46) rfl ?_
    refine r_aload_n (i := 47) (k0 := 0) rfl rfl rfl ?_
    refine q_geti (i := 48) rfl fl_M_221 (xm_in rfl hn) rfl ?_
    refine r_i2l (i := 49) rfl ?_
    refine r_aload_n (i := 50) (k0 := 0) rfl rfl rfl ?_
    refine q_geti (i := 51) rfl fl_M_235 (xm_in rfl hn) rfl ?_
    refine r_i2l (i := 52) rfl ?_
    refine c_S2L (i := 53) rfl sm_M_ceiling lk_M_355 (t_M_ceiling hn (ok_bind hF)) (Nat.le_of_ble_eq_true rfl) rfl (Nat.le_of_ble_eq_true rfl) (fun p_1 hF => ?_)
    refine r_lmul (i := 54) rfl ?_
    refine r_lstore_n (i := 55) (Ls' := [(1, _), (0, _)]) rfl rfl (Nat.le_of_ble_eq_true rfl) rfl ?_
    refine xm_sub (Ls' := [(0, _), (1, _)]) [1, 0] rfl ?_
    exact t_M_drawGrid_b90 hn (fun p h => hq p h) (ok_map hF)
  have hF := ok_if hc hF
  refine r_aload_n (i := 22) (k0 := 0) rfl rfl rfl ?_
  refine r_lload_n (i := 23) (k0 := 1) rfl rfl rfl ?_
  refine r_lconst (v := 1) (i := 24) rfl rfl ?_
  refine r_aload_n (i := 25) (k0 := 0) rfl rfl rfl ?_
  refine q_geti (i := 26) rfl fl_M_221 (xm_in rfl hn) rfl ?_
  refine r_i2l (i := 27) rfl ?_
  refine r_lconst (v := 1) (i := 28) rfl rfl ?_
  refine r_lload_n (i := 29) (k0 := 1) rfl rfl rfl ?_
  refine r_lconst (v := 1) (i := 30) rfl rfl ?_
  refine r_aload_n (i := 31) (k0 := 0) rfl rfl rfl ?_
  refine q_geti (i := 32) rfl fl_M_48 (xm_in rfl hn) rfl ?_
  refine r_i2l (i := 33) rfl ?_
  refine r_lconst (v := 1) (i := 34) rfl rfl ?_
  refine r_iconst (v := 1) (i := 35) rfl ki_1 ?_
  refine c_V9V (i := 36) rfl vm_M_stroke lk_M_351 (t_M_stroke hn (ok_bind hF)) (Nat.le_of_ble_eq_true rfl) (xm_in rfl hn) rfl rfl (Nat.le_of_ble_eq_true rfl) (fun p_3 hF => ?_)
  refine r_lload_n (i := 37) (k0 := 1) rfl rfl rfl ?_
  refine r_aload_n (i := 38) (k0 := 0) rfl rfl rfl ?_
  refine q_geti (i := 39) rfl fl_M_235 (xm_in rfl hn) rfl ?_
  refine r_i2l (i := 40) rfl ?_
  refine r_ladd (i := 41) rfl ?_
  refine r_lstore_n (i := 42) (Ls' := [(1, _), (0, _)]) rfl rfl (Nat.le_of_ble_eq_true rfl) rfl ?_
  refine r_goto (i := 43) (tgt := 28) rfl (by decide) ?_
  refine xm_sub (Ls' := [(0, _), (1, _)]) [1, 0] rfl ?_
  have hJ := hg0 _ (ok_some hF)
  exact hJ
set_option maxHeartbeats 4000000 in
set_option maxRecDepth 100000 in
theorem t_M_drawGrid_b28 {s : Int64 × xm_I} {n : Nat} {L : xm_L} {K : xm_I → Prop} {Q : Option Value → xm_H → Prop} (hn : 86 ≤ n) (hq : ∀ p : xm_I, K p → Q none (p, L, RC n, n)) (hF : ok (f_M_drawGrid_b28 L s) K) : xm_J 3 mt_M_drawGrid 28 [(0, .ref 49), (1, .long s.1)] [] (s.2, L, RC n, n) 0 0 Q :=
  lp_J (G := fun z => xm_J 3 mt_M_drawGrid 28 [(0, .ref 49), (1, .long z.1)] [] (z.2, L, RC n, n) 0 0 Q) (fun z hF => t_M_drawGrid_s28 hn (fun p h => hq p h) (fun z h => h) hF) s hF
set_option maxHeartbeats 4000000 in
set_option maxRecDepth 100000 in
theorem t_M_drawGrid_b0 {n : Nat} {I : xm_I} {L : xm_L} {K : xm_I → Prop} {Q : Option Value → xm_H → Prop} (hn : 86 ≤ n) (hq : ∀ p : xm_I, K p → Q none (p, L, RC n, n)) (hF : ok (f_M_drawGrid_b0 I L) K) : xm_J 3 mt_M_drawGrid 0 [(0, .ref 49)] [] (I, L, RC n, n) 0 0 Q := by
  unfold f_M_drawGrid_b0 at hF
  refine r_aload_n (i := 0) (k0 := 0) rfl rfl rfl ?_
  refine q_geti (i := 1) rfl fl_M_235 (xm_in rfl hn) rfl ?_
  refine r_ifne (i := 2) (tgt := 8) rfl (by decide) (fun hc => ?_) (fun hc => ?_)
  · have hF := ok_if hc hF
    refine r_aload_n (i := 4) (k0 := 0) rfl rfl rfl ?_
    refine q_geti (i := 5) rfl fl_M_235 (xm_in rfl hn) rfl ?_
    refine r_i2l (i := 6) rfl ?_
    refine r_aload_n (i := 7) (k0 := 0) rfl rfl rfl ?_
    refine q_geti (i := 8) rfl fl_M_218 (xm_in rfl hn) rfl ?_
    refine r_i2l (i := 9) rfl ?_
    refine r_aload_n (i := 10) (k0 := 0) rfl rfl rfl ?_
    refine q_geti (i := 11) rfl fl_M_235 (xm_in rfl hn) rfl ?_
    refine r_i2l (i := 12) rfl ?_
    refine c_S2L (i := 13) rfl sm_M_ceiling lk_M_355 (t_M_ceiling hn (ok_bind hF)) (Nat.le_of_ble_eq_true rfl) rfl (Nat.le_of_ble_eq_true rfl) (fun p_1 hF => ?_)
    refine r_lmul (i := 14) rfl ?_
    refine r_lstore_n (i := 15) (Ls' := [(1, _), (0, _)]) rfl rfl (Nat.le_of_ble_eq_true rfl) rfl ?_
    refine xm_sub (Ls' := [(0, _), (1, _)]) [1, 0] rfl ?_
    exact t_M_drawGrid_b28 hn (fun p h => hq p h) hF
  have hF := ok_it hc hF
  have hQ := hq _ (ok_some hF)
  exact r_return (i := 3) rfl rfl hQ
set_option maxHeartbeats 4000000 in
set_option maxRecDepth 100000 in
theorem t_M_drawGrid {n : Nat} {I : xm_I} {L : xm_L} {K : xm_I → Prop} (hn : 86 ≤ n) (hF : ok (f_M_drawGrid I L) K) : xm_C 3 mt_M_drawGrid [.ref 49] (I, L, RC n, n) 0 0 (pV (fun p : xm_I => (p, L, RC n, n)) K) := by
  unfold f_M_drawGrid at hF
  refine xm_enter (by decide +kernel) dv_M_drawGrid (Nat.le_of_ble_eq_true rfl) ?_
  exact t_M_drawGrid_b0 hn (fun p hp => ⟨p, rfl, rfl, hp⟩) hF

noncomputable def f_M_cross_b162 (l11 : Int64) (l15 : Int64) (x17 : Int32) (I : xm_I) (L : xm_L) : Option (xm_I × xm_L) :=
  gd (0 ≤ (x17).toInt ∧ (x17).toInt < 12) <|
  let L_1 : xm_L := up2 L 77 (Int32.toNatClampNeg x17) l15
  gd (0 ≤ (x17).toInt ∧ (x17).toInt < 12) <|
  let L_2 : xm_L := up2 L_1 78 (Int32.toNatClampNeg x17) l11
  let I_3 : xm_I := up2 I 49 67 ((I 49 67) + 1)
  some (I_3, L_2)
noncomputable def f_M_cross_s91 (l11 : Int64) (l15 : Int64) (I : xm_I) (s : Int32 × xm_L) : Option ((Int32 × xm_L) ⊕ (xm_I × xm_L)) :=
  if s.1 ≤ 0 then (
    (f_M_cross_b162 l11 l15 s.1 I s.2).map .inr)
  else (
  gd (0 ≤ (s.1 - 1).toInt ∧ (s.1 - 1).toInt < 12) <|
  gd (0 ≤ (s.1 - 1).toInt ∧ (s.1 - 1).toInt < 12) <|
  if ((s.2 77 (Int32.toNatClampNeg (s.1 - 1))) * l11) ≤ (l15 * (s.2 78 (Int32.toNatClampNeg (s.1 - 1)))) then (
    (f_M_cross_b162 l11 l15 s.1 I s.2).map .inr)
  else (
  gd (0 ≤ (s.1 - 1).toInt ∧ (s.1 - 1).toInt < 12) <|
  gd (0 ≤ (s.1).toInt ∧ (s.1).toInt < 12) <|
  let L_1 : xm_L := up2 s.2 77 (Int32.toNatClampNeg s.1) (s.2 77 (Int32.toNatClampNeg (s.1 - 1)))
  gd (0 ≤ (s.1 - 1).toInt ∧ (s.1 - 1).toInt < 12) <|
  gd (0 ≤ (s.1).toInt ∧ (s.1).toInt < 12) <|
  let L_2 : xm_L := up2 L_1 78 (Int32.toNatClampNeg s.1) (L_1 78 (Int32.toNatClampNeg (s.1 - 1)))
  let x17_3 : Int32 := s.1 + (-1)
  some (.inl (x17_3, L_2))))
noncomputable def f_M_cross_b91 (l11 : Int64) (l15 : Int64) (I : xm_I) (s : Int32 × xm_L) : Option (xm_I × xm_L) := lp (f_M_cross_s91 l11 l15 I) s
noncomputable def f_M_cross_b69 (l1 : Int64) (l3 : Int64) (l9 : Int64) (l11 : Int64) (y0 : Int64) (I : xm_I) (L : xm_L) : Option (xm_I × xm_L) :=
  let l15_1 : Int64 := (l1 * l11) + ((l9 - l3) * y0)
  let x17_2 : Int32 := I 49 67
  f_M_cross_b91 l11 l15_1 I (x17_2, L)
noncomputable def f_M_cross_b49 (l1 : Int64) (l3 : Int64) (l5 : Int64) (l7 : Int64) (l9 : Int64) (y0 : Int64) (I : xm_I) (L : xm_L) : Option (xm_I × xm_L) :=
  if l7 ≤ l3 then (
    f_M_cross_b69 l1 l3 l9 y0 (l1 - l5) I L)
  else (
  f_M_cross_b69 l1 l3 l9 y0 (l5 - l1) I L)
noncomputable def f_M_cross_b31 (l1 : Int64) (l3 : Int64) (l5 : Int64) (l7 : Int64) (l9 : Int64) (I : xm_I) (L : xm_L) : Option (xm_I × xm_L) :=
  if l7 ≤ l3 then (
    f_M_cross_b49 l1 l3 l5 l7 l9 (l3 - l7) I L)
  else (
  f_M_cross_b49 l1 l3 l5 l7 l9 (l7 - l3) I L)
noncomputable def f_M_cross_b15 (l1 : Int64) (l3 : Int64) (l5 : Int64) (l7 : Int64) (l9 : Int64) (I : xm_I) (L : xm_L) : Option (xm_I × xm_L) :=
  if l9 < l7 then (
    some (I, L))
  else (
  if l9 < l3 then (
    f_M_cross_b31 l1 l3 l5 l7 l9 I L)
  else (
  some (I, L)))
noncomputable def f_M_cross_b0 (l1 : Int64) (l3 : Int64) (l5 : Int64) (l7 : Int64) (l9 : Int64) (I : xm_I) (L : xm_L) : Option (xm_I × xm_L) :=
  if l9 < l3 then (
    f_M_cross_b15 l1 l3 l5 l7 l9 I L)
  else (
  if l9 < l7 then (
    f_M_cross_b31 l1 l3 l5 l7 l9 I L)
  else (
  f_M_cross_b15 l1 l3 l5 l7 l9 I L))
noncomputable def f_M_cross (l1 : Int64) (l3 : Int64) (l5 : Int64) (l7 : Int64) (l9 : Int64) (I : xm_I) (L : xm_L) : Option (xm_I × xm_L) := f_M_cross_b0 l1 l3 l5 l7 l9 I L
set_option maxHeartbeats 4000000 in
set_option maxRecDepth 100000 in
theorem t_M_cross_b162 {l11 : Int64} {l15 : Int64} {x17 : Int32} {n : Nat} {I : xm_I} {L : xm_L} {K : xm_I × xm_L → Prop} {Q : Option Value → xm_H → Prop} (hn : 86 ≤ n) (hq : ∀ p : xm_I × xm_L, K p → Q none (p.1, p.2, RC n, n)) (hF : ok (f_M_cross_b162 l11 l15 x17 I L) K) : xm_J 0 mt_M_cross 162 [(0, .ref 49), (11, .long l11), (15, .long l15), (17, .int x17)] [] (I, L, RC n, n) 0 0 Q := by
  unfold f_M_cross_b162 at hF
  refine r_aload_n (i := 96) (k0 := 0) rfl rfl rfl ?_
  refine q_getr (b := 77) (i := 97) rfl fl_M_109 rfl (xm_in rfl hn) rfl rfl ?_
  refine r_iload (i := 98) (k0 := 3) rfl rfl ?_
  refine r_lload (i := 99) (k0 := 2) rfl rfl ?_
  obtain ⟨hi, hF⟩ := ok_gd hF
  refine q_lastore (i := 100) rfl (xm_in rfl hn) rfl hi ?_
  refine r_aload_n (i := 101) (k0 := 0) rfl rfl rfl ?_
  refine q_getr (b := 78) (i := 102) rfl fl_M_113 rfl (xm_in rfl hn) rfl rfl ?_
  refine r_iload (i := 103) (k0 := 3) rfl rfl ?_
  refine r_lload (i := 104) (k0 := 1) rfl rfl ?_
  obtain ⟨hi, hF⟩ := ok_gd hF
  refine q_lastore (i := 105) rfl (xm_in rfl hn) rfl hi ?_
  refine r_aload_n (i := 106) (k0 := 0) rfl rfl rfl ?_
  refine r_dup (i := 107) rfl rfl ?_
  refine q_geti (i := 108) rfl fl_M_358 (xm_in rfl hn) rfl ?_
  refine r_iconst (v := 1) (i := 109) rfl ki_1 ?_
  refine r_iadd (i := 110) rfl ?_
  refine q_puti (i := 111) rfl fl_M_358 (fun h => Bool.noConfusion h) (xm_in rfl hn) rfl ?_
  have hQ := hq _ (ok_some hF)
  exact r_return (i := 112) rfl rfl hQ
set_option maxHeartbeats 4000000 in
set_option maxRecDepth 100000 in
theorem t_M_cross_s91 {l11 : Int64} {l15 : Int64} {s : Int32 × xm_L} {n : Nat} {I : xm_I} {K : (Int32 × xm_L) ⊕ (xm_I × xm_L) → Prop} {Q : Option Value → xm_H → Prop} (hn : 86 ≤ n) (hq : ∀ p : xm_I × xm_L, K (.inr p) → Q none (p.1, p.2, RC n, n)) (hg0 : ∀ s : Int32 × xm_L, K (.inl s) → xm_J 0 mt_M_cross 91 [(0, .ref 49), (11, .long l11), (15, .long l15), (17, .int s.1)] [] (I, s.2, RC n, n) 0 0 Q) (hF : ok (f_M_cross_s91 l11 l15 I s) K) : xm_J 0 mt_M_cross 91 [(0, .ref 49), (11, .long l11), (15, .long l15), (17, .int s.1)] [] (I, s.2, RC n, n) 0 0 Q := by
  unfold f_M_cross_s91 at hF
  refine r_iload (i := 54) (k0 := 3) rfl rfl ?_
  refine r_ifle (i := 55) (tgt := 162) rfl (by decide) (fun hc => ?_) (fun hc => ?_)
  · have hF := ok_it hc hF
    exact t_M_cross_b162 hn (fun p h => hq p h) (ok_map hF)
  have hF := ok_if hc hF
  refine r_aload_n (i := 56) (k0 := 0) rfl rfl rfl ?_
  refine q_getr (b := 77) (i := 57) rfl fl_M_109 rfl (xm_in rfl hn) rfl rfl ?_
  refine r_iload (i := 58) (k0 := 3) rfl rfl ?_
  refine r_iconst (v := 1) (i := 59) rfl ki_1 ?_
  refine r_isub (i := 60) rfl ?_
  obtain ⟨hi, hF⟩ := ok_gd hF
  refine q_laload (i := 61) rfl (xm_in rfl hn) rfl hi ?_
  refine r_lload (i := 62) (k0 := 1) rfl rfl ?_
  refine r_lmul (i := 63) rfl ?_
  refine r_lload (i := 64) (k0 := 2) rfl rfl ?_
  refine r_aload_n (i := 65) (k0 := 0) rfl rfl rfl ?_
  refine q_getr (b := 78) (i := 66) rfl fl_M_113 rfl (xm_in rfl hn) rfl rfl ?_
  refine r_iload (i := 67) (k0 := 3) rfl rfl ?_
  refine r_iconst (v := 1) (i := 68) rfl ki_1 ?_
  refine r_isub (i := 69) rfl ?_
  obtain ⟨hi, hF⟩ := ok_gd hF
  refine q_laload (i := 70) rfl (xm_in rfl hn) rfl hi ?_
  refine r_lmul (i := 71) rfl ?_
  refine r_lcmple (i := 72) (j := 73) (tgt := 162) rfl rfl (by decide) (fun hc => ?_) (fun hc => ?_)
  · have hF := ok_it hc hF
    exact t_M_cross_b162 hn (fun p h => hq p h) (ok_map hF)
  have hF := ok_if hc hF
  refine r_aload_n (i := 74) (k0 := 0) rfl rfl rfl ?_
  refine q_getr (b := 77) (i := 75) rfl fl_M_109 rfl (xm_in rfl hn) rfl rfl ?_
  refine r_iload (i := 76) (k0 := 3) rfl rfl ?_
  refine r_aload_n (i := 77) (k0 := 0) rfl rfl rfl ?_
  refine q_getr (b := 77) (i := 78) rfl fl_M_109 rfl (xm_in rfl hn) rfl rfl ?_
  refine r_iload (i := 79) (k0 := 3) rfl rfl ?_
  refine r_iconst (v := 1) (i := 80) rfl ki_1 ?_
  refine r_isub (i := 81) rfl ?_
  obtain ⟨hi, hF⟩ := ok_gd hF
  refine q_laload (i := 82) rfl (xm_in rfl hn) rfl hi ?_
  obtain ⟨hi, hF⟩ := ok_gd hF
  refine q_lastore (i := 83) rfl (xm_in rfl hn) rfl hi ?_
  refine r_aload_n (i := 84) (k0 := 0) rfl rfl rfl ?_
  refine q_getr (b := 78) (i := 85) rfl fl_M_113 rfl (xm_in rfl hn) rfl rfl ?_
  refine r_iload (i := 86) (k0 := 3) rfl rfl ?_
  refine r_aload_n (i := 87) (k0 := 0) rfl rfl rfl ?_
  refine q_getr (b := 78) (i := 88) rfl fl_M_113 rfl (xm_in rfl hn) rfl rfl ?_
  refine r_iload (i := 89) (k0 := 3) rfl rfl ?_
  refine r_iconst (v := 1) (i := 90) rfl ki_1 ?_
  refine r_isub (i := 91) rfl ?_
  obtain ⟨hi, hF⟩ := ok_gd hF
  refine q_laload (i := 92) rfl (xm_in rfl hn) rfl hi ?_
  obtain ⟨hi, hF⟩ := ok_gd hF
  refine q_lastore (i := 93) rfl (xm_in rfl hn) rfl hi ?_
  refine q_iinc (i := 94) (k0 := 3) (Ls' := [(17, _), (0, _), (11, _), (15, _)]) rfl ki_m1 rfl (Nat.le_of_ble_eq_true rfl) rfl ?_
  refine r_goto (i := 95) (tgt := 91) rfl (by decide) ?_
  refine xm_sub (Ls' := [(0, _), (11, _), (15, _), (17, _)]) [1, 2, 3, 0] rfl ?_
  have hJ := hg0 _ (ok_some hF)
  exact hJ
set_option maxHeartbeats 4000000 in
set_option maxRecDepth 100000 in
theorem t_M_cross_b91 {l11 : Int64} {l15 : Int64} {s : Int32 × xm_L} {n : Nat} {I : xm_I} {K : xm_I × xm_L → Prop} {Q : Option Value → xm_H → Prop} (hn : 86 ≤ n) (hq : ∀ p : xm_I × xm_L, K p → Q none (p.1, p.2, RC n, n)) (hF : ok (f_M_cross_b91 l11 l15 I s) K) : xm_J 0 mt_M_cross 91 [(0, .ref 49), (11, .long l11), (15, .long l15), (17, .int s.1)] [] (I, s.2, RC n, n) 0 0 Q :=
  lp_J (G := fun z => xm_J 0 mt_M_cross 91 [(0, .ref 49), (11, .long l11), (15, .long l15), (17, .int z.1)] [] (I, z.2, RC n, n) 0 0 Q) (fun z hF => t_M_cross_s91 hn (fun p h => hq p h) (fun z h => h) hF) s hF
set_option maxHeartbeats 4000000 in
set_option maxRecDepth 100000 in
theorem t_M_cross_b69 {l1 : Int64} {l3 : Int64} {l9 : Int64} {l11 : Int64} {y0 : Int64} {n : Nat} {I : xm_I} {L : xm_L} {K : xm_I × xm_L → Prop} {Q : Option Value → xm_H → Prop} (hn : 86 ≤ n) (hq : ∀ p : xm_I × xm_L, K p → Q none (p.1, p.2, RC n, n)) (hF : ok (f_M_cross_b69 l1 l3 l9 l11 y0 I L) K) : xm_J 0 mt_M_cross 69 [(0, .ref 49), (1, .long l1), (3, .long l3), (9, .long l9), (11, .long l11)] [.long y0] (I, L, RC n, n) 0 0 Q := by
  unfold f_M_cross_b69 at hF
  refine r_lstore (i := 40) (Ls' := [(13, _), (0, _), (1, _), (3, _), (9, _), (11, _)]) rfl (Nat.le_of_ble_eq_true rfl) rfl ?_
  refine r_lload_n (i := 41) (k0 := 2) rfl rfl rfl ?_
  refine r_lload (i := 42) (k0 := 5) rfl rfl ?_
  refine r_lmul (i := 43) rfl ?_
  refine r_lload (i := 44) (k0 := 4) rfl rfl ?_
  refine r_lload_n (i := 45) (k0 := 3) rfl rfl rfl ?_
  refine r_lsub (i := 46) rfl ?_
  refine r_lload (i := 47) (k0 := 0) rfl rfl ?_
  refine r_lmul (i := 48) rfl ?_
  refine r_ladd (i := 49) rfl ?_
  refine r_lstore (i := 50) (Ls' := [(15, _), (13, _), (0, _), (1, _), (3, _), (9, _), (11, _)]) rfl (Nat.le_of_ble_eq_true rfl) rfl ?_
  refine r_aload_n (i := 51) (k0 := 2) rfl rfl rfl ?_
  refine q_geti (i := 52) rfl fl_M_358 (xm_in rfl hn) rfl ?_
  refine r_istore (i := 53) (Ls' := [(17, _), (15, _), (13, _), (0, _), (1, _), (3, _), (9, _), (11, _)]) rfl (Nat.le_of_ble_eq_true rfl) rfl ?_
  refine xm_sub (Ls' := [(0, _), (11, _), (15, _), (17, _)]) [3, 7, 1, 0] rfl ?_
  exact t_M_cross_b91 hn (fun p h => hq p h) hF
set_option maxHeartbeats 4000000 in
set_option maxRecDepth 100000 in
theorem t_M_cross_b49 {l1 : Int64} {l3 : Int64} {l5 : Int64} {l7 : Int64} {l9 : Int64} {y0 : Int64} {n : Nat} {I : xm_I} {L : xm_L} {K : xm_I × xm_L → Prop} {Q : Option Value → xm_H → Prop} (hn : 86 ≤ n) (hq : ∀ p : xm_I × xm_L, K p → Q none (p.1, p.2, RC n, n)) (hF : ok (f_M_cross_b49 l1 l3 l5 l7 l9 y0 I L) K) : xm_J 0 mt_M_cross 49 [(0, .ref 49), (1, .long l1), (3, .long l3), (5, .long l5), (7, .long l7), (9, .long l9)] [.long y0] (I, L, RC n, n) 0 0 Q := by
  unfold f_M_cross_b49 at hF
  refine r_lstore (i := 28) (Ls' := [(11, _), (0, _), (1, _), (3, _), (5, _), (7, _), (9, _)]) rfl (Nat.le_of_ble_eq_true rfl) rfl ?_
  refine r_lload (i := 29) (k0 := 5) rfl rfl ?_
  refine r_lload_n (i := 30) (k0 := 3) rfl rfl rfl ?_
  refine r_lcmple (i := 31) (j := 32) (tgt := 65) rfl rfl (by decide) (fun hc => ?_) (fun hc => ?_)
  · have hF := ok_it hc hF
    refine r_lload_n (i := 37) (k0 := 2) rfl rfl rfl ?_
    refine r_lload (i := 38) (k0 := 4) rfl rfl ?_
    refine r_lsub (i := 39) rfl ?_
    refine xm_sub (Ls' := [(0, _), (1, _), (3, _), (9, _), (11, _)]) [1, 2, 3, 6, 0] rfl ?_
    exact t_M_cross_b69 hn (fun p h => hq p h) hF
  have hF := ok_if hc hF
  refine r_lload (i := 33) (k0 := 4) rfl rfl ?_
  refine r_lload_n (i := 34) (k0 := 2) rfl rfl rfl ?_
  refine r_lsub (i := 35) rfl ?_
  refine r_goto (i := 36) (tgt := 69) rfl (by decide) ?_
  refine xm_sub (Ls' := [(0, _), (1, _), (3, _), (9, _), (11, _)]) [1, 2, 3, 6, 0] rfl ?_
  exact t_M_cross_b69 hn (fun p h => hq p h) hF
set_option maxHeartbeats 4000000 in
set_option maxRecDepth 100000 in
theorem t_M_cross_b31 {l1 : Int64} {l3 : Int64} {l5 : Int64} {l7 : Int64} {l9 : Int64} {n : Nat} {I : xm_I} {L : xm_L} {K : xm_I × xm_L → Prop} {Q : Option Value → xm_H → Prop} (hn : 86 ≤ n) (hq : ∀ p : xm_I × xm_L, K p → Q none (p.1, p.2, RC n, n)) (hF : ok (f_M_cross_b31 l1 l3 l5 l7 l9 I L) K) : xm_J 0 mt_M_cross 31 [(0, .ref 49), (1, .long l1), (3, .long l3), (5, .long l5), (7, .long l7), (9, .long l9)] [] (I, L, RC n, n) 0 0 Q := by
  unfold f_M_cross_b31 at hF
  refine r_lload (i := 17) (k0 := 4) rfl rfl ?_
  refine r_lload_n (i := 18) (k0 := 2) rfl rfl rfl ?_
  refine r_lcmple (i := 19) (j := 20) (tgt := 45) rfl rfl (by decide) (fun hc => ?_) (fun hc => ?_)
  · have hF := ok_it hc hF
    refine r_lload_n (i := 25) (k0 := 2) rfl rfl rfl ?_
    refine r_lload (i := 26) (k0 := 4) rfl rfl ?_
    refine r_lsub (i := 27) rfl ?_
    exact t_M_cross_b49 hn (fun p h => hq p h) hF
  have hF := ok_if hc hF
  refine r_lload (i := 21) (k0 := 4) rfl rfl ?_
  refine r_lload_n (i := 22) (k0 := 2) rfl rfl rfl ?_
  refine r_lsub (i := 23) rfl ?_
  refine r_goto (i := 24) (tgt := 49) rfl (by decide) ?_
  exact t_M_cross_b49 hn (fun p h => hq p h) hF
set_option maxHeartbeats 4000000 in
set_option maxRecDepth 100000 in
theorem t_M_cross_b15 {l1 : Int64} {l3 : Int64} {l5 : Int64} {l7 : Int64} {l9 : Int64} {n : Nat} {I : xm_I} {L : xm_L} {K : xm_I × xm_L → Prop} {Q : Option Value → xm_H → Prop} (hn : 86 ≤ n) (hq : ∀ p : xm_I × xm_L, K p → Q none (p.1, p.2, RC n, n)) (hF : ok (f_M_cross_b15 l1 l3 l5 l7 l9 I L) K) : xm_J 0 mt_M_cross 15 [(0, .ref 49), (1, .long l1), (3, .long l3), (5, .long l5), (7, .long l7), (9, .long l9)] [] (I, L, RC n, n) 0 0 Q := by
  unfold f_M_cross_b15 at hF
  refine r_lload (i := 8) (k0 := 4) rfl rfl ?_
  refine r_lload (i := 9) (k0 := 5) rfl rfl ?_
  refine r_lcmpgt (i := 10) (j := 11) (tgt := 30) rfl rfl (by decide) (fun hc => ?_) (fun hc => ?_)
  · have hF := ok_it hc hF
    have hQ := hq _ (ok_some hF)
    exact r_return (i := 16) rfl rfl hQ
  have hF := ok_if hc hF
  refine r_lload_n (i := 12) (k0 := 2) rfl rfl rfl ?_
  refine r_lload (i := 13) (k0 := 5) rfl rfl ?_
  refine r_lcmpgt (i := 14) (j := 15) (tgt := 31) rfl rfl (by decide) (fun hc => ?_) (fun hc => ?_)
  · have hF := ok_it hc hF
    exact t_M_cross_b31 hn (fun p h => hq p h) hF
  have hF := ok_if hc hF
  have hQ := hq _ (ok_some hF)
  exact r_return (i := 16) rfl rfl hQ
set_option maxHeartbeats 4000000 in
set_option maxRecDepth 100000 in
theorem t_M_cross_b0 {l1 : Int64} {l3 : Int64} {l5 : Int64} {l7 : Int64} {l9 : Int64} {n : Nat} {I : xm_I} {L : xm_L} {K : xm_I × xm_L → Prop} {Q : Option Value → xm_H → Prop} (hn : 86 ≤ n) (hq : ∀ p : xm_I × xm_L, K p → Q none (p.1, p.2, RC n, n)) (hF : ok (f_M_cross_b0 l1 l3 l5 l7 l9 I L) K) : xm_J 0 mt_M_cross 0 [(0, .ref 49), (1, .long l1), (3, .long l3), (5, .long l5), (7, .long l7), (9, .long l9)] [] (I, L, RC n, n) 0 0 Q := by
  unfold f_M_cross_b0 at hF
  refine r_lload_n (i := 0) (k0 := 2) rfl rfl rfl ?_
  refine r_lload (i := 1) (k0 := 5) rfl rfl ?_
  refine r_lcmpgt (i := 2) (j := 3) (tgt := 15) rfl rfl (by decide) (fun hc => ?_) (fun hc => ?_)
  · have hF := ok_it hc hF
    exact t_M_cross_b15 hn (fun p h => hq p h) hF
  have hF := ok_if hc hF
  refine r_lload (i := 4) (k0 := 4) rfl rfl ?_
  refine r_lload (i := 5) (k0 := 5) rfl rfl ?_
  refine r_lcmpgt (i := 6) (j := 7) (tgt := 31) rfl rfl (by decide) (fun hc => ?_) (fun hc => ?_)
  · have hF := ok_it hc hF
    exact t_M_cross_b31 hn (fun p h => hq p h) hF
  have hF := ok_if hc hF
  exact t_M_cross_b15 hn (fun p h => hq p h) hF
set_option maxHeartbeats 4000000 in
set_option maxRecDepth 100000 in
theorem t_M_cross {l1 : Int64} {l3 : Int64} {l5 : Int64} {l7 : Int64} {l9 : Int64} {n : Nat} {I : xm_I} {L : xm_L} {K : xm_I × xm_L → Prop} (hn : 86 ≤ n) (hF : ok (f_M_cross l1 l3 l5 l7 l9 I L) K) : xm_C 0 mt_M_cross [.ref 49, .long l1, .long l3, .long l5, .long l7, .long l9] (I, L, RC n, n) 0 0 (pV (fun p : xm_I × xm_L => (p.1, p.2, RC n, n)) K) := by
  unfold f_M_cross at hF
  refine xm_enter (by decide +kernel) dv_M_cross (Nat.le_of_ble_eq_true rfl) ?_
  exact t_M_cross_b0 hn (fun p hp => ⟨p, rfl, rfl, hp⟩) hF

noncomputable def f_M_show_b0 (x1 : Int32) (x2 : Int32) (x3 : Int32) (I : xm_I) : Option (xm_I) :=
  gd (0 ≤ (x1).toInt ∧ (x1).toInt < 40) <|
  let I_1 : xm_I := up2 I 73 (Int32.toNatClampNeg x1) (1 &&& 1)
  gd (0 ≤ (x1).toInt ∧ (x1).toInt < 40) <|
  let I_2 : xm_I := up2 I_1 74 (Int32.toNatClampNeg x1) x2
  gd (0 ≤ (x1).toInt ∧ (x1).toInt < 40) <|
  let I_3 : xm_I := up2 I_2 75 (Int32.toNatClampNeg x1) x3
  some (I_3)
noncomputable def f_M_show (x1 : Int32) (x2 : Int32) (x3 : Int32) (I : xm_I) : Option (xm_I) := f_M_show_b0 x1 x2 x3 I
set_option maxHeartbeats 4000000 in
set_option maxRecDepth 100000 in
theorem t_M_show_b0 {x1 : Int32} {x2 : Int32} {x3 : Int32} {n : Nat} {I : xm_I} {L : xm_L} {K : xm_I → Prop} {Q : Option Value → xm_H → Prop} (hn : 86 ≤ n) (hq : ∀ p : xm_I, K p → Q none (p, L, RC n, n)) (hF : ok (f_M_show_b0 x1 x2 x3 I) K) : xm_J 0 mt_M_show 0 [(0, .ref 49), (1, .int x1), (2, .int x2), (3, .int x3)] [] (I, L, RC n, n) 0 0 Q := by
  unfold f_M_show_b0 at hF
  refine r_aload_n (i := 0) (k0 := 0) rfl rfl rfl ?_
  refine q_getr (b := 73) (i := 1) rfl fl_M_97 rfl (xm_in rfl hn) rfl rfl ?_
  refine r_iload_n (i := 2) (k0 := 1) rfl rfl rfl ?_
  refine r_iconst (v := 1) (i := 3) rfl ki_1 ?_
  obtain ⟨hi, hF⟩ := ok_gd hF
  refine q_bastore (i := 4) rfl (xm_in rfl hn) rfl hi ?_
  refine r_aload_n (i := 5) (k0 := 0) rfl rfl rfl ?_
  refine q_getr (b := 74) (i := 6) rfl fl_M_100 rfl (xm_in rfl hn) rfl rfl ?_
  refine r_iload_n (i := 7) (k0 := 1) rfl rfl rfl ?_
  refine r_iload_n (i := 8) (k0 := 2) rfl rfl rfl ?_
  obtain ⟨hi, hF⟩ := ok_gd hF
  refine q_iastore (i := 9) rfl (xm_in rfl hn) rfl hi ?_
  refine r_aload_n (i := 10) (k0 := 0) rfl rfl rfl ?_
  refine q_getr (b := 75) (i := 11) rfl fl_M_103 rfl (xm_in rfl hn) rfl rfl ?_
  refine r_iload_n (i := 12) (k0 := 1) rfl rfl rfl ?_
  refine r_iload_n (i := 13) (k0 := 3) rfl rfl rfl ?_
  obtain ⟨hi, hF⟩ := ok_gd hF
  refine q_iastore (i := 14) rfl (xm_in rfl hn) rfl hi ?_
  have hQ := hq _ (ok_some hF)
  exact r_return (i := 15) rfl rfl hQ
set_option maxHeartbeats 4000000 in
set_option maxRecDepth 100000 in
theorem t_M_show {x1 : Int32} {x2 : Int32} {x3 : Int32} {n : Nat} {I : xm_I} {L : xm_L} {K : xm_I → Prop} (hn : 86 ≤ n) (hF : ok (f_M_show x1 x2 x3 I) K) : xm_C 0 mt_M_show [.ref 49, .int x1, .int x2, .int x3] (I, L, RC n, n) 0 0 (pV (fun p : xm_I => (p, L, RC n, n)) K) := by
  unfold f_M_show at hF
  refine xm_enter (by decide +kernel) dv_M_show (Nat.le_of_ble_eq_true rfl) ?_
  exact t_M_show_b0 hn (fun p hp => ⟨p, rfl, rfl, hp⟩) hF

noncomputable def f_M_drawArea_s330 (x1 : Int32) (I : xm_I) (L : xm_L) (s : Int64 × Int64 × Int32) : Option ((Int64 × Int64 × Int32) ⊕ (xm_I × xm_L)) :=
  gd (0 ≤ (x1).toInt ∧ (x1).toInt < 40) <|
  if (I 56 (Int32.toNatClampNeg x1)) ≤ s.2.2 then (
    gd (0 ≤ (x1).toInt ∧ (x1).toInt < 40) <|
    (f_M_floor s.1 (Int32.toInt64 (I 56 (Int32.toNatClampNeg x1)))).bind fun p_1 =>
    gd (0 ≤ (x1).toInt ∧ (x1).toInt < 40) <|
    (f_M_floor s.2.1 (Int32.toInt64 (I 56 (Int32.toNatClampNeg x1)))).bind fun p_2 =>
    (f_M_show x1 (Int64.toInt32 p_1) (Int64.toInt32 p_2) I).bind fun p_3 =>
    some (.inr (p_3, L)))
  else (
  (f_M_cornerX x1 s.2.2 I).bind fun p_4 =>
  (f_M_on (Int32.toInt64 p_4) 1 1 I L).bind fun p_5 =>
  let l2_6 : Int64 := s.1 + (Int32.toInt64 p_5)
  (f_M_cornerY x1 s.2.2 I).bind fun p_7 =>
  (f_M_on (Int32.toInt64 p_7) 1 0 I L).bind fun p_8 =>
  let l4_9 : Int64 := s.2.1 + (Int32.toInt64 p_8)
  let x6_10 : Int32 := s.2.2 + 1
  some (.inl (l2_6, l4_9, x6_10)))
noncomputable def f_M_drawArea_b330 (x1 : Int32) (I : xm_I) (L : xm_L) (s : Int64 × Int64 × Int32) : Option (xm_I × xm_L) := lp (f_M_drawArea_s330 x1 I L) s
noncomputable def f_M_drawArea_b305 (x1 : Int32) (l2 : Int64) (x4 : Int32) (I : xm_I) (L : xm_L) : Option ((Int32 × xm_I) ⊕ ((Int64 × xm_I × xm_L) ⊕ (xm_I × xm_L))) :=
  let x4_1 : Int32 := x4 + 2
  some (.inl (x4_1, I))
noncomputable def f_M_drawArea_b267 (x1 : Int32) (l2 : Int64) (x4 : Int32) (l7 : Int64) (l9 : Int64) (l11 : Int64) (y0 : Int64) (I : xm_I) (L : xm_L) : Option ((Int32 × xm_I) ⊕ ((Int64 × xm_I × xm_L) ⊕ (xm_I × xm_L))) :=
  if (l11 * l9) < (l7 * y0) then (
    f_M_drawArea_b305 x1 l2 x4 I L)
  else (
  gd (0 ≤ (x1).toInt ∧ (x1).toInt < 40) <|
  (f_M_stroke l7 l9 l2 1 l11 y0 l2 1 (I 57 (Int32.toNatClampNeg x1)) I L).bind fun p_1 =>
  f_M_drawArea_b305 x1 l2 x4 p_1 L)
noncomputable def f_M_drawArea_b247 (x1 : Int32) (l2 : Int64) (x4 : Int32) (x6 : Int32) (l7 : Int64) (l9 : Int64) (y0 : Int64) (I : xm_I) (L : xm_L) : Option ((Int32 × xm_I) ⊕ ((Int64 × xm_I × xm_L) ⊕ (xm_I × xm_L))) :=
  if x6 = 0 then (
    gd (0 ≤ (x4 + 1).toInt ∧ (x4 + 1).toInt < 12) <|
    f_M_drawArea_b267 x1 l2 x4 l7 l9 y0 (L 78 (Int32.toNatClampNeg (x4 + 1))) I L)
  else (
  f_M_drawArea_b267 x1 l2 x4 l7 l9 y0 1 I L)
noncomputable def f_M_drawArea_b223 (x1 : Int32) (l2 : Int64) (x4 : Int32) (x6 : Int32) (l7 : Int64) (y0 : Int64) (I : xm_I) (L : xm_L) : Option ((Int32 × xm_I) ⊕ ((Int64 × xm_I × xm_L) ⊕ (xm_I × xm_L))) :=
  if x6 = 0 then (
    gd (0 ≤ (x4 + 1).toInt ∧ (x4 + 1).toInt < 12) <|
    f_M_drawArea_b247 x1 l2 x4 x6 l7 y0 (L 77 (Int32.toNatClampNeg (x4 + 1))) I L)
  else (
  f_M_drawArea_b247 x1 l2 x4 x6 l7 y0 (Int32.toInt64 (I 49 16)) I L)
noncomputable def f_M_drawArea_b205 (x1 : Int32) (l2 : Int64) (x4 : Int32) (x5 : Int32) (x6 : Int32) (y0 : Int64) (I : xm_I) (L : xm_L) : Option ((Int32 × xm_I) ⊕ ((Int64 × xm_I × xm_L) ⊕ (xm_I × xm_L))) :=
  if x5 = 0 then (
    gd (0 ≤ (x4).toInt ∧ (x4).toInt < 12) <|
    f_M_drawArea_b223 x1 l2 x4 x6 y0 (L 78 (Int32.toNatClampNeg x4)) I L)
  else (
  f_M_drawArea_b223 x1 l2 x4 x6 y0 1 I L)
noncomputable def f_M_drawArea_b183 (x1 : Int32) (l2 : Int64) (x4 : Int32) (x5 : Int32) (y0 : Int32) (I : xm_I) (L : xm_L) : Option ((Int32 × xm_I) ⊕ ((Int64 × xm_I × xm_L) ⊕ (xm_I × xm_L))) :=
  if x5 = 0 then (
    gd (0 ≤ (x4).toInt ∧ (x4).toInt < 12) <|
    f_M_drawArea_b205 x1 l2 x4 x5 y0 (L 77 (Int32.toNatClampNeg x4)) I L)
  else (
  f_M_drawArea_b205 x1 l2 x4 x5 y0 (Int32.toInt64 (I 49 15)) I L)
noncomputable def f_M_drawArea_b148 (x1 : Int32) (l2 : Int64) (x4 : Int32) (y0 : Int32) (I : xm_I) (L : xm_L) : Option ((Int32 × xm_I) ⊕ ((Int64 × xm_I × xm_L) ⊕ (xm_I × xm_L))) :=
  gd (0 ≤ (x4 + 1).toInt ∧ (x4 + 1).toInt < 12) <|
  gd (0 ≤ (x4 + 1).toInt ∧ (x4 + 1).toInt < 12) <|
  if (L 77 (Int32.toNatClampNeg (x4 + 1))) ≤ ((Int32.toInt64 (I 49 16)) * (L 78 (Int32.toNatClampNeg (x4 + 1)))) then (
    f_M_drawArea_b183 x1 l2 x4 y0 0 I L)
  else (
  f_M_drawArea_b183 x1 l2 x4 y0 1 I L)
noncomputable def f_M_drawArea_s108 (x1 : Int32) (l2 : Int64) (L : xm_L) (s : Int32 × xm_I) : Option ((Int32 × xm_I) ⊕ ((Int64 × xm_I × xm_L) ⊕ (xm_I × xm_L))) :=
  if (s.2 49 67) ≤ (s.1 + 1) then (
    let l2_1 : Int64 := l2 + (Int32.toInt64 (s.2 49 23))
    some (.inr (.inl (l2_1, s.2, L))))
  else (
  gd (0 ≤ (s.1).toInt ∧ (s.1).toInt < 12) <|
  gd (0 ≤ (s.1).toInt ∧ (s.1).toInt < 12) <|
  if ((Int32.toInt64 (s.2 49 15)) * (L 78 (Int32.toNatClampNeg s.1))) ≤ (L 77 (Int32.toNatClampNeg s.1)) then (
    f_M_drawArea_b148 x1 l2 s.1 0 s.2 L)
  else (
  f_M_drawArea_b148 x1 l2 s.1 1 s.2 L))
noncomputable def f_M_drawArea_b108 (x1 : Int32) (l2 : Int64) (L : xm_L) (s : Int32 × xm_I) : Option ((Int64 × xm_I × xm_L) ⊕ (xm_I × xm_L)) := lp (f_M_drawArea_s108 x1 l2 L) s
noncomputable def f_M_drawArea_s38 (x1 : Int32) (l2 : Int64) (s : Int32 × xm_I × xm_L) : Option ((Int32 × xm_I × xm_L) ⊕ ((Int64 × xm_I × xm_L) ⊕ (xm_I × xm_L))) :=
  gd (0 ≤ (x1).toInt ∧ (x1).toInt < 40) <|
  if (s.2.1 56 (Int32.toNatClampNeg x1)) ≤ s.1 then (
    (f_M_drawArea_b108 x1 l2 s.2.2 (0, s.2.1)).map .inr)
  else (
  gd (0 ≤ (x1).toInt ∧ (x1).toInt < 40) <|
  gd (¬ (s.2.1 56 (Int32.toNatClampNeg x1)) = 0) <|
  let x5_1 : Int32 := (s.1 + 1) - (s.1 + 1) / (s.2.1 56 (Int32.toNatClampNeg x1)) * (s.2.1 56 (Int32.toNatClampNeg x1))
  (f_M_cornerX x1 s.1 s.2.1).bind fun p_2 =>
  (f_M_cornerY x1 s.1 s.2.1).bind fun p_3 =>
  (f_M_cornerX x1 x5_1 s.2.1).bind fun p_4 =>
  (f_M_cornerY x1 x5_1 s.2.1).bind fun p_5 =>
  (f_M_cross (Int32.toInt64 p_2) (Int32.toInt64 p_3) (Int32.toInt64 p_4) (Int32.toInt64 p_5) l2 s.2.1 s.2.2).bind fun p_6 =>
  let x4_7 : Int32 := s.1 + 1
  some (.inl (x4_7, p_6.1, p_6.2)))
noncomputable def f_M_drawArea_b38 (x1 : Int32) (l2 : Int64) (s : Int32 × xm_I × xm_L) : Option ((Int64 × xm_I × xm_L) ⊕ (xm_I × xm_L)) := lp (f_M_drawArea_s38 x1 l2) s
noncomputable def f_M_drawArea_s20 (x1 : Int32) (s : Int64 × xm_I × xm_L) : Option ((Int64 × xm_I × xm_L) ⊕ (xm_I × xm_L)) :=
  if (Int32.toInt64 (s.2.1 49 18)) < s.1 then (
    (f_M_drawArea_b330 x1 s.2.1 s.2.2 (0, 0, 0)).map .inr)
  else (
  let I_1 : xm_I := up2 s.2.1 49 67 0
  f_M_drawArea_b38 x1 s.1 (0, I_1, s.2.2))
noncomputable def f_M_drawArea_b20 (x1 : Int32) (s : Int64 × xm_I × xm_L) : Option (xm_I × xm_L) := lp (f_M_drawArea_s20 x1) s
noncomputable def f_M_drawArea_b0 (x1 : Int32) (I : xm_I) (L : xm_L) : Option (xm_I × xm_L) :=
  (f_M_ceiling (Int32.toInt64 (I 49 17)) (Int32.toInt64 (I 49 23))).bind fun p_1 =>
  let l2_2 : Int64 := (Int32.toInt64 (I 49 23)) * p_1
  f_M_drawArea_b20 x1 (l2_2, I, L)
noncomputable def f_M_drawArea (x1 : Int32) (I : xm_I) (L : xm_L) : Option (xm_I × xm_L) := f_M_drawArea_b0 x1 I L
set_option maxHeartbeats 4000000 in
set_option maxRecDepth 100000 in
theorem t_M_drawArea_s330 {x1 : Int32} {s : Int64 × Int64 × Int32} {n : Nat} {I : xm_I} {L : xm_L} {K : (Int64 × Int64 × Int32) ⊕ (xm_I × xm_L) → Prop} {Q : Option Value → xm_H → Prop} (hn : 86 ≤ n) (hq : ∀ p : xm_I × xm_L, K (.inr p) → Q none (p.1, p.2, RC n, n)) (hg0 : ∀ s : Int64 × Int64 × Int32, K (.inl s) → xm_J 3 mt_M_drawArea 330 [(0, .ref 49), (1, .int x1), (2, .long s.1), (4, .long s.2.1), (6, .int s.2.2)] [] (I, L, RC n, n) 0 0 Q) (hF : ok (f_M_drawArea_s330 x1 I L s) K) : xm_J 3 mt_M_drawArea 330 [(0, .ref 49), (1, .int x1), (2, .long s.1), (4, .long s.2.1), (6, .int s.2.2)] [] (I, L, RC n, n) 0 0 Q := by
  unfold f_M_drawArea_s330 at hF
  refine r_iload (i := 192) (k0 := 4) rfl rfl ?_
  refine r_aload_n (i := 193) (k0 := 0) rfl rfl rfl ?_
  refine q_getr (b := 56) (i := 194) rfl fl_M_28 rfl (xm_in rfl hn) rfl rfl ?_
  refine r_iload_n (i := 195) (k0 := 1) rfl rfl rfl ?_
  obtain ⟨hi, hF⟩ := ok_gd hF
  refine q_iaload (i := 196) rfl (xm_in rfl hn) rfl hi ?_
  refine r_icmpge (i := 197) (tgt := 385) rfl (by decide) (fun hc => ?_) (fun hc => ?_)
  · have hF := ok_it hc hF
    refine r_aload_n (i := 226) (k0 := 0) rfl rfl rfl ?_
    refine r_iload_n (i := 227) (k0 := 1) rfl rfl rfl ?_
    refine r_lload_n (i := 228) (k0 := 2) rfl rfl rfl ?_
    refine r_aload_n (i := 229) (k0 := 0) rfl rfl rfl ?_
    refine q_getr (b := 56) (i := 230) rfl fl_M_28 rfl (xm_in rfl hn) rfl rfl ?_
    refine r_iload_n (i := 231) (k0 := 1) rfl rfl rfl ?_
    obtain ⟨hi, hF⟩ := ok_gd hF
    refine q_iaload (i := 232) rfl (xm_in rfl hn) rfl hi ?_
    refine r_i2l (i := 233) rfl ?_
    refine c_S2L (i := 234) rfl sm_M_floor lk_M_264 (t_M_floor hn (ok_bind hF)) (Nat.le_of_ble_eq_true rfl) rfl (Nat.le_of_ble_eq_true rfl) (fun p_1 hF => ?_)
    refine r_l2i (i := 235) rfl ?_
    refine r_lload (i := 236) (k0 := 3) rfl rfl ?_
    refine r_aload_n (i := 237) (k0 := 0) rfl rfl rfl ?_
    refine q_getr (b := 56) (i := 238) rfl fl_M_28 rfl (xm_in rfl hn) rfl rfl ?_
    refine r_iload_n (i := 239) (k0 := 1) rfl rfl rfl ?_
    obtain ⟨hi, hF⟩ := ok_gd hF
    refine q_iaload (i := 240) rfl (xm_in rfl hn) rfl hi ?_
    refine r_i2l (i := 241) rfl ?_
    refine c_S2L (i := 242) rfl sm_M_floor lk_M_264 (t_M_floor hn (ok_bind hF)) (Nat.le_of_ble_eq_true rfl) rfl (Nat.le_of_ble_eq_true rfl) (fun p_2 hF => ?_)
    refine r_l2i (i := 243) rfl ?_
    refine c_V3V (i := 244) rfl vm_M_show lk_M_365 (t_M_show hn (ok_bind hF)) (Nat.le_of_ble_eq_true rfl) (xm_in rfl hn) rfl rfl (Nat.le_of_ble_eq_true rfl) (fun p_3 hF => ?_)
    have hQ := hq _ (ok_some hF)
    exact r_return (i := 245) rfl rfl hQ
  have hF := ok_if hc hF
  refine r_lload_n (i := 198) (k0 := 2) rfl rfl rfl ?_
  refine r_aload_n (i := 199) (k0 := 0) rfl rfl rfl ?_
  refine r_aload_n (i := 200) (k0 := 0) rfl rfl rfl ?_
  refine r_iload_n (i := 201) (k0 := 1) rfl rfl rfl ?_
  refine r_iload (i := 202) (k0 := 4) rfl rfl ?_
  refine c_V2I (i := 203) rfl vm_M_cornerX lk_M_193 (t_M_cornerX hn (ok_bind hF)) (Nat.le_of_ble_eq_true rfl) (xm_in rfl hn) rfl rfl (Nat.le_of_ble_eq_true rfl) (fun p_4 hF => ?_)
  refine r_i2l (i := 204) rfl ?_
  refine r_lconst (v := 1) (i := 205) rfl rfl ?_
  refine r_iconst (v := 1) (i := 206) rfl ki_1 ?_
  refine c_V3I (i := 207) rfl vm_M_on lk_M_327 (t_M_on hn (ok_bind hF)) (Nat.le_of_ble_eq_true rfl) (xm_in rfl hn) rfl rfl (Nat.le_of_ble_eq_true rfl) (fun p_5 hF => ?_)
  refine r_i2l (i := 208) rfl ?_
  refine r_ladd (i := 209) rfl ?_
  refine r_lstore_n (i := 210) (Ls' := [(2, _), (0, _), (1, _), (4, _), (6, _)]) rfl rfl (Nat.le_of_ble_eq_true rfl) rfl ?_
  refine r_lload (i := 211) (k0 := 3) rfl rfl ?_
  refine r_aload_n (i := 212) (k0 := 1) rfl rfl rfl ?_
  refine r_aload_n (i := 213) (k0 := 1) rfl rfl rfl ?_
  refine r_iload_n (i := 214) (k0 := 2) rfl rfl rfl ?_
  refine r_iload (i := 215) (k0 := 4) rfl rfl ?_
  refine c_V2I (i := 216) rfl vm_M_cornerY lk_M_197 (t_M_cornerY hn (ok_bind hF)) (Nat.le_of_ble_eq_true rfl) (xm_in rfl hn) rfl rfl (Nat.le_of_ble_eq_true rfl) (fun p_7 hF => ?_)
  refine r_i2l (i := 217) rfl ?_
  refine r_lconst (v := 1) (i := 218) rfl rfl ?_
  refine r_iconst (v := 0) (i := 219) rfl ki_0 ?_
  refine c_V3I (i := 220) rfl vm_M_on lk_M_327 (t_M_on hn (ok_bind hF)) (Nat.le_of_ble_eq_true rfl) (xm_in rfl hn) rfl rfl (Nat.le_of_ble_eq_true rfl) (fun p_8 hF => ?_)
  refine r_i2l (i := 221) rfl ?_
  refine r_ladd (i := 222) rfl ?_
  refine r_lstore (i := 223) (Ls' := [(4, _), (2, _), (0, _), (1, _), (6, _)]) rfl (Nat.le_of_ble_eq_true rfl) rfl ?_
  refine q_iinc (i := 224) (k0 := 4) (Ls' := [(6, _), (4, _), (2, _), (0, _), (1, _)]) rfl ki_1 rfl (Nat.le_of_ble_eq_true rfl) rfl ?_
  refine r_goto (i := 225) (tgt := 330) rfl (by decide) ?_
  refine xm_sub (Ls' := [(0, _), (1, _), (2, _), (4, _), (6, _)]) [3, 4, 2, 1, 0] rfl ?_
  have hJ := hg0 _ (ok_some hF)
  exact hJ
set_option maxHeartbeats 4000000 in
set_option maxRecDepth 100000 in
theorem t_M_drawArea_b330 {x1 : Int32} {s : Int64 × Int64 × Int32} {n : Nat} {I : xm_I} {L : xm_L} {K : xm_I × xm_L → Prop} {Q : Option Value → xm_H → Prop} (hn : 86 ≤ n) (hq : ∀ p : xm_I × xm_L, K p → Q none (p.1, p.2, RC n, n)) (hF : ok (f_M_drawArea_b330 x1 I L s) K) : xm_J 3 mt_M_drawArea 330 [(0, .ref 49), (1, .int x1), (2, .long s.1), (4, .long s.2.1), (6, .int s.2.2)] [] (I, L, RC n, n) 0 0 Q :=
  lp_J (G := fun z => xm_J 3 mt_M_drawArea 330 [(0, .ref 49), (1, .int x1), (2, .long z.1), (4, .long z.2.1), (6, .int z.2.2)] [] (I, L, RC n, n) 0 0 Q) (fun z hF => t_M_drawArea_s330 hn (fun p h => hq p h) (fun z h => h) hF) s hF
set_option maxHeartbeats 4000000 in
set_option maxRecDepth 100000 in
theorem t_M_drawArea_b305 {x1 : Int32} {l2 : Int64} {x4 : Int32} {n : Nat} {I : xm_I} {L : xm_L} {K : (Int32 × xm_I) ⊕ ((Int64 × xm_I × xm_L) ⊕ (xm_I × xm_L)) → Prop} {Q : Option Value → xm_H → Prop} (hn : 86 ≤ n) (hq : ∀ p : xm_I × xm_L, K (.inr (.inr p)) → Q none (p.1, p.2, RC n, n)) (hg0 : ∀ s : Int64 × xm_I × xm_L, K (.inr (.inl s)) → xm_J 3 mt_M_drawArea 20 [(0, .ref 49), (1, .int x1), (2, .long s.1)] [] (s.2.1, s.2.2, RC n, n) 0 0 Q) (hg1 : ∀ s : Int32 × xm_I, K (.inl s) → xm_J 3 mt_M_drawArea 108 [(0, .ref 49), (1, .int x1), (2, .long l2), (4, .int s.1)] [] (s.2, L, RC n, n) 0 0 Q) (hF : ok (f_M_drawArea_b305 x1 l2 x4 I L) K) : xm_J 3 mt_M_drawArea 305 [(0, .ref 49), (1, .int x1), (2, .long l2), (4, .int x4)] [] (I, L, RC n, n) 0 0 Q := by
  unfold f_M_drawArea_b305 at hF
  refine q_iinc (i := 177) (k0 := 3) (Ls' := [(4, _), (0, _), (1, _), (2, _)]) rfl ki_2 rfl (Nat.le_of_ble_eq_true rfl) rfl ?_
  refine r_goto (i := 178) (tgt := 108) rfl (by decide) ?_
  refine xm_sub (Ls' := [(0, _), (1, _), (2, _), (4, _)]) [1, 2, 3, 0] rfl ?_
  have hJ := hg1 _ (ok_some hF)
  exact hJ
set_option maxHeartbeats 4000000 in
set_option maxRecDepth 100000 in
theorem t_M_drawArea_b267 {x1 : Int32} {l2 : Int64} {x4 : Int32} {l7 : Int64} {l9 : Int64} {l11 : Int64} {y0 : Int64} {n : Nat} {I : xm_I} {L : xm_L} {K : (Int32 × xm_I) ⊕ ((Int64 × xm_I × xm_L) ⊕ (xm_I × xm_L)) → Prop} {Q : Option Value → xm_H → Prop} (hn : 86 ≤ n) (hq : ∀ p : xm_I × xm_L, K (.inr (.inr p)) → Q none (p.1, p.2, RC n, n)) (hg0 : ∀ s : Int64 × xm_I × xm_L, K (.inr (.inl s)) → xm_J 3 mt_M_drawArea 20 [(0, .ref 49), (1, .int x1), (2, .long s.1)] [] (s.2.1, s.2.2, RC n, n) 0 0 Q) (hg1 : ∀ s : Int32 × xm_I, K (.inl s) → xm_J 3 mt_M_drawArea 108 [(0, .ref 49), (1, .int x1), (2, .long l2), (4, .int s.1)] [] (s.2, L, RC n, n) 0 0 Q) (hF : ok (f_M_drawArea_b267 x1 l2 x4 l7 l9 l11 y0 I L) K) : xm_J 3 mt_M_drawArea 267 [(0, .ref 49), (1, .int x1), (2, .long l2), (4, .int x4), (7, .long l7), (9, .long l9), (11, .long l11)] [.long y0] (I, L, RC n, n) 0 0 Q := by
  unfold f_M_drawArea_b267 at hF
  refine r_lstore (i := 154) (Ls' := [(13, _), (0, _), (1, _), (2, _), (4, _), (7, _), (9, _), (11, _)]) rfl (Nat.le_of_ble_eq_true rfl) rfl ?_
  refine r_lload (i := 155) (k0 := 5) rfl rfl ?_
  refine r_lload (i := 156) (k0 := 0) rfl rfl ?_
  refine r_lmul (i := 157) rfl ?_
  refine r_lload (i := 158) (k0 := 7) rfl rfl ?_
  refine r_lload (i := 159) (k0 := 6) rfl rfl ?_
  refine r_lmul (i := 160) rfl ?_
  refine r_lcmpgt (i := 161) (j := 162) (tgt := 305) rfl rfl (by decide) (fun hc => ?_) (fun hc => ?_)
  · have hF := ok_it hc hF
    refine xm_sub (Ls' := [(0, _), (1, _), (2, _), (4, _)]) [1, 2, 3, 4] rfl ?_
    exact t_M_drawArea_b305 hn (fun p h => hq p h) (fun z h => hg0 z h) (fun z h => hg1 z h) hF
  have hF := ok_if hc hF
  refine r_aload_n (i := 163) (k0 := 1) rfl rfl rfl ?_
  refine r_lload (i := 164) (k0 := 5) rfl rfl ?_
  refine r_lload (i := 165) (k0 := 6) rfl rfl ?_
  refine r_lload_n (i := 166) (k0 := 3) rfl rfl rfl ?_
  refine r_lconst (v := 1) (i := 167) rfl rfl ?_
  refine r_lload (i := 168) (k0 := 7) rfl rfl ?_
  refine r_lload (i := 169) (k0 := 0) rfl rfl ?_
  refine r_lload_n (i := 170) (k0 := 3) rfl rfl rfl ?_
  refine r_lconst (v := 1) (i := 171) rfl rfl ?_
  refine r_aload_n (i := 172) (k0 := 1) rfl rfl rfl ?_
  refine q_getr (b := 57) (i := 173) rfl fl_M_31 rfl (xm_in rfl hn) rfl rfl ?_
  refine r_iload_n (i := 174) (k0 := 2) rfl rfl rfl ?_
  obtain ⟨hi, hF⟩ := ok_gd hF
  refine q_iaload (i := 175) rfl (xm_in rfl hn) rfl hi ?_
  refine c_V9V (i := 176) rfl vm_M_stroke lk_M_351 (t_M_stroke hn (ok_bind hF)) (Nat.le_of_ble_eq_true rfl) (xm_in rfl hn) rfl rfl (Nat.le_of_ble_eq_true rfl) (fun p_1 hF => ?_)
  refine xm_sub (Ls' := [(0, _), (1, _), (2, _), (4, _)]) [1, 2, 3, 4] rfl ?_
  exact t_M_drawArea_b305 hn (fun p h => hq p h) (fun z h => hg0 z h) (fun z h => hg1 z h) hF
set_option maxHeartbeats 4000000 in
set_option maxRecDepth 100000 in
theorem t_M_drawArea_b247 {x1 : Int32} {l2 : Int64} {x4 : Int32} {x6 : Int32} {l7 : Int64} {l9 : Int64} {y0 : Int64} {n : Nat} {I : xm_I} {L : xm_L} {K : (Int32 × xm_I) ⊕ ((Int64 × xm_I × xm_L) ⊕ (xm_I × xm_L)) → Prop} {Q : Option Value → xm_H → Prop} (hn : 86 ≤ n) (hq : ∀ p : xm_I × xm_L, K (.inr (.inr p)) → Q none (p.1, p.2, RC n, n)) (hg0 : ∀ s : Int64 × xm_I × xm_L, K (.inr (.inl s)) → xm_J 3 mt_M_drawArea 20 [(0, .ref 49), (1, .int x1), (2, .long s.1)] [] (s.2.1, s.2.2, RC n, n) 0 0 Q) (hg1 : ∀ s : Int32 × xm_I, K (.inl s) → xm_J 3 mt_M_drawArea 108 [(0, .ref 49), (1, .int x1), (2, .long l2), (4, .int s.1)] [] (s.2, L, RC n, n) 0 0 Q) (hF : ok (f_M_drawArea_b247 x1 l2 x4 x6 l7 l9 y0 I L) K) : xm_J 3 mt_M_drawArea 247 [(0, .ref 49), (1, .int x1), (2, .long l2), (4, .int x4), (6, .int x6), (7, .long l7), (9, .long l9)] [.long y0] (I, L, RC n, n) 0 0 Q := by
  unfold f_M_drawArea_b247 at hF
  refine r_lstore (i := 143) (Ls' := [(11, _), (0, _), (1, _), (2, _), (4, _), (6, _), (7, _), (9, _)]) rfl (Nat.le_of_ble_eq_true rfl) rfl ?_
  refine r_iload (i := 144) (k0 := 5) rfl rfl ?_
  refine r_ifeq (i := 145) (tgt := 258) rfl (by decide) (fun hc => ?_) (fun hc => ?_)
  · have hF := ok_it hc hF
    refine r_aload_n (i := 148) (k0 := 1) rfl rfl rfl ?_
    refine q_getr (b := 78) (i := 149) rfl fl_M_113 rfl (xm_in rfl hn) rfl rfl ?_
    refine r_iload (i := 150) (k0 := 4) rfl rfl ?_
    refine r_iconst (v := 1) (i := 151) rfl ki_1 ?_
    refine r_iadd (i := 152) rfl ?_
    obtain ⟨hi, hF⟩ := ok_gd hF
    refine q_laload (i := 153) rfl (xm_in rfl hn) rfl hi ?_
    refine xm_sub (Ls' := [(0, _), (1, _), (2, _), (4, _), (7, _), (9, _), (11, _)]) [1, 2, 3, 4, 6, 7, 0] rfl ?_
    exact t_M_drawArea_b267 hn (fun p h => hq p h) (fun z h => hg0 z h) (fun z h => hg1 z h) hF
  have hF := ok_if hc hF
  refine r_lconst (v := 1) (i := 146) rfl rfl ?_
  refine r_goto (i := 147) (tgt := 267) rfl (by decide) ?_
  refine xm_sub (Ls' := [(0, _), (1, _), (2, _), (4, _), (7, _), (9, _), (11, _)]) [1, 2, 3, 4, 6, 7, 0] rfl ?_
  exact t_M_drawArea_b267 hn (fun p h => hq p h) (fun z h => hg0 z h) (fun z h => hg1 z h) hF
set_option maxHeartbeats 4000000 in
set_option maxRecDepth 100000 in
theorem t_M_drawArea_b223 {x1 : Int32} {l2 : Int64} {x4 : Int32} {x6 : Int32} {l7 : Int64} {y0 : Int64} {n : Nat} {I : xm_I} {L : xm_L} {K : (Int32 × xm_I) ⊕ ((Int64 × xm_I × xm_L) ⊕ (xm_I × xm_L)) → Prop} {Q : Option Value → xm_H → Prop} (hn : 86 ≤ n) (hq : ∀ p : xm_I × xm_L, K (.inr (.inr p)) → Q none (p.1, p.2, RC n, n)) (hg0 : ∀ s : Int64 × xm_I × xm_L, K (.inr (.inl s)) → xm_J 3 mt_M_drawArea 20 [(0, .ref 49), (1, .int x1), (2, .long s.1)] [] (s.2.1, s.2.2, RC n, n) 0 0 Q) (hg1 : ∀ s : Int32 × xm_I, K (.inl s) → xm_J 3 mt_M_drawArea 108 [(0, .ref 49), (1, .int x1), (2, .long l2), (4, .int s.1)] [] (s.2, L, RC n, n) 0 0 Q) (hF : ok (f_M_drawArea_b223 x1 l2 x4 x6 l7 y0 I L) K) : xm_J 3 mt_M_drawArea 223 [(0, .ref 49), (1, .int x1), (2, .long l2), (4, .int x4), (6, .int x6), (7, .long l7)] [.long y0] (I, L, RC n, n) 0 0 Q := by
  unfold f_M_drawArea_b223 at hF
  refine r_lstore (i := 130) (Ls' := [(9, _), (0, _), (1, _), (2, _), (4, _), (6, _), (7, _)]) rfl (Nat.le_of_ble_eq_true rfl) rfl ?_
  refine r_iload (i := 131) (k0 := 5) rfl rfl ?_
  refine r_ifeq (i := 132) (tgt := 238) rfl (by decide) (fun hc => ?_) (fun hc => ?_)
  · have hF := ok_it hc hF
    refine r_aload_n (i := 137) (k0 := 1) rfl rfl rfl ?_
    refine q_getr (b := 77) (i := 138) rfl fl_M_109 rfl (xm_in rfl hn) rfl rfl ?_
    refine r_iload (i := 139) (k0 := 4) rfl rfl ?_
    refine r_iconst (v := 1) (i := 140) rfl ki_1 ?_
    refine r_iadd (i := 141) rfl ?_
    obtain ⟨hi, hF⟩ := ok_gd hF
    refine q_laload (i := 142) rfl (xm_in rfl hn) rfl hi ?_
    refine xm_sub (Ls' := [(0, _), (1, _), (2, _), (4, _), (6, _), (7, _), (9, _)]) [1, 2, 3, 4, 5, 6, 0] rfl ?_
    exact t_M_drawArea_b247 hn (fun p h => hq p h) (fun z h => hg0 z h) (fun z h => hg1 z h) hF
  have hF := ok_if hc hF
  refine r_aload_n (i := 133) (k0 := 1) rfl rfl rfl ?_
  refine q_geti (i := 134) rfl fl_M_44 (xm_in rfl hn) rfl ?_
  refine r_i2l (i := 135) rfl ?_
  refine r_goto (i := 136) (tgt := 247) rfl (by decide) ?_
  refine xm_sub (Ls' := [(0, _), (1, _), (2, _), (4, _), (6, _), (7, _), (9, _)]) [1, 2, 3, 4, 5, 6, 0] rfl ?_
  exact t_M_drawArea_b247 hn (fun p h => hq p h) (fun z h => hg0 z h) (fun z h => hg1 z h) hF
set_option maxHeartbeats 4000000 in
set_option maxRecDepth 100000 in
theorem t_M_drawArea_b205 {x1 : Int32} {l2 : Int64} {x4 : Int32} {x5 : Int32} {x6 : Int32} {y0 : Int64} {n : Nat} {I : xm_I} {L : xm_L} {K : (Int32 × xm_I) ⊕ ((Int64 × xm_I × xm_L) ⊕ (xm_I × xm_L)) → Prop} {Q : Option Value → xm_H → Prop} (hn : 86 ≤ n) (hq : ∀ p : xm_I × xm_L, K (.inr (.inr p)) → Q none (p.1, p.2, RC n, n)) (hg0 : ∀ s : Int64 × xm_I × xm_L, K (.inr (.inl s)) → xm_J 3 mt_M_drawArea 20 [(0, .ref 49), (1, .int x1), (2, .long s.1)] [] (s.2.1, s.2.2, RC n, n) 0 0 Q) (hg1 : ∀ s : Int32 × xm_I, K (.inl s) → xm_J 3 mt_M_drawArea 108 [(0, .ref 49), (1, .int x1), (2, .long l2), (4, .int s.1)] [] (s.2, L, RC n, n) 0 0 Q) (hF : ok (f_M_drawArea_b205 x1 l2 x4 x5 x6 y0 I L) K) : xm_J 3 mt_M_drawArea 205 [(0, .ref 49), (1, .int x1), (2, .long l2), (4, .int x4), (5, .int x5), (6, .int x6)] [.long y0] (I, L, RC n, n) 0 0 Q := by
  unfold f_M_drawArea_b205 at hF
  refine r_lstore (i := 121) (Ls' := [(7, _), (0, _), (1, _), (2, _), (4, _), (5, _), (6, _)]) rfl (Nat.le_of_ble_eq_true rfl) rfl ?_
  refine r_iload (i := 122) (k0 := 5) rfl rfl ?_
  refine r_ifeq (i := 123) (tgt := 216) rfl (by decide) (fun hc => ?_) (fun hc => ?_)
  · have hF := ok_it hc hF
    refine r_aload_n (i := 126) (k0 := 1) rfl rfl rfl ?_
    refine q_getr (b := 78) (i := 127) rfl fl_M_113 rfl (xm_in rfl hn) rfl rfl ?_
    refine r_iload (i := 128) (k0 := 4) rfl rfl ?_
    obtain ⟨hi, hF⟩ := ok_gd hF
    refine q_laload (i := 129) rfl (xm_in rfl hn) rfl hi ?_
    refine xm_sub (Ls' := [(0, _), (1, _), (2, _), (4, _), (6, _), (7, _)]) [1, 2, 3, 4, 6, 0] rfl ?_
    exact t_M_drawArea_b223 hn (fun p h => hq p h) (fun z h => hg0 z h) (fun z h => hg1 z h) hF
  have hF := ok_if hc hF
  refine r_lconst (v := 1) (i := 124) rfl rfl ?_
  refine r_goto (i := 125) (tgt := 223) rfl (by decide) ?_
  refine xm_sub (Ls' := [(0, _), (1, _), (2, _), (4, _), (6, _), (7, _)]) [1, 2, 3, 4, 6, 0] rfl ?_
  exact t_M_drawArea_b223 hn (fun p h => hq p h) (fun z h => hg0 z h) (fun z h => hg1 z h) hF
set_option maxHeartbeats 4000000 in
set_option maxRecDepth 100000 in
theorem t_M_drawArea_b183 {x1 : Int32} {l2 : Int64} {x4 : Int32} {x5 : Int32} {y0 : Int32} {n : Nat} {I : xm_I} {L : xm_L} {K : (Int32 × xm_I) ⊕ ((Int64 × xm_I × xm_L) ⊕ (xm_I × xm_L)) → Prop} {Q : Option Value → xm_H → Prop} (hn : 86 ≤ n) (hq : ∀ p : xm_I × xm_L, K (.inr (.inr p)) → Q none (p.1, p.2, RC n, n)) (hg0 : ∀ s : Int64 × xm_I × xm_L, K (.inr (.inl s)) → xm_J 3 mt_M_drawArea 20 [(0, .ref 49), (1, .int x1), (2, .long s.1)] [] (s.2.1, s.2.2, RC n, n) 0 0 Q) (hg1 : ∀ s : Int32 × xm_I, K (.inl s) → xm_J 3 mt_M_drawArea 108 [(0, .ref 49), (1, .int x1), (2, .long l2), (4, .int s.1)] [] (s.2, L, RC n, n) 0 0 Q) (hF : ok (f_M_drawArea_b183 x1 l2 x4 x5 y0 I L) K) : xm_J 3 mt_M_drawArea 183 [(0, .ref 49), (1, .int x1), (2, .long l2), (4, .int x4), (5, .int x5)] [.int y0] (I, L, RC n, n) 0 0 Q := by
  unfold f_M_drawArea_b183 at hF
  refine r_istore (i := 110) (Ls' := [(6, _), (0, _), (1, _), (2, _), (4, _), (5, _)]) rfl (Nat.le_of_ble_eq_true rfl) rfl ?_
  refine r_iload (i := 111) (k0 := 5) rfl rfl ?_
  refine r_ifeq (i := 112) (tgt := 198) rfl (by decide) (fun hc => ?_) (fun hc => ?_)
  · have hF := ok_it hc hF
    refine r_aload_n (i := 117) (k0 := 1) rfl rfl rfl ?_
    refine q_getr (b := 77) (i := 118) rfl fl_M_109 rfl (xm_in rfl hn) rfl rfl ?_
    refine r_iload (i := 119) (k0 := 4) rfl rfl ?_
    obtain ⟨hi, hF⟩ := ok_gd hF
    refine q_laload (i := 120) rfl (xm_in rfl hn) rfl hi ?_
    refine xm_sub (Ls' := [(0, _), (1, _), (2, _), (4, _), (5, _), (6, _)]) [1, 2, 3, 4, 5, 0] rfl ?_
    exact t_M_drawArea_b205 hn (fun p h => hq p h) (fun z h => hg0 z h) (fun z h => hg1 z h) hF
  have hF := ok_if hc hF
  refine r_aload_n (i := 113) (k0 := 1) rfl rfl rfl ?_
  refine q_geti (i := 114) rfl fl_M_218 (xm_in rfl hn) rfl ?_
  refine r_i2l (i := 115) rfl ?_
  refine r_goto (i := 116) (tgt := 205) rfl (by decide) ?_
  refine xm_sub (Ls' := [(0, _), (1, _), (2, _), (4, _), (5, _), (6, _)]) [1, 2, 3, 4, 5, 0] rfl ?_
  exact t_M_drawArea_b205 hn (fun p h => hq p h) (fun z h => hg0 z h) (fun z h => hg1 z h) hF
set_option maxHeartbeats 4000000 in
set_option maxRecDepth 100000 in
theorem t_M_drawArea_b148 {x1 : Int32} {l2 : Int64} {x4 : Int32} {y0 : Int32} {n : Nat} {I : xm_I} {L : xm_L} {K : (Int32 × xm_I) ⊕ ((Int64 × xm_I × xm_L) ⊕ (xm_I × xm_L)) → Prop} {Q : Option Value → xm_H → Prop} (hn : 86 ≤ n) (hq : ∀ p : xm_I × xm_L, K (.inr (.inr p)) → Q none (p.1, p.2, RC n, n)) (hg0 : ∀ s : Int64 × xm_I × xm_L, K (.inr (.inl s)) → xm_J 3 mt_M_drawArea 20 [(0, .ref 49), (1, .int x1), (2, .long s.1)] [] (s.2.1, s.2.2, RC n, n) 0 0 Q) (hg1 : ∀ s : Int32 × xm_I, K (.inl s) → xm_J 3 mt_M_drawArea 108 [(0, .ref 49), (1, .int x1), (2, .long l2), (4, .int s.1)] [] (s.2, L, RC n, n) 0 0 Q) (hF : ok (f_M_drawArea_b148 x1 l2 x4 y0 I L) K) : xm_J 3 mt_M_drawArea 148 [(0, .ref 49), (1, .int x1), (2, .long l2), (4, .int x4)] [.int y0] (I, L, RC n, n) 0 0 Q := by
  unfold f_M_drawArea_b148 at hF
  refine r_istore (i := 88) (Ls' := [(5, _), (0, _), (1, _), (2, _), (4, _)]) rfl (Nat.le_of_ble_eq_true rfl) rfl ?_
  refine r_aload_n (i := 89) (k0 := 1) rfl rfl rfl ?_
  refine q_getr (b := 77) (i := 90) rfl fl_M_109 rfl (xm_in rfl hn) rfl rfl ?_
  refine r_iload (i := 91) (k0 := 4) rfl rfl ?_
  refine r_iconst (v := 1) (i := 92) rfl ki_1 ?_
  refine r_iadd (i := 93) rfl ?_
  obtain ⟨hi, hF⟩ := ok_gd hF
  refine q_laload (i := 94) rfl (xm_in rfl hn) rfl hi ?_
  refine r_aload_n (i := 95) (k0 := 1) rfl rfl rfl ?_
  refine q_geti (i := 96) rfl fl_M_44 (xm_in rfl hn) rfl ?_
  refine r_i2l (i := 97) rfl ?_
  refine r_aload_n (i := 98) (k0 := 1) rfl rfl rfl ?_
  refine q_getr (b := 78) (i := 99) rfl fl_M_113 rfl (xm_in rfl hn) rfl rfl ?_
  refine r_iload (i := 100) (k0 := 4) rfl rfl ?_
  refine r_iconst (v := 1) (i := 101) rfl ki_1 ?_
  refine r_iadd (i := 102) rfl ?_
  obtain ⟨hi, hF⟩ := ok_gd hF
  refine q_laload (i := 103) rfl (xm_in rfl hn) rfl hi ?_
  refine r_lmul (i := 104) rfl ?_
  refine r_lcmple (i := 105) (j := 106) (tgt := 182) rfl rfl (by decide) (fun hc => ?_) (fun hc => ?_)
  · have hF := ok_it hc hF
    refine r_iconst (v := 0) (i := 109) rfl ki_0 ?_
    refine xm_sub (Ls' := [(0, _), (1, _), (2, _), (4, _), (5, _)]) [1, 2, 3, 4, 0] rfl ?_
    exact t_M_drawArea_b183 hn (fun p h => hq p h) (fun z h => hg0 z h) (fun z h => hg1 z h) hF
  have hF := ok_if hc hF
  refine r_iconst (v := 1) (i := 107) rfl ki_1 ?_
  refine r_goto (i := 108) (tgt := 183) rfl (by decide) ?_
  refine xm_sub (Ls' := [(0, _), (1, _), (2, _), (4, _), (5, _)]) [1, 2, 3, 4, 0] rfl ?_
  exact t_M_drawArea_b183 hn (fun p h => hq p h) (fun z h => hg0 z h) (fun z h => hg1 z h) hF
set_option maxHeartbeats 4000000 in
set_option maxRecDepth 100000 in
theorem t_M_drawArea_s108 {x1 : Int32} {l2 : Int64} {s : Int32 × xm_I} {n : Nat} {L : xm_L} {K : (Int32 × xm_I) ⊕ ((Int64 × xm_I × xm_L) ⊕ (xm_I × xm_L)) → Prop} {Q : Option Value → xm_H → Prop} (hn : 86 ≤ n) (hq : ∀ p : xm_I × xm_L, K (.inr (.inr p)) → Q none (p.1, p.2, RC n, n)) (hg0 : ∀ s : Int64 × xm_I × xm_L, K (.inr (.inl s)) → xm_J 3 mt_M_drawArea 20 [(0, .ref 49), (1, .int x1), (2, .long s.1)] [] (s.2.1, s.2.2, RC n, n) 0 0 Q) (hg1 : ∀ s : Int32 × xm_I, K (.inl s) → xm_J 3 mt_M_drawArea 108 [(0, .ref 49), (1, .int x1), (2, .long l2), (4, .int s.1)] [] (s.2, L, RC n, n) 0 0 Q) (hF : ok (f_M_drawArea_s108 x1 l2 L s) K) : xm_J 3 mt_M_drawArea 108 [(0, .ref 49), (1, .int x1), (2, .long l2), (4, .int s.1)] [] (s.2, L, RC n, n) 0 0 Q := by
  unfold f_M_drawArea_s108 at hF
  refine r_iload (i := 65) (k0 := 3) rfl rfl ?_
  refine r_iconst (v := 1) (i := 66) rfl ki_1 ?_
  refine r_iadd (i := 67) rfl ?_
  refine r_aload_n (i := 68) (k0 := 0) rfl rfl rfl ?_
  refine q_geti (i := 69) rfl fl_M_358 (xm_in rfl hn) rfl ?_
  refine r_icmpge (i := 70) (tgt := 311) rfl (by decide) (fun hc => ?_) (fun hc => ?_)
  · have hF := ok_it hc hF
    refine r_lload_n (i := 179) (k0 := 2) rfl rfl rfl ?_
    refine r_aload_n (i := 180) (k0 := 0) rfl rfl rfl ?_
    refine q_geti (i := 181) rfl fl_M_57 (xm_in rfl hn) rfl ?_
    refine r_i2l (i := 182) rfl ?_
    refine r_ladd (i := 183) rfl ?_
    refine r_lstore_n (i := 184) (Ls' := [(2, _), (0, _), (1, _), (4, _)]) rfl rfl (Nat.le_of_ble_eq_true rfl) rfl ?_
    refine r_goto (i := 185) (tgt := 20) rfl (by decide) ?_
    refine xm_sub (Ls' := [(0, _), (1, _), (2, _)]) [1, 2, 0] rfl ?_
    have hJ := hg0 _ (ok_some hF)
    exact hJ
  have hF := ok_if hc hF
  refine r_aload_n (i := 71) (k0 := 0) rfl rfl rfl ?_
  refine q_getr (b := 77) (i := 72) rfl fl_M_109 rfl (xm_in rfl hn) rfl rfl ?_
  refine r_iload (i := 73) (k0 := 3) rfl rfl ?_
  obtain ⟨hi, hF⟩ := ok_gd hF
  refine q_laload (i := 74) rfl (xm_in rfl hn) rfl hi ?_
  refine r_aload_n (i := 75) (k0 := 0) rfl rfl rfl ?_
  refine q_geti (i := 76) rfl fl_M_218 (xm_in rfl hn) rfl ?_
  refine r_i2l (i := 77) rfl ?_
  refine r_aload_n (i := 78) (k0 := 0) rfl rfl rfl ?_
  refine q_getr (b := 78) (i := 79) rfl fl_M_113 rfl (xm_in rfl hn) rfl rfl ?_
  refine r_iload (i := 80) (k0 := 3) rfl rfl ?_
  obtain ⟨hi, hF⟩ := ok_gd hF
  refine q_laload (i := 81) rfl (xm_in rfl hn) rfl hi ?_
  refine r_lmul (i := 82) rfl ?_
  refine r_lcmpge (i := 83) (j := 84) (tgt := 147) rfl rfl (by decide) (fun hc => ?_) (fun hc => ?_)
  · have hF := ok_it hc hF
    refine r_iconst (v := 0) (i := 87) rfl ki_0 ?_
    exact t_M_drawArea_b148 hn (fun p h => hq p h) (fun z h => hg0 z h) (fun z h => hg1 z h) hF
  have hF := ok_if hc hF
  refine r_iconst (v := 1) (i := 85) rfl ki_1 ?_
  refine r_goto (i := 86) (tgt := 148) rfl (by decide) ?_
  exact t_M_drawArea_b148 hn (fun p h => hq p h) (fun z h => hg0 z h) (fun z h => hg1 z h) hF
set_option maxHeartbeats 4000000 in
set_option maxRecDepth 100000 in
theorem t_M_drawArea_b108 {x1 : Int32} {l2 : Int64} {s : Int32 × xm_I} {n : Nat} {L : xm_L} {K : (Int64 × xm_I × xm_L) ⊕ (xm_I × xm_L) → Prop} {Q : Option Value → xm_H → Prop} (hn : 86 ≤ n) (hq : ∀ p : xm_I × xm_L, K (.inr p) → Q none (p.1, p.2, RC n, n)) (hg0 : ∀ s : Int64 × xm_I × xm_L, K (.inl s) → xm_J 3 mt_M_drawArea 20 [(0, .ref 49), (1, .int x1), (2, .long s.1)] [] (s.2.1, s.2.2, RC n, n) 0 0 Q) (hF : ok (f_M_drawArea_b108 x1 l2 L s) K) : xm_J 3 mt_M_drawArea 108 [(0, .ref 49), (1, .int x1), (2, .long l2), (4, .int s.1)] [] (s.2, L, RC n, n) 0 0 Q :=
  lp_J (G := fun z => xm_J 3 mt_M_drawArea 108 [(0, .ref 49), (1, .int x1), (2, .long l2), (4, .int z.1)] [] (z.2, L, RC n, n) 0 0 Q) (fun z hF => t_M_drawArea_s108 hn (fun p h => hq p h) (fun z h => hg0 z h) (fun z h => h) hF) s hF
set_option maxHeartbeats 4000000 in
set_option maxRecDepth 100000 in
theorem t_M_drawArea_s38 {x1 : Int32} {l2 : Int64} {s : Int32 × xm_I × xm_L} {n : Nat} {K : (Int32 × xm_I × xm_L) ⊕ ((Int64 × xm_I × xm_L) ⊕ (xm_I × xm_L)) → Prop} {Q : Option Value → xm_H → Prop} (hn : 86 ≤ n) (hq : ∀ p : xm_I × xm_L, K (.inr (.inr p)) → Q none (p.1, p.2, RC n, n)) (hg0 : ∀ s : Int64 × xm_I × xm_L, K (.inr (.inl s)) → xm_J 3 mt_M_drawArea 20 [(0, .ref 49), (1, .int x1), (2, .long s.1)] [] (s.2.1, s.2.2, RC n, n) 0 0 Q) (hg1 : ∀ s : Int32 × xm_I × xm_L, K (.inl s) → xm_J 3 mt_M_drawArea 38 [(0, .ref 49), (1, .int x1), (2, .long l2), (4, .int s.1)] [] (s.2.1, s.2.2, RC n, n) 0 0 Q) (hF : ok (f_M_drawArea_s38 x1 l2 s) K) : xm_J 3 mt_M_drawArea 38 [(0, .ref 49), (1, .int x1), (2, .long l2), (4, .int s.1)] [] (s.2.1, s.2.2, RC n, n) 0 0 Q := by
  unfold f_M_drawArea_s38 at hF
  refine r_iload (i := 23) (k0 := 3) rfl rfl ?_
  refine r_aload_n (i := 24) (k0 := 0) rfl rfl rfl ?_
  refine q_getr (b := 56) (i := 25) rfl fl_M_28 rfl (xm_in rfl hn) rfl rfl ?_
  refine r_iload_n (i := 26) (k0 := 1) rfl rfl rfl ?_
  obtain ⟨hi, hF⟩ := ok_gd hF
  refine q_iaload (i := 27) rfl (xm_in rfl hn) rfl hi ?_
  refine r_icmpge (i := 28) (tgt := 105) rfl (by decide) (fun hc => ?_) (fun hc => ?_)
  · have hF := ok_it hc hF
    refine r_iconst (v := 0) (i := 63) rfl ki_0 ?_
    refine r_istore (i := 64) (Ls' := [(4, _), (0, _), (1, _), (2, _)]) rfl (Nat.le_of_ble_eq_true rfl) rfl ?_
    refine xm_sub (Ls' := [(0, _), (1, _), (2, _), (4, _)]) [1, 2, 3, 0] rfl ?_
    exact t_M_drawArea_b108 hn (fun p h => hq p h) (fun z h => hg0 z h) (ok_map hF)
  have hF := ok_if hc hF
  refine r_iload (i := 29) (k0 := 3) rfl rfl ?_
  refine r_iconst (v := 1) (i := 30) rfl ki_1 ?_
  refine r_iadd (i := 31) rfl ?_
  refine r_aload_n (i := 32) (k0 := 0) rfl rfl rfl ?_
  refine q_getr (b := 56) (i := 33) rfl fl_M_28 rfl (xm_in rfl hn) rfl rfl ?_
  refine r_iload_n (i := 34) (k0 := 1) rfl rfl rfl ?_
  obtain ⟨hi, hF⟩ := ok_gd hF
  refine q_iaload (i := 35) rfl (xm_in rfl hn) rfl hi ?_
  obtain ⟨hi, hF⟩ := ok_gd hF
  refine r_irem (i := 36) rfl hi ?_
  refine r_istore (i := 37) (Ls' := [(5, _), (0, _), (1, _), (2, _), (4, _)]) rfl (Nat.le_of_ble_eq_true rfl) rfl ?_
  refine r_aload_n (i := 38) (k0 := 1) rfl rfl rfl ?_
  refine r_aload_n (i := 39) (k0 := 1) rfl rfl rfl ?_
  refine r_iload_n (i := 40) (k0 := 2) rfl rfl rfl ?_
  refine r_iload (i := 41) (k0 := 4) rfl rfl ?_
  refine c_V2I (i := 42) rfl vm_M_cornerX lk_M_193 (t_M_cornerX hn (ok_bind hF)) (Nat.le_of_ble_eq_true rfl) (xm_in rfl hn) rfl rfl (Nat.le_of_ble_eq_true rfl) (fun p_2 hF => ?_)
  refine r_i2l (i := 43) rfl ?_
  refine r_aload_n (i := 44) (k0 := 1) rfl rfl rfl ?_
  refine r_iload_n (i := 45) (k0 := 2) rfl rfl rfl ?_
  refine r_iload (i := 46) (k0 := 4) rfl rfl ?_
  refine c_V2I (i := 47) rfl vm_M_cornerY lk_M_197 (t_M_cornerY hn (ok_bind hF)) (Nat.le_of_ble_eq_true rfl) (xm_in rfl hn) rfl rfl (Nat.le_of_ble_eq_true rfl) (fun p_3 hF => ?_)
  refine r_i2l (i := 48) rfl ?_
  refine r_aload_n (i := 49) (k0 := 1) rfl rfl rfl ?_
  refine r_iload_n (i := 50) (k0 := 2) rfl rfl rfl ?_
  refine r_iload (i := 51) (k0 := 0) rfl rfl ?_
  refine c_V2I (i := 52) rfl vm_M_cornerX lk_M_193 (t_M_cornerX hn (ok_bind hF)) (Nat.le_of_ble_eq_true rfl) (xm_in rfl hn) rfl rfl (Nat.le_of_ble_eq_true rfl) (fun p_4 hF => ?_)
  refine r_i2l (i := 53) rfl ?_
  refine r_aload_n (i := 54) (k0 := 1) rfl rfl rfl ?_
  refine r_iload_n (i := 55) (k0 := 2) rfl rfl rfl ?_
  refine r_iload (i := 56) (k0 := 0) rfl rfl ?_
  refine c_V2I (i := 57) rfl vm_M_cornerY lk_M_197 (t_M_cornerY hn (ok_bind hF)) (Nat.le_of_ble_eq_true rfl) (xm_in rfl hn) rfl rfl (Nat.le_of_ble_eq_true rfl) (fun p_5 hF => ?_)
  refine r_i2l (i := 58) rfl ?_
  refine r_lload_n (i := 59) (k0 := 3) rfl rfl rfl ?_
  refine c_V5V (i := 60) rfl vm_M_cross lk_M_361 (t_M_cross hn (ok_bind hF)) (Nat.le_of_ble_eq_true rfl) (xm_in rfl hn) rfl rfl (Nat.le_of_ble_eq_true rfl) (fun p_6 hF => ?_)
  refine q_iinc (i := 61) (k0 := 4) (Ls' := [(4, _), (5, _), (0, _), (1, _), (2, _)]) rfl ki_1 rfl (Nat.le_of_ble_eq_true rfl) rfl ?_
  refine r_goto (i := 62) (tgt := 38) rfl (by decide) ?_
  refine xm_sub (Ls' := [(0, _), (1, _), (2, _), (4, _)]) [2, 3, 4, 0] rfl ?_
  have hJ := hg1 _ (ok_some hF)
  exact hJ
set_option maxHeartbeats 4000000 in
set_option maxRecDepth 100000 in
theorem t_M_drawArea_b38 {x1 : Int32} {l2 : Int64} {s : Int32 × xm_I × xm_L} {n : Nat} {K : (Int64 × xm_I × xm_L) ⊕ (xm_I × xm_L) → Prop} {Q : Option Value → xm_H → Prop} (hn : 86 ≤ n) (hq : ∀ p : xm_I × xm_L, K (.inr p) → Q none (p.1, p.2, RC n, n)) (hg0 : ∀ s : Int64 × xm_I × xm_L, K (.inl s) → xm_J 3 mt_M_drawArea 20 [(0, .ref 49), (1, .int x1), (2, .long s.1)] [] (s.2.1, s.2.2, RC n, n) 0 0 Q) (hF : ok (f_M_drawArea_b38 x1 l2 s) K) : xm_J 3 mt_M_drawArea 38 [(0, .ref 49), (1, .int x1), (2, .long l2), (4, .int s.1)] [] (s.2.1, s.2.2, RC n, n) 0 0 Q :=
  lp_J (G := fun z => xm_J 3 mt_M_drawArea 38 [(0, .ref 49), (1, .int x1), (2, .long l2), (4, .int z.1)] [] (z.2.1, z.2.2, RC n, n) 0 0 Q) (fun z hF => t_M_drawArea_s38 hn (fun p h => hq p h) (fun z h => hg0 z h) (fun z h => h) hF) s hF
set_option maxHeartbeats 4000000 in
set_option maxRecDepth 100000 in
theorem t_M_drawArea_s20 {x1 : Int32} {s : Int64 × xm_I × xm_L} {n : Nat} {K : (Int64 × xm_I × xm_L) ⊕ (xm_I × xm_L) → Prop} {Q : Option Value → xm_H → Prop} (hn : 86 ≤ n) (hq : ∀ p : xm_I × xm_L, K (.inr p) → Q none (p.1, p.2, RC n, n)) (hg0 : ∀ s : Int64 × xm_I × xm_L, K (.inl s) → xm_J 3 mt_M_drawArea 20 [(0, .ref 49), (1, .int x1), (2, .long s.1)] [] (s.2.1, s.2.2, RC n, n) 0 0 Q) (hF : ok (f_M_drawArea_s20 x1 s) K) : xm_J 3 mt_M_drawArea 20 [(0, .ref 49), (1, .int x1), (2, .long s.1)] [] (s.2.1, s.2.2, RC n, n) 0 0 Q := by
  unfold f_M_drawArea_s20 at hF
  refine r_lload_n (i := 12) (k0 := 2) rfl rfl rfl ?_
  refine r_aload_n (i := 13) (k0 := 0) rfl rfl rfl ?_
  refine q_geti (i := 14) rfl fl_M_48 (xm_in rfl hn) rfl ?_
  refine r_i2l (i := 15) rfl ?_
  refine r_lcmpgt (i := 16) (j := 17) (tgt := 322) rfl rfl (by decide) (fun hc => ?_) (fun hc => ?_)
  · have hF := ok_it hc hF
    refine r_lconst (v := 0) (i := 186) rfl rfl ?_
    refine r_lstore_n (i := 187) (Ls' := [(2, _), (0, _), (1, _)]) rfl rfl (Nat.le_of_ble_eq_true rfl) rfl ?_
    refine r_lconst (v := 0) (i := 188) rfl rfl ?_
    refine r_lstore (i := 189) (Ls' := [(4, _), (2, _), (0, _), (1, _)]) rfl (Nat.le_of_ble_eq_true rfl) rfl ?_
    refine r_iconst (v := 0) (i := 190) rfl ki_0 ?_
    refine r_istore (i := 191) (Ls' := [(6, _), (4, _), (2, _), (0, _), (1, _)]) rfl (Nat.le_of_ble_eq_true rfl) rfl ?_
    refine xm_sub (Ls' := [(0, _), (1, _), (2, _), (4, _), (6, _)]) [3, 4, 2, 1, 0] rfl ?_
    exact t_M_drawArea_b330 hn (fun p h => hq p h) (ok_map hF)
  have hF := ok_if hc hF
  refine r_aload_n (i := 18) (k0 := 0) rfl rfl rfl ?_
  refine r_iconst (v := 0) (i := 19) rfl ki_0 ?_
  refine q_puti (i := 20) rfl fl_M_358 (fun h => Bool.noConfusion h) (xm_in rfl hn) rfl ?_
  refine r_iconst (v := 0) (i := 21) rfl ki_0 ?_
  refine r_istore (i := 22) (Ls' := [(4, _), (0, _), (1, _), (2, _)]) rfl (Nat.le_of_ble_eq_true rfl) rfl ?_
  refine xm_sub (Ls' := [(0, _), (1, _), (2, _), (4, _)]) [1, 2, 3, 0] rfl ?_
  exact t_M_drawArea_b38 hn (fun p h => hq p h) (fun z h => hg0 z h) hF
set_option maxHeartbeats 4000000 in
set_option maxRecDepth 100000 in
theorem t_M_drawArea_b20 {x1 : Int32} {s : Int64 × xm_I × xm_L} {n : Nat} {K : xm_I × xm_L → Prop} {Q : Option Value → xm_H → Prop} (hn : 86 ≤ n) (hq : ∀ p : xm_I × xm_L, K p → Q none (p.1, p.2, RC n, n)) (hF : ok (f_M_drawArea_b20 x1 s) K) : xm_J 3 mt_M_drawArea 20 [(0, .ref 49), (1, .int x1), (2, .long s.1)] [] (s.2.1, s.2.2, RC n, n) 0 0 Q :=
  lp_J (G := fun z => xm_J 3 mt_M_drawArea 20 [(0, .ref 49), (1, .int x1), (2, .long z.1)] [] (z.2.1, z.2.2, RC n, n) 0 0 Q) (fun z hF => t_M_drawArea_s20 hn (fun p h => hq p h) (fun z h => h) hF) s hF
set_option maxHeartbeats 4000000 in
set_option maxRecDepth 100000 in
theorem t_M_drawArea_b0 {x1 : Int32} {n : Nat} {I : xm_I} {L : xm_L} {K : xm_I × xm_L → Prop} {Q : Option Value → xm_H → Prop} (hn : 86 ≤ n) (hq : ∀ p : xm_I × xm_L, K p → Q none (p.1, p.2, RC n, n)) (hF : ok (f_M_drawArea_b0 x1 I L) K) : xm_J 3 mt_M_drawArea 0 [(0, .ref 49), (1, .int x1)] [] (I, L, RC n, n) 0 0 Q := by
  unfold f_M_drawArea_b0 at hF
  refine r_aload_n (i := 0) (k0 := 0) rfl rfl rfl ?_
  refine q_geti (i := 1) rfl fl_M_57 (xm_in rfl hn) rfl ?_
  refine r_i2l (i := 2) rfl ?_
  refine r_aload_n (i := 3) (k0 := 0) rfl rfl rfl ?_
  refine q_geti (i := 4) rfl fl_M_221 (xm_in rfl hn) rfl ?_
  refine r_i2l (i := 5) rfl ?_
  refine r_aload_n (i := 6) (k0 := 0) rfl rfl rfl ?_
  refine q_geti (i := 7) rfl fl_M_57 (xm_in rfl hn) rfl ?_
  refine r_i2l (i := 8) rfl ?_
  refine c_S2L (i := 9) rfl sm_M_ceiling lk_M_355 (t_M_ceiling hn (ok_bind hF)) (Nat.le_of_ble_eq_true rfl) rfl (Nat.le_of_ble_eq_true rfl) (fun p_1 hF => ?_)
  refine r_lmul (i := 10) rfl ?_
  refine r_lstore_n (i := 11) (Ls' := [(2, _), (0, _), (1, _)]) rfl rfl (Nat.le_of_ble_eq_true rfl) rfl ?_
  refine xm_sub (Ls' := [(0, _), (1, _), (2, _)]) [1, 2, 0] rfl ?_
  exact t_M_drawArea_b20 hn (fun p h => hq p h) hF
set_option maxHeartbeats 4000000 in
set_option maxRecDepth 100000 in
theorem t_M_drawArea {x1 : Int32} {n : Nat} {I : xm_I} {L : xm_L} {K : xm_I × xm_L → Prop} (hn : 86 ≤ n) (hF : ok (f_M_drawArea x1 I L) K) : xm_C 3 mt_M_drawArea [.ref 49, .int x1] (I, L, RC n, n) 0 0 (pV (fun p : xm_I × xm_L => (p.1, p.2, RC n, n)) K) := by
  unfold f_M_drawArea at hF
  refine xm_enter (by decide +kernel) dv_M_drawArea (Nat.le_of_ble_eq_true rfl) ?_
  exact t_M_drawArea_b0 hn (fun p hp => ⟨p, rfl, rfl, hp⟩) hF

noncomputable def f_M_has_b0 (x1 : Int32) (x2 : Int32) (I : xm_I) : Option (Int32) :=
  if x1 < (I 49 15) then (
    some (0))
  else (
  if (I 49 16) < x1 then (
    some (0))
  else (
  if x2 < (I 49 17) then (
    some (0))
  else (
  if (I 49 18) < x2 then (
    some (0))
  else (
  some (1)))))
noncomputable def f_M_has (x1 : Int32) (x2 : Int32) (I : xm_I) : Option (Int32) := f_M_has_b0 x1 x2 I
set_option maxHeartbeats 4000000 in
set_option maxRecDepth 100000 in
theorem t_M_has_b0 {x1 : Int32} {x2 : Int32} {n : Nat} {I : xm_I} {L : xm_L} {K : Int32 → Prop} {Q : Option Value → xm_H → Prop} (hn : 86 ≤ n) (hq : ∀ p : Int32, K p → Q (some (.int p)) (I, L, RC n, n)) (hF : ok (f_M_has_b0 x1 x2 I) K) : xm_J 0 mt_M_has 0 [(0, .ref 49), (1, .int x1), (2, .int x2)] [] (I, L, RC n, n) 0 0 Q := by
  unfold f_M_has_b0 at hF
  refine r_iload_n (i := 0) (k0 := 1) rfl rfl rfl ?_
  refine r_aload_n (i := 1) (k0 := 0) rfl rfl rfl ?_
  refine q_geti (i := 2) rfl fl_M_218 (xm_in rfl hn) rfl ?_
  refine r_icmplt (i := 3) (tgt := 36) rfl (by decide) (fun hc => ?_) (fun hc => ?_)
  · have hF := ok_it hc hF
    refine r_iconst (v := 0) (i := 18) rfl ki_0 ?_
    have hQ := hq _ (ok_some hF)
    exact r_ireturn (i := 19) rfl rfl rfl hQ
  have hF := ok_if hc hF
  refine r_iload_n (i := 4) (k0 := 1) rfl rfl rfl ?_
  refine r_aload_n (i := 5) (k0 := 0) rfl rfl rfl ?_
  refine q_geti (i := 6) rfl fl_M_44 (xm_in rfl hn) rfl ?_
  refine r_icmpgt (i := 7) (tgt := 36) rfl (by decide) (fun hc => ?_) (fun hc => ?_)
  · have hF := ok_it hc hF
    refine r_iconst (v := 0) (i := 18) rfl ki_0 ?_
    have hQ := hq _ (ok_some hF)
    exact r_ireturn (i := 19) rfl rfl rfl hQ
  have hF := ok_if hc hF
  refine r_iload_n (i := 8) (k0 := 2) rfl rfl rfl ?_
  refine r_aload_n (i := 9) (k0 := 0) rfl rfl rfl ?_
  refine q_geti (i := 10) rfl fl_M_221 (xm_in rfl hn) rfl ?_
  refine r_icmplt (i := 11) (tgt := 36) rfl (by decide) (fun hc => ?_) (fun hc => ?_)
  · have hF := ok_it hc hF
    refine r_iconst (v := 0) (i := 18) rfl ki_0 ?_
    have hQ := hq _ (ok_some hF)
    exact r_ireturn (i := 19) rfl rfl rfl hQ
  have hF := ok_if hc hF
  refine r_iload_n (i := 12) (k0 := 2) rfl rfl rfl ?_
  refine r_aload_n (i := 13) (k0 := 0) rfl rfl rfl ?_
  refine q_geti (i := 14) rfl fl_M_48 (xm_in rfl hn) rfl ?_
  refine r_icmpgt (i := 15) (tgt := 36) rfl (by decide) (fun hc => ?_) (fun hc => ?_)
  · have hF := ok_it hc hF
    refine r_iconst (v := 0) (i := 18) rfl ki_0 ?_
    have hQ := hq _ (ok_some hF)
    exact r_ireturn (i := 19) rfl rfl rfl hQ
  have hF := ok_if hc hF
  refine r_iconst (v := 1) (i := 16) rfl ki_1 ?_
  refine r_goto (i := 17) (tgt := 37) rfl (by decide) ?_
  have hQ := hq _ (ok_some hF)
  exact r_ireturn (i := 19) rfl rfl rfl hQ
set_option maxHeartbeats 4000000 in
set_option maxRecDepth 100000 in
theorem t_M_has {x1 : Int32} {x2 : Int32} {n : Nat} {I : xm_I} {L : xm_L} {K : Int32 → Prop} (hn : 86 ≤ n) (hF : ok (f_M_has x1 x2 I) K) : xm_C 0 mt_M_has [.ref 49, .int x1, .int x2] (I, L, RC n, n) 0 0 (pI (fun p : Int32 => p) (fun p : Int32 => (I, L, RC n, n)) K) := by
  unfold f_M_has at hF
  refine xm_enter (by decide +kernel) dv_M_has (Nat.le_of_ble_eq_true rfl) ?_
  exact t_M_has_b0 hn (fun p hp => ⟨p, rfl, rfl, hp⟩) hF

noncomputable def f_M_octant_b39 (x0 : Int32) (x1 : Int32) : Option (Int32) :=
  if 0 ≤ x0 then (
    if (-x1) ≤ x0 then (
      some (7))
    else (
    some (6)))
  else (
  if (-x0) ≤ (-x1) then (
    some (5))
  else (
  some (4)))
noncomputable def f_M_octant_b19 (x0 : Int32) (x1 : Int32) : Option (Int32) :=
  if 0 < x0 then (
    f_M_octant_b39 x0 x1)
  else (
  if x1 ≤ 0 then (
    f_M_octant_b39 x0 x1)
  else (
  if x1 ≤ (-x0) then (
    some (3))
  else (
  some (2))))
noncomputable def f_M_octant_b0 (x0 : Int32) (x1 : Int32) : Option (Int32) :=
  if x1 < 0 then (
    f_M_octant_b19 x0 x1)
  else (
  if x0 ≤ 0 then (
    f_M_octant_b19 x0 x1)
  else (
  if x0 ≤ x1 then (
    some (1))
  else (
  some (0))))
noncomputable def f_M_octant (x0 : Int32) (x1 : Int32) : Option (Int32) := f_M_octant_b0 x0 x1
set_option maxHeartbeats 4000000 in
set_option maxRecDepth 100000 in
theorem t_M_octant_b39 {x0 : Int32} {x1 : Int32} {n : Nat} {I : xm_I} {L : xm_L} {K : Int32 → Prop} {Q : Option Value → xm_H → Prop} (hn : 86 ≤ n) (hq : ∀ p : Int32, K p → Q (some (.int p)) (I, L, RC n, n)) (hF : ok (f_M_octant_b39 x0 x1) K) : xm_J 0 mt_M_octant 39 [(0, .int x0), (1, .int x1)] [] (I, L, RC n, n) 0 0 Q := by
  unfold f_M_octant_b39 at hF
  refine r_iload_n (i := 23) (k0 := 0) rfl rfl rfl ?_
  refine r_ifge (i := 24) (tgt := 56) rfl (by decide) (fun hc => ?_) (fun hc => ?_)
  · have hF := ok_it hc hF
    refine r_iload_n (i := 34) (k0 := 0) rfl rfl rfl ?_
    refine r_iload_n (i := 35) (k0 := 1) rfl rfl rfl ?_
    refine r_ineg (i := 36) rfl ?_
    refine r_icmpge (i := 37) (tgt := 67) rfl (by decide) (fun hc => ?_) (fun hc => ?_)
    · have hF := ok_it hc hF
      refine r_bipush (v := 7) (i := 40) rfl kb_7 ?_
      have hQ := hq _ (ok_some hF)
      exact r_ireturn (i := 41) rfl rfl rfl hQ
    have hF := ok_if hc hF
    refine r_bipush (v := 6) (i := 38) rfl kb_6 ?_
    refine r_goto (i := 39) (tgt := 69) rfl (by decide) ?_
    have hQ := hq _ (ok_some hF)
    exact r_ireturn (i := 41) rfl rfl rfl hQ
  have hF := ok_if hc hF
  refine r_iload_n (i := 25) (k0 := 1) rfl rfl rfl ?_
  refine r_ineg (i := 26) rfl ?_
  refine r_iload_n (i := 27) (k0 := 0) rfl rfl rfl ?_
  refine r_ineg (i := 28) rfl ?_
  refine r_icmpge (i := 29) (tgt := 54) rfl (by decide) (fun hc => ?_) (fun hc => ?_)
  · have hF := ok_it hc hF
    refine r_iconst (v := 5) (i := 32) rfl ki_5 ?_
    have hQ := hq _ (ok_some hF)
    exact r_ireturn (i := 33) rfl rfl rfl hQ
  have hF := ok_if hc hF
  refine r_iconst (v := 4) (i := 30) rfl ki_4 ?_
  refine r_goto (i := 31) (tgt := 55) rfl (by decide) ?_
  have hQ := hq _ (ok_some hF)
  exact r_ireturn (i := 33) rfl rfl rfl hQ
set_option maxHeartbeats 4000000 in
set_option maxRecDepth 100000 in
theorem t_M_octant_b19 {x0 : Int32} {x1 : Int32} {n : Nat} {I : xm_I} {L : xm_L} {K : Int32 → Prop} {Q : Option Value → xm_H → Prop} (hn : 86 ≤ n) (hq : ∀ p : Int32, K p → Q (some (.int p)) (I, L, RC n, n)) (hF : ok (f_M_octant_b19 x0 x1) K) : xm_J 0 mt_M_octant 19 [(0, .int x0), (1, .int x1)] [] (I, L, RC n, n) 0 0 Q := by
  unfold f_M_octant_b19 at hF
  refine r_iload_n (i := 11) (k0 := 0) rfl rfl rfl ?_
  refine r_ifgt (i := 12) (tgt := 39) rfl (by decide) (fun hc => ?_) (fun hc => ?_)
  · have hF := ok_it hc hF
    exact t_M_octant_b39 hn (fun p h => hq p h) hF
  have hF := ok_if hc hF
  refine r_iload_n (i := 13) (k0 := 1) rfl rfl rfl ?_
  refine r_ifle (i := 14) (tgt := 39) rfl (by decide) (fun hc => ?_) (fun hc => ?_)
  · have hF := ok_it hc hF
    exact t_M_octant_b39 hn (fun p h => hq p h) hF
  have hF := ok_if hc hF
  refine r_iload_n (i := 15) (k0 := 0) rfl rfl rfl ?_
  refine r_ineg (i := 16) rfl ?_
  refine r_iload_n (i := 17) (k0 := 1) rfl rfl rfl ?_
  refine r_icmpge (i := 18) (tgt := 37) rfl (by decide) (fun hc => ?_) (fun hc => ?_)
  · have hF := ok_it hc hF
    refine r_iconst (v := 3) (i := 21) rfl ki_3 ?_
    have hQ := hq _ (ok_some hF)
    exact r_ireturn (i := 22) rfl rfl rfl hQ
  have hF := ok_if hc hF
  refine r_iconst (v := 2) (i := 19) rfl ki_2 ?_
  refine r_goto (i := 20) (tgt := 38) rfl (by decide) ?_
  have hQ := hq _ (ok_some hF)
  exact r_ireturn (i := 22) rfl rfl rfl hQ
set_option maxHeartbeats 4000000 in
set_option maxRecDepth 100000 in
theorem t_M_octant_b0 {x0 : Int32} {x1 : Int32} {n : Nat} {I : xm_I} {L : xm_L} {K : Int32 → Prop} {Q : Option Value → xm_H → Prop} (hn : 86 ≤ n) (hq : ∀ p : Int32, K p → Q (some (.int p)) (I, L, RC n, n)) (hF : ok (f_M_octant_b0 x0 x1) K) : xm_J 0 mt_M_octant 0 [(0, .int x0), (1, .int x1)] [] (I, L, RC n, n) 0 0 Q := by
  unfold f_M_octant_b0 at hF
  refine r_iload_n (i := 0) (k0 := 1) rfl rfl rfl ?_
  refine r_iflt (i := 1) (tgt := 19) rfl (by decide) (fun hc => ?_) (fun hc => ?_)
  · have hF := ok_it hc hF
    exact t_M_octant_b19 hn (fun p h => hq p h) hF
  have hF := ok_if hc hF
  refine r_iload_n (i := 2) (k0 := 0) rfl rfl rfl ?_
  refine r_ifle (i := 3) (tgt := 19) rfl (by decide) (fun hc => ?_) (fun hc => ?_)
  · have hF := ok_it hc hF
    exact t_M_octant_b19 hn (fun p h => hq p h) hF
  have hF := ok_if hc hF
  refine r_iload_n (i := 4) (k0 := 1) rfl rfl rfl ?_
  refine r_iload_n (i := 5) (k0 := 0) rfl rfl rfl ?_
  refine r_icmpge (i := 6) (tgt := 17) rfl (by decide) (fun hc => ?_) (fun hc => ?_)
  · have hF := ok_it hc hF
    refine r_iconst (v := 1) (i := 9) rfl ki_1 ?_
    have hQ := hq _ (ok_some hF)
    exact r_ireturn (i := 10) rfl rfl rfl hQ
  have hF := ok_if hc hF
  refine r_iconst (v := 0) (i := 7) rfl ki_0 ?_
  refine r_goto (i := 8) (tgt := 18) rfl (by decide) ?_
  have hQ := hq _ (ok_some hF)
  exact r_ireturn (i := 10) rfl rfl rfl hQ
set_option maxHeartbeats 4000000 in
set_option maxRecDepth 100000 in
theorem t_M_octant {x0 : Int32} {x1 : Int32} {n : Nat} {I : xm_I} {L : xm_L} {K : Int32 → Prop} (hn : 86 ≤ n) (hF : ok (f_M_octant x0 x1) K) : xm_C 0 mt_M_octant [.int x0, .int x1] (I, L, RC n, n) 0 0 (pI (fun p : Int32 => p) (fun p : Int32 => (I, L, RC n, n)) K) := by
  unfold f_M_octant at hF
  refine xm_enter (by decide +kernel) dv_M_octant (Nat.le_of_ble_eq_true rfl) ?_
  exact t_M_octant_b0 hn (fun p hp => ⟨p, rfl, rfl, hp⟩) hF

noncomputable def f_M_root_b48 (l0 : Int64) (l2 : Int64) (l4 : Int64) : Option ((Int64 × Int64) ⊕ (Int64)) :=
  some (.inl (l2, l4))
noncomputable def f_M_root_s7 (l0 : Int64) (s : Int64 × Int64) : Option ((Int64 × Int64) ⊕ (Int64)) :=
  if s.2 ≤ s.1 then (
    some (.inr (s.1)))
  else (
  let l6_1 : Int64 := ((s.1 + s.2) + 1) / 2
  if l0 < (l6_1 * l6_1) then (
    let l4_2 : Int64 := l6_1 - 1
    f_M_root_b48 l0 s.1 l4_2)
  else (
  f_M_root_b48 l0 l6_1 s.2))
noncomputable def f_M_root_b7 (l0 : Int64) (s : Int64 × Int64) : Option (Int64) := lp (f_M_root_s7 l0) s
noncomputable def f_M_root_b0 (l0 : Int64) : Option (Int64) :=
  f_M_root_b7 l0 (0, 100000000)
noncomputable def f_M_root (l0 : Int64) : Option (Int64) := f_M_root_b0 l0
set_option maxHeartbeats 4000000 in
set_option maxRecDepth 100000 in
theorem t_M_root_b48 {l0 : Int64} {l2 : Int64} {l4 : Int64} {n : Nat} {I : xm_I} {L : xm_L} {K : (Int64 × Int64) ⊕ (Int64) → Prop} {Q : Option Value → xm_H → Prop} (hn : 86 ≤ n) (hq : ∀ p : Int64, K (.inr p) → Q (some (.long p)) (I, L, RC n, n)) (hg0 : ∀ s : Int64 × Int64, K (.inl s) → xm_J 0 mt_M_root 7 [(0, .long l0), (2, .long s.1), (4, .long s.2)] [] (I, L, RC n, n) 0 0 Q) (hF : ok (f_M_root_b48 l0 l2 l4) K) : xm_J 0 mt_M_root 48 [(0, .long l0), (2, .long l2), (4, .long l4)] [] (I, L, RC n, n) 0 0 Q := by
  unfold f_M_root_b48 at hF
  refine r_goto (i := 29) (tgt := 7) rfl (by decide) ?_
  have hJ := hg0 _ (ok_some hF)
  exact hJ
set_option maxHeartbeats 4000000 in
set_option maxRecDepth 100000 in
theorem t_M_root_s7 {l0 : Int64} {s : Int64 × Int64} {n : Nat} {I : xm_I} {L : xm_L} {K : (Int64 × Int64) ⊕ (Int64) → Prop} {Q : Option Value → xm_H → Prop} (hn : 86 ≤ n) (hq : ∀ p : Int64, K (.inr p) → Q (some (.long p)) (I, L, RC n, n)) (hg0 : ∀ s : Int64 × Int64, K (.inl s) → xm_J 0 mt_M_root 7 [(0, .long l0), (2, .long s.1), (4, .long s.2)] [] (I, L, RC n, n) 0 0 Q) (hF : ok (f_M_root_s7 l0 s) K) : xm_J 0 mt_M_root 7 [(0, .long l0), (2, .long s.1), (4, .long s.2)] [] (I, L, RC n, n) 0 0 Q := by
  unfold f_M_root_s7 at hF
  refine r_lload_n (i := 4) (k0 := 1) rfl rfl rfl ?_
  refine r_lload (i := 5) (k0 := 2) rfl rfl ?_
  refine r_lcmpge (i := 6) (j := 7) (tgt := 51) rfl rfl (by decide) (fun hc => ?_) (fun hc => ?_)
  · have hF := ok_it hc hF
    refine r_lload_n (i := 30) (k0 := 1) rfl rfl rfl ?_
    have hQ := hq _ (ok_some hF)
    exact r_lreturn (i := 31) rfl rfl hQ
  have hF := ok_if hc hF
  refine r_lload_n (i := 8) (k0 := 1) rfl rfl rfl ?_
  refine r_lload (i := 9) (k0 := 2) rfl rfl ?_
  refine r_ladd (i := 10) rfl ?_
  refine r_lconst (v := 1) (i := 11) rfl rfl ?_
  refine r_ladd (i := 12) rfl ?_
  refine r_ldc2 (i := 13) rfl ct_M_189 ?_
  refine r_ldiv (i := 14) rfl (by decide) ?_
  refine r_lstore (i := 15) (Ls' := [(6, _), (0, _), (2, _), (4, _)]) rfl (Nat.le_of_ble_eq_true rfl) rfl ?_
  refine r_lload (i := 16) (k0 := 0) rfl rfl ?_
  refine r_lload (i := 17) (k0 := 0) rfl rfl ?_
  refine r_lmul (i := 18) rfl ?_
  refine r_lload_n (i := 19) (k0 := 1) rfl rfl rfl ?_
  refine r_lcmpgt (i := 20) (j := 21) (tgt := 42) rfl rfl (by decide) (fun hc => ?_) (fun hc => ?_)
  · have hF := ok_it hc hF
    refine r_lload (i := 25) (k0 := 0) rfl rfl ?_
    refine r_lconst (v := 1) (i := 26) rfl rfl ?_
    refine r_lsub (i := 27) rfl ?_
    refine r_lstore (i := 28) (Ls' := [(4, _), (6, _), (0, _), (2, _)]) rfl (Nat.le_of_ble_eq_true rfl) rfl ?_
    refine xm_sub (Ls' := [(0, _), (2, _), (4, _)]) [2, 3, 0] rfl ?_
    exact t_M_root_b48 hn (fun p h => hq p h) (fun z h => hg0 z h) hF
  have hF := ok_if hc hF
  refine r_lload (i := 22) (k0 := 0) rfl rfl ?_
  refine r_lstore_n (i := 23) (Ls' := [(2, _), (6, _), (0, _), (4, _)]) rfl rfl (Nat.le_of_ble_eq_true rfl) rfl ?_
  refine r_goto (i := 24) (tgt := 48) rfl (by decide) ?_
  refine xm_sub (Ls' := [(0, _), (2, _), (4, _)]) [2, 0, 3] rfl ?_
  exact t_M_root_b48 hn (fun p h => hq p h) (fun z h => hg0 z h) hF
set_option maxHeartbeats 4000000 in
set_option maxRecDepth 100000 in
theorem t_M_root_b7 {l0 : Int64} {s : Int64 × Int64} {n : Nat} {I : xm_I} {L : xm_L} {K : Int64 → Prop} {Q : Option Value → xm_H → Prop} (hn : 86 ≤ n) (hq : ∀ p : Int64, K p → Q (some (.long p)) (I, L, RC n, n)) (hF : ok (f_M_root_b7 l0 s) K) : xm_J 0 mt_M_root 7 [(0, .long l0), (2, .long s.1), (4, .long s.2)] [] (I, L, RC n, n) 0 0 Q :=
  lp_J (G := fun z => xm_J 0 mt_M_root 7 [(0, .long l0), (2, .long z.1), (4, .long z.2)] [] (I, L, RC n, n) 0 0 Q) (fun z hF => t_M_root_s7 hn (fun p h => hq p h) (fun z h => h) hF) s hF
set_option maxHeartbeats 4000000 in
set_option maxRecDepth 100000 in
theorem t_M_root_b0 {l0 : Int64} {n : Nat} {I : xm_I} {L : xm_L} {K : Int64 → Prop} {Q : Option Value → xm_H → Prop} (hn : 86 ≤ n) (hq : ∀ p : Int64, K p → Q (some (.long p)) (I, L, RC n, n)) (hF : ok (f_M_root_b0 l0) K) : xm_J 0 mt_M_root 0 [(0, .long l0)] [] (I, L, RC n, n) 0 0 Q := by
  unfold f_M_root_b0 at hF
  refine r_lconst (v := 0) (i := 0) rfl rfl ?_
  refine r_lstore_n (i := 1) (Ls' := [(2, _), (0, _)]) rfl rfl (Nat.le_of_ble_eq_true rfl) rfl ?_
  refine r_ldc2 (i := 2) rfl ct_M_369 ?_
  refine r_lstore (i := 3) (Ls' := [(4, _), (2, _), (0, _)]) rfl (Nat.le_of_ble_eq_true rfl) rfl ?_
  refine xm_sub (Ls' := [(0, _), (2, _), (4, _)]) [2, 1, 0] rfl ?_
  exact t_M_root_b7 hn (fun p h => hq p h) hF
set_option maxHeartbeats 4000000 in
set_option maxRecDepth 100000 in
theorem t_M_root {l0 : Int64} {n : Nat} {I : xm_I} {L : xm_L} {K : Int64 → Prop} (hn : 86 ≤ n) (hF : ok (f_M_root l0) K) : xm_C 0 mt_M_root [.long l0] (I, L, RC n, n) 0 0 (pL (fun p : Int64 => p) (fun p : Int64 => (I, L, RC n, n)) K) := by
  unfold f_M_root at hF
  refine xm_enter (by decide +kernel) dv_M_root (Nat.le_of_ble_eq_true rfl) ?_
  exact t_M_root_b0 hn (fun p hp => ⟨p, rfl, rfl, hp⟩) hF

noncomputable def f_M_squareOf_b0 (x1 : Int32) (I : xm_I) : Option (Int64) :=
  (f_M_cornerX x1 1 I).bind fun p_1 =>
  (f_M_cornerX x1 0 I).bind fun p_2 =>
  let l2_3 : Int64 := Int32.toInt64 (p_1 - p_2)
  (f_M_cornerY x1 1 I).bind fun p_4 =>
  (f_M_cornerY x1 0 I).bind fun p_5 =>
  let l4_6 : Int64 := Int32.toInt64 (p_4 - p_5)
  some ((l2_3 * l2_3) + (l4_6 * l4_6))
noncomputable def f_M_squareOf (x1 : Int32) (I : xm_I) : Option (Int64) := f_M_squareOf_b0 x1 I
set_option maxHeartbeats 4000000 in
set_option maxRecDepth 100000 in
theorem t_M_squareOf_b0 {x1 : Int32} {n : Nat} {I : xm_I} {L : xm_L} {K : Int64 → Prop} {Q : Option Value → xm_H → Prop} (hn : 86 ≤ n) (hq : ∀ p : Int64, K p → Q (some (.long p)) (I, L, RC n, n)) (hF : ok (f_M_squareOf_b0 x1 I) K) : xm_J 2 mt_M_squareOf 0 [(0, .ref 49), (1, .int x1)] [] (I, L, RC n, n) 0 0 Q := by
  unfold f_M_squareOf_b0 at hF
  refine r_aload_n (i := 0) (k0 := 0) rfl rfl rfl ?_
  refine r_iload_n (i := 1) (k0 := 1) rfl rfl rfl ?_
  refine r_iconst (v := 1) (i := 2) rfl ki_1 ?_
  refine c_V2I (i := 3) rfl vm_M_cornerX lk_M_193 (t_M_cornerX hn (ok_bind hF)) (Nat.le_of_ble_eq_true rfl) (xm_in rfl hn) rfl rfl (Nat.le_of_ble_eq_true rfl) (fun p_1 hF => ?_)
  refine r_aload_n (i := 4) (k0 := 0) rfl rfl rfl ?_
  refine r_iload_n (i := 5) (k0 := 1) rfl rfl rfl ?_
  refine r_iconst (v := 0) (i := 6) rfl ki_0 ?_
  refine c_V2I (i := 7) rfl vm_M_cornerX lk_M_193 (t_M_cornerX hn (ok_bind hF)) (Nat.le_of_ble_eq_true rfl) (xm_in rfl hn) rfl rfl (Nat.le_of_ble_eq_true rfl) (fun p_2 hF => ?_)
  refine r_isub (i := 8) rfl ?_
  refine r_i2l (i := 9) rfl ?_
  refine r_lstore_n (i := 10) (Ls' := [(2, _), (0, _), (1, _)]) rfl rfl (Nat.le_of_ble_eq_true rfl) rfl ?_
  refine r_aload_n (i := 11) (k0 := 1) rfl rfl rfl ?_
  refine r_iload_n (i := 12) (k0 := 2) rfl rfl rfl ?_
  refine r_iconst (v := 1) (i := 13) rfl ki_1 ?_
  refine c_V2I (i := 14) rfl vm_M_cornerY lk_M_197 (t_M_cornerY hn (ok_bind hF)) (Nat.le_of_ble_eq_true rfl) (xm_in rfl hn) rfl rfl (Nat.le_of_ble_eq_true rfl) (fun p_4 hF => ?_)
  refine r_aload_n (i := 15) (k0 := 1) rfl rfl rfl ?_
  refine r_iload_n (i := 16) (k0 := 2) rfl rfl rfl ?_
  refine r_iconst (v := 0) (i := 17) rfl ki_0 ?_
  refine c_V2I (i := 18) rfl vm_M_cornerY lk_M_197 (t_M_cornerY hn (ok_bind hF)) (Nat.le_of_ble_eq_true rfl) (xm_in rfl hn) rfl rfl (Nat.le_of_ble_eq_true rfl) (fun p_5 hF => ?_)
  refine r_isub (i := 19) rfl ?_
  refine r_i2l (i := 20) rfl ?_
  refine r_lstore (i := 21) (Ls' := [(4, _), (2, _), (0, _), (1, _)]) rfl (Nat.le_of_ble_eq_true rfl) rfl ?_
  refine r_lload_n (i := 22) (k0 := 1) rfl rfl rfl ?_
  refine r_lload_n (i := 23) (k0 := 1) rfl rfl rfl ?_
  refine r_lmul (i := 24) rfl ?_
  refine r_lload (i := 25) (k0 := 0) rfl rfl ?_
  refine r_lload (i := 26) (k0 := 0) rfl rfl ?_
  refine r_lmul (i := 27) rfl ?_
  refine r_ladd (i := 28) rfl ?_
  have hQ := hq _ (ok_some hF)
  exact r_lreturn (i := 29) rfl rfl hQ
set_option maxHeartbeats 4000000 in
set_option maxRecDepth 100000 in
theorem t_M_squareOf {x1 : Int32} {n : Nat} {I : xm_I} {L : xm_L} {K : Int64 → Prop} (hn : 86 ≤ n) (hF : ok (f_M_squareOf x1 I) K) : xm_C 2 mt_M_squareOf [.ref 49, .int x1] (I, L, RC n, n) 0 0 (pL (fun p : Int64 => p) (fun p : Int64 => (I, L, RC n, n)) K) := by
  unfold f_M_squareOf at hF
  refine xm_enter (by decide +kernel) dv_M_squareOf (Nat.le_of_ble_eq_true rfl) ?_
  exact t_M_squareOf_b0 hn (fun p hp => ⟨p, rfl, rfl, hp⟩) hF

noncomputable def f_M_far_b0 (l0 : Int64) (l2 : Int64) (l4 : Int64) : Option (Int64) :=
  if (l0 - l2) ≤ (l4 - l0) then (
    some (l4 - l0))
  else (
  some (l0 - l2))
noncomputable def f_M_far (l0 : Int64) (l2 : Int64) (l4 : Int64) : Option (Int64) := f_M_far_b0 l0 l2 l4
set_option maxHeartbeats 4000000 in
set_option maxRecDepth 100000 in
theorem t_M_far_b0 {l0 : Int64} {l2 : Int64} {l4 : Int64} {n : Nat} {I : xm_I} {L : xm_L} {K : Int64 → Prop} {Q : Option Value → xm_H → Prop} (hn : 86 ≤ n) (hq : ∀ p : Int64, K p → Q (some (.long p)) (I, L, RC n, n)) (hF : ok (f_M_far_b0 l0 l2 l4) K) : xm_J 0 mt_M_far 0 [(0, .long l0), (2, .long l2), (4, .long l4)] [] (I, L, RC n, n) 0 0 Q := by
  unfold f_M_far_b0 at hF
  refine r_lload_n (i := 0) (k0 := 0) rfl rfl rfl ?_
  refine r_lload_n (i := 1) (k0 := 1) rfl rfl rfl ?_
  refine r_lsub (i := 2) rfl ?_
  refine r_lload (i := 3) (k0 := 2) rfl rfl ?_
  refine r_lload_n (i := 4) (k0 := 0) rfl rfl rfl ?_
  refine r_lsub (i := 5) rfl ?_
  refine r_lcmple (i := 6) (j := 7) (tgt := 17) rfl rfl (by decide) (fun hc => ?_) (fun hc => ?_)
  · have hF := ok_it hc hF
    refine r_lload (i := 12) (k0 := 2) rfl rfl ?_
    refine r_lload_n (i := 13) (k0 := 0) rfl rfl rfl ?_
    refine r_lsub (i := 14) rfl ?_
    have hQ := hq _ (ok_some hF)
    exact r_lreturn (i := 15) rfl rfl hQ
  have hF := ok_if hc hF
  refine r_lload_n (i := 8) (k0 := 0) rfl rfl rfl ?_
  refine r_lload_n (i := 9) (k0 := 1) rfl rfl rfl ?_
  refine r_lsub (i := 10) rfl ?_
  refine r_goto (i := 11) (tgt := 21) rfl (by decide) ?_
  have hQ := hq _ (ok_some hF)
  exact r_lreturn (i := 15) rfl rfl hQ
set_option maxHeartbeats 4000000 in
set_option maxRecDepth 100000 in
theorem t_M_far {l0 : Int64} {l2 : Int64} {l4 : Int64} {n : Nat} {I : xm_I} {L : xm_L} {K : Int64 → Prop} (hn : 86 ≤ n) (hF : ok (f_M_far l0 l2 l4) K) : xm_C 0 mt_M_far [.long l0, .long l2, .long l4] (I, L, RC n, n) 0 0 (pL (fun p : Int64 => p) (fun p : Int64 => (I, L, RC n, n)) K) := by
  unfold f_M_far at hF
  refine xm_enter (by decide +kernel) dv_M_far (Nat.le_of_ble_eq_true rfl) ?_
  exact t_M_far_b0 hn (fun p hp => ⟨p, rfl, rfl, hp⟩) hF

noncomputable def f_M_near_b0 (l0 : Int64) (l2 : Int64) (l4 : Int64) : Option (Int64) :=
  if l2 ≤ l0 then (
    if l0 ≤ l4 then (
      some (0))
    else (
    some (l0 - l4)))
  else (
  some (l2 - l0))
noncomputable def f_M_near (l0 : Int64) (l2 : Int64) (l4 : Int64) : Option (Int64) := f_M_near_b0 l0 l2 l4
set_option maxHeartbeats 4000000 in
set_option maxRecDepth 100000 in
theorem t_M_near_b0 {l0 : Int64} {l2 : Int64} {l4 : Int64} {n : Nat} {I : xm_I} {L : xm_L} {K : Int64 → Prop} {Q : Option Value → xm_H → Prop} (hn : 86 ≤ n) (hq : ∀ p : Int64, K p → Q (some (.long p)) (I, L, RC n, n)) (hF : ok (f_M_near_b0 l0 l2 l4) K) : xm_J 0 mt_M_near 0 [(0, .long l0), (2, .long l2), (4, .long l4)] [] (I, L, RC n, n) 0 0 Q := by
  unfold f_M_near_b0 at hF
  refine r_lload_n (i := 0) (k0 := 0) rfl rfl rfl ?_
  refine r_lload_n (i := 1) (k0 := 1) rfl rfl rfl ?_
  refine r_lcmpge (i := 2) (j := 3) (tgt := 12) rfl rfl (by decide) (fun hc => ?_) (fun hc => ?_)
  · have hF := ok_it hc hF
    refine r_lload_n (i := 8) (k0 := 0) rfl rfl rfl ?_
    refine r_lload (i := 9) (k0 := 2) rfl rfl ?_
    refine r_lcmple (i := 10) (j := 11) (tgt := 26) rfl rfl (by decide) (fun hc => ?_) (fun hc => ?_)
    · have hF := ok_it hc hF
      refine r_lconst (v := 0) (i := 16) rfl rfl ?_
      have hQ := hq _ (ok_some hF)
      exact r_lreturn (i := 17) rfl rfl hQ
    have hF := ok_if hc hF
    refine r_lload_n (i := 12) (k0 := 0) rfl rfl rfl ?_
    refine r_lload (i := 13) (k0 := 2) rfl rfl ?_
    refine r_lsub (i := 14) rfl ?_
    refine r_goto (i := 15) (tgt := 27) rfl (by decide) ?_
    have hQ := hq _ (ok_some hF)
    exact r_lreturn (i := 17) rfl rfl hQ
  have hF := ok_if hc hF
  refine r_lload_n (i := 4) (k0 := 1) rfl rfl rfl ?_
  refine r_lload_n (i := 5) (k0 := 0) rfl rfl rfl ?_
  refine r_lsub (i := 6) rfl ?_
  refine r_goto (i := 7) (tgt := 27) rfl (by decide) ?_
  have hQ := hq _ (ok_some hF)
  exact r_lreturn (i := 17) rfl rfl hQ
set_option maxHeartbeats 4000000 in
set_option maxRecDepth 100000 in
theorem t_M_near {l0 : Int64} {l2 : Int64} {l4 : Int64} {n : Nat} {I : xm_I} {L : xm_L} {K : Int64 → Prop} (hn : 86 ≤ n) (hF : ok (f_M_near l0 l2 l4) K) : xm_C 0 mt_M_near [.long l0, .long l2, .long l4] (I, L, RC n, n) 0 0 (pL (fun p : Int64 => p) (fun p : Int64 => (I, L, RC n, n)) K) := by
  unfold f_M_near at hF
  refine xm_enter (by decide +kernel) dv_M_near (Nat.le_of_ble_eq_true rfl) ?_
  exact t_M_near_b0 hn (fun p hp => ⟨p, rfl, rfl, hp⟩) hF

noncomputable def f_M_drawCircle_b242 (x1 : Int32) (l2 : Int64) (l4 : Int64) (l6 : Int64) (y0 : Int32) (I : xm_I) (L : xm_L) : Option (xm_I) :=
  gd (¬ ((L 49 40) * (L 49 40)) = 0) <|
  (f_M_root ((((4 * l6) * (L 49 39)) * (L 49 39)) / ((L 49 40) * (L 49 40)))).bind fun p_1 =>
  let x21_2 : Int32 := Int64.toInt32 ((p_1 + 1) / 2)
  (f_M_on l2 1 1 I L).bind fun p_3 =>
  (f_M_on l4 1 0 I L).bind fun p_4 =>
  gd (0 ≤ (x1).toInt ∧ (x1).toInt < 40) <|
  (f_M_add 67 p_3 p_4 x21_2 y0 (I 57 (Int32.toNatClampNeg x1)) I).bind fun p_5 =>
  (f_M_show x1 p_3 (p_4 - x21_2) p_5).bind fun p_6 =>
  some (p_6)
noncomputable def f_M_drawCircle_b241 (x1 : Int32) (l2 : Int64) (l4 : Int64) (l6 : Int64) (I : xm_I) (L : xm_L) : Option (xm_I) :=
  f_M_drawCircle_b242 x1 l2 l4 l6 1 I L
noncomputable def f_M_drawCircle_b217 (x1 : Int32) (l2 : Int64) (l4 : Int64) (l6 : Int64) (y0 : Int64) (I : xm_I) (L : xm_L) : Option (xm_I) :=
  if y0 < 0 then (
    f_M_drawCircle_b241 x1 l2 l4 l6 I L)
  else (
  if (y0 * y0) < l6 then (
    f_M_drawCircle_b241 x1 l2 l4 l6 I L)
  else (
  f_M_drawCircle_b242 x1 l2 l4 l6 0 I L))
noncomputable def f_M_drawCircle_b188 (x1 : Int32) (l2 : Int64) (l4 : Int64) (l6 : Int64) (y0 : Int64) (I : xm_I) (L : xm_L) : Option (xm_I) :=
  if y0 ≤ ((Int32.toInt64 (I 49 18)) - l4) then (
    f_M_drawCircle_b217 x1 l2 l4 l6 y0 I L)
  else (
  f_M_drawCircle_b217 x1 l2 l4 l6 ((Int32.toInt64 (I 49 18)) - l4) I L)
noncomputable def f_M_drawCircle_b159 (x1 : Int32) (l2 : Int64) (l4 : Int64) (l6 : Int64) (y0 : Int64) (I : xm_I) (L : xm_L) : Option (xm_I) :=
  if y0 ≤ (l4 - (Int32.toInt64 (I 49 17))) then (
    f_M_drawCircle_b188 x1 l2 l4 l6 y0 I L)
  else (
  f_M_drawCircle_b188 x1 l2 l4 l6 (l4 - (Int32.toInt64 (I 49 17))) I L)
noncomputable def f_M_drawCircle_b0 (x1 : Int32) (I : xm_I) (L : xm_L) : Option (xm_I) :=
  (f_M_cornerX x1 0 I).bind fun p_1 =>
  let l2_2 : Int64 := Int32.toInt64 p_1
  (f_M_cornerY x1 0 I).bind fun p_3 =>
  let l4_4 : Int64 := Int32.toInt64 p_3
  (f_M_squareOf x1 I).bind fun p_5 =>
  (f_M_near l2_2 (Int32.toInt64 (I 49 15)) (Int32.toInt64 (I 49 16))).bind fun p_6 =>
  (f_M_near l4_4 (Int32.toInt64 (I 49 17)) (Int32.toInt64 (I 49 18))).bind fun p_7 =>
  (f_M_far l2_2 (Int32.toInt64 (I 49 15)) (Int32.toInt64 (I 49 16))).bind fun p_8 =>
  (f_M_far l4_4 (Int32.toInt64 (I 49 17)) (Int32.toInt64 (I 49 18))).bind fun p_9 =>
  if p_5 < ((p_6 * p_6) + (p_7 * p_7)) then (
    some (I))
  else (
  if p_5 ≤ ((p_8 * p_8) + (p_9 * p_9)) then (
    let l16_10 : Int64 := l2_2 - (Int32.toInt64 (I 49 15))
    if l16_10 ≤ ((Int32.toInt64 (I 49 16)) - l2_2) then (
      f_M_drawCircle_b159 x1 l2_2 l4_4 p_5 l16_10 I L)
    else (
    f_M_drawCircle_b159 x1 l2_2 l4_4 p_5 ((Int32.toInt64 (I 49 16)) - l2_2) I L))
  else (
  some (I)))
noncomputable def f_M_drawCircle (x1 : Int32) (I : xm_I) (L : xm_L) : Option (xm_I) := f_M_drawCircle_b0 x1 I L
set_option maxHeartbeats 4000000 in
set_option maxRecDepth 100000 in
theorem t_M_drawCircle_b242 {x1 : Int32} {l2 : Int64} {l4 : Int64} {l6 : Int64} {y0 : Int32} {n : Nat} {I : xm_I} {L : xm_L} {K : xm_I → Prop} {Q : Option Value → xm_H → Prop} (hn : 86 ≤ n) (hq : ∀ p : xm_I, K p → Q none (p, L, RC n, n)) (hF : ok (f_M_drawCircle_b242 x1 l2 l4 l6 y0 I L) K) : xm_J 3 mt_M_drawCircle 242 [(0, .ref 49), (1, .int x1), (2, .long l2), (4, .long l4), (6, .long l6)] [.int y0] (I, L, RC n, n) 0 0 Q := by
  unfold f_M_drawCircle_b242 at hF
  refine r_istore (i := 140) (Ls' := [(18, _), (0, _), (1, _), (2, _), (4, _), (6, _)]) rfl (Nat.le_of_ble_eq_true rfl) rfl ?_
  refine r_ldc2 (i := 141) rfl ct_M_274 ?_
  refine r_lload (i := 142) (k0 := 5) rfl rfl ?_
  refine r_lmul (i := 143) rfl ?_
  refine r_aload_n (i := 144) (k0 := 1) rfl rfl rfl ?_
  refine q_getl (i := 145) rfl fl_M_246 (xm_in rfl hn) rfl ?_
  refine r_lmul (i := 146) rfl ?_
  refine r_aload_n (i := 147) (k0 := 1) rfl rfl rfl ?_
  refine q_getl (i := 148) rfl fl_M_246 (xm_in rfl hn) rfl ?_
  refine r_lmul (i := 149) rfl ?_
  refine r_aload_n (i := 150) (k0 := 1) rfl rfl rfl ?_
  refine q_getl (i := 151) rfl fl_M_250 (xm_in rfl hn) rfl ?_
  refine r_aload_n (i := 152) (k0 := 1) rfl rfl rfl ?_
  refine q_getl (i := 153) rfl fl_M_250 (xm_in rfl hn) rfl ?_
  refine r_lmul (i := 154) rfl ?_
  obtain ⟨hi, hF⟩ := ok_gd hF
  refine r_ldiv (i := 155) rfl hi ?_
  refine c_S1L (i := 156) rfl sm_M_root lk_M_381 (t_M_root hn (ok_bind hF)) (Nat.le_of_ble_eq_true rfl) rfl (Nat.le_of_ble_eq_true rfl) (fun p_1 hF => ?_)
  refine r_lstore (i := 157) (Ls' := [(19, _), (18, _), (0, _), (1, _), (2, _), (4, _), (6, _)]) rfl (Nat.le_of_ble_eq_true rfl) rfl ?_
  refine r_lload (i := 158) (k0 := 0) rfl rfl ?_
  refine r_lconst (v := 1) (i := 159) rfl rfl ?_
  refine r_ladd (i := 160) rfl ?_
  refine r_ldc2 (i := 161) rfl ct_M_189 ?_
  refine r_ldiv (i := 162) rfl (by decide) ?_
  refine r_l2i (i := 163) rfl ?_
  refine r_istore (i := 164) (Ls' := [(21, _), (19, _), (18, _), (0, _), (1, _), (2, _), (4, _), (6, _)]) rfl (Nat.le_of_ble_eq_true rfl) rfl ?_
  refine r_aload_n (i := 165) (k0 := 3) rfl rfl rfl ?_
  refine r_lload_n (i := 166) (k0 := 5) rfl rfl rfl ?_
  refine r_lconst (v := 1) (i := 167) rfl rfl ?_
  refine r_iconst (v := 1) (i := 168) rfl ki_1 ?_
  refine c_V3I (i := 169) rfl vm_M_on lk_M_327 (t_M_on hn (ok_bind hF)) (Nat.le_of_ble_eq_true rfl) (xm_in rfl hn) rfl rfl (Nat.le_of_ble_eq_true rfl) (fun p_3 hF => ?_)
  refine r_istore (i := 170) (Ls' := [(22, _), (21, _), (19, _), (18, _), (0, _), (1, _), (2, _), (4, _), (6, _)]) rfl (Nat.le_of_ble_eq_true rfl) rfl ?_
  refine r_aload_n (i := 171) (k0 := 4) rfl rfl rfl ?_
  refine r_lload (i := 172) (k0 := 7) rfl rfl ?_
  refine r_lconst (v := 1) (i := 173) rfl rfl ?_
  refine r_iconst (v := 0) (i := 174) rfl ki_0 ?_
  refine c_V3I (i := 175) rfl vm_M_on lk_M_327 (t_M_on hn (ok_bind hF)) (Nat.le_of_ble_eq_true rfl) (xm_in rfl hn) rfl rfl (Nat.le_of_ble_eq_true rfl) (fun p_4 hF => ?_)
  refine r_istore (i := 176) (Ls' := [(23, _), (22, _), (21, _), (19, _), (18, _), (0, _), (1, _), (2, _), (4, _), (6, _)]) rfl (Nat.le_of_ble_eq_true rfl) rfl ?_
  refine r_aload_n (i := 177) (k0 := 5) rfl rfl rfl ?_
  refine r_bipush (v := 67) (i := 178) rfl kb_67 ?_
  refine r_iload (i := 179) (k0 := 1) rfl rfl ?_
  refine r_iload (i := 180) (k0 := 0) rfl rfl ?_
  refine r_iload (i := 181) (k0 := 2) rfl rfl ?_
  refine r_iload (i := 182) (k0 := 4) rfl rfl ?_
  refine r_aload_n (i := 183) (k0 := 5) rfl rfl rfl ?_
  refine q_getr (b := 57) (i := 184) rfl fl_M_31 rfl (xm_in rfl hn) rfl rfl ?_
  refine r_iload_n (i := 185) (k0 := 6) rfl rfl rfl ?_
  obtain ⟨hi, hF⟩ := ok_gd hF
  refine q_iaload (i := 186) rfl (xm_in rfl hn) rfl hi ?_
  refine c_V6V (i := 187) rfl vm_M_add lk_M_343 (t_M_add hn (ok_bind hF)) (Nat.le_of_ble_eq_true rfl) (xm_in rfl hn) rfl rfl (Nat.le_of_ble_eq_true rfl) (fun p_5 hF => ?_)
  refine r_aload_n (i := 188) (k0 := 5) rfl rfl rfl ?_
  refine r_iload_n (i := 189) (k0 := 6) rfl rfl rfl ?_
  refine r_iload (i := 190) (k0 := 1) rfl rfl ?_
  refine r_iload (i := 191) (k0 := 0) rfl rfl ?_
  refine r_iload (i := 192) (k0 := 2) rfl rfl ?_
  refine r_isub (i := 193) rfl ?_
  refine c_V3V (i := 194) rfl vm_M_show lk_M_365 (t_M_show hn (ok_bind hF)) (Nat.le_of_ble_eq_true rfl) (xm_in rfl hn) rfl rfl (Nat.le_of_ble_eq_true rfl) (fun p_6 hF => ?_)
  have hQ := hq _ (ok_some hF)
  exact r_return (i := 195) rfl rfl hQ
set_option maxHeartbeats 4000000 in
set_option maxRecDepth 100000 in
theorem t_M_drawCircle_b241 {x1 : Int32} {l2 : Int64} {l4 : Int64} {l6 : Int64} {n : Nat} {I : xm_I} {L : xm_L} {K : xm_I → Prop} {Q : Option Value → xm_H → Prop} (hn : 86 ≤ n) (hq : ∀ p : xm_I, K p → Q none (p, L, RC n, n)) (hF : ok (f_M_drawCircle_b241 x1 l2 l4 l6 I L) K) : xm_J 3 mt_M_drawCircle 241 [(0, .ref 49), (1, .int x1), (2, .long l2), (4, .long l4), (6, .long l6)] [] (I, L, RC n, n) 0 0 Q := by
  unfold f_M_drawCircle_b241 at hF
  refine r_iconst (v := 1) (i := 139) rfl ki_1 ?_
  exact t_M_drawCircle_b242 hn (fun p h => hq p h) hF
set_option maxHeartbeats 4000000 in
set_option maxRecDepth 100000 in
theorem t_M_drawCircle_b217 {x1 : Int32} {l2 : Int64} {l4 : Int64} {l6 : Int64} {y0 : Int64} {n : Nat} {I : xm_I} {L : xm_L} {K : xm_I → Prop} {Q : Option Value → xm_H → Prop} (hn : 86 ≤ n) (hq : ∀ p : xm_I, K p → Q none (p, L, RC n, n)) (hF : ok (f_M_drawCircle_b217 x1 l2 l4 l6 y0 I L) K) : xm_J 3 mt_M_drawCircle 217 [(0, .ref 49), (1, .int x1), (2, .long l2), (4, .long l4), (6, .long l6)] [.long y0] (I, L, RC n, n) 0 0 Q := by
  unfold f_M_drawCircle_b217 at hF
  refine r_lstore (i := 126) (Ls' := [(16, _), (0, _), (1, _), (2, _), (4, _), (6, _)]) rfl (Nat.le_of_ble_eq_true rfl) rfl ?_
  refine r_lload (i := 127) (k0 := 0) rfl rfl ?_
  refine r_lconst (v := 0) (i := 128) rfl rfl ?_
  refine r_lcmplt (i := 129) (j := 130) (tgt := 241) rfl rfl (by decide) (fun hc => ?_) (fun hc => ?_)
  · have hF := ok_it hc hF
    refine xm_sub (Ls' := [(0, _), (1, _), (2, _), (4, _), (6, _)]) [1, 2, 3, 4, 5] rfl ?_
    exact t_M_drawCircle_b241 hn (fun p h => hq p h) hF
  have hF := ok_if hc hF
  refine r_lload (i := 131) (k0 := 0) rfl rfl ?_
  refine r_lload (i := 132) (k0 := 0) rfl rfl ?_
  refine r_lmul (i := 133) rfl ?_
  refine r_lload (i := 134) (k0 := 5) rfl rfl ?_
  refine r_lcmplt (i := 135) (j := 136) (tgt := 241) rfl rfl (by decide) (fun hc => ?_) (fun hc => ?_)
  · have hF := ok_it hc hF
    refine xm_sub (Ls' := [(0, _), (1, _), (2, _), (4, _), (6, _)]) [1, 2, 3, 4, 5] rfl ?_
    exact t_M_drawCircle_b241 hn (fun p h => hq p h) hF
  have hF := ok_if hc hF
  refine r_iconst (v := 0) (i := 137) rfl ki_0 ?_
  refine r_goto (i := 138) (tgt := 242) rfl (by decide) ?_
  refine xm_sub (Ls' := [(0, _), (1, _), (2, _), (4, _), (6, _)]) [1, 2, 3, 4, 5] rfl ?_
  exact t_M_drawCircle_b242 hn (fun p h => hq p h) hF
set_option maxHeartbeats 4000000 in
set_option maxRecDepth 100000 in
theorem t_M_drawCircle_b188 {x1 : Int32} {l2 : Int64} {l4 : Int64} {l6 : Int64} {y0 : Int64} {n : Nat} {I : xm_I} {L : xm_L} {K : xm_I → Prop} {Q : Option Value → xm_H → Prop} (hn : 86 ≤ n) (hq : ∀ p : xm_I, K p → Q none (p, L, RC n, n)) (hF : ok (f_M_drawCircle_b188 x1 l2 l4 l6 y0 I L) K) : xm_J 3 mt_M_drawCircle 188 [(0, .ref 49), (1, .int x1), (2, .long l2), (4, .long l4), (6, .long l6)] [.long y0] (I, L, RC n, n) 0 0 Q := by
  unfold f_M_drawCircle_b188 at hF
  refine r_lstore (i := 110) (Ls' := [(16, _), (0, _), (1, _), (2, _), (4, _), (6, _)]) rfl (Nat.le_of_ble_eq_true rfl) rfl ?_
  refine r_aload_n (i := 111) (k0 := 1) rfl rfl rfl ?_
  refine q_geti (i := 112) rfl fl_M_48 (xm_in rfl hn) rfl ?_
  refine r_i2l (i := 113) rfl ?_
  refine r_lload (i := 114) (k0 := 4) rfl rfl ?_
  refine r_lsub (i := 115) rfl ?_
  refine r_lload (i := 116) (k0 := 0) rfl rfl ?_
  refine r_lcmpge (i := 117) (j := 118) (tgt := 215) rfl rfl (by decide) (fun hc => ?_) (fun hc => ?_)
  · have hF := ok_it hc hF
    refine r_lload (i := 125) (k0 := 0) rfl rfl ?_
    refine xm_sub (Ls' := [(0, _), (1, _), (2, _), (4, _), (6, _)]) [1, 2, 3, 4, 5] rfl ?_
    exact t_M_drawCircle_b217 hn (fun p h => hq p h) hF
  have hF := ok_if hc hF
  refine r_aload_n (i := 119) (k0 := 1) rfl rfl rfl ?_
  refine q_geti (i := 120) rfl fl_M_48 (xm_in rfl hn) rfl ?_
  refine r_i2l (i := 121) rfl ?_
  refine r_lload (i := 122) (k0 := 4) rfl rfl ?_
  refine r_lsub (i := 123) rfl ?_
  refine r_goto (i := 124) (tgt := 217) rfl (by decide) ?_
  refine xm_sub (Ls' := [(0, _), (1, _), (2, _), (4, _), (6, _)]) [1, 2, 3, 4, 5] rfl ?_
  exact t_M_drawCircle_b217 hn (fun p h => hq p h) hF
set_option maxHeartbeats 4000000 in
set_option maxRecDepth 100000 in
theorem t_M_drawCircle_b159 {x1 : Int32} {l2 : Int64} {l4 : Int64} {l6 : Int64} {y0 : Int64} {n : Nat} {I : xm_I} {L : xm_L} {K : xm_I → Prop} {Q : Option Value → xm_H → Prop} (hn : 86 ≤ n) (hq : ∀ p : xm_I, K p → Q none (p, L, RC n, n)) (hF : ok (f_M_drawCircle_b159 x1 l2 l4 l6 y0 I L) K) : xm_J 3 mt_M_drawCircle 159 [(0, .ref 49), (1, .int x1), (2, .long l2), (4, .long l4), (6, .long l6)] [.long y0] (I, L, RC n, n) 0 0 Q := by
  unfold f_M_drawCircle_b159 at hF
  refine r_lstore (i := 94) (Ls' := [(16, _), (0, _), (1, _), (2, _), (4, _), (6, _)]) rfl (Nat.le_of_ble_eq_true rfl) rfl ?_
  refine r_lload (i := 95) (k0 := 4) rfl rfl ?_
  refine r_aload_n (i := 96) (k0 := 1) rfl rfl rfl ?_
  refine q_geti (i := 97) rfl fl_M_221 (xm_in rfl hn) rfl ?_
  refine r_i2l (i := 98) rfl ?_
  refine r_lsub (i := 99) rfl ?_
  refine r_lload (i := 100) (k0 := 0) rfl rfl ?_
  refine r_lcmpge (i := 101) (j := 102) (tgt := 186) rfl rfl (by decide) (fun hc => ?_) (fun hc => ?_)
  · have hF := ok_it hc hF
    refine r_lload (i := 109) (k0 := 0) rfl rfl ?_
    refine xm_sub (Ls' := [(0, _), (1, _), (2, _), (4, _), (6, _)]) [1, 2, 3, 4, 5] rfl ?_
    exact t_M_drawCircle_b188 hn (fun p h => hq p h) hF
  have hF := ok_if hc hF
  refine r_lload (i := 103) (k0 := 4) rfl rfl ?_
  refine r_aload_n (i := 104) (k0 := 1) rfl rfl rfl ?_
  refine q_geti (i := 105) rfl fl_M_221 (xm_in rfl hn) rfl ?_
  refine r_i2l (i := 106) rfl ?_
  refine r_lsub (i := 107) rfl ?_
  refine r_goto (i := 108) (tgt := 188) rfl (by decide) ?_
  refine xm_sub (Ls' := [(0, _), (1, _), (2, _), (4, _), (6, _)]) [1, 2, 3, 4, 5] rfl ?_
  exact t_M_drawCircle_b188 hn (fun p h => hq p h) hF
set_option maxHeartbeats 4000000 in
set_option maxRecDepth 100000 in
theorem t_M_drawCircle_b0 {x1 : Int32} {n : Nat} {I : xm_I} {L : xm_L} {K : xm_I → Prop} {Q : Option Value → xm_H → Prop} (hn : 86 ≤ n) (hq : ∀ p : xm_I, K p → Q none (p, L, RC n, n)) (hF : ok (f_M_drawCircle_b0 x1 I L) K) : xm_J 3 mt_M_drawCircle 0 [(0, .ref 49), (1, .int x1)] [] (I, L, RC n, n) 0 0 Q := by
  unfold f_M_drawCircle_b0 at hF
  refine r_aload_n (i := 0) (k0 := 0) rfl rfl rfl ?_
  refine r_iload_n (i := 1) (k0 := 1) rfl rfl rfl ?_
  refine r_iconst (v := 0) (i := 2) rfl ki_0 ?_
  refine c_V2I (i := 3) rfl vm_M_cornerX lk_M_193 (t_M_cornerX hn (ok_bind hF)) (Nat.le_of_ble_eq_true rfl) (xm_in rfl hn) rfl rfl (Nat.le_of_ble_eq_true rfl) (fun p_1 hF => ?_)
  refine r_i2l (i := 4) rfl ?_
  refine r_lstore_n (i := 5) (Ls' := [(2, _), (0, _), (1, _)]) rfl rfl (Nat.le_of_ble_eq_true rfl) rfl ?_
  refine r_aload_n (i := 6) (k0 := 1) rfl rfl rfl ?_
  refine r_iload_n (i := 7) (k0 := 2) rfl rfl rfl ?_
  refine r_iconst (v := 0) (i := 8) rfl ki_0 ?_
  refine c_V2I (i := 9) rfl vm_M_cornerY lk_M_197 (t_M_cornerY hn (ok_bind hF)) (Nat.le_of_ble_eq_true rfl) (xm_in rfl hn) rfl rfl (Nat.le_of_ble_eq_true rfl) (fun p_3 hF => ?_)
  refine r_i2l (i := 10) rfl ?_
  refine r_lstore (i := 11) (Ls' := [(4, _), (2, _), (0, _), (1, _)]) rfl (Nat.le_of_ble_eq_true rfl) rfl ?_
  refine r_aload_n (i := 12) (k0 := 2) rfl rfl rfl ?_
  refine r_iload_n (i := 13) (k0 := 3) rfl rfl rfl ?_
  refine c_V1L (i := 14) rfl vm_M_squareOf lk_M_371 (t_M_squareOf hn (ok_bind hF)) (Nat.le_of_ble_eq_true rfl) (xm_in rfl hn) rfl rfl (Nat.le_of_ble_eq_true rfl) (fun p_5 hF => ?_)
  refine r_lstore (i := 15) (Ls' := [(6, _), (4, _), (2, _), (0, _), (1, _)]) rfl (Nat.le_of_ble_eq_true rfl) rfl ?_
  refine r_lload_n (i := 16) (k0 := 2) rfl rfl rfl ?_
  refine r_aload_n (i := 17) (k0 := 3) rfl rfl rfl ?_
  refine q_geti (i := 18) rfl fl_M_218 (xm_in rfl hn) rfl ?_
  refine r_i2l (i := 19) rfl ?_
  refine r_aload_n (i := 20) (k0 := 3) rfl rfl rfl ?_
  refine q_geti (i := 21) rfl fl_M_44 (xm_in rfl hn) rfl ?_
  refine r_i2l (i := 22) rfl ?_
  refine c_S3L (i := 23) rfl sm_M_near lk_M_374 (t_M_near hn (ok_bind hF)) (Nat.le_of_ble_eq_true rfl) rfl (Nat.le_of_ble_eq_true rfl) (fun p_6 hF => ?_)
  refine r_lstore (i := 24) (Ls' := [(8, _), (6, _), (4, _), (2, _), (0, _), (1, _)]) rfl (Nat.le_of_ble_eq_true rfl) rfl ?_
  refine r_lload (i := 25) (k0 := 2) rfl rfl ?_
  refine r_aload_n (i := 26) (k0 := 4) rfl rfl rfl ?_
  refine q_geti (i := 27) rfl fl_M_221 (xm_in rfl hn) rfl ?_
  refine r_i2l (i := 28) rfl ?_
  refine r_aload_n (i := 29) (k0 := 4) rfl rfl rfl ?_
  refine q_geti (i := 30) rfl fl_M_48 (xm_in rfl hn) rfl ?_
  refine r_i2l (i := 31) rfl ?_
  refine c_S3L (i := 32) rfl sm_M_near lk_M_374 (t_M_near hn (ok_bind hF)) (Nat.le_of_ble_eq_true rfl) rfl (Nat.le_of_ble_eq_true rfl) (fun p_7 hF => ?_)
  refine r_lstore (i := 33) (Ls' := [(10, _), (8, _), (6, _), (4, _), (2, _), (0, _), (1, _)]) rfl (Nat.le_of_ble_eq_true rfl) rfl ?_
  refine r_lload_n (i := 34) (k0 := 4) rfl rfl rfl ?_
  refine r_aload_n (i := 35) (k0 := 5) rfl rfl rfl ?_
  refine q_geti (i := 36) rfl fl_M_218 (xm_in rfl hn) rfl ?_
  refine r_i2l (i := 37) rfl ?_
  refine r_aload_n (i := 38) (k0 := 5) rfl rfl rfl ?_
  refine q_geti (i := 39) rfl fl_M_44 (xm_in rfl hn) rfl ?_
  refine r_i2l (i := 40) rfl ?_
  refine c_S3L (i := 41) rfl sm_M_far lk_M_378 (t_M_far hn (ok_bind hF)) (Nat.le_of_ble_eq_true rfl) rfl (Nat.le_of_ble_eq_true rfl) (fun p_8 hF => ?_)
  refine r_lstore (i := 42) (Ls' := [(12, _), (10, _), (8, _), (6, _), (4, _), (2, _), (0, _), (1, _)]) rfl (Nat.le_of_ble_eq_true rfl) rfl ?_
  refine r_lload (i := 43) (k0 := 4) rfl rfl ?_
  refine r_aload_n (i := 44) (k0 := 6) rfl rfl rfl ?_
  refine q_geti (i := 45) rfl fl_M_221 (xm_in rfl hn) rfl ?_
  refine r_i2l (i := 46) rfl ?_
  refine r_aload_n (i := 47) (k0 := 6) rfl rfl rfl ?_
  refine q_geti (i := 48) rfl fl_M_48 (xm_in rfl hn) rfl ?_
  refine r_i2l (i := 49) rfl ?_
  refine c_S3L (i := 50) rfl sm_M_far lk_M_378 (t_M_far hn (ok_bind hF)) (Nat.le_of_ble_eq_true rfl) rfl (Nat.le_of_ble_eq_true rfl) (fun p_9 hF => ?_)
  refine r_lstore (i := 51) (Ls' := [(14, _), (12, _), (10, _), (8, _), (6, _), (4, _), (2, _), (0, _), (1, _)]) rfl (Nat.le_of_ble_eq_true rfl) rfl ?_
  refine r_lload (i := 52) (k0 := 3) rfl rfl ?_
  refine r_lload (i := 53) (k0 := 3) rfl rfl ?_
  refine r_lmul (i := 54) rfl ?_
  refine r_lload (i := 55) (k0 := 2) rfl rfl ?_
  refine r_lload (i := 56) (k0 := 2) rfl rfl ?_
  refine r_lmul (i := 57) rfl ?_
  refine r_ladd (i := 58) rfl ?_
  refine r_lload (i := 59) (k0 := 4) rfl rfl ?_
  refine r_lcmpgt (i := 60) (j := 61) (tgt := 124) rfl rfl (by decide) (fun hc => ?_) (fun hc => ?_)
  · have hF := ok_it hc hF
    have hQ := hq _ (ok_some hF)
    exact r_return (i := 72) rfl rfl hQ
  have hF := ok_if hc hF
  refine r_lload (i := 62) (k0 := 1) rfl rfl ?_
  refine r_lload (i := 63) (k0 := 1) rfl rfl ?_
  refine r_lmul (i := 64) rfl ?_
  refine r_lload (i := 65) (k0 := 0) rfl rfl ?_
  refine r_lload (i := 66) (k0 := 0) rfl rfl ?_
  refine r_lmul (i := 67) rfl ?_
  refine r_ladd (i := 68) rfl ?_
  refine r_lload (i := 69) (k0 := 4) rfl rfl ?_
  refine r_lcmpge (i := 70) (j := 71) (tgt := 125) rfl rfl (by decide) (fun hc => ?_) (fun hc => ?_)
  · have hF := ok_it hc hF
    refine r_lload_n (i := 73) (k0 := 6) rfl rfl rfl ?_
    refine r_aload_n (i := 74) (k0 := 7) rfl rfl rfl ?_
    refine q_geti (i := 75) rfl fl_M_218 (xm_in rfl hn) rfl ?_
    refine r_i2l (i := 76) rfl ?_
    refine r_lsub (i := 77) rfl ?_
    refine r_lstore (i := 78) (Ls' := [(16, _), (14, _), (12, _), (10, _), (8, _), (6, _), (4, _), (2, _), (0, _), (1, _)]) rfl (Nat.le_of_ble_eq_true rfl) rfl ?_
    refine r_aload_n (i := 79) (k0 := 8) rfl rfl rfl ?_
    refine q_geti (i := 80) rfl fl_M_44 (xm_in rfl hn) rfl ?_
    refine r_i2l (i := 81) rfl ?_
    refine r_lload_n (i := 82) (k0 := 7) rfl rfl rfl ?_
    refine r_lsub (i := 83) rfl ?_
    refine r_lload (i := 84) (k0 := 0) rfl rfl ?_
    refine r_lcmpge (i := 85) (j := 86) (tgt := 157) rfl rfl (by decide) (fun hc => ?_) (fun hc => ?_)
    · have hF := ok_it hc hF
      refine r_lload (i := 93) (k0 := 0) rfl rfl ?_
      refine xm_sub (Ls' := [(0, _), (1, _), (2, _), (4, _), (6, _)]) [8, 9, 7, 6, 5] rfl ?_
      exact t_M_drawCircle_b159 hn (fun p h => hq p h) hF
    have hF := ok_if hc hF
    refine r_aload_n (i := 87) (k0 := 8) rfl rfl rfl ?_
    refine q_geti (i := 88) rfl fl_M_44 (xm_in rfl hn) rfl ?_
    refine r_i2l (i := 89) rfl ?_
    refine r_lload_n (i := 90) (k0 := 7) rfl rfl rfl ?_
    refine r_lsub (i := 91) rfl ?_
    refine r_goto (i := 92) (tgt := 159) rfl (by decide) ?_
    refine xm_sub (Ls' := [(0, _), (1, _), (2, _), (4, _), (6, _)]) [8, 9, 7, 6, 5] rfl ?_
    exact t_M_drawCircle_b159 hn (fun p h => hq p h) hF
  have hF := ok_if hc hF
  have hQ := hq _ (ok_some hF)
  exact r_return (i := 72) rfl rfl hQ
set_option maxHeartbeats 4000000 in
set_option maxRecDepth 100000 in
theorem t_M_drawCircle {x1 : Int32} {n : Nat} {I : xm_I} {L : xm_L} {K : xm_I → Prop} (hn : 86 ≤ n) (hF : ok (f_M_drawCircle x1 I L) K) : xm_C 3 mt_M_drawCircle [.ref 49, .int x1] (I, L, RC n, n) 0 0 (pV (fun p : xm_I => (p, L, RC n, n)) K) := by
  unfold f_M_drawCircle at hF
  refine xm_enter (by decide +kernel) dv_M_drawCircle (Nat.le_of_ble_eq_true rfl) ?_
  exact t_M_drawCircle_b0 hn (fun p hp => ⟨p, rfl, rfl, hp⟩) hF

noncomputable def f_M_drawAngle_b143 (x1 : Int32) (x2 : Int32) (x3 : Int32) (x4 : Int32) (x5 : Int32) (x6 : Int32) (x7 : Int32) (y0 : Int32) (I : xm_I) (L : xm_L) : Option (xm_I) :=
  (f_M_on (Int32.toInt64 x2) 1 1 I L).bind fun p_1 =>
  (f_M_on (Int32.toInt64 x3) 1 0 I L).bind fun p_2 =>
  (f_M_octant x4 x5).bind fun p_3 =>
  (f_M_octant x6 x7).bind fun p_4 =>
  (f_M_add 65 p_1 p_2 p_3 p_4 y0 I).bind fun p_5 =>
  (f_M_show x1 p_1 p_2 p_5).bind fun p_6 =>
  some (p_6)
noncomputable def f_M_drawAngle_b0 (x1 : Int32) (I : xm_I) (L : xm_L) : Option (xm_I) :=
  (f_M_cornerX x1 1 I).bind fun p_1 =>
  (f_M_cornerY x1 1 I).bind fun p_2 =>
  (f_M_has p_1 p_2 I).bind fun p_3 =>
  if p_3 = 0 then (
    some (I))
  else (
    (f_M_cornerX x1 0 I).bind fun p_4 =>
    let x4_5 : Int32 := p_4 - p_1
    (f_M_cornerY x1 0 I).bind fun p_6 =>
    let x5_7 : Int32 := p_6 - p_2
    (f_M_cornerX x1 2 I).bind fun p_8 =>
    let x6_9 : Int32 := p_8 - p_1
    (f_M_cornerY x1 2 I).bind fun p_10 =>
    let x7_11 : Int32 := p_10 - p_2
    let l8_12 : Int64 := ((Int32.toInt64 x4_5) * (Int32.toInt64 x6_9)) + ((Int32.toInt64 x5_7) * (Int32.toInt64 x7_11))
    let l10_13 : Int64 := ((Int32.toInt64 x4_5) * (Int32.toInt64 x7_11)) - ((Int32.toInt64 x5_7) * (Int32.toInt64 x6_9))
    if l10_13 = 0 then (
      if 0 ≤ l8_12 then (
        f_M_drawAngle_b143 x1 p_1 p_2 x4_5 x5_7 x6_9 x7_11 4 I L)
      else (
      f_M_drawAngle_b143 x1 p_1 p_2 x4_5 x5_7 x6_9 x7_11 3 I L))
    else (
      if l8_12 ≤ 0 then (
        if l8_12 = 0 then (
          f_M_drawAngle_b143 x1 p_1 p_2 x4_5 x5_7 x6_9 x7_11 1 I L)
        else (
          f_M_drawAngle_b143 x1 p_1 p_2 x4_5 x5_7 x6_9 x7_11 2 I L))
      else (
      f_M_drawAngle_b143 x1 p_1 p_2 x4_5 x5_7 x6_9 x7_11 0 I L)))
noncomputable def f_M_drawAngle (x1 : Int32) (I : xm_I) (L : xm_L) : Option (xm_I) := f_M_drawAngle_b0 x1 I L
set_option maxHeartbeats 4000000 in
set_option maxRecDepth 100000 in
theorem t_M_drawAngle_b143 {x1 : Int32} {x2 : Int32} {x3 : Int32} {x4 : Int32} {x5 : Int32} {x6 : Int32} {x7 : Int32} {y0 : Int32} {n : Nat} {I : xm_I} {L : xm_L} {K : xm_I → Prop} {Q : Option Value → xm_H → Prop} (hn : 86 ≤ n) (hq : ∀ p : xm_I, K p → Q none (p, L, RC n, n)) (hF : ok (f_M_drawAngle_b143 x1 x2 x3 x4 x5 x6 x7 y0 I L) K) : xm_J 2 mt_M_drawAngle 143 [(0, .ref 49), (1, .int x1), (2, .int x2), (3, .int x3), (4, .int x4), (5, .int x5), (6, .int x6), (7, .int x7)] [.int y0] (I, L, RC n, n) 0 0 Q := by
  unfold f_M_drawAngle_b143 at hF
  refine r_istore (i := 93) (Ls' := [(12, _), (0, _), (1, _), (2, _), (3, _), (4, _), (5, _), (6, _), (7, _)]) rfl (Nat.le_of_ble_eq_true rfl) rfl ?_
  refine r_aload_n (i := 94) (k0 := 1) rfl rfl rfl ?_
  refine r_iload_n (i := 95) (k0 := 3) rfl rfl rfl ?_
  refine r_i2l (i := 96) rfl ?_
  refine r_lconst (v := 1) (i := 97) rfl rfl ?_
  refine r_iconst (v := 1) (i := 98) rfl ki_1 ?_
  refine c_V3I (i := 99) rfl vm_M_on lk_M_327 (t_M_on hn (ok_bind hF)) (Nat.le_of_ble_eq_true rfl) (xm_in rfl hn) rfl rfl (Nat.le_of_ble_eq_true rfl) (fun p_1 hF => ?_)
  refine r_istore (i := 100) (Ls' := [(13, _), (12, _), (0, _), (1, _), (2, _), (3, _), (4, _), (5, _), (6, _), (7, _)]) rfl (Nat.le_of_ble_eq_true rfl) rfl ?_
  refine r_aload_n (i := 101) (k0 := 2) rfl rfl rfl ?_
  refine r_iload_n (i := 102) (k0 := 5) rfl rfl rfl ?_
  refine r_i2l (i := 103) rfl ?_
  refine r_lconst (v := 1) (i := 104) rfl rfl ?_
  refine r_iconst (v := 0) (i := 105) rfl ki_0 ?_
  refine c_V3I (i := 106) rfl vm_M_on lk_M_327 (t_M_on hn (ok_bind hF)) (Nat.le_of_ble_eq_true rfl) (xm_in rfl hn) rfl rfl (Nat.le_of_ble_eq_true rfl) (fun p_2 hF => ?_)
  refine r_istore (i := 107) (Ls' := [(14, _), (13, _), (12, _), (0, _), (1, _), (2, _), (3, _), (4, _), (5, _), (6, _), (7, _)]) rfl (Nat.le_of_ble_eq_true rfl) rfl ?_
  refine r_aload_n (i := 108) (k0 := 3) rfl rfl rfl ?_
  refine r_bipush (v := 65) (i := 109) rfl kb_65 ?_
  refine r_iload (i := 110) (k0 := 1) rfl rfl ?_
  refine r_iload (i := 111) (k0 := 0) rfl rfl ?_
  refine r_iload (i := 112) (k0 := 7) rfl rfl ?_
  refine r_iload (i := 113) (k0 := 8) rfl rfl ?_
  refine c_S2I (i := 114) rfl sm_M_octant lk_M_388 (t_M_octant hn (ok_bind hF)) (Nat.le_of_ble_eq_true rfl) rfl (Nat.le_of_ble_eq_true rfl) (fun p_3 hF => ?_)
  refine r_iload (i := 115) (k0 := 9) rfl rfl ?_
  refine r_iload (i := 116) (k0 := 10) rfl rfl ?_
  refine c_S2I (i := 117) rfl sm_M_octant lk_M_388 (t_M_octant hn (ok_bind hF)) (Nat.le_of_ble_eq_true rfl) rfl (Nat.le_of_ble_eq_true rfl) (fun p_4 hF => ?_)
  refine r_iload (i := 118) (k0 := 2) rfl rfl ?_
  refine c_V6V (i := 119) rfl vm_M_add lk_M_343 (t_M_add hn (ok_bind hF)) (Nat.le_of_ble_eq_true rfl) (xm_in rfl hn) rfl rfl (Nat.le_of_ble_eq_true rfl) (fun p_5 hF => ?_)
  refine r_aload_n (i := 120) (k0 := 3) rfl rfl rfl ?_
  refine r_iload_n (i := 121) (k0 := 4) rfl rfl rfl ?_
  refine r_iload (i := 122) (k0 := 1) rfl rfl ?_
  refine r_iload (i := 123) (k0 := 0) rfl rfl ?_
  refine c_V3V (i := 124) rfl vm_M_show lk_M_365 (t_M_show hn (ok_bind hF)) (Nat.le_of_ble_eq_true rfl) (xm_in rfl hn) rfl rfl (Nat.le_of_ble_eq_true rfl) (fun p_6 hF => ?_)
  have hQ := hq _ (ok_some hF)
  exact r_return (i := 125) rfl rfl hQ
set_option maxHeartbeats 4000000 in
set_option maxRecDepth 100000 in
theorem t_M_drawAngle_b0 {x1 : Int32} {n : Nat} {I : xm_I} {L : xm_L} {K : xm_I → Prop} {Q : Option Value → xm_H → Prop} (hn : 86 ≤ n) (hq : ∀ p : xm_I, K p → Q none (p, L, RC n, n)) (hF : ok (f_M_drawAngle_b0 x1 I L) K) : xm_J 2 mt_M_drawAngle 0 [(0, .ref 49), (1, .int x1)] [] (I, L, RC n, n) 0 0 Q := by
  unfold f_M_drawAngle_b0 at hF
  refine r_aload_n (i := 0) (k0 := 0) rfl rfl rfl ?_
  refine r_iload_n (i := 1) (k0 := 1) rfl rfl rfl ?_
  refine r_iconst (v := 1) (i := 2) rfl ki_1 ?_
  refine c_V2I (i := 3) rfl vm_M_cornerX lk_M_193 (t_M_cornerX hn (ok_bind hF)) (Nat.le_of_ble_eq_true rfl) (xm_in rfl hn) rfl rfl (Nat.le_of_ble_eq_true rfl) (fun p_1 hF => ?_)
  refine r_istore_n (i := 4) (Ls' := [(2, _), (0, _), (1, _)]) rfl rfl (Nat.le_of_ble_eq_true rfl) rfl ?_
  refine r_aload_n (i := 5) (k0 := 1) rfl rfl rfl ?_
  refine r_iload_n (i := 6) (k0 := 2) rfl rfl rfl ?_
  refine r_iconst (v := 1) (i := 7) rfl ki_1 ?_
  refine c_V2I (i := 8) rfl vm_M_cornerY lk_M_197 (t_M_cornerY hn (ok_bind hF)) (Nat.le_of_ble_eq_true rfl) (xm_in rfl hn) rfl rfl (Nat.le_of_ble_eq_true rfl) (fun p_2 hF => ?_)
  refine r_istore_n (i := 9) (Ls' := [(3, _), (2, _), (0, _), (1, _)]) rfl rfl (Nat.le_of_ble_eq_true rfl) rfl ?_
  refine r_aload_n (i := 10) (k0 := 2) rfl rfl rfl ?_
  refine r_iload_n (i := 11) (k0 := 1) rfl rfl rfl ?_
  refine r_iload_n (i := 12) (k0 := 0) rfl rfl rfl ?_
  refine c_V2I (i := 13) rfl vm_M_has lk_M_385 (t_M_has hn (ok_bind hF)) (Nat.le_of_ble_eq_true rfl) (xm_in rfl hn) rfl rfl (Nat.le_of_ble_eq_true rfl) (fun p_3 hF => ?_)
  refine r_ifne (i := 14) (tgt := 24) rfl (by decide) (fun hc => ?_) (fun hc => ?_)
  · have hF := ok_if hc hF
    refine r_aload_n (i := 16) (k0 := 2) rfl rfl rfl ?_
    refine r_iload_n (i := 17) (k0 := 3) rfl rfl rfl ?_
    refine r_iconst (v := 0) (i := 18) rfl ki_0 ?_
    refine c_V2I (i := 19) rfl vm_M_cornerX lk_M_193 (t_M_cornerX hn (ok_bind hF)) (Nat.le_of_ble_eq_true rfl) (xm_in rfl hn) rfl rfl (Nat.le_of_ble_eq_true rfl) (fun p_4 hF => ?_)
    refine r_iload_n (i := 20) (k0 := 1) rfl rfl rfl ?_
    refine r_isub (i := 21) rfl ?_
    refine r_istore (i := 22) (Ls' := [(4, _), (3, _), (2, _), (0, _), (1, _)]) rfl (Nat.le_of_ble_eq_true rfl) rfl ?_
    refine r_aload_n (i := 23) (k0 := 3) rfl rfl rfl ?_
    refine r_iload_n (i := 24) (k0 := 4) rfl rfl rfl ?_
    refine r_iconst (v := 0) (i := 25) rfl ki_0 ?_
    refine c_V2I (i := 26) rfl vm_M_cornerY lk_M_197 (t_M_cornerY hn (ok_bind hF)) (Nat.le_of_ble_eq_true rfl) (xm_in rfl hn) rfl rfl (Nat.le_of_ble_eq_true rfl) (fun p_6 hF => ?_)
    refine r_iload_n (i := 27) (k0 := 1) rfl rfl rfl ?_
    refine r_isub (i := 28) rfl ?_
    refine r_istore (i := 29) (Ls' := [(5, _), (4, _), (3, _), (2, _), (0, _), (1, _)]) rfl (Nat.le_of_ble_eq_true rfl) rfl ?_
    refine r_aload_n (i := 30) (k0 := 4) rfl rfl rfl ?_
    refine r_iload_n (i := 31) (k0 := 5) rfl rfl rfl ?_
    refine r_iconst (v := 2) (i := 32) rfl ki_2 ?_
    refine c_V2I (i := 33) rfl vm_M_cornerX lk_M_193 (t_M_cornerX hn (ok_bind hF)) (Nat.le_of_ble_eq_true rfl) (xm_in rfl hn) rfl rfl (Nat.le_of_ble_eq_true rfl) (fun p_8 hF => ?_)
    refine r_iload_n (i := 34) (k0 := 3) rfl rfl rfl ?_
    refine r_isub (i := 35) rfl ?_
    refine r_istore (i := 36) (Ls' := [(6, _), (5, _), (4, _), (3, _), (2, _), (0, _), (1, _)]) rfl (Nat.le_of_ble_eq_true rfl) rfl ?_
    refine r_aload_n (i := 37) (k0 := 5) rfl rfl rfl ?_
    refine r_iload_n (i := 38) (k0 := 6) rfl rfl rfl ?_
    refine r_iconst (v := 2) (i := 39) rfl ki_2 ?_
    refine c_V2I (i := 40) rfl vm_M_cornerY lk_M_197 (t_M_cornerY hn (ok_bind hF)) (Nat.le_of_ble_eq_true rfl) (xm_in rfl hn) rfl rfl (Nat.le_of_ble_eq_true rfl) (fun p_10 hF => ?_)
    refine r_iload_n (i := 41) (k0 := 3) rfl rfl rfl ?_
    refine r_isub (i := 42) rfl ?_
    refine r_istore (i := 43) (Ls' := [(7, _), (6, _), (5, _), (4, _), (3, _), (2, _), (0, _), (1, _)]) rfl (Nat.le_of_ble_eq_true rfl) rfl ?_
    refine r_iload (i := 44) (k0 := 3) rfl rfl ?_
    refine r_i2l (i := 45) rfl ?_
    refine r_iload (i := 46) (k0 := 1) rfl rfl ?_
    refine r_i2l (i := 47) rfl ?_
    refine r_lmul (i := 48) rfl ?_
    refine r_iload (i := 49) (k0 := 2) rfl rfl ?_
    refine r_i2l (i := 50) rfl ?_
    refine r_iload (i := 51) (k0 := 0) rfl rfl ?_
    refine r_i2l (i := 52) rfl ?_
    refine r_lmul (i := 53) rfl ?_
    refine r_ladd (i := 54) rfl ?_
    refine r_lstore (i := 55) (Ls' := [(8, _), (7, _), (6, _), (5, _), (4, _), (3, _), (2, _), (0, _), (1, _)]) rfl (Nat.le_of_ble_eq_true rfl) rfl ?_
    refine r_iload (i := 56) (k0 := 4) rfl rfl ?_
    refine r_i2l (i := 57) rfl ?_
    refine r_iload (i := 58) (k0 := 1) rfl rfl ?_
    refine r_i2l (i := 59) rfl ?_
    refine r_lmul (i := 60) rfl ?_
    refine r_iload (i := 61) (k0 := 3) rfl rfl ?_
    refine r_i2l (i := 62) rfl ?_
    refine r_iload (i := 63) (k0 := 2) rfl rfl ?_
    refine r_i2l (i := 64) rfl ?_
    refine r_lmul (i := 65) rfl ?_
    refine r_lsub (i := 66) rfl ?_
    refine r_lstore (i := 67) (Ls' := [(10, _), (8, _), (7, _), (6, _), (5, _), (4, _), (3, _), (2, _), (0, _), (1, _)]) rfl (Nat.le_of_ble_eq_true rfl) rfl ?_
    refine r_lload (i := 68) (k0 := 0) rfl rfl ?_
    refine r_lconst (v := 0) (i := 69) rfl rfl ?_
    refine r_lcmpne (i := 70) (j := 71) (tgt := 120) rfl rfl (by decide) (fun hc => ?_) (fun hc => ?_)
    · have hF := ok_if hc hF
      refine r_lload (i := 80) (k0 := 1) rfl rfl ?_
      refine r_lconst (v := 0) (i := 81) rfl rfl ?_
      refine r_lcmple (i := 82) (j := 83) (tgt := 131) rfl rfl (by decide) (fun hc => ?_) (fun hc => ?_)
      · have hF := ok_it hc hF
        refine r_lload (i := 86) (k0 := 1) rfl rfl ?_
        refine r_lconst (v := 0) (i := 87) rfl rfl ?_
        refine r_lcmpne (i := 88) (j := 89) (tgt := 142) rfl rfl (by decide) (fun hc => ?_) (fun hc => ?_)
        · have hF := ok_if hc hF
          refine r_iconst (v := 2) (i := 92) rfl ki_2 ?_
          refine xm_sub (Ls' := [(0, _), (1, _), (2, _), (3, _), (4, _), (5, _), (6, _), (7, _)]) [8, 9, 7, 6, 5, 4, 3, 2] rfl ?_
          exact t_M_drawAngle_b143 hn (fun p h => hq p h) hF
        have hF := ok_it hc hF
        refine r_iconst (v := 1) (i := 90) rfl ki_1 ?_
        refine r_goto (i := 91) (tgt := 143) rfl (by decide) ?_
        refine xm_sub (Ls' := [(0, _), (1, _), (2, _), (3, _), (4, _), (5, _), (6, _), (7, _)]) [8, 9, 7, 6, 5, 4, 3, 2] rfl ?_
        exact t_M_drawAngle_b143 hn (fun p h => hq p h) hF
      have hF := ok_if hc hF
      refine r_iconst (v := 0) (i := 84) rfl ki_0 ?_
      refine r_goto (i := 85) (tgt := 143) rfl (by decide) ?_
      refine xm_sub (Ls' := [(0, _), (1, _), (2, _), (3, _), (4, _), (5, _), (6, _), (7, _)]) [8, 9, 7, 6, 5, 4, 3, 2] rfl ?_
      exact t_M_drawAngle_b143 hn (fun p h => hq p h) hF
    have hF := ok_it hc hF
    refine r_lload (i := 72) (k0 := 1) rfl rfl ?_
    refine r_lconst (v := 0) (i := 73) rfl rfl ?_
    refine r_lcmpge (i := 74) (j := 75) (tgt := 116) rfl rfl (by decide) (fun hc => ?_) (fun hc => ?_)
    · have hF := ok_it hc hF
      refine r_iconst (v := 4) (i := 78) rfl ki_4 ?_
      refine r_goto (i := 79) (tgt := 143) rfl (by decide) ?_
      refine xm_sub (Ls' := [(0, _), (1, _), (2, _), (3, _), (4, _), (5, _), (6, _), (7, _)]) [8, 9, 7, 6, 5, 4, 3, 2] rfl ?_
      exact t_M_drawAngle_b143 hn (fun p h => hq p h) hF
    have hF := ok_if hc hF
    refine r_iconst (v := 3) (i := 76) rfl ki_3 ?_
    refine r_goto (i := 77) (tgt := 143) rfl (by decide) ?_
    refine xm_sub (Ls' := [(0, _), (1, _), (2, _), (3, _), (4, _), (5, _), (6, _), (7, _)]) [8, 9, 7, 6, 5, 4, 3, 2] rfl ?_
    exact t_M_drawAngle_b143 hn (fun p h => hq p h) hF
  have hF := ok_it hc hF
  have hQ := hq _ (ok_some hF)
  exact r_return (i := 15) rfl rfl hQ
set_option maxHeartbeats 4000000 in
set_option maxRecDepth 100000 in
theorem t_M_drawAngle {x1 : Int32} {n : Nat} {I : xm_I} {L : xm_L} {K : xm_I → Prop} (hn : 86 ≤ n) (hF : ok (f_M_drawAngle x1 I L) K) : xm_C 2 mt_M_drawAngle [.ref 49, .int x1] (I, L, RC n, n) 0 0 (pV (fun p : xm_I => (p, L, RC n, n)) K) := by
  unfold f_M_drawAngle at hF
  refine xm_enter (by decide +kernel) dv_M_drawAngle (Nat.le_of_ble_eq_true rfl) ?_
  exact t_M_drawAngle_b0 hn (fun p hp => ⟨p, rfl, rfl, hp⟩) hF
