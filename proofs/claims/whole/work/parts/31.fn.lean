/-! ===== turned: M_isFine M_reached M_findBest M_taken M_goRound M_isOpen M_place M_draw M_label M_mark M_placed M_octet M_digest M_count M_code M_group M_put ===== -/
noncomputable def f_M_isFine_b98 (x1 : Int32) (x2 : Int32) (x4 : Int32) (y0 : Int32) (I : xm_I) : Option ((Int32 × Int32) ⊕ (Int32)) :=
  let x4_1 : Int32 := x4 + 1
  some (.inl (y0, x4_1))
noncomputable def f_M_isFine_b93 (x1 : Int32) (x2 : Int32) (x4 : Int32) (I : xm_I) : Option ((Int32 × Int32) ⊕ (Int32)) :=
  f_M_isFine_b98 x1 x2 x4 1 I
noncomputable def f_M_isFine_s43 (x1 : Int32) (x2 : Int32) (I : xm_I) (s : Int32 × Int32) : Option ((Int32 × Int32) ⊕ (Int32)) :=
  if x1 ≤ s.2 then (
    gd (s.1 &&& 1 = s.1) <|
    some (.inr (s.1)))
  else (
  if s.1 = 0 then (
    gd (s.1 &&& 1 = s.1) <|
    some (.inr (s.1)))
  else (
  gd (0 ≤ (s.2).toInt ∧ (s.2).toInt < 7) <|
  if (I 81 (Int32.toNatClampNeg s.2)) = 8 then (
    f_M_isFine_b93 x1 x2 s.2 I)
  else (
  gd (0 ≤ (x1).toInt ∧ (x1).toInt < 20) <|
  gd (0 ≤ (s.2).toInt ∧ (s.2).toInt < 20) <|
  gd (0 ≤ (s.2).toInt ∧ (s.2).toInt < 7) <|
  (f_M_meet (I 80 (Int32.toNatClampNeg x1)) x2 (I 80 (Int32.toNatClampNeg s.2)) (I 81 (Int32.toNatClampNeg s.2)) I).bind fun p_1 =>
  if p_1 = 0 then (
    f_M_isFine_b93 x1 x2 s.2 I)
  else (
    f_M_isFine_b98 x1 x2 s.2 0 I))))
noncomputable def f_M_isFine_b43 (x1 : Int32) (x2 : Int32) (I : xm_I) (s : Int32 × Int32) : Option (Int32) := lp (f_M_isFine_s43 x1 x2 I) s
noncomputable def f_M_isFine_b39 (x1 : Int32) (x2 : Int32) (y0 : Int32) (I : xm_I) : Option (Int32) :=
  f_M_isFine_b43 x1 x2 I (y0, 0)
noncomputable def f_M_isFine_b0 (x1 : Int32) (I : xm_I) : Option (Int32) :=
  gd (0 ≤ (x1).toInt ∧ (x1).toInt < 7) <|
  let x2_1 : Int32 := I 81 (Int32.toNatClampNeg x1)
  if x2_1 = 8 then (
    some (1))
  else (
    gd (0 ≤ (x1).toInt ∧ (x1).toInt < 20) <|
    gd (0 ≤ ((8 * (I 80 (Int32.toNatClampNeg x1))) + x2_1).toInt ∧ ((8 * (I 80 (Int32.toNatClampNeg x1))) + x2_1).toInt < 160) <|
    if (I 79 (Int32.toNatClampNeg ((8 * (I 80 (Int32.toNatClampNeg x1))) + x2_1))) < 0 then (
      f_M_isFine_b39 x1 x2_1 0 I)
    else (
    f_M_isFine_b39 x1 x2_1 1 I))
noncomputable def f_M_isFine (x1 : Int32) (I : xm_I) : Option (Int32) := f_M_isFine_b0 x1 I
set_option maxHeartbeats 4000000 in
set_option maxRecDepth 100000 in
theorem t_M_isFine_b98 {x1 : Int32} {x2 : Int32} {x4 : Int32} {y0 : Int32} {n : Nat} {I : xm_I} {L : xm_L} {K : (Int32 × Int32) ⊕ (Int32) → Prop} {Q : Option Value → xm_H → Prop} (hn : 86 ≤ n) (hq : ∀ p : Int32, K (.inr p) → Q (some (.int p)) (I, L, RC n, n)) (hg0 : ∀ s : Int32 × Int32, K (.inl s) → xm_J 2 mt_M_isFine 43 [(0, .ref 49), (1, .int x1), (2, .int x2), (3, .int s.1), (4, .int s.2)] [] (I, L, RC n, n) 0 0 Q) (hF : ok (f_M_isFine_b98 x1 x2 x4 y0 I) K) : xm_J 2 mt_M_isFine 98 [(0, .ref 49), (1, .int x1), (2, .int x2), (4, .int x4)] [.int y0] (I, L, RC n, n) 0 0 Q := by
  unfold f_M_isFine_b98 at hF
  refine r_istore_n (i := 58) (Ls' := [(3, _), (0, _), (1, _), (2, _), (4, _)]) rfl rfl (Nat.le_of_ble_eq_true rfl) rfl ?_
  refine q_iinc (i := 59) (k0 := 4) (Ls' := [(4, _), (3, _), (0, _), (1, _), (2, _)]) rfl ki_1 rfl (Nat.le_of_ble_eq_true rfl) rfl ?_
  refine r_goto (i := 60) (tgt := 43) rfl (by decide) ?_
  refine xm_sub (Ls' := [(0, _), (1, _), (2, _), (3, _), (4, _)]) [2, 3, 4, 1, 0] rfl ?_
  have hJ := hg0 _ (ok_some hF)
  exact hJ
set_option maxHeartbeats 4000000 in
set_option maxRecDepth 100000 in
theorem t_M_isFine_b93 {x1 : Int32} {x2 : Int32} {x4 : Int32} {n : Nat} {I : xm_I} {L : xm_L} {K : (Int32 × Int32) ⊕ (Int32) → Prop} {Q : Option Value → xm_H → Prop} (hn : 86 ≤ n) (hq : ∀ p : Int32, K (.inr p) → Q (some (.int p)) (I, L, RC n, n)) (hg0 : ∀ s : Int32 × Int32, K (.inl s) → xm_J 2 mt_M_isFine 43 [(0, .ref 49), (1, .int x1), (2, .int x2), (3, .int s.1), (4, .int s.2)] [] (I, L, RC n, n) 0 0 Q) (hF : ok (f_M_isFine_b93 x1 x2 x4 I) K) : xm_J 2 mt_M_isFine 93 [(0, .ref 49), (1, .int x1), (2, .int x2), (4, .int x4)] [] (I, L, RC n, n) 0 0 Q := by
  unfold f_M_isFine_b93 at hF
  refine r_iconst (v := 1) (i := 55) rfl ki_1 ?_
  refine r_goto (i := 56) (tgt := 98) rfl (by decide) ?_
  exact t_M_isFine_b98 hn (fun p h => hq p h) (fun z h => hg0 z h) hF
set_option maxHeartbeats 4000000 in
set_option maxRecDepth 100000 in
theorem t_M_isFine_s43 {x1 : Int32} {x2 : Int32} {s : Int32 × Int32} {n : Nat} {I : xm_I} {L : xm_L} {K : (Int32 × Int32) ⊕ (Int32) → Prop} {Q : Option Value → xm_H → Prop} (hn : 86 ≤ n) (hq : ∀ p : Int32, K (.inr p) → Q (some (.int p)) (I, L, RC n, n)) (hg0 : ∀ s : Int32 × Int32, K (.inl s) → xm_J 2 mt_M_isFine 43 [(0, .ref 49), (1, .int x1), (2, .int x2), (3, .int s.1), (4, .int s.2)] [] (I, L, RC n, n) 0 0 Q) (hF : ok (f_M_isFine_s43 x1 x2 I s) K) : xm_J 2 mt_M_isFine 43 [(0, .ref 49), (1, .int x1), (2, .int x2), (3, .int s.1), (4, .int s.2)] [] (I, L, RC n, n) 0 0 Q := by
  unfold f_M_isFine_s43 at hF
  refine r_iload (i := 28) (k0 := 4) rfl rfl ?_
  refine r_iload_n (i := 29) (k0 := 1) rfl rfl rfl ?_
  refine r_icmpge (i := 30) (tgt := 105) rfl (by decide) (fun hc => ?_) (fun hc => ?_)
  · have hF := ok_it hc hF
    refine r_iload_n (i := 61) (k0 := 3) rfl rfl rfl ?_
    obtain ⟨hi, hF⟩ := ok_gd hF
    have hQ := hq _ (ok_some hF)
    exact r_ireturn (i := 62) rfl rfl (congrArg Value.int hi) hQ
  have hF := ok_if hc hF
  refine r_iload_n (i := 31) (k0 := 3) rfl rfl rfl ?_
  refine r_ifeq (i := 32) (tgt := 105) rfl (by decide) (fun hc => ?_) (fun hc => ?_)
  · have hF := ok_it hc hF
    refine r_iload_n (i := 61) (k0 := 3) rfl rfl rfl ?_
    obtain ⟨hi, hF⟩ := ok_gd hF
    have hQ := hq _ (ok_some hF)
    exact r_ireturn (i := 62) rfl rfl (congrArg Value.int hi) hQ
  have hF := ok_if hc hF
  refine r_aload_n (i := 33) (k0 := 0) rfl rfl rfl ?_
  refine q_getr (b := 81) (i := 34) rfl fl_M_122 rfl (xm_in rfl hn) rfl rfl ?_
  refine r_iload (i := 35) (k0 := 4) rfl rfl ?_
  obtain ⟨hi, hF⟩ := ok_gd hF
  refine q_iaload (i := 36) rfl (xm_in rfl hn) rfl hi ?_
  refine r_bipush (v := 8) (i := 37) rfl kb_8 ?_
  refine r_icmpeq (i := 38) (tgt := 93) rfl (by decide) (fun hc => ?_) (fun hc => ?_)
  · have hF := ok_it hc hF
    refine xm_sub (Ls' := [(0, _), (1, _), (2, _), (4, _)]) [0, 1, 2, 4] rfl ?_
    exact t_M_isFine_b93 hn (fun p h => hq p h) (fun z h => hg0 z h) hF
  have hF := ok_if hc hF
  refine r_aload_n (i := 39) (k0 := 0) rfl rfl rfl ?_
  refine r_aload_n (i := 40) (k0 := 0) rfl rfl rfl ?_
  refine q_getr (b := 80) (i := 41) rfl fl_M_119 rfl (xm_in rfl hn) rfl rfl ?_
  refine r_iload_n (i := 42) (k0 := 1) rfl rfl rfl ?_
  obtain ⟨hi, hF⟩ := ok_gd hF
  refine q_iaload (i := 43) rfl (xm_in rfl hn) rfl hi ?_
  refine r_iload_n (i := 44) (k0 := 2) rfl rfl rfl ?_
  refine r_aload_n (i := 45) (k0 := 0) rfl rfl rfl ?_
  refine q_getr (b := 80) (i := 46) rfl fl_M_119 rfl (xm_in rfl hn) rfl rfl ?_
  refine r_iload (i := 47) (k0 := 4) rfl rfl ?_
  obtain ⟨hi, hF⟩ := ok_gd hF
  refine q_iaload (i := 48) rfl (xm_in rfl hn) rfl hi ?_
  refine r_aload_n (i := 49) (k0 := 0) rfl rfl rfl ?_
  refine q_getr (b := 81) (i := 50) rfl fl_M_122 rfl (xm_in rfl hn) rfl rfl ?_
  refine r_iload (i := 51) (k0 := 4) rfl rfl ?_
  obtain ⟨hi, hF⟩ := ok_gd hF
  refine q_iaload (i := 52) rfl (xm_in rfl hn) rfl hi ?_
  refine c_V4I (i := 53) rfl vm_M_meet lk_M_471 (t_M_meet hn (ok_bind hF)) (Nat.le_of_ble_eq_true rfl) (xm_in rfl hn) rfl rfl (Nat.le_of_ble_eq_true rfl) (fun p_1 hF => ?_)
  refine r_ifne (i := 54) (tgt := 97) rfl (by decide) (fun hc => ?_) (fun hc => ?_)
  · have hF := ok_if hc hF
    refine r_iconst (v := 0) (i := 57) rfl ki_0 ?_
    refine xm_sub (Ls' := [(0, _), (1, _), (2, _), (4, _)]) [0, 1, 2, 4] rfl ?_
    exact t_M_isFine_b98 hn (fun p h => hq p h) (fun z h => hg0 z h) hF
  have hF := ok_it hc hF
  refine xm_sub (Ls' := [(0, _), (1, _), (2, _), (4, _)]) [0, 1, 2, 4] rfl ?_
  exact t_M_isFine_b93 hn (fun p h => hq p h) (fun z h => hg0 z h) hF
set_option maxHeartbeats 4000000 in
set_option maxRecDepth 100000 in
theorem t_M_isFine_b43 {x1 : Int32} {x2 : Int32} {s : Int32 × Int32} {n : Nat} {I : xm_I} {L : xm_L} {K : Int32 → Prop} {Q : Option Value → xm_H → Prop} (hn : 86 ≤ n) (hq : ∀ p : Int32, K p → Q (some (.int p)) (I, L, RC n, n)) (hF : ok (f_M_isFine_b43 x1 x2 I s) K) : xm_J 2 mt_M_isFine 43 [(0, .ref 49), (1, .int x1), (2, .int x2), (3, .int s.1), (4, .int s.2)] [] (I, L, RC n, n) 0 0 Q :=
  lp_J (G := fun z => xm_J 2 mt_M_isFine 43 [(0, .ref 49), (1, .int x1), (2, .int x2), (3, .int z.1), (4, .int z.2)] [] (I, L, RC n, n) 0 0 Q) (fun z hF => t_M_isFine_s43 hn (fun p h => hq p h) (fun z h => h) hF) s hF
set_option maxHeartbeats 4000000 in
set_option maxRecDepth 100000 in
theorem t_M_isFine_b39 {x1 : Int32} {x2 : Int32} {y0 : Int32} {n : Nat} {I : xm_I} {L : xm_L} {K : Int32 → Prop} {Q : Option Value → xm_H → Prop} (hn : 86 ≤ n) (hq : ∀ p : Int32, K p → Q (some (.int p)) (I, L, RC n, n)) (hF : ok (f_M_isFine_b39 x1 x2 y0 I) K) : xm_J 2 mt_M_isFine 39 [(0, .ref 49), (1, .int x1), (2, .int x2)] [.int y0] (I, L, RC n, n) 0 0 Q := by
  unfold f_M_isFine_b39 at hF
  refine r_istore_n (i := 25) (Ls' := [(3, _), (0, _), (1, _), (2, _)]) rfl rfl (Nat.le_of_ble_eq_true rfl) rfl ?_
  refine r_iconst (v := 0) (i := 26) rfl ki_0 ?_
  refine r_istore (i := 27) (Ls' := [(4, _), (3, _), (0, _), (1, _), (2, _)]) rfl (Nat.le_of_ble_eq_true rfl) rfl ?_
  refine xm_sub (Ls' := [(0, _), (1, _), (2, _), (3, _), (4, _)]) [2, 3, 4, 1, 0] rfl ?_
  exact t_M_isFine_b43 hn (fun p h => hq p h) hF
set_option maxHeartbeats 4000000 in
set_option maxRecDepth 100000 in
theorem t_M_isFine_b0 {x1 : Int32} {n : Nat} {I : xm_I} {L : xm_L} {K : Int32 → Prop} {Q : Option Value → xm_H → Prop} (hn : 86 ≤ n) (hq : ∀ p : Int32, K p → Q (some (.int p)) (I, L, RC n, n)) (hF : ok (f_M_isFine_b0 x1 I) K) : xm_J 2 mt_M_isFine 0 [(0, .ref 49), (1, .int x1)] [] (I, L, RC n, n) 0 0 Q := by
  unfold f_M_isFine_b0 at hF
  refine r_aload_n (i := 0) (k0 := 0) rfl rfl rfl ?_
  refine q_getr (b := 81) (i := 1) rfl fl_M_122 rfl (xm_in rfl hn) rfl rfl ?_
  refine r_iload_n (i := 2) (k0 := 1) rfl rfl rfl ?_
  obtain ⟨hi, hF⟩ := ok_gd hF
  refine q_iaload (i := 3) rfl (xm_in rfl hn) rfl hi ?_
  refine r_istore_n (i := 4) (Ls' := [(2, _), (0, _), (1, _)]) rfl rfl (Nat.le_of_ble_eq_true rfl) rfl ?_
  refine r_iload_n (i := 5) (k0 := 0) rfl rfl rfl ?_
  refine r_bipush (v := 8) (i := 6) rfl kb_8 ?_
  refine r_icmpne (i := 7) (tgt := 15) rfl (by decide) (fun hc => ?_) (fun hc => ?_)
  · have hF := ok_if hc hF
    refine r_aload_n (i := 10) (k0 := 1) rfl rfl rfl ?_
    refine q_getr (b := 79) (i := 11) rfl fl_M_116 rfl (xm_in rfl hn) rfl rfl ?_
    refine r_bipush (v := 8) (i := 12) rfl kb_8 ?_
    refine r_aload_n (i := 13) (k0 := 1) rfl rfl rfl ?_
    refine q_getr (b := 80) (i := 14) rfl fl_M_119 rfl (xm_in rfl hn) rfl rfl ?_
    refine r_iload_n (i := 15) (k0 := 2) rfl rfl rfl ?_
    obtain ⟨hi, hF⟩ := ok_gd hF
    refine q_iaload (i := 16) rfl (xm_in rfl hn) rfl hi ?_
    refine r_imul (i := 17) rfl ?_
    refine r_iload_n (i := 18) (k0 := 0) rfl rfl rfl ?_
    refine r_iadd (i := 19) rfl ?_
    obtain ⟨hi, hF⟩ := ok_gd hF
    refine q_iaload (i := 20) rfl (xm_in rfl hn) rfl hi ?_
    refine r_iflt (i := 21) (tgt := 38) rfl (by decide) (fun hc => ?_) (fun hc => ?_)
    · have hF := ok_it hc hF
      refine r_iconst (v := 0) (i := 24) rfl ki_0 ?_
      refine xm_sub (Ls' := [(0, _), (1, _), (2, _)]) [1, 2, 0] rfl ?_
      exact t_M_isFine_b39 hn (fun p h => hq p h) hF
    have hF := ok_if hc hF
    refine r_iconst (v := 1) (i := 22) rfl ki_1 ?_
    refine r_goto (i := 23) (tgt := 39) rfl (by decide) ?_
    refine xm_sub (Ls' := [(0, _), (1, _), (2, _)]) [1, 2, 0] rfl ?_
    exact t_M_isFine_b39 hn (fun p h => hq p h) hF
  have hF := ok_it hc hF
  refine r_iconst (v := 1) (i := 8) rfl ki_1 ?_
  have hQ := hq _ (ok_some hF)
  exact r_ireturn (i := 9) rfl rfl rfl hQ
set_option maxHeartbeats 4000000 in
set_option maxRecDepth 100000 in
theorem t_M_isFine {x1 : Int32} {n : Nat} {I : xm_I} {L : xm_L} {K : Int32 → Prop} (hn : 86 ≤ n) (hF : ok (f_M_isFine x1 I) K) : xm_C 2 mt_M_isFine [.ref 49, .int x1] (I, L, RC n, n) 0 0 (pI (fun p : Int32 => p) (fun p : Int32 => (I, L, RC n, n)) K) := by
  unfold f_M_isFine at hF
  refine xm_enter (by decide +kernel) dv_M_isFine (Nat.le_of_ble_eq_true rfl) ?_
  exact t_M_isFine_b0 hn (fun p hp => ⟨p, rfl, rfl, hp⟩) hF

noncomputable def f_M_reached_s20 (x1 : Int32) (s : Int32 × xm_I) : Option ((Int32 × xm_I) ⊕ (Int32 × xm_I)) :=
  if x1 ≤ s.1 then (
    some (.inr (x1 - 1, s.2)))
  else (
  gd (0 ≤ (s.1).toInt ∧ (s.1).toInt < 7) <|
  gd (0 ≤ (s.1).toInt ∧ (s.1).toInt < 6) <|
  let I_1 : xm_I := up2 s.2 82 (Int32.toNatClampNeg s.1) (s.2 81 (Int32.toNatClampNeg s.1))
  let x2_2 : Int32 := s.1 + 1
  some (.inl (x2_2, I_1)))
noncomputable def f_M_reached_b20 (x1 : Int32) (s : Int32 × xm_I) : Option (Int32 × xm_I) := lp (f_M_reached_s20 x1) s
noncomputable def f_M_reached_b0 (x1 : Int32) (I : xm_I) : Option (Int32 × xm_I) :=
  (f_M_outsOf x1 I).bind fun p_1 =>
  let I_2 : xm_I := up2 I 49 73 p_1
  (f_M_costsOf x1 I_2).bind fun p_3 =>
  let I_4 : xm_I := up2 I_2 49 74 p_3
  f_M_reached_b20 x1 (0, I_4)
noncomputable def f_M_reached (x1 : Int32) (I : xm_I) : Option (Int32 × xm_I) := f_M_reached_b0 x1 I
set_option maxHeartbeats 4000000 in
set_option maxRecDepth 100000 in
theorem t_M_reached_s20 {x1 : Int32} {s : Int32 × xm_I} {n : Nat} {L : xm_L} {K : (Int32 × xm_I) ⊕ (Int32 × xm_I) → Prop} {Q : Option Value → xm_H → Prop} (hn : 86 ≤ n) (hq : ∀ p : Int32 × xm_I, K (.inr p) → Q (some (.int p.1)) (p.2, L, RC n, n)) (hg0 : ∀ s : Int32 × xm_I, K (.inl s) → xm_J 1 mt_M_reached 20 [(0, .ref 49), (1, .int x1), (2, .int s.1)] [] (s.2, L, RC n, n) 0 0 Q) (hF : ok (f_M_reached_s20 x1 s) K) : xm_J 1 mt_M_reached 20 [(0, .ref 49), (1, .int x1), (2, .int s.1)] [] (s.2, L, RC n, n) 0 0 Q := by
  unfold f_M_reached_s20 at hF
  refine r_iload_n (i := 12) (k0 := 2) rfl rfl rfl ?_
  refine r_iload_n (i := 13) (k0 := 1) rfl rfl rfl ?_
  refine r_icmpge (i := 14) (tgt := 43) rfl (by decide) (fun hc => ?_) (fun hc => ?_)
  · have hF := ok_it hc hF
    refine r_iload_n (i := 25) (k0 := 1) rfl rfl rfl ?_
    refine r_iconst (v := 1) (i := 26) rfl ki_1 ?_
    refine r_isub (i := 27) rfl ?_
    have hQ := hq _ (ok_some hF)
    exact r_ireturn (i := 28) rfl rfl rfl hQ
  have hF := ok_if hc hF
  refine r_aload_n (i := 15) (k0 := 0) rfl rfl rfl ?_
  refine q_getr (b := 82) (i := 16) rfl fl_M_125 rfl (xm_in rfl hn) rfl rfl ?_
  refine r_iload_n (i := 17) (k0 := 2) rfl rfl rfl ?_
  refine r_aload_n (i := 18) (k0 := 0) rfl rfl rfl ?_
  refine q_getr (b := 81) (i := 19) rfl fl_M_122 rfl (xm_in rfl hn) rfl rfl ?_
  refine r_iload_n (i := 20) (k0 := 2) rfl rfl rfl ?_
  obtain ⟨hi, hF⟩ := ok_gd hF
  refine q_iaload (i := 21) rfl (xm_in rfl hn) rfl hi ?_
  obtain ⟨hi, hF⟩ := ok_gd hF
  refine q_iastore (i := 22) rfl (xm_in rfl hn) rfl hi ?_
  refine q_iinc (i := 23) (k0 := 2) (Ls' := [(2, _), (0, _), (1, _)]) rfl ki_1 rfl (Nat.le_of_ble_eq_true rfl) rfl ?_
  refine r_goto (i := 24) (tgt := 20) rfl (by decide) ?_
  refine xm_sub (Ls' := [(0, _), (1, _), (2, _)]) [1, 2, 0] rfl ?_
  have hJ := hg0 _ (ok_some hF)
  exact hJ
set_option maxHeartbeats 4000000 in
set_option maxRecDepth 100000 in
theorem t_M_reached_b20 {x1 : Int32} {s : Int32 × xm_I} {n : Nat} {L : xm_L} {K : Int32 × xm_I → Prop} {Q : Option Value → xm_H → Prop} (hn : 86 ≤ n) (hq : ∀ p : Int32 × xm_I, K p → Q (some (.int p.1)) (p.2, L, RC n, n)) (hF : ok (f_M_reached_b20 x1 s) K) : xm_J 1 mt_M_reached 20 [(0, .ref 49), (1, .int x1), (2, .int s.1)] [] (s.2, L, RC n, n) 0 0 Q :=
  lp_J (G := fun z => xm_J 1 mt_M_reached 20 [(0, .ref 49), (1, .int x1), (2, .int z.1)] [] (z.2, L, RC n, n) 0 0 Q) (fun z hF => t_M_reached_s20 hn (fun p h => hq p h) (fun z h => h) hF) s hF
set_option maxHeartbeats 4000000 in
set_option maxRecDepth 100000 in
theorem t_M_reached_b0 {x1 : Int32} {n : Nat} {I : xm_I} {L : xm_L} {K : Int32 × xm_I → Prop} {Q : Option Value → xm_H → Prop} (hn : 86 ≤ n) (hq : ∀ p : Int32 × xm_I, K p → Q (some (.int p.1)) (p.2, L, RC n, n)) (hF : ok (f_M_reached_b0 x1 I) K) : xm_J 1 mt_M_reached 0 [(0, .ref 49), (1, .int x1)] [] (I, L, RC n, n) 0 0 Q := by
  unfold f_M_reached_b0 at hF
  refine r_aload_n (i := 0) (k0 := 0) rfl rfl rfl ?_
  refine r_aload_n (i := 1) (k0 := 0) rfl rfl rfl ?_
  refine r_iload_n (i := 2) (k0 := 1) rfl rfl rfl ?_
  refine c_V1I (i := 3) rfl vm_M_outsOf lk_M_490 (t_M_outsOf hn (ok_bind hF)) (Nat.le_of_ble_eq_true rfl) (xm_in rfl hn) rfl rfl (Nat.le_of_ble_eq_true rfl) (fun p_1 hF => ?_)
  refine q_puti (i := 4) rfl fl_M_475 (fun h => Bool.noConfusion h) (xm_in rfl hn) rfl ?_
  refine r_aload_n (i := 5) (k0 := 0) rfl rfl rfl ?_
  refine r_aload_n (i := 6) (k0 := 0) rfl rfl rfl ?_
  refine r_iload_n (i := 7) (k0 := 1) rfl rfl rfl ?_
  refine c_V1I (i := 8) rfl vm_M_costsOf lk_M_493 (t_M_costsOf hn (ok_bind hF)) (Nat.le_of_ble_eq_true rfl) (xm_in rfl hn) rfl rfl (Nat.le_of_ble_eq_true rfl) (fun p_3 hF => ?_)
  refine q_puti (i := 9) rfl fl_M_478 (fun h => Bool.noConfusion h) (xm_in rfl hn) rfl ?_
  refine r_iconst (v := 0) (i := 10) rfl ki_0 ?_
  refine r_istore_n (i := 11) (Ls' := [(2, _), (0, _), (1, _)]) rfl rfl (Nat.le_of_ble_eq_true rfl) rfl ?_
  refine xm_sub (Ls' := [(0, _), (1, _), (2, _)]) [1, 2, 0] rfl ?_
  exact t_M_reached_b20 hn (fun p h => hq p h) hF
set_option maxHeartbeats 4000000 in
set_option maxRecDepth 100000 in
theorem t_M_reached {x1 : Int32} {n : Nat} {I : xm_I} {L : xm_L} {K : Int32 × xm_I → Prop} (hn : 86 ≤ n) (hF : ok (f_M_reached x1 I) K) : xm_C 1 mt_M_reached [.ref 49, .int x1] (I, L, RC n, n) 0 0 (pI (fun p : Int32 × xm_I => p.1) (fun p : Int32 × xm_I => (p.2, L, RC n, n)) K) := by
  unfold f_M_reached at hF
  refine xm_enter (by decide +kernel) dv_M_reached (Nat.le_of_ble_eq_true rfl) ?_
  exact t_M_reached_b0 hn (fun p hp => ⟨p, rfl, rfl, hp⟩) hF

noncomputable def f_M_findBest_s101 (s : Int32 × xm_I) : Option ((Int32 × xm_I) ⊕ (xm_I)) :=
  if (s.2 49 70) ≤ s.1 then (
    some (.inr (s.2)))
  else (
  gd (0 ≤ (s.1).toInt ∧ (s.1).toInt < 20) <|
  gd (0 ≤ (s.1).toInt ∧ (s.1).toInt < 6) <|
  gd (0 ≤ (s.2 80 (Int32.toNatClampNeg s.1)).toInt ∧ (s.2 80 (Int32.toNatClampNeg s.1)).toInt < 20) <|
  let I_1 : xm_I := up2 s.2 76 (Int32.toNatClampNeg (s.2 80 (Int32.toNatClampNeg s.1))) (s.2 82 (Int32.toNatClampNeg s.1))
  let x2_2 : Int32 := s.1 + 1
  some (.inl (x2_2, I_1)))
noncomputable def f_M_findBest_b101 (s : Int32 × xm_I) : Option (xm_I) := lp (f_M_findBest_s101) s
noncomputable def f_M_findBest_s20 (s : Int32 × xm_I) : Option ((Int32 × xm_I) ⊕ (xm_I)) :=
  if s.1 < 0 then (
    (f_M_findBest_b101 (0, s.2)).map .inr)
  else (
  if s.1 = (s.2 49 70) then (
    (f_M_reached s.1 s.2).bind fun p_7 =>
    some (.inl (p_7.1, p_7.2)))
  else (
    gd (0 ≤ (s.1).toInt ∧ (s.1).toInt < 7) <|
    gd (0 ≤ (s.1).toInt ∧ (s.1).toInt < 7) <|
    let I_1 : xm_I := up2 s.2 81 (Int32.toNatClampNeg s.1) ((s.2 81 (Int32.toNatClampNeg s.1)) + 1)
    gd (0 ≤ (s.1).toInt ∧ (s.1).toInt < 7) <|
    if (I_1 81 (Int32.toNatClampNeg s.1)) ≤ 8 then (
      (f_M_isFine s.1 I_1).bind fun p_2 =>
      if p_2 = 0 then (
        some (.inl (s.1, I_1)))
      else (
      (f_M_isBetter (s.1 + 1) I_1).bind fun p_3 =>
      if p_3 = 0 then (
        some (.inl (s.1, I_1)))
      else (
      let x1_4 : Int32 := s.1 + 1
      gd (0 ≤ (x1_4).toInt ∧ (x1_4).toInt < 7) <|
      let I_5 : xm_I := up2 I_1 81 (Int32.toNatClampNeg x1_4) ((-1))
      some (.inl (x1_4, I_5)))))
    else (
    let x1_6 : Int32 := s.1 + (-1)
    some (.inl (x1_6, I_1)))))
noncomputable def f_M_findBest_b20 (s : Int32 × xm_I) : Option (xm_I) := lp (f_M_findBest_s20) s
noncomputable def f_M_findBest_b0 (I : xm_I) : Option (xm_I) :=
  let I_1 : xm_I := up2 I 49 73 7
  let I_2 : xm_I := up2 I_1 49 74 0
  let I_3 : xm_I := up2 I_2 81 (Int32.toNatClampNeg 0) ((-1))
  f_M_findBest_b20 (0, I_3)
noncomputable def f_M_findBest (I : xm_I) : Option (xm_I) := f_M_findBest_b0 I
set_option maxHeartbeats 4000000 in
set_option maxRecDepth 100000 in
theorem t_M_findBest_s101 {s : Int32 × xm_I} {n : Nat} {L : xm_L} {K : (Int32 × xm_I) ⊕ (xm_I) → Prop} {Q : Option Value → xm_H → Prop} (hn : 86 ≤ n) (hq : ∀ p : xm_I, K (.inr p) → Q none (p, L, RC n, n)) (hg0 : ∀ s : Int32 × xm_I, K (.inl s) → xm_J 3 mt_M_findBest 101 [(0, .ref 49), (2, .int s.1)] [] (s.2, L, RC n, n) 0 0 Q) (hF : ok (f_M_findBest_s101 s) K) : xm_J 3 mt_M_findBest 101 [(0, .ref 49), (2, .int s.1)] [] (s.2, L, RC n, n) 0 0 Q := by
  unfold f_M_findBest_s101 at hF
  refine r_iload_n (i := 59) (k0 := 1) rfl rfl rfl ?_
  refine r_aload_n (i := 60) (k0 := 0) rfl rfl rfl ?_
  refine q_geti (i := 61) rfl fl_M_455 (xm_in rfl hn) rfl ?_
  refine r_icmpge (i := 62) (tgt := 132) rfl (by decide) (fun hc => ?_) (fun hc => ?_)
  · have hF := ok_it hc hF
    have hQ := hq _ (ok_some hF)
    exact r_return (i := 76) rfl rfl hQ
  have hF := ok_if hc hF
  refine r_aload_n (i := 63) (k0 := 0) rfl rfl rfl ?_
  refine q_getr (b := 76) (i := 64) rfl fl_M_106 rfl (xm_in rfl hn) rfl rfl ?_
  refine r_aload_n (i := 65) (k0 := 0) rfl rfl rfl ?_
  refine q_getr (b := 80) (i := 66) rfl fl_M_119 rfl (xm_in rfl hn) rfl rfl ?_
  refine r_iload_n (i := 67) (k0 := 1) rfl rfl rfl ?_
  obtain ⟨hi, hF⟩ := ok_gd hF
  refine q_iaload (i := 68) rfl (xm_in rfl hn) rfl hi ?_
  refine r_aload_n (i := 69) (k0 := 0) rfl rfl rfl ?_
  refine q_getr (b := 82) (i := 70) rfl fl_M_125 rfl (xm_in rfl hn) rfl rfl ?_
  refine r_iload_n (i := 71) (k0 := 1) rfl rfl rfl ?_
  obtain ⟨hi, hF⟩ := ok_gd hF
  refine q_iaload (i := 72) rfl (xm_in rfl hn) rfl hi ?_
  obtain ⟨hi, hF⟩ := ok_gd hF
  refine q_iastore (i := 73) rfl (xm_in rfl hn) rfl hi ?_
  refine q_iinc (i := 74) (k0 := 1) (Ls' := [(2, _), (0, _)]) rfl ki_1 rfl (Nat.le_of_ble_eq_true rfl) rfl ?_
  refine r_goto (i := 75) (tgt := 101) rfl (by decide) ?_
  refine xm_sub (Ls' := [(0, _), (2, _)]) [1, 0] rfl ?_
  have hJ := hg0 _ (ok_some hF)
  exact hJ
set_option maxHeartbeats 4000000 in
set_option maxRecDepth 100000 in
theorem t_M_findBest_b101 {s : Int32 × xm_I} {n : Nat} {L : xm_L} {K : xm_I → Prop} {Q : Option Value → xm_H → Prop} (hn : 86 ≤ n) (hq : ∀ p : xm_I, K p → Q none (p, L, RC n, n)) (hF : ok (f_M_findBest_b101 s) K) : xm_J 3 mt_M_findBest 101 [(0, .ref 49), (2, .int s.1)] [] (s.2, L, RC n, n) 0 0 Q :=
  lp_J (G := fun z => xm_J 3 mt_M_findBest 101 [(0, .ref 49), (2, .int z.1)] [] (z.2, L, RC n, n) 0 0 Q) (fun z hF => t_M_findBest_s101 hn (fun p h => hq p h) (fun z h => h) hF) s hF
set_option maxHeartbeats 4000000 in
set_option maxRecDepth 100000 in
theorem t_M_findBest_s20 {s : Int32 × xm_I} {n : Nat} {L : xm_L} {K : (Int32 × xm_I) ⊕ (xm_I) → Prop} {Q : Option Value → xm_H → Prop} (hn : 86 ≤ n) (hq : ∀ p : xm_I, K (.inr p) → Q none (p, L, RC n, n)) (hg0 : ∀ s : Int32 × xm_I, K (.inl s) → xm_J 3 mt_M_findBest 20 [(0, .ref 49), (1, .int s.1)] [] (s.2, L, RC n, n) 0 0 Q) (hF : ok (f_M_findBest_s20 s) K) : xm_J 3 mt_M_findBest 20 [(0, .ref 49), (1, .int s.1)] [] (s.2, L, RC n, n) 0 0 Q := by
  unfold f_M_findBest_s20 at hF
  refine r_iload_n (i := 13) (k0 := 1) rfl rfl rfl ?_
  refine r_iflt (i := 14) (tgt := 99) rfl (by decide) (fun hc => ?_) (fun hc => ?_)
  · have hF := ok_it hc hF
    refine r_iconst (v := 0) (i := 57) rfl ki_0 ?_
    refine r_istore_n (i := 58) (Ls' := [(2, _), (0, _), (1, _)]) rfl rfl (Nat.le_of_ble_eq_true rfl) rfl ?_
    refine xm_sub (Ls' := [(0, _), (2, _)]) [1, 0] rfl ?_
    exact t_M_findBest_b101 hn (fun p h => hq p h) (ok_map hF)
  have hF := ok_if hc hF
  refine r_iload_n (i := 15) (k0 := 1) rfl rfl rfl ?_
  refine r_aload_n (i := 16) (k0 := 0) rfl rfl rfl ?_
  refine q_geti (i := 17) rfl fl_M_455 (xm_in rfl hn) rfl ?_
  refine r_icmpne (i := 18) (tgt := 41) rfl (by decide) (fun hc => ?_) (fun hc => ?_)
  · have hF := ok_if hc hF
    refine r_aload_n (i := 24) (k0 := 0) rfl rfl rfl ?_
    refine q_getr (b := 81) (i := 25) rfl fl_M_122 rfl (xm_in rfl hn) rfl rfl ?_
    refine r_iload_n (i := 26) (k0 := 1) rfl rfl rfl ?_
    refine r_dup2 (i := 27) rfl rfl rfl ?_
    obtain ⟨hi, hF⟩ := ok_gd hF
    refine q_iaload (i := 28) rfl (xm_in rfl hn) rfl hi ?_
    refine r_iconst (v := 1) (i := 29) rfl ki_1 ?_
    refine r_iadd (i := 30) rfl ?_
    obtain ⟨hi, hF⟩ := ok_gd hF
    refine q_iastore (i := 31) rfl (xm_in rfl hn) rfl hi ?_
    refine r_aload_n (i := 32) (k0 := 0) rfl rfl rfl ?_
    refine q_getr (b := 81) (i := 33) rfl fl_M_122 rfl (xm_in rfl hn) rfl rfl ?_
    refine r_iload_n (i := 34) (k0 := 1) rfl rfl rfl ?_
    obtain ⟨hi, hF⟩ := ok_gd hF
    refine q_iaload (i := 35) rfl (xm_in rfl hn) rfl hi ?_
    refine r_bipush (v := 8) (i := 36) rfl kb_8 ?_
    refine r_icmple (i := 37) (tgt := 68) rfl (by decide) (fun hc => ?_) (fun hc => ?_)
    · have hF := ok_it hc hF
      refine r_aload_n (i := 40) (k0 := 0) rfl rfl rfl ?_
      refine r_iload_n (i := 41) (k0 := 1) rfl rfl rfl ?_
      refine c_V1I (i := 42) rfl vm_M_isFine lk_M_484 (t_M_isFine hn (ok_bind hF)) (Nat.le_of_ble_eq_true rfl) (xm_in rfl hn) rfl rfl (Nat.le_of_ble_eq_true rfl) (fun p_2 hF => ?_)
      refine r_ifeq (i := 43) (tgt := 20) rfl (by decide) (fun hc => ?_) (fun hc => ?_)
      · have hF := ok_it hc hF
        have hJ := hg0 _ (ok_some hF)
        exact hJ
      have hF := ok_if hc hF
      refine r_aload_n (i := 44) (k0 := 0) rfl rfl rfl ?_
      refine r_iload_n (i := 45) (k0 := 1) rfl rfl rfl ?_
      refine r_iconst (v := 1) (i := 46) rfl ki_1 ?_
      refine r_iadd (i := 47) rfl ?_
      refine c_V1I (i := 48) rfl vm_M_isBetter lk_M_487 (t_M_isBetter hn (ok_bind hF)) (Nat.le_of_ble_eq_true rfl) (xm_in rfl hn) rfl rfl (Nat.le_of_ble_eq_true rfl) (fun p_3 hF => ?_)
      refine r_ifeq (i := 49) (tgt := 20) rfl (by decide) (fun hc => ?_) (fun hc => ?_)
      · have hF := ok_it hc hF
        have hJ := hg0 _ (ok_some hF)
        exact hJ
      have hF := ok_if hc hF
      refine q_iinc (i := 50) (k0 := 1) (Ls' := [(1, _), (0, _)]) rfl ki_1 rfl (Nat.le_of_ble_eq_true rfl) rfl ?_
      refine r_aload_n (i := 51) (k0 := 1) rfl rfl rfl ?_
      refine q_getr (b := 81) (i := 52) rfl fl_M_122 rfl (xm_in rfl hn) rfl rfl ?_
      refine r_iload_n (i := 53) (k0 := 0) rfl rfl rfl ?_
      refine r_iconst (v := (-1)) (i := 54) rfl ki_m1 ?_
      obtain ⟨hi, hF⟩ := ok_gd hF
      refine q_iastore (i := 55) rfl (xm_in rfl hn) rfl hi ?_
      refine r_goto (i := 56) (tgt := 20) rfl (by decide) ?_
      refine xm_sub (Ls' := [(0, _), (1, _)]) [1, 0] rfl ?_
      have hJ := hg0 _ (ok_some hF)
      exact hJ
    have hF := ok_if hc hF
    refine q_iinc (i := 38) (k0 := 1) (Ls' := [(1, _), (0, _)]) rfl ki_m1 rfl (Nat.le_of_ble_eq_true rfl) rfl ?_
    refine r_goto (i := 39) (tgt := 20) rfl (by decide) ?_
    refine xm_sub (Ls' := [(0, _), (1, _)]) [1, 0] rfl ?_
    have hJ := hg0 _ (ok_some hF)
    exact hJ
  have hF := ok_it hc hF
  refine r_aload_n (i := 19) (k0 := 0) rfl rfl rfl ?_
  refine r_iload_n (i := 20) (k0 := 1) rfl rfl rfl ?_
  refine c_V1I (i := 21) rfl vm_M_reached lk_M_481 (t_M_reached hn (ok_bind hF)) (Nat.le_of_ble_eq_true rfl) (xm_in rfl hn) rfl rfl (Nat.le_of_ble_eq_true rfl) (fun p_7 hF => ?_)
  refine r_istore_n (i := 22) (Ls' := [(1, _), (0, _)]) rfl rfl (Nat.le_of_ble_eq_true rfl) rfl ?_
  refine r_goto (i := 23) (tgt := 20) rfl (by decide) ?_
  refine xm_sub (Ls' := [(0, _), (1, _)]) [1, 0] rfl ?_
  have hJ := hg0 _ (ok_some hF)
  exact hJ
set_option maxHeartbeats 4000000 in
set_option maxRecDepth 100000 in
theorem t_M_findBest_b20 {s : Int32 × xm_I} {n : Nat} {L : xm_L} {K : xm_I → Prop} {Q : Option Value → xm_H → Prop} (hn : 86 ≤ n) (hq : ∀ p : xm_I, K p → Q none (p, L, RC n, n)) (hF : ok (f_M_findBest_b20 s) K) : xm_J 3 mt_M_findBest 20 [(0, .ref 49), (1, .int s.1)] [] (s.2, L, RC n, n) 0 0 Q :=
  lp_J (G := fun z => xm_J 3 mt_M_findBest 20 [(0, .ref 49), (1, .int z.1)] [] (z.2, L, RC n, n) 0 0 Q) (fun z hF => t_M_findBest_s20 hn (fun p h => hq p h) (fun z h => h) hF) s hF
set_option maxHeartbeats 4000000 in
set_option maxRecDepth 100000 in
theorem t_M_findBest_b0 {n : Nat} {I : xm_I} {L : xm_L} {K : xm_I → Prop} {Q : Option Value → xm_H → Prop} (hn : 86 ≤ n) (hq : ∀ p : xm_I, K p → Q none (p, L, RC n, n)) (hF : ok (f_M_findBest_b0 I) K) : xm_J 3 mt_M_findBest 0 [(0, .ref 49)] [] (I, L, RC n, n) 0 0 Q := by
  unfold f_M_findBest_b0 at hF
  refine r_aload_n (i := 0) (k0 := 0) rfl rfl rfl ?_
  refine r_bipush (v := 7) (i := 1) rfl kb_7 ?_
  refine q_puti (i := 2) rfl fl_M_475 (fun h => Bool.noConfusion h) (xm_in rfl hn) rfl ?_
  refine r_aload_n (i := 3) (k0 := 0) rfl rfl rfl ?_
  refine r_iconst (v := 0) (i := 4) rfl ki_0 ?_
  refine q_puti (i := 5) rfl fl_M_478 (fun h => Bool.noConfusion h) (xm_in rfl hn) rfl ?_
  refine r_iconst (v := 0) (i := 6) rfl ki_0 ?_
  refine r_istore_n (i := 7) (Ls' := [(1, _), (0, _)]) rfl rfl (Nat.le_of_ble_eq_true rfl) rfl ?_
  refine r_aload_n (i := 8) (k0 := 1) rfl rfl rfl ?_
  refine q_getr (b := 81) (i := 9) rfl fl_M_122 rfl (xm_in rfl hn) rfl rfl ?_
  refine r_iconst (v := 0) (i := 10) rfl ki_0 ?_
  refine r_iconst (v := (-1)) (i := 11) rfl ki_m1 ?_
  refine q_iastore (i := 12) rfl (xm_in rfl hn) rfl ⟨by decide, by decide⟩ ?_
  refine xm_sub (Ls' := [(0, _), (1, _)]) [1, 0] rfl ?_
  exact t_M_findBest_b20 hn (fun p h => hq p h) hF
set_option maxHeartbeats 4000000 in
set_option maxRecDepth 100000 in
theorem t_M_findBest {n : Nat} {I : xm_I} {L : xm_L} {K : xm_I → Prop} (hn : 86 ≤ n) (hF : ok (f_M_findBest I) K) : xm_C 3 mt_M_findBest [.ref 49] (I, L, RC n, n) 0 0 (pV (fun p : xm_I => (p, L, RC n, n)) K) := by
  unfold f_M_findBest at hF
  refine xm_enter (by decide +kernel) dv_M_findBest (Nat.le_of_ble_eq_true rfl) ?_
  exact t_M_findBest_b0 hn (fun p hp => ⟨p, rfl, rfl, hp⟩) hF

noncomputable def f_M_taken_b143 (x1 : Int32) (x3 : Int32) (y0 : Int32) (I : xm_I) : Option ((Int32 × Int32) ⊕ (Int32)) :=
  let x3_1 : Int32 := x3 + 1
  some (.inl (y0, x3_1))
noncomputable def f_M_taken_b133 (x1 : Int32) (x2 : Int32) (x3 : Int32) (x5 : Int32) (I : xm_I) : Option ((Int32 × Int32) ⊕ (Int32)) :=
  if x5 = 0 then (
    f_M_taken_b143 x1 x3 x2 I)
  else (
  f_M_taken_b143 x1 x3 x3 I)
noncomputable def f_M_taken_b125 (x1 : Int32) (x2 : Int32) (x3 : Int32) (x6 : Int32) (y0 : Int32) (I : xm_I) : Option ((Int32 × Int32) ⊕ ((Int32 × Int32) ⊕ (Int32))) :=
  let x6_1 : Int32 := x6 + 1
  some (.inl (y0, x6_1))
noncomputable def f_M_taken_b120 (x1 : Int32) (x2 : Int32) (x3 : Int32) (x6 : Int32) (I : xm_I) : Option ((Int32 × Int32) ⊕ ((Int32 × Int32) ⊕ (Int32))) :=
  f_M_taken_b125 x1 x2 x3 x6 1 I
noncomputable def f_M_taken_s61 (x1 : Int32) (x2 : Int32) (x3 : Int32) (I : xm_I) (s : Int32 × Int32) : Option ((Int32 × Int32) ⊕ ((Int32 × Int32) ⊕ (Int32))) :=
  if (I 49 70) ≤ s.2 then (
    (f_M_taken_b133 x1 x2 x3 s.1 I).map .inr)
  else (
  if s.1 = 0 then (
    (f_M_taken_b133 x1 x2 x3 s.1 I).map .inr)
  else (
  gd (0 ≤ (s.2).toInt ∧ (s.2).toInt < 20) <|
  let x7_1 : Int32 := I 80 (Int32.toNatClampNeg s.2)
  if x7_1 = x1 then (
    f_M_taken_b120 x1 x2 x3 s.2 I)
  else (
  gd (0 ≤ (x7_1).toInt ∧ (x7_1).toInt < 20) <|
  if (I 76 (Int32.toNatClampNeg x7_1)) = 8 then (
    f_M_taken_b120 x1 x2 x3 s.2 I)
  else (
  gd (0 ≤ (x7_1).toInt ∧ (x7_1).toInt < 20) <|
  (f_M_meet x1 x3 x7_1 (I 76 (Int32.toNatClampNeg x7_1)) I).bind fun p_2 =>
  if p_2 = 0 then (
    f_M_taken_b120 x1 x2 x3 s.2 I)
  else (
    f_M_taken_b125 x1 x2 x3 s.2 0 I)))))
noncomputable def f_M_taken_b61 (x1 : Int32) (x2 : Int32) (x3 : Int32) (I : xm_I) (s : Int32 × Int32) : Option ((Int32 × Int32) ⊕ (Int32)) := lp (f_M_taken_s61 x1 x2 x3 I) s
noncomputable def f_M_taken_b56 (x1 : Int32) (x2 : Int32) (x3 : Int32) (y0 : Int32) (I : xm_I) : Option ((Int32 × Int32) ⊕ (Int32)) :=
  f_M_taken_b61 x1 x2 x3 I (y0, 0)
noncomputable def f_M_taken_b55 (x1 : Int32) (x2 : Int32) (x3 : Int32) (I : xm_I) : Option ((Int32 × Int32) ⊕ (Int32)) :=
  f_M_taken_b56 x1 x2 x3 0 I
noncomputable def f_M_taken_b51 (x1 : Int32) (x2 : Int32) (x3 : Int32) (I : xm_I) : Option ((Int32 × Int32) ⊕ (Int32)) :=
  f_M_taken_b56 x1 x2 x3 1 I
noncomputable def f_M_taken_s5 (x1 : Int32) (I : xm_I) (s : Int32 × Int32) : Option ((Int32 × Int32) ⊕ (Int32)) :=
  if 8 ≤ s.2 then (
    some (.inr (s.1)))
  else (
  gd (0 ≤ ((8 * x1) + s.2).toInt ∧ ((8 * x1) + s.2).toInt < 160) <|
  let x4_1 : Int32 := I 79 (Int32.toNatClampNeg ((8 * x1) + s.2))
  if x4_1 < 0 then (
    f_M_taken_b55 x1 s.1 s.2 I)
  else (
  if s.1 = 8 then (
    f_M_taken_b51 x1 s.1 s.2 I)
  else (
  gd (0 ≤ ((8 * x1) + s.1).toInt ∧ ((8 * x1) + s.1).toInt < 160) <|
  if (I 79 (Int32.toNatClampNeg ((8 * x1) + s.1))) ≤ x4_1 then (
    f_M_taken_b55 x1 s.1 s.2 I)
  else (
  f_M_taken_b51 x1 s.1 s.2 I))))
noncomputable def f_M_taken_b5 (x1 : Int32) (I : xm_I) (s : Int32 × Int32) : Option (Int32) := lp (f_M_taken_s5 x1 I) s
noncomputable def f_M_taken_b0 (x1 : Int32) (I : xm_I) : Option (Int32) :=
  f_M_taken_b5 x1 I (8, 0)
noncomputable def f_M_taken (x1 : Int32) (I : xm_I) : Option (Int32) := f_M_taken_b0 x1 I
set_option maxHeartbeats 4000000 in
set_option maxRecDepth 100000 in
theorem t_M_taken_b143 {x1 : Int32} {x3 : Int32} {y0 : Int32} {n : Nat} {I : xm_I} {L : xm_L} {K : (Int32 × Int32) ⊕ (Int32) → Prop} {Q : Option Value → xm_H → Prop} (hn : 86 ≤ n) (hq : ∀ p : Int32, K (.inr p) → Q (some (.int p)) (I, L, RC n, n)) (hg0 : ∀ s : Int32 × Int32, K (.inl s) → xm_J 2 mt_M_taken 5 [(0, .ref 49), (1, .int x1), (2, .int s.1), (3, .int s.2)] [] (I, L, RC n, n) 0 0 Q) (hF : ok (f_M_taken_b143 x1 x3 y0 I) K) : xm_J 2 mt_M_taken 143 [(0, .ref 49), (1, .int x1), (3, .int x3)] [.int y0] (I, L, RC n, n) 0 0 Q := by
  unfold f_M_taken_b143 at hF
  refine r_istore_n (i := 78) (Ls' := [(2, _), (0, _), (1, _), (3, _)]) rfl rfl (Nat.le_of_ble_eq_true rfl) rfl ?_
  refine q_iinc (i := 79) (k0 := 3) (Ls' := [(3, _), (2, _), (0, _), (1, _)]) rfl ki_1 rfl (Nat.le_of_ble_eq_true rfl) rfl ?_
  refine r_goto (i := 80) (tgt := 5) rfl (by decide) ?_
  refine xm_sub (Ls' := [(0, _), (1, _), (2, _), (3, _)]) [2, 3, 1, 0] rfl ?_
  have hJ := hg0 _ (ok_some hF)
  exact hJ
set_option maxHeartbeats 4000000 in
set_option maxRecDepth 100000 in
theorem t_M_taken_b133 {x1 : Int32} {x2 : Int32} {x3 : Int32} {x5 : Int32} {n : Nat} {I : xm_I} {L : xm_L} {K : (Int32 × Int32) ⊕ (Int32) → Prop} {Q : Option Value → xm_H → Prop} (hn : 86 ≤ n) (hq : ∀ p : Int32, K (.inr p) → Q (some (.int p)) (I, L, RC n, n)) (hg0 : ∀ s : Int32 × Int32, K (.inl s) → xm_J 2 mt_M_taken 5 [(0, .ref 49), (1, .int x1), (2, .int s.1), (3, .int s.2)] [] (I, L, RC n, n) 0 0 Q) (hF : ok (f_M_taken_b133 x1 x2 x3 x5 I) K) : xm_J 2 mt_M_taken 133 [(0, .ref 49), (1, .int x1), (2, .int x2), (3, .int x3), (5, .int x5)] [] (I, L, RC n, n) 0 0 Q := by
  unfold f_M_taken_b133 at hF
  refine r_iload (i := 73) (k0 := 4) rfl rfl ?_
  refine r_ifeq (i := 74) (tgt := 142) rfl (by decide) (fun hc => ?_) (fun hc => ?_)
  · have hF := ok_it hc hF
    refine r_iload_n (i := 77) (k0 := 2) rfl rfl rfl ?_
    refine xm_sub (Ls' := [(0, _), (1, _), (3, _)]) [0, 1, 3] rfl ?_
    exact t_M_taken_b143 hn (fun p h => hq p h) (fun z h => hg0 z h) hF
  have hF := ok_if hc hF
  refine r_iload_n (i := 75) (k0 := 3) rfl rfl rfl ?_
  refine r_goto (i := 76) (tgt := 143) rfl (by decide) ?_
  refine xm_sub (Ls' := [(0, _), (1, _), (3, _)]) [0, 1, 3] rfl ?_
  exact t_M_taken_b143 hn (fun p h => hq p h) (fun z h => hg0 z h) hF
set_option maxHeartbeats 4000000 in
set_option maxRecDepth 100000 in
theorem t_M_taken_b125 {x1 : Int32} {x2 : Int32} {x3 : Int32} {x6 : Int32} {y0 : Int32} {n : Nat} {I : xm_I} {L : xm_L} {K : (Int32 × Int32) ⊕ ((Int32 × Int32) ⊕ (Int32)) → Prop} {Q : Option Value → xm_H → Prop} (hn : 86 ≤ n) (hq : ∀ p : Int32, K (.inr (.inr p)) → Q (some (.int p)) (I, L, RC n, n)) (hg0 : ∀ s : Int32 × Int32, K (.inr (.inl s)) → xm_J 2 mt_M_taken 5 [(0, .ref 49), (1, .int x1), (2, .int s.1), (3, .int s.2)] [] (I, L, RC n, n) 0 0 Q) (hg1 : ∀ s : Int32 × Int32, K (.inl s) → xm_J 2 mt_M_taken 61 [(0, .ref 49), (1, .int x1), (2, .int x2), (3, .int x3), (5, .int s.1), (6, .int s.2)] [] (I, L, RC n, n) 0 0 Q) (hF : ok (f_M_taken_b125 x1 x2 x3 x6 y0 I) K) : xm_J 2 mt_M_taken 125 [(0, .ref 49), (1, .int x1), (2, .int x2), (3, .int x3), (6, .int x6)] [.int y0] (I, L, RC n, n) 0 0 Q := by
  unfold f_M_taken_b125 at hF
  refine r_istore (i := 70) (Ls' := [(5, _), (0, _), (1, _), (2, _), (3, _), (6, _)]) rfl (Nat.le_of_ble_eq_true rfl) rfl ?_
  refine q_iinc (i := 71) (k0 := 5) (Ls' := [(6, _), (5, _), (0, _), (1, _), (2, _), (3, _)]) rfl ki_1 rfl (Nat.le_of_ble_eq_true rfl) rfl ?_
  refine r_goto (i := 72) (tgt := 61) rfl (by decide) ?_
  refine xm_sub (Ls' := [(0, _), (1, _), (2, _), (3, _), (5, _), (6, _)]) [2, 3, 4, 5, 1, 0] rfl ?_
  have hJ := hg1 _ (ok_some hF)
  exact hJ
set_option maxHeartbeats 4000000 in
set_option maxRecDepth 100000 in
theorem t_M_taken_b120 {x1 : Int32} {x2 : Int32} {x3 : Int32} {x6 : Int32} {n : Nat} {I : xm_I} {L : xm_L} {K : (Int32 × Int32) ⊕ ((Int32 × Int32) ⊕ (Int32)) → Prop} {Q : Option Value → xm_H → Prop} (hn : 86 ≤ n) (hq : ∀ p : Int32, K (.inr (.inr p)) → Q (some (.int p)) (I, L, RC n, n)) (hg0 : ∀ s : Int32 × Int32, K (.inr (.inl s)) → xm_J 2 mt_M_taken 5 [(0, .ref 49), (1, .int x1), (2, .int s.1), (3, .int s.2)] [] (I, L, RC n, n) 0 0 Q) (hg1 : ∀ s : Int32 × Int32, K (.inl s) → xm_J 2 mt_M_taken 61 [(0, .ref 49), (1, .int x1), (2, .int x2), (3, .int x3), (5, .int s.1), (6, .int s.2)] [] (I, L, RC n, n) 0 0 Q) (hF : ok (f_M_taken_b120 x1 x2 x3 x6 I) K) : xm_J 2 mt_M_taken 120 [(0, .ref 49), (1, .int x1), (2, .int x2), (3, .int x3), (6, .int x6)] [] (I, L, RC n, n) 0 0 Q := by
  unfold f_M_taken_b120 at hF
  refine r_iconst (v := 1) (i := 67) rfl ki_1 ?_
  refine r_goto (i := 68) (tgt := 125) rfl (by decide) ?_
  exact t_M_taken_b125 hn (fun p h => hq p h) (fun z h => hg0 z h) (fun z h => hg1 z h) hF
set_option maxHeartbeats 4000000 in
set_option maxRecDepth 100000 in
theorem t_M_taken_s61 {x1 : Int32} {x2 : Int32} {x3 : Int32} {s : Int32 × Int32} {n : Nat} {I : xm_I} {L : xm_L} {K : (Int32 × Int32) ⊕ ((Int32 × Int32) ⊕ (Int32)) → Prop} {Q : Option Value → xm_H → Prop} (hn : 86 ≤ n) (hq : ∀ p : Int32, K (.inr (.inr p)) → Q (some (.int p)) (I, L, RC n, n)) (hg0 : ∀ s : Int32 × Int32, K (.inr (.inl s)) → xm_J 2 mt_M_taken 5 [(0, .ref 49), (1, .int x1), (2, .int s.1), (3, .int s.2)] [] (I, L, RC n, n) 0 0 Q) (hg1 : ∀ s : Int32 × Int32, K (.inl s) → xm_J 2 mt_M_taken 61 [(0, .ref 49), (1, .int x1), (2, .int x2), (3, .int x3), (5, .int s.1), (6, .int s.2)] [] (I, L, RC n, n) 0 0 Q) (hF : ok (f_M_taken_s61 x1 x2 x3 I s) K) : xm_J 2 mt_M_taken 61 [(0, .ref 49), (1, .int x1), (2, .int x2), (3, .int x3), (5, .int s.1), (6, .int s.2)] [] (I, L, RC n, n) 0 0 Q := by
  unfold f_M_taken_s61 at hF
  refine r_iload (i := 37) (k0 := 5) rfl rfl ?_
  refine r_aload_n (i := 38) (k0 := 0) rfl rfl rfl ?_
  refine q_geti (i := 39) rfl fl_M_455 (xm_in rfl hn) rfl ?_
  refine r_icmpge (i := 40) (tgt := 133) rfl (by decide) (fun hc => ?_) (fun hc => ?_)
  · have hF := ok_it hc hF
    refine xm_sub (Ls' := [(0, _), (1, _), (2, _), (3, _), (5, _)]) [0, 1, 2, 3, 4] rfl ?_
    exact t_M_taken_b133 hn (fun p h => hq p h) (fun z h => hg0 z h) (ok_map hF)
  have hF := ok_if hc hF
  refine r_iload (i := 41) (k0 := 4) rfl rfl ?_
  refine r_ifeq (i := 42) (tgt := 133) rfl (by decide) (fun hc => ?_) (fun hc => ?_)
  · have hF := ok_it hc hF
    refine xm_sub (Ls' := [(0, _), (1, _), (2, _), (3, _), (5, _)]) [0, 1, 2, 3, 4] rfl ?_
    exact t_M_taken_b133 hn (fun p h => hq p h) (fun z h => hg0 z h) (ok_map hF)
  have hF := ok_if hc hF
  refine r_aload_n (i := 43) (k0 := 0) rfl rfl rfl ?_
  refine q_getr (b := 80) (i := 44) rfl fl_M_119 rfl (xm_in rfl hn) rfl rfl ?_
  refine r_iload (i := 45) (k0 := 5) rfl rfl ?_
  obtain ⟨hi, hF⟩ := ok_gd hF
  refine q_iaload (i := 46) rfl (xm_in rfl hn) rfl hi ?_
  refine r_istore (i := 47) (Ls' := [(7, _), (0, _), (1, _), (2, _), (3, _), (5, _), (6, _)]) rfl (Nat.le_of_ble_eq_true rfl) rfl ?_
  refine r_iload (i := 48) (k0 := 0) rfl rfl ?_
  refine r_iload_n (i := 49) (k0 := 2) rfl rfl rfl ?_
  refine r_icmpeq (i := 50) (tgt := 120) rfl (by decide) (fun hc => ?_) (fun hc => ?_)
  · have hF := ok_it hc hF
    refine xm_sub (Ls' := [(0, _), (1, _), (2, _), (3, _), (6, _)]) [1, 2, 3, 4, 6] rfl ?_
    exact t_M_taken_b120 hn (fun p h => hq p h) (fun z h => hg0 z h) (fun z h => hg1 z h) hF
  have hF := ok_if hc hF
  refine r_aload_n (i := 51) (k0 := 1) rfl rfl rfl ?_
  refine q_getr (b := 76) (i := 52) rfl fl_M_106 rfl (xm_in rfl hn) rfl rfl ?_
  refine r_iload (i := 53) (k0 := 0) rfl rfl ?_
  obtain ⟨hi, hF⟩ := ok_gd hF
  refine q_iaload (i := 54) rfl (xm_in rfl hn) rfl hi ?_
  refine r_bipush (v := 8) (i := 55) rfl kb_8 ?_
  refine r_icmpeq (i := 56) (tgt := 120) rfl (by decide) (fun hc => ?_) (fun hc => ?_)
  · have hF := ok_it hc hF
    refine xm_sub (Ls' := [(0, _), (1, _), (2, _), (3, _), (6, _)]) [1, 2, 3, 4, 6] rfl ?_
    exact t_M_taken_b120 hn (fun p h => hq p h) (fun z h => hg0 z h) (fun z h => hg1 z h) hF
  have hF := ok_if hc hF
  refine r_aload_n (i := 57) (k0 := 1) rfl rfl rfl ?_
  refine r_iload_n (i := 58) (k0 := 2) rfl rfl rfl ?_
  refine r_iload_n (i := 59) (k0 := 4) rfl rfl rfl ?_
  refine r_iload (i := 60) (k0 := 0) rfl rfl ?_
  refine r_aload_n (i := 61) (k0 := 1) rfl rfl rfl ?_
  refine q_getr (b := 76) (i := 62) rfl fl_M_106 rfl (xm_in rfl hn) rfl rfl ?_
  refine r_iload (i := 63) (k0 := 0) rfl rfl ?_
  obtain ⟨hi, hF⟩ := ok_gd hF
  refine q_iaload (i := 64) rfl (xm_in rfl hn) rfl hi ?_
  refine c_V4I (i := 65) rfl vm_M_meet lk_M_471 (t_M_meet hn (ok_bind hF)) (Nat.le_of_ble_eq_true rfl) (xm_in rfl hn) rfl rfl (Nat.le_of_ble_eq_true rfl) (fun p_2 hF => ?_)
  refine r_ifne (i := 66) (tgt := 124) rfl (by decide) (fun hc => ?_) (fun hc => ?_)
  · have hF := ok_if hc hF
    refine r_iconst (v := 0) (i := 69) rfl ki_0 ?_
    refine xm_sub (Ls' := [(0, _), (1, _), (2, _), (3, _), (6, _)]) [1, 2, 3, 4, 6] rfl ?_
    exact t_M_taken_b125 hn (fun p h => hq p h) (fun z h => hg0 z h) (fun z h => hg1 z h) hF
  have hF := ok_it hc hF
  refine xm_sub (Ls' := [(0, _), (1, _), (2, _), (3, _), (6, _)]) [1, 2, 3, 4, 6] rfl ?_
  exact t_M_taken_b120 hn (fun p h => hq p h) (fun z h => hg0 z h) (fun z h => hg1 z h) hF
set_option maxHeartbeats 4000000 in
set_option maxRecDepth 100000 in
theorem t_M_taken_b61 {x1 : Int32} {x2 : Int32} {x3 : Int32} {s : Int32 × Int32} {n : Nat} {I : xm_I} {L : xm_L} {K : (Int32 × Int32) ⊕ (Int32) → Prop} {Q : Option Value → xm_H → Prop} (hn : 86 ≤ n) (hq : ∀ p : Int32, K (.inr p) → Q (some (.int p)) (I, L, RC n, n)) (hg0 : ∀ s : Int32 × Int32, K (.inl s) → xm_J 2 mt_M_taken 5 [(0, .ref 49), (1, .int x1), (2, .int s.1), (3, .int s.2)] [] (I, L, RC n, n) 0 0 Q) (hF : ok (f_M_taken_b61 x1 x2 x3 I s) K) : xm_J 2 mt_M_taken 61 [(0, .ref 49), (1, .int x1), (2, .int x2), (3, .int x3), (5, .int s.1), (6, .int s.2)] [] (I, L, RC n, n) 0 0 Q :=
  lp_J (G := fun z => xm_J 2 mt_M_taken 61 [(0, .ref 49), (1, .int x1), (2, .int x2), (3, .int x3), (5, .int z.1), (6, .int z.2)] [] (I, L, RC n, n) 0 0 Q) (fun z hF => t_M_taken_s61 hn (fun p h => hq p h) (fun z h => hg0 z h) (fun z h => h) hF) s hF
set_option maxHeartbeats 4000000 in
set_option maxRecDepth 100000 in
theorem t_M_taken_b56 {x1 : Int32} {x2 : Int32} {x3 : Int32} {y0 : Int32} {n : Nat} {I : xm_I} {L : xm_L} {K : (Int32 × Int32) ⊕ (Int32) → Prop} {Q : Option Value → xm_H → Prop} (hn : 86 ≤ n) (hq : ∀ p : Int32, K (.inr p) → Q (some (.int p)) (I, L, RC n, n)) (hg0 : ∀ s : Int32 × Int32, K (.inl s) → xm_J 2 mt_M_taken 5 [(0, .ref 49), (1, .int x1), (2, .int s.1), (3, .int s.2)] [] (I, L, RC n, n) 0 0 Q) (hF : ok (f_M_taken_b56 x1 x2 x3 y0 I) K) : xm_J 2 mt_M_taken 56 [(0, .ref 49), (1, .int x1), (2, .int x2), (3, .int x3)] [.int y0] (I, L, RC n, n) 0 0 Q := by
  unfold f_M_taken_b56 at hF
  refine r_istore (i := 34) (Ls' := [(5, _), (0, _), (1, _), (2, _), (3, _)]) rfl (Nat.le_of_ble_eq_true rfl) rfl ?_
  refine r_iconst (v := 0) (i := 35) rfl ki_0 ?_
  refine r_istore (i := 36) (Ls' := [(6, _), (5, _), (0, _), (1, _), (2, _), (3, _)]) rfl (Nat.le_of_ble_eq_true rfl) rfl ?_
  refine xm_sub (Ls' := [(0, _), (1, _), (2, _), (3, _), (5, _), (6, _)]) [2, 3, 4, 5, 1, 0] rfl ?_
  exact t_M_taken_b61 hn (fun p h => hq p h) (fun z h => hg0 z h) hF
set_option maxHeartbeats 4000000 in
set_option maxRecDepth 100000 in
theorem t_M_taken_b55 {x1 : Int32} {x2 : Int32} {x3 : Int32} {n : Nat} {I : xm_I} {L : xm_L} {K : (Int32 × Int32) ⊕ (Int32) → Prop} {Q : Option Value → xm_H → Prop} (hn : 86 ≤ n) (hq : ∀ p : Int32, K (.inr p) → Q (some (.int p)) (I, L, RC n, n)) (hg0 : ∀ s : Int32 × Int32, K (.inl s) → xm_J 2 mt_M_taken 5 [(0, .ref 49), (1, .int x1), (2, .int s.1), (3, .int s.2)] [] (I, L, RC n, n) 0 0 Q) (hF : ok (f_M_taken_b55 x1 x2 x3 I) K) : xm_J 2 mt_M_taken 55 [(0, .ref 49), (1, .int x1), (2, .int x2), (3, .int x3)] [] (I, L, RC n, n) 0 0 Q := by
  unfold f_M_taken_b55 at hF
  refine r_iconst (v := 0) (i := 33) rfl ki_0 ?_
  exact t_M_taken_b56 hn (fun p h => hq p h) (fun z h => hg0 z h) hF
set_option maxHeartbeats 4000000 in
set_option maxRecDepth 100000 in
theorem t_M_taken_b51 {x1 : Int32} {x2 : Int32} {x3 : Int32} {n : Nat} {I : xm_I} {L : xm_L} {K : (Int32 × Int32) ⊕ (Int32) → Prop} {Q : Option Value → xm_H → Prop} (hn : 86 ≤ n) (hq : ∀ p : Int32, K (.inr p) → Q (some (.int p)) (I, L, RC n, n)) (hg0 : ∀ s : Int32 × Int32, K (.inl s) → xm_J 2 mt_M_taken 5 [(0, .ref 49), (1, .int x1), (2, .int s.1), (3, .int s.2)] [] (I, L, RC n, n) 0 0 Q) (hF : ok (f_M_taken_b51 x1 x2 x3 I) K) : xm_J 2 mt_M_taken 51 [(0, .ref 49), (1, .int x1), (2, .int x2), (3, .int x3)] [] (I, L, RC n, n) 0 0 Q := by
  unfold f_M_taken_b51 at hF
  refine r_iconst (v := 1) (i := 31) rfl ki_1 ?_
  refine r_goto (i := 32) (tgt := 56) rfl (by decide) ?_
  exact t_M_taken_b56 hn (fun p h => hq p h) (fun z h => hg0 z h) hF
set_option maxHeartbeats 4000000 in
set_option maxRecDepth 100000 in
theorem t_M_taken_s5 {x1 : Int32} {s : Int32 × Int32} {n : Nat} {I : xm_I} {L : xm_L} {K : (Int32 × Int32) ⊕ (Int32) → Prop} {Q : Option Value → xm_H → Prop} (hn : 86 ≤ n) (hq : ∀ p : Int32, K (.inr p) → Q (some (.int p)) (I, L, RC n, n)) (hg0 : ∀ s : Int32 × Int32, K (.inl s) → xm_J 2 mt_M_taken 5 [(0, .ref 49), (1, .int x1), (2, .int s.1), (3, .int s.2)] [] (I, L, RC n, n) 0 0 Q) (hF : ok (f_M_taken_s5 x1 I s) K) : xm_J 2 mt_M_taken 5 [(0, .ref 49), (1, .int x1), (2, .int s.1), (3, .int s.2)] [] (I, L, RC n, n) 0 0 Q := by
  unfold f_M_taken_s5 at hF
  refine r_iload_n (i := 4) (k0 := 3) rfl rfl rfl ?_
  refine r_bipush (v := 8) (i := 5) rfl kb_8 ?_
  refine r_icmpge (i := 6) (tgt := 150) rfl (by decide) (fun hc => ?_) (fun hc => ?_)
  · have hF := ok_it hc hF
    refine r_iload_n (i := 81) (k0 := 2) rfl rfl rfl ?_
    have hQ := hq _ (ok_some hF)
    exact r_ireturn (i := 82) rfl rfl rfl hQ
  have hF := ok_if hc hF
  refine r_aload_n (i := 7) (k0 := 0) rfl rfl rfl ?_
  refine q_getr (b := 79) (i := 8) rfl fl_M_116 rfl (xm_in rfl hn) rfl rfl ?_
  refine r_bipush (v := 8) (i := 9) rfl kb_8 ?_
  refine r_iload_n (i := 10) (k0 := 1) rfl rfl rfl ?_
  refine r_imul (i := 11) rfl ?_
  refine r_iload_n (i := 12) (k0 := 3) rfl rfl rfl ?_
  refine r_iadd (i := 13) rfl ?_
  obtain ⟨hi, hF⟩ := ok_gd hF
  refine q_iaload (i := 14) rfl (xm_in rfl hn) rfl hi ?_
  refine r_istore (i := 15) (Ls' := [(4, _), (0, _), (1, _), (2, _), (3, _)]) rfl (Nat.le_of_ble_eq_true rfl) rfl ?_
  refine r_iload (i := 16) (k0 := 0) rfl rfl ?_
  refine r_iflt (i := 17) (tgt := 55) rfl (by decide) (fun hc => ?_) (fun hc => ?_)
  · have hF := ok_it hc hF
    refine xm_sub (Ls' := [(0, _), (1, _), (2, _), (3, _)]) [1, 2, 3, 4] rfl ?_
    exact t_M_taken_b55 hn (fun p h => hq p h) (fun z h => hg0 z h) hF
  have hF := ok_if hc hF
  refine r_iload_n (i := 18) (k0 := 3) rfl rfl rfl ?_
  refine r_bipush (v := 8) (i := 19) rfl kb_8 ?_
  refine r_icmpeq (i := 20) (tgt := 51) rfl (by decide) (fun hc => ?_) (fun hc => ?_)
  · have hF := ok_it hc hF
    refine xm_sub (Ls' := [(0, _), (1, _), (2, _), (3, _)]) [1, 2, 3, 4] rfl ?_
    exact t_M_taken_b51 hn (fun p h => hq p h) (fun z h => hg0 z h) hF
  have hF := ok_if hc hF
  refine r_iload (i := 21) (k0 := 0) rfl rfl ?_
  refine r_aload_n (i := 22) (k0 := 1) rfl rfl rfl ?_
  refine q_getr (b := 79) (i := 23) rfl fl_M_116 rfl (xm_in rfl hn) rfl rfl ?_
  refine r_bipush (v := 8) (i := 24) rfl kb_8 ?_
  refine r_iload_n (i := 25) (k0 := 2) rfl rfl rfl ?_
  refine r_imul (i := 26) rfl ?_
  refine r_iload_n (i := 27) (k0 := 3) rfl rfl rfl ?_
  refine r_iadd (i := 28) rfl ?_
  obtain ⟨hi, hF⟩ := ok_gd hF
  refine q_iaload (i := 29) rfl (xm_in rfl hn) rfl hi ?_
  refine r_icmpge (i := 30) (tgt := 55) rfl (by decide) (fun hc => ?_) (fun hc => ?_)
  · have hF := ok_it hc hF
    refine xm_sub (Ls' := [(0, _), (1, _), (2, _), (3, _)]) [1, 2, 3, 4] rfl ?_
    exact t_M_taken_b55 hn (fun p h => hq p h) (fun z h => hg0 z h) hF
  have hF := ok_if hc hF
  refine xm_sub (Ls' := [(0, _), (1, _), (2, _), (3, _)]) [1, 2, 3, 4] rfl ?_
  exact t_M_taken_b51 hn (fun p h => hq p h) (fun z h => hg0 z h) hF
set_option maxHeartbeats 4000000 in
set_option maxRecDepth 100000 in
theorem t_M_taken_b5 {x1 : Int32} {s : Int32 × Int32} {n : Nat} {I : xm_I} {L : xm_L} {K : Int32 → Prop} {Q : Option Value → xm_H → Prop} (hn : 86 ≤ n) (hq : ∀ p : Int32, K p → Q (some (.int p)) (I, L, RC n, n)) (hF : ok (f_M_taken_b5 x1 I s) K) : xm_J 2 mt_M_taken 5 [(0, .ref 49), (1, .int x1), (2, .int s.1), (3, .int s.2)] [] (I, L, RC n, n) 0 0 Q :=
  lp_J (G := fun z => xm_J 2 mt_M_taken 5 [(0, .ref 49), (1, .int x1), (2, .int z.1), (3, .int z.2)] [] (I, L, RC n, n) 0 0 Q) (fun z hF => t_M_taken_s5 hn (fun p h => hq p h) (fun z h => h) hF) s hF
set_option maxHeartbeats 4000000 in
set_option maxRecDepth 100000 in
theorem t_M_taken_b0 {x1 : Int32} {n : Nat} {I : xm_I} {L : xm_L} {K : Int32 → Prop} {Q : Option Value → xm_H → Prop} (hn : 86 ≤ n) (hq : ∀ p : Int32, K p → Q (some (.int p)) (I, L, RC n, n)) (hF : ok (f_M_taken_b0 x1 I) K) : xm_J 2 mt_M_taken 0 [(0, .ref 49), (1, .int x1)] [] (I, L, RC n, n) 0 0 Q := by
  unfold f_M_taken_b0 at hF
  refine r_bipush (v := 8) (i := 0) rfl kb_8 ?_
  refine r_istore_n (i := 1) (Ls' := [(2, _), (0, _), (1, _)]) rfl rfl (Nat.le_of_ble_eq_true rfl) rfl ?_
  refine r_iconst (v := 0) (i := 2) rfl ki_0 ?_
  refine r_istore_n (i := 3) (Ls' := [(3, _), (2, _), (0, _), (1, _)]) rfl rfl (Nat.le_of_ble_eq_true rfl) rfl ?_
  refine xm_sub (Ls' := [(0, _), (1, _), (2, _), (3, _)]) [2, 3, 1, 0] rfl ?_
  exact t_M_taken_b5 hn (fun p h => hq p h) hF
set_option maxHeartbeats 4000000 in
set_option maxRecDepth 100000 in
theorem t_M_taken {x1 : Int32} {n : Nat} {I : xm_I} {L : xm_L} {K : Int32 → Prop} (hn : 86 ≤ n) (hF : ok (f_M_taken x1 I) K) : xm_C 2 mt_M_taken [.ref 49, .int x1] (I, L, RC n, n) 0 0 (pI (fun p : Int32 => p) (fun p : Int32 => (I, L, RC n, n)) K) := by
  unfold f_M_taken at hF
  refine xm_enter (by decide +kernel) dv_M_taken (Nat.le_of_ble_eq_true rfl) ?_
  exact t_M_taken_b0 hn (fun p hp => ⟨p, rfl, rfl, hp⟩) hF

noncomputable def f_M_goRound_b71 (x2 : Int32) (x3 : Int32) (x4 : Int32) (y0 : Int32) (I : xm_I) : Option ((Int32 × Int32 × xm_I) ⊕ ((Int32 × xm_I) ⊕ (xm_I))) :=
  gd (0 ≤ (x3).toInt ∧ (x3).toInt < 20) <|
  let I_1 : xm_I := up2 I 76 (Int32.toNatClampNeg x3) x4
  let x2_2 : Int32 := x2 + 1
  some (.inl (y0, x2_2, I_1))
noncomputable def f_M_goRound_b66 (x2 : Int32) (x3 : Int32) (x4 : Int32) (I : xm_I) : Option ((Int32 × Int32 × xm_I) ⊕ ((Int32 × xm_I) ⊕ (xm_I))) :=
  f_M_goRound_b71 x2 x3 x4 1 I
noncomputable def f_M_goRound_s29 (s : Int32 × Int32 × xm_I) : Option ((Int32 × Int32 × xm_I) ⊕ ((Int32 × xm_I) ⊕ (xm_I))) :=
  if (s.2.2 49 70) ≤ s.2.1 then (
    some (.inr (.inl (s.1, s.2.2))))
  else (
  gd (0 ≤ (s.2.1).toInt ∧ (s.2.1).toInt < 20) <|
  let x3_1 : Int32 := s.2.2 80 (Int32.toNatClampNeg s.2.1)
  (f_M_taken x3_1 s.2.2).bind fun p_2 =>
  if s.1 = 0 then (
    gd (0 ≤ (x3_1).toInt ∧ (x3_1).toInt < 20) <|
    if p_2 = (s.2.2 76 (Int32.toNatClampNeg x3_1)) then (
      f_M_goRound_b71 s.2.1 x3_1 p_2 0 s.2.2)
    else (
    f_M_goRound_b66 s.2.1 x3_1 p_2 s.2.2))
  else (
    f_M_goRound_b66 s.2.1 x3_1 p_2 s.2.2))
noncomputable def f_M_goRound_b29 (s : Int32 × Int32 × xm_I) : Option ((Int32 × xm_I) ⊕ (xm_I)) := lp (f_M_goRound_s29) s
noncomputable def f_M_goRound_s2 (s : Int32 × xm_I) : Option ((Int32 × xm_I) ⊕ (xm_I)) :=
  if s.1 = 0 then (
    some (.inr (s.2)))
  else (
  if 10 ≤ (s.2 49 60) then (
    some (.inr (s.2)))
  else (
  let I_1 : xm_I := up2 s.2 49 60 ((s.2 49 60) + 1)
  f_M_goRound_b29 (0, 0, I_1)))
noncomputable def f_M_goRound_b2 (s : Int32 × xm_I) : Option (xm_I) := lp (f_M_goRound_s2) s
noncomputable def f_M_goRound_b0 (I : xm_I) : Option (xm_I) :=
  f_M_goRound_b2 (1, I)
noncomputable def f_M_goRound (I : xm_I) : Option (xm_I) := f_M_goRound_b0 I
set_option maxHeartbeats 4000000 in
set_option maxRecDepth 100000 in
theorem t_M_goRound_b71 {x2 : Int32} {x3 : Int32} {x4 : Int32} {y0 : Int32} {n : Nat} {I : xm_I} {L : xm_L} {K : (Int32 × Int32 × xm_I) ⊕ ((Int32 × xm_I) ⊕ (xm_I)) → Prop} {Q : Option Value → xm_H → Prop} (hn : 86 ≤ n) (hq : ∀ p : xm_I, K (.inr (.inr p)) → Q none (p, L, RC n, n)) (hg0 : ∀ s : Int32 × xm_I, K (.inr (.inl s)) → xm_J 3 mt_M_goRound 2 [(0, .ref 49), (1, .int s.1)] [] (s.2, L, RC n, n) 0 0 Q) (hg1 : ∀ s : Int32 × Int32 × xm_I, K (.inl s) → xm_J 3 mt_M_goRound 29 [(0, .ref 49), (1, .int s.1), (2, .int s.2.1)] [] (s.2.2, L, RC n, n) 0 0 Q) (hF : ok (f_M_goRound_b71 x2 x3 x4 y0 I) K) : xm_J 3 mt_M_goRound 71 [(0, .ref 49), (2, .int x2), (3, .int x3), (4, .int x4)] [.int y0] (I, L, RC n, n) 0 0 Q := by
  unfold f_M_goRound_b71 at hF
  refine r_istore_n (i := 42) (Ls' := [(1, _), (0, _), (2, _), (3, _), (4, _)]) rfl rfl (Nat.le_of_ble_eq_true rfl) rfl ?_
  refine r_aload_n (i := 43) (k0 := 1) rfl rfl rfl ?_
  refine q_getr (b := 76) (i := 44) rfl fl_M_106 rfl (xm_in rfl hn) rfl rfl ?_
  refine r_iload_n (i := 45) (k0 := 3) rfl rfl rfl ?_
  refine r_iload (i := 46) (k0 := 4) rfl rfl ?_
  obtain ⟨hi, hF⟩ := ok_gd hF
  refine q_iastore (i := 47) rfl (xm_in rfl hn) rfl hi ?_
  refine q_iinc (i := 48) (k0 := 2) (Ls' := [(2, _), (1, _), (0, _), (3, _), (4, _)]) rfl ki_1 rfl (Nat.le_of_ble_eq_true rfl) rfl ?_
  refine r_goto (i := 49) (tgt := 29) rfl (by decide) ?_
  refine xm_sub (Ls' := [(0, _), (1, _), (2, _)]) [2, 1, 0] rfl ?_
  have hJ := hg1 _ (ok_some hF)
  exact hJ
set_option maxHeartbeats 4000000 in
set_option maxRecDepth 100000 in
theorem t_M_goRound_b66 {x2 : Int32} {x3 : Int32} {x4 : Int32} {n : Nat} {I : xm_I} {L : xm_L} {K : (Int32 × Int32 × xm_I) ⊕ ((Int32 × xm_I) ⊕ (xm_I)) → Prop} {Q : Option Value → xm_H → Prop} (hn : 86 ≤ n) (hq : ∀ p : xm_I, K (.inr (.inr p)) → Q none (p, L, RC n, n)) (hg0 : ∀ s : Int32 × xm_I, K (.inr (.inl s)) → xm_J 3 mt_M_goRound 2 [(0, .ref 49), (1, .int s.1)] [] (s.2, L, RC n, n) 0 0 Q) (hg1 : ∀ s : Int32 × Int32 × xm_I, K (.inl s) → xm_J 3 mt_M_goRound 29 [(0, .ref 49), (1, .int s.1), (2, .int s.2.1)] [] (s.2.2, L, RC n, n) 0 0 Q) (hF : ok (f_M_goRound_b66 x2 x3 x4 I) K) : xm_J 3 mt_M_goRound 66 [(0, .ref 49), (2, .int x2), (3, .int x3), (4, .int x4)] [] (I, L, RC n, n) 0 0 Q := by
  unfold f_M_goRound_b66 at hF
  refine r_iconst (v := 1) (i := 39) rfl ki_1 ?_
  refine r_goto (i := 40) (tgt := 71) rfl (by decide) ?_
  exact t_M_goRound_b71 hn (fun p h => hq p h) (fun z h => hg0 z h) (fun z h => hg1 z h) hF
set_option maxHeartbeats 4000000 in
set_option maxRecDepth 100000 in
theorem t_M_goRound_s29 {s : Int32 × Int32 × xm_I} {n : Nat} {L : xm_L} {K : (Int32 × Int32 × xm_I) ⊕ ((Int32 × xm_I) ⊕ (xm_I)) → Prop} {Q : Option Value → xm_H → Prop} (hn : 86 ≤ n) (hq : ∀ p : xm_I, K (.inr (.inr p)) → Q none (p, L, RC n, n)) (hg0 : ∀ s : Int32 × xm_I, K (.inr (.inl s)) → xm_J 3 mt_M_goRound 2 [(0, .ref 49), (1, .int s.1)] [] (s.2, L, RC n, n) 0 0 Q) (hg1 : ∀ s : Int32 × Int32 × xm_I, K (.inl s) → xm_J 3 mt_M_goRound 29 [(0, .ref 49), (1, .int s.1), (2, .int s.2.1)] [] (s.2.2, L, RC n, n) 0 0 Q) (hF : ok (f_M_goRound_s29 s) K) : xm_J 3 mt_M_goRound 29 [(0, .ref 49), (1, .int s.1), (2, .int s.2.1)] [] (s.2.2, L, RC n, n) 0 0 Q := by
  unfold f_M_goRound_s29 at hF
  refine r_iload_n (i := 18) (k0 := 2) rfl rfl rfl ?_
  refine r_aload_n (i := 19) (k0 := 0) rfl rfl rfl ?_
  refine q_geti (i := 20) rfl fl_M_455 (xm_in rfl hn) rfl ?_
  refine r_icmpge (i := 21) (tgt := 86) rfl (by decide) (fun hc => ?_) (fun hc => ?_)
  · have hF := ok_it hc hF
    refine r_goto (i := 50) (tgt := 2) rfl (by decide) ?_
    refine xm_sub (Ls' := [(0, _), (1, _)]) [0, 1] rfl ?_
    have hJ := hg0 _ (ok_some hF)
    exact hJ
  have hF := ok_if hc hF
  refine r_aload_n (i := 22) (k0 := 0) rfl rfl rfl ?_
  refine q_getr (b := 80) (i := 23) rfl fl_M_119 rfl (xm_in rfl hn) rfl rfl ?_
  refine r_iload_n (i := 24) (k0 := 2) rfl rfl rfl ?_
  obtain ⟨hi, hF⟩ := ok_gd hF
  refine q_iaload (i := 25) rfl (xm_in rfl hn) rfl hi ?_
  refine r_istore_n (i := 26) (Ls' := [(3, _), (0, _), (1, _), (2, _)]) rfl rfl (Nat.le_of_ble_eq_true rfl) rfl ?_
  refine r_aload_n (i := 27) (k0 := 1) rfl rfl rfl ?_
  refine r_iload_n (i := 28) (k0 := 0) rfl rfl rfl ?_
  refine c_V1I (i := 29) rfl vm_M_taken lk_M_496 (t_M_taken hn (ok_bind hF)) (Nat.le_of_ble_eq_true rfl) (xm_in rfl hn) rfl rfl (Nat.le_of_ble_eq_true rfl) (fun p_2 hF => ?_)
  refine r_istore (i := 30) (Ls' := [(4, _), (3, _), (0, _), (1, _), (2, _)]) rfl (Nat.le_of_ble_eq_true rfl) rfl ?_
  refine r_iload_n (i := 31) (k0 := 3) rfl rfl rfl ?_
  refine r_ifne (i := 32) (tgt := 66) rfl (by decide) (fun hc => ?_) (fun hc => ?_)
  · have hF := ok_if hc hF
    refine xm_sub (Ls' := [(0, _), (2, _), (3, _), (4, _)]) [2, 4, 1, 0] rfl ?_
    exact t_M_goRound_b66 hn (fun p h => hq p h) (fun z h => hg0 z h) (fun z h => hg1 z h) hF
  have hF := ok_it hc hF
  refine r_iload (i := 33) (k0 := 0) rfl rfl ?_
  refine r_aload_n (i := 34) (k0 := 2) rfl rfl rfl ?_
  refine q_getr (b := 76) (i := 35) rfl fl_M_106 rfl (xm_in rfl hn) rfl rfl ?_
  refine r_iload_n (i := 36) (k0 := 1) rfl rfl rfl ?_
  obtain ⟨hi, hF⟩ := ok_gd hF
  refine q_iaload (i := 37) rfl (xm_in rfl hn) rfl hi ?_
  refine r_icmpeq (i := 38) (tgt := 70) rfl (by decide) (fun hc => ?_) (fun hc => ?_)
  · have hF := ok_it hc hF
    refine r_iconst (v := 0) (i := 41) rfl ki_0 ?_
    refine xm_sub (Ls' := [(0, _), (2, _), (3, _), (4, _)]) [2, 4, 1, 0] rfl ?_
    exact t_M_goRound_b71 hn (fun p h => hq p h) (fun z h => hg0 z h) (fun z h => hg1 z h) hF
  have hF := ok_if hc hF
  refine xm_sub (Ls' := [(0, _), (2, _), (3, _), (4, _)]) [2, 4, 1, 0] rfl ?_
  exact t_M_goRound_b66 hn (fun p h => hq p h) (fun z h => hg0 z h) (fun z h => hg1 z h) hF
set_option maxHeartbeats 4000000 in
set_option maxRecDepth 100000 in
theorem t_M_goRound_b29 {s : Int32 × Int32 × xm_I} {n : Nat} {L : xm_L} {K : (Int32 × xm_I) ⊕ (xm_I) → Prop} {Q : Option Value → xm_H → Prop} (hn : 86 ≤ n) (hq : ∀ p : xm_I, K (.inr p) → Q none (p, L, RC n, n)) (hg0 : ∀ s : Int32 × xm_I, K (.inl s) → xm_J 3 mt_M_goRound 2 [(0, .ref 49), (1, .int s.1)] [] (s.2, L, RC n, n) 0 0 Q) (hF : ok (f_M_goRound_b29 s) K) : xm_J 3 mt_M_goRound 29 [(0, .ref 49), (1, .int s.1), (2, .int s.2.1)] [] (s.2.2, L, RC n, n) 0 0 Q :=
  lp_J (G := fun z => xm_J 3 mt_M_goRound 29 [(0, .ref 49), (1, .int z.1), (2, .int z.2.1)] [] (z.2.2, L, RC n, n) 0 0 Q) (fun z hF => t_M_goRound_s29 hn (fun p h => hq p h) (fun z h => hg0 z h) (fun z h => h) hF) s hF
set_option maxHeartbeats 4000000 in
set_option maxRecDepth 100000 in
theorem t_M_goRound_s2 {s : Int32 × xm_I} {n : Nat} {L : xm_L} {K : (Int32 × xm_I) ⊕ (xm_I) → Prop} {Q : Option Value → xm_H → Prop} (hn : 86 ≤ n) (hq : ∀ p : xm_I, K (.inr p) → Q none (p, L, RC n, n)) (hg0 : ∀ s : Int32 × xm_I, K (.inl s) → xm_J 3 mt_M_goRound 2 [(0, .ref 49), (1, .int s.1)] [] (s.2, L, RC n, n) 0 0 Q) (hF : ok (f_M_goRound_s2 s) K) : xm_J 3 mt_M_goRound 2 [(0, .ref 49), (1, .int s.1)] [] (s.2, L, RC n, n) 0 0 Q := by
  unfold f_M_goRound_s2 at hF
  refine r_iload_n (i := 2) (k0 := 1) rfl rfl rfl ?_
  refine r_ifeq (i := 3) (tgt := 89) rfl (by decide) (fun hc => ?_) (fun hc => ?_)
  · have hF := ok_it hc hF
    have hQ := hq _ (ok_some hF)
    exact r_return (i := 51) rfl rfl hQ
  have hF := ok_if hc hF
  refine r_aload_n (i := 4) (k0 := 0) rfl rfl rfl ?_
  refine q_geti (i := 5) rfl fl_M_419 (xm_in rfl hn) rfl ?_
  refine r_bipush (v := 10) (i := 6) rfl kb_10 ?_
  refine r_icmpge (i := 7) (tgt := 89) rfl (by decide) (fun hc => ?_) (fun hc => ?_)
  · have hF := ok_it hc hF
    have hQ := hq _ (ok_some hF)
    exact r_return (i := 51) rfl rfl hQ
  have hF := ok_if hc hF
  refine r_iconst (v := 0) (i := 8) rfl ki_0 ?_
  refine r_istore_n (i := 9) (Ls' := [(1, _), (0, _)]) rfl rfl (Nat.le_of_ble_eq_true rfl) rfl ?_
  refine r_aload_n (i := 10) (k0 := 1) rfl rfl rfl ?_
  refine r_dup (i := 11) rfl rfl ?_
  refine q_geti (i := 12) rfl fl_M_419 (xm_in rfl hn) rfl ?_
  refine r_iconst (v := 1) (i := 13) rfl ki_1 ?_
  refine r_iadd (i := 14) rfl ?_
  refine q_puti (i := 15) rfl fl_M_419 (fun h => Bool.noConfusion h) (xm_in rfl hn) rfl ?_
  refine r_iconst (v := 0) (i := 16) rfl ki_0 ?_
  refine r_istore_n (i := 17) (Ls' := [(2, _), (1, _), (0, _)]) rfl rfl (Nat.le_of_ble_eq_true rfl) rfl ?_
  refine xm_sub (Ls' := [(0, _), (1, _), (2, _)]) [2, 1, 0] rfl ?_
  exact t_M_goRound_b29 hn (fun p h => hq p h) (fun z h => hg0 z h) hF
set_option maxHeartbeats 4000000 in
set_option maxRecDepth 100000 in
theorem t_M_goRound_b2 {s : Int32 × xm_I} {n : Nat} {L : xm_L} {K : xm_I → Prop} {Q : Option Value → xm_H → Prop} (hn : 86 ≤ n) (hq : ∀ p : xm_I, K p → Q none (p, L, RC n, n)) (hF : ok (f_M_goRound_b2 s) K) : xm_J 3 mt_M_goRound 2 [(0, .ref 49), (1, .int s.1)] [] (s.2, L, RC n, n) 0 0 Q :=
  lp_J (G := fun z => xm_J 3 mt_M_goRound 2 [(0, .ref 49), (1, .int z.1)] [] (z.2, L, RC n, n) 0 0 Q) (fun z hF => t_M_goRound_s2 hn (fun p h => hq p h) (fun z h => h) hF) s hF
set_option maxHeartbeats 4000000 in
set_option maxRecDepth 100000 in
theorem t_M_goRound_b0 {n : Nat} {I : xm_I} {L : xm_L} {K : xm_I → Prop} {Q : Option Value → xm_H → Prop} (hn : 86 ≤ n) (hq : ∀ p : xm_I, K p → Q none (p, L, RC n, n)) (hF : ok (f_M_goRound_b0 I) K) : xm_J 3 mt_M_goRound 0 [(0, .ref 49)] [] (I, L, RC n, n) 0 0 Q := by
  unfold f_M_goRound_b0 at hF
  refine r_iconst (v := 1) (i := 0) rfl ki_1 ?_
  refine r_istore_n (i := 1) (Ls' := [(1, _), (0, _)]) rfl rfl (Nat.le_of_ble_eq_true rfl) rfl ?_
  refine xm_sub (Ls' := [(0, _), (1, _)]) [1, 0] rfl ?_
  exact t_M_goRound_b2 hn (fun p h => hq p h) hF
set_option maxHeartbeats 4000000 in
set_option maxRecDepth 100000 in
theorem t_M_goRound {n : Nat} {I : xm_I} {L : xm_L} {K : xm_I → Prop} (hn : 86 ≤ n) (hF : ok (f_M_goRound I) K) : xm_C 3 mt_M_goRound [.ref 49] (I, L, RC n, n) 0 0 (pV (fun p : xm_I => (p, L, RC n, n)) K) := by
  unfold f_M_goRound at hF
  refine xm_enter (by decide +kernel) dv_M_goRound (Nat.le_of_ble_eq_true rfl) ?_
  exact t_M_goRound_b0 hn (fun p hp => ⟨p, rfl, rfl, hp⟩) hF

noncomputable def f_M_isOpen_b0 (x1 : Int32) (x2 : Int32) (I : xm_I) : Option (Int32) :=
  (f_M_boxLeft x1 x2 I).bind fun p_1 =>
  (f_M_boxTop x1 x2 I).bind fun p_2 =>
  if p_1 < 0 then (
    some (0))
  else (
  gd (0 ≤ (x1).toInt ∧ (x1).toInt < 20) <|
  if (I 49 19) < (p_1 + (6 * (I 70 (Int32.toNatClampNeg x1)))) then (
    some (0))
  else (
  if p_2 < 0 then (
    some (0))
  else (
  if (I 49 20) < (p_2 + 9) then (
    some (0))
  else (
  some (1)))))
noncomputable def f_M_isOpen (x1 : Int32) (x2 : Int32) (I : xm_I) : Option (Int32) := f_M_isOpen_b0 x1 x2 I
set_option maxHeartbeats 4000000 in
set_option maxRecDepth 100000 in
theorem t_M_isOpen_b0 {x1 : Int32} {x2 : Int32} {n : Nat} {I : xm_I} {L : xm_L} {K : Int32 → Prop} {Q : Option Value → xm_H → Prop} (hn : 86 ≤ n) (hq : ∀ p : Int32, K p → Q (some (.int p)) (I, L, RC n, n)) (hF : ok (f_M_isOpen_b0 x1 x2 I) K) : xm_J 1 mt_M_isOpen 0 [(0, .ref 49), (1, .int x1), (2, .int x2)] [] (I, L, RC n, n) 0 0 Q := by
  unfold f_M_isOpen_b0 at hF
  refine r_aload_n (i := 0) (k0 := 0) rfl rfl rfl ?_
  refine r_iload_n (i := 1) (k0 := 1) rfl rfl rfl ?_
  refine r_iload_n (i := 2) (k0 := 2) rfl rfl rfl ?_
  refine c_V2I (i := 3) rfl vm_M_boxLeft lk_M_449 (t_M_boxLeft hn (ok_bind hF)) (Nat.le_of_ble_eq_true rfl) (xm_in rfl hn) rfl rfl (Nat.le_of_ble_eq_true rfl) (fun p_1 hF => ?_)
  refine r_istore_n (i := 4) (Ls' := [(3, _), (0, _), (1, _), (2, _)]) rfl rfl (Nat.le_of_ble_eq_true rfl) rfl ?_
  refine r_aload_n (i := 5) (k0 := 1) rfl rfl rfl ?_
  refine r_iload_n (i := 6) (k0 := 2) rfl rfl rfl ?_
  refine r_iload_n (i := 7) (k0 := 3) rfl rfl rfl ?_
  refine c_V2I (i := 8) rfl vm_M_boxTop lk_M_452 (t_M_boxTop hn (ok_bind hF)) (Nat.le_of_ble_eq_true rfl) (xm_in rfl hn) rfl rfl (Nat.le_of_ble_eq_true rfl) (fun p_2 hF => ?_)
  refine r_istore (i := 9) (Ls' := [(4, _), (3, _), (0, _), (1, _), (2, _)]) rfl (Nat.le_of_ble_eq_true rfl) rfl ?_
  refine r_iload_n (i := 10) (k0 := 1) rfl rfl rfl ?_
  refine r_iflt (i := 11) (tgt := 58) rfl (by decide) (fun hc => ?_) (fun hc => ?_)
  · have hF := ok_it hc hF
    refine r_iconst (v := 0) (i := 33) rfl ki_0 ?_
    have hQ := hq _ (ok_some hF)
    exact r_ireturn (i := 34) rfl rfl rfl hQ
  have hF := ok_if hc hF
  refine r_iload_n (i := 12) (k0 := 1) rfl rfl rfl ?_
  refine r_bipush (v := 6) (i := 13) rfl kb_6 ?_
  refine r_aload_n (i := 14) (k0 := 2) rfl rfl rfl ?_
  refine q_getr (b := 70) (i := 15) rfl fl_M_87 rfl (xm_in rfl hn) rfl rfl ?_
  refine r_iload_n (i := 16) (k0 := 3) rfl rfl rfl ?_
  obtain ⟨hi, hF⟩ := ok_gd hF
  refine q_iaload (i := 17) rfl (xm_in rfl hn) rfl hi ?_
  refine r_imul (i := 18) rfl ?_
  refine r_iadd (i := 19) rfl ?_
  refine r_aload_n (i := 20) (k0 := 2) rfl rfl rfl ?_
  refine q_geti (i := 21) rfl fl_M_51 (xm_in rfl hn) rfl ?_
  refine r_icmpgt (i := 22) (tgt := 58) rfl (by decide) (fun hc => ?_) (fun hc => ?_)
  · have hF := ok_it hc hF
    refine r_iconst (v := 0) (i := 33) rfl ki_0 ?_
    have hQ := hq _ (ok_some hF)
    exact r_ireturn (i := 34) rfl rfl rfl hQ
  have hF := ok_if hc hF
  refine r_iload (i := 23) (k0 := 0) rfl rfl ?_
  refine r_iflt (i := 24) (tgt := 58) rfl (by decide) (fun hc => ?_) (fun hc => ?_)
  · have hF := ok_it hc hF
    refine r_iconst (v := 0) (i := 33) rfl ki_0 ?_
    have hQ := hq _ (ok_some hF)
    exact r_ireturn (i := 34) rfl rfl rfl hQ
  have hF := ok_if hc hF
  refine r_iload (i := 25) (k0 := 0) rfl rfl ?_
  refine r_bipush (v := 9) (i := 26) rfl kb_9 ?_
  refine r_iadd (i := 27) rfl ?_
  refine r_aload_n (i := 28) (k0 := 2) rfl rfl rfl ?_
  refine q_geti (i := 29) rfl fl_M_54 (xm_in rfl hn) rfl ?_
  refine r_icmpgt (i := 30) (tgt := 58) rfl (by decide) (fun hc => ?_) (fun hc => ?_)
  · have hF := ok_it hc hF
    refine r_iconst (v := 0) (i := 33) rfl ki_0 ?_
    have hQ := hq _ (ok_some hF)
    exact r_ireturn (i := 34) rfl rfl rfl hQ
  have hF := ok_if hc hF
  refine r_iconst (v := 1) (i := 31) rfl ki_1 ?_
  refine r_goto (i := 32) (tgt := 59) rfl (by decide) ?_
  have hQ := hq _ (ok_some hF)
  exact r_ireturn (i := 34) rfl rfl rfl hQ
set_option maxHeartbeats 4000000 in
set_option maxRecDepth 100000 in
theorem t_M_isOpen {x1 : Int32} {x2 : Int32} {n : Nat} {I : xm_I} {L : xm_L} {K : Int32 → Prop} (hn : 86 ≤ n) (hF : ok (f_M_isOpen x1 x2 I) K) : xm_C 1 mt_M_isOpen [.ref 49, .int x1, .int x2] (I, L, RC n, n) 0 0 (pI (fun p : Int32 => p) (fun p : Int32 => (I, L, RC n, n)) K) := by
  unfold f_M_isOpen at hF
  refine xm_enter (by decide +kernel) dv_M_isOpen (Nat.le_of_ble_eq_true rfl) ?_
  exact t_M_isOpen_b0 hn (fun p hp => ⟨p, rfl, rfl, hp⟩) hF

noncomputable def f_M_place_b261 (x1 : Int32) (I : xm_I) (L : xm_L) : Option ((Int32 × xm_I) ⊕ (xm_I × xm_L)) :=
  let x1_1 : Int32 := x1 + 1
  some (.inl (x1_1, I))
noncomputable def f_M_place_s206 (L : xm_L) (s : Int32 × xm_I) : Option ((Int32 × xm_I) ⊕ (xm_I × xm_L)) :=
  if (s.2 49 37) ≤ s.1 then (
    some (.inr (s.2, L)))
  else (
  gd (0 ≤ (s.1).toInt ∧ (s.1).toInt < 20) <|
  if 8 ≤ (s.2 76 (Int32.toNatClampNeg s.1)) then (
    f_M_place_b261 s.1 s.2 L)
  else (
  gd (0 ≤ (s.1).toInt ∧ (s.1).toInt < 20) <|
  (f_M_boxLeft s.1 (s.2 76 (Int32.toNatClampNeg s.1)) s.2).bind fun p_1 =>
  gd (0 ≤ (s.1).toInt ∧ (s.1).toInt < 20) <|
  (f_M_boxTop s.1 (s.2 76 (Int32.toNatClampNeg s.1)) s.2).bind fun p_2 =>
  gd (0 ≤ (s.1).toInt ∧ (s.1).toInt < 20) <|
  (f_M_add 87 p_1 p_2 (s.2 70 (Int32.toNatClampNeg s.1)) s.1 0 s.2).bind fun p_3 =>
  f_M_place_b261 s.1 p_3 L))
noncomputable def f_M_place_b206 (L : xm_L) (s : Int32 × xm_I) : Option (xm_I × xm_L) := lp (f_M_place_s206 L) s
noncomputable def f_M_place_b194 (x1 : Int32) (y1 : Int32) (y2 : Int32) (I : xm_I) (L : xm_L) : Option ((Int32 × xm_I) ⊕ (xm_I × xm_L)) :=
  let I_1 : xm_I := up2 I 49 59 (y1 + y2)
  let x1_2 : Int32 := x1 + 1
  some (.inl (x1_2, I_1))
noncomputable def f_M_place_b154 (x1 : Int32) (y1 : Int32) (y2 : Int32) (I : xm_I) (L : xm_L) : Option ((Int32 × xm_I) ⊕ (xm_I × xm_L)) :=
  let I_1 : xm_I := up2 I 49 58 (y1 + y2)
  gd (0 ≤ (x1).toInt ∧ (x1).toInt < 20) <|
  if (I_1 76 (Int32.toNatClampNeg x1)) = 8 then (
    f_M_place_b194 x1 (I_1 49 59) 0 I_1 L)
  else (
    gd (0 ≤ (x1).toInt ∧ (x1).toInt < 20) <|
    gd (0 ≤ ((8 * x1) + (I_1 76 (Int32.toNatClampNeg x1))).toInt ∧ ((8 * x1) + (I_1 76 (Int32.toNatClampNeg x1))).toInt < 160) <|
    f_M_place_b194 x1 (I_1 49 59) (I_1 79 (Int32.toNatClampNeg ((8 * x1) + (I_1 76 (Int32.toNatClampNeg x1))))) I_1 L)
noncomputable def f_M_place_s125 (L : xm_L) (s : Int32 × xm_I) : Option ((Int32 × xm_I) ⊕ (xm_I × xm_L)) :=
  if (s.2 49 37) ≤ s.1 then (
    (f_M_place_b206 L (0, s.2)).map .inr)
  else (
  gd (0 ≤ (s.1).toInt ∧ (s.1).toInt < 20) <|
  if (s.2 76 (Int32.toNatClampNeg s.1)) = 8 then (
    f_M_place_b154 s.1 (s.2 49 58) 1 s.2 L)
  else (
    f_M_place_b154 s.1 (s.2 49 58) 0 s.2 L))
noncomputable def f_M_place_b125 (L : xm_L) (s : Int32 × xm_I) : Option (xm_I × xm_L) := lp (f_M_place_s125 L) s
noncomputable def f_M_place_b123 (I : xm_I) (L : xm_L) : Option (xm_I × xm_L) :=
  f_M_place_b125 L (0, I)
noncomputable def f_M_place_b97 (x1 : Int32) (I : xm_I) (L : xm_L) : Option ((Int32 × xm_I × xm_L) ⊕ (xm_I × xm_L)) :=
  let x1_1 : Int32 := x1 + 1
  some (.inl (x1_1, I, L))
noncomputable def f_M_place_b90 (x1 : Int32) (x2 : Int32) (y1 : Int32) (y2 : Int32) (I : xm_I) (L : xm_L) : Option ((Int32 × xm_I × xm_L) ⊕ ((Int32 × xm_I × xm_L) ⊕ (xm_I × xm_L))) :=
  gd (0 ≤ (y1).toInt ∧ (y1).toInt < 160) <|
  let I_1 : xm_I := up2 I 79 (Int32.toNatClampNeg y1) y2
  let x2_2 : Int32 := x2 + 1
  some (.inl (x2_2, I_1, L))
noncomputable def f_M_place_s51 (x1 : Int32) (s : Int32 × xm_I × xm_L) : Option ((Int32 × xm_I × xm_L) ⊕ ((Int32 × xm_I × xm_L) ⊕ (xm_I × xm_L))) :=
  if 8 ≤ s.1 then (
    (f_M_place_b97 x1 s.2.1 s.2.2).map .inr)
  else (
  (f_M_isOpen x1 s.1 s.2.1).bind fun p_1 =>
  if p_1 = 0 then (
    f_M_place_b90 x1 s.1 ((8 * x1) + s.1) ((-1)) s.2.1 s.2.2)
  else (
  (f_M_cost x1 s.1 (s.2.1 49 49) s.2.1 s.2.2).bind fun p_2 =>
  f_M_place_b90 x1 s.1 ((8 * x1) + s.1) p_2.1 p_2.2.1 p_2.2.2))
noncomputable def f_M_place_b51 (x1 : Int32) (s : Int32 × xm_I × xm_L) : Option ((Int32 × xm_I × xm_L) ⊕ (xm_I × xm_L)) := lp (f_M_place_s51 x1) s
noncomputable def f_M_place_s7 (s : Int32 × xm_I × xm_L) : Option ((Int32 × xm_I × xm_L) ⊕ (xm_I × xm_L)) :=
  if (s.2.1 49 37) ≤ s.1 then (
    if 6 < (s.2.1 49 70) then (
      (f_M_goRound s.2.1).bind fun p_1 =>
      (f_M_place_b123 p_1 s.2.2).map .inr)
    else (
    (f_M_findBest s.2.1).bind fun p_2 =>
    (f_M_place_b123 p_2 s.2.2).map .inr))
  else (
  gd (0 ≤ (s.1).toInt ∧ (s.1).toInt < 20) <|
  gd (0 ≤ (s.2.1 69 (Int32.toNatClampNeg s.1)).toInt ∧ (s.2.1 69 (Int32.toNatClampNeg s.1)).toInt < 40) <|
  if (s.2.1 73 (Int32.toNatClampNeg (s.2.1 69 (Int32.toNatClampNeg s.1)))) = 0 then (
    f_M_place_b97 s.1 s.2.1 s.2.2)
  else (
  gd (0 ≤ (s.2.1 49 70).toInt ∧ (s.2.1 49 70).toInt < 20) <|
  let I_3 : xm_I := up2 s.2.1 80 (Int32.toNatClampNeg (s.2.1 49 70)) s.1
  let I_4 : xm_I := up2 I_3 49 70 ((I_3 49 70) + 1)
  f_M_place_b51 s.1 (0, I_4, s.2.2)))
noncomputable def f_M_place_b7 (s : Int32 × xm_I × xm_L) : Option (xm_I × xm_L) := lp (f_M_place_s7) s
noncomputable def f_M_place_b0 (I : xm_I) (L : xm_L) : Option (xm_I × xm_L) :=
  let I_1 : xm_I := up2 I 49 70 0
  f_M_place_b7 (0, I_1, L)
noncomputable def f_M_place (I : xm_I) (L : xm_L) : Option (xm_I × xm_L) := f_M_place_b0 I L
set_option maxHeartbeats 4000000 in
set_option maxRecDepth 100000 in
theorem t_M_place_b261 {x1 : Int32} {n : Nat} {I : xm_I} {L : xm_L} {K : (Int32 × xm_I) ⊕ (xm_I × xm_L) → Prop} {Q : Option Value → xm_H → Prop} (hn : 86 ≤ n) (hq : ∀ p : xm_I × xm_L, K (.inr p) → Q none (p.1, p.2, RC n, n)) (hg0 : ∀ s : Int32 × xm_I, K (.inl s) → xm_J 4 mt_M_place 206 [(0, .ref 49), (1, .int s.1)] [] (s.2, L, RC n, n) 0 0 Q) (hF : ok (f_M_place_b261 x1 I L) K) : xm_J 4 mt_M_place 261 [(0, .ref 49), (1, .int x1)] [] (I, L, RC n, n) 0 0 Q := by
  unfold f_M_place_b261 at hF
  refine q_iinc (i := 149) (k0 := 1) (Ls' := [(1, _), (0, _)]) rfl ki_1 rfl (Nat.le_of_ble_eq_true rfl) rfl ?_
  refine r_goto (i := 150) (tgt := 206) rfl (by decide) ?_
  refine xm_sub (Ls' := [(0, _), (1, _)]) [1, 0] rfl ?_
  have hJ := hg0 _ (ok_some hF)
  exact hJ
set_option maxHeartbeats 4000000 in
set_option maxRecDepth 100000 in
theorem t_M_place_s206 {s : Int32 × xm_I} {n : Nat} {L : xm_L} {K : (Int32 × xm_I) ⊕ (xm_I × xm_L) → Prop} {Q : Option Value → xm_H → Prop} (hn : 86 ≤ n) (hq : ∀ p : xm_I × xm_L, K (.inr p) → Q none (p.1, p.2, RC n, n)) (hg0 : ∀ s : Int32 × xm_I, K (.inl s) → xm_J 4 mt_M_place 206 [(0, .ref 49), (1, .int s.1)] [] (s.2, L, RC n, n) 0 0 Q) (hF : ok (f_M_place_s206 L s) K) : xm_J 4 mt_M_place 206 [(0, .ref 49), (1, .int s.1)] [] (s.2, L, RC n, n) 0 0 Q := by
  unfold f_M_place_s206 at hF
  refine r_iload_n (i := 116) (k0 := 1) rfl rfl rfl ?_
  refine r_aload_n (i := 117) (k0 := 0) rfl rfl rfl ?_
  refine q_geti (i := 118) rfl fl_M_422 (xm_in rfl hn) rfl ?_
  refine r_icmpge (i := 119) (tgt := 267) rfl (by decide) (fun hc => ?_) (fun hc => ?_)
  · have hF := ok_it hc hF
    have hQ := hq _ (ok_some hF)
    exact r_return (i := 151) rfl rfl hQ
  have hF := ok_if hc hF
  refine r_aload_n (i := 120) (k0 := 0) rfl rfl rfl ?_
  refine q_getr (b := 76) (i := 121) rfl fl_M_106 rfl (xm_in rfl hn) rfl rfl ?_
  refine r_iload_n (i := 122) (k0 := 1) rfl rfl rfl ?_
  obtain ⟨hi, hF⟩ := ok_gd hF
  refine q_iaload (i := 123) rfl (xm_in rfl hn) rfl hi ?_
  refine r_bipush (v := 8) (i := 124) rfl kb_8 ?_
  refine r_icmpge (i := 125) (tgt := 261) rfl (by decide) (fun hc => ?_) (fun hc => ?_)
  · have hF := ok_it hc hF
    exact t_M_place_b261 hn (fun p h => hq p h) (fun z h => hg0 z h) hF
  have hF := ok_if hc hF
  refine r_aload_n (i := 126) (k0 := 0) rfl rfl rfl ?_
  refine r_bipush (v := 87) (i := 127) rfl kb_87 ?_
  refine r_aload_n (i := 128) (k0 := 0) rfl rfl rfl ?_
  refine r_iload_n (i := 129) (k0 := 1) rfl rfl rfl ?_
  refine r_aload_n (i := 130) (k0 := 0) rfl rfl rfl ?_
  refine q_getr (b := 76) (i := 131) rfl fl_M_106 rfl (xm_in rfl hn) rfl rfl ?_
  refine r_iload_n (i := 132) (k0 := 1) rfl rfl rfl ?_
  obtain ⟨hi, hF⟩ := ok_gd hF
  refine q_iaload (i := 133) rfl (xm_in rfl hn) rfl hi ?_
  refine c_V2I (i := 134) rfl vm_M_boxLeft lk_M_449 (t_M_boxLeft hn (ok_bind hF)) (Nat.le_of_ble_eq_true rfl) (xm_in rfl hn) rfl rfl (Nat.le_of_ble_eq_true rfl) (fun p_1 hF => ?_)
  refine r_aload_n (i := 135) (k0 := 0) rfl rfl rfl ?_
  refine r_iload_n (i := 136) (k0 := 1) rfl rfl rfl ?_
  refine r_aload_n (i := 137) (k0 := 0) rfl rfl rfl ?_
  refine q_getr (b := 76) (i := 138) rfl fl_M_106 rfl (xm_in rfl hn) rfl rfl ?_
  refine r_iload_n (i := 139) (k0 := 1) rfl rfl rfl ?_
  obtain ⟨hi, hF⟩ := ok_gd hF
  refine q_iaload (i := 140) rfl (xm_in rfl hn) rfl hi ?_
  refine c_V2I (i := 141) rfl vm_M_boxTop lk_M_452 (t_M_boxTop hn (ok_bind hF)) (Nat.le_of_ble_eq_true rfl) (xm_in rfl hn) rfl rfl (Nat.le_of_ble_eq_true rfl) (fun p_2 hF => ?_)
  refine r_aload_n (i := 142) (k0 := 0) rfl rfl rfl ?_
  refine q_getr (b := 70) (i := 143) rfl fl_M_87 rfl (xm_in rfl hn) rfl rfl ?_
  refine r_iload_n (i := 144) (k0 := 1) rfl rfl rfl ?_
  obtain ⟨hi, hF⟩ := ok_gd hF
  refine q_iaload (i := 145) rfl (xm_in rfl hn) rfl hi ?_
  refine r_iload_n (i := 146) (k0 := 1) rfl rfl rfl ?_
  refine r_iconst (v := 0) (i := 147) rfl ki_0 ?_
  refine c_V6V (i := 148) rfl vm_M_add lk_M_343 (t_M_add hn (ok_bind hF)) (Nat.le_of_ble_eq_true rfl) (xm_in rfl hn) rfl rfl (Nat.le_of_ble_eq_true rfl) (fun p_3 hF => ?_)
  exact t_M_place_b261 hn (fun p h => hq p h) (fun z h => hg0 z h) hF
set_option maxHeartbeats 4000000 in
set_option maxRecDepth 100000 in
theorem t_M_place_b206 {s : Int32 × xm_I} {n : Nat} {L : xm_L} {K : xm_I × xm_L → Prop} {Q : Option Value → xm_H → Prop} (hn : 86 ≤ n) (hq : ∀ p : xm_I × xm_L, K p → Q none (p.1, p.2, RC n, n)) (hF : ok (f_M_place_b206 L s) K) : xm_J 4 mt_M_place 206 [(0, .ref 49), (1, .int s.1)] [] (s.2, L, RC n, n) 0 0 Q :=
  lp_J (G := fun z => xm_J 4 mt_M_place 206 [(0, .ref 49), (1, .int z.1)] [] (z.2, L, RC n, n) 0 0 Q) (fun z hF => t_M_place_s206 hn (fun p h => hq p h) (fun z h => h) hF) s hF
set_option maxHeartbeats 4000000 in
set_option maxRecDepth 100000 in
theorem t_M_place_b194 {x1 : Int32} {y1 : Int32} {y2 : Int32} {n : Nat} {I : xm_I} {L : xm_L} {K : (Int32 × xm_I) ⊕ (xm_I × xm_L) → Prop} {Q : Option Value → xm_H → Prop} (hn : 86 ≤ n) (hq : ∀ p : xm_I × xm_L, K (.inr p) → Q none (p.1, p.2, RC n, n)) (hg0 : ∀ s : Int32 × xm_I, K (.inl s) → xm_J 4 mt_M_place 125 [(0, .ref 49), (1, .int s.1)] [] (s.2, L, RC n, n) 0 0 Q) (hF : ok (f_M_place_b194 x1 y1 y2 I L) K) : xm_J 4 mt_M_place 194 [(0, .ref 49), (1, .int x1)] [.int y2, .int y1, .ref 49] (I, L, RC n, n) 0 0 Q := by
  unfold f_M_place_b194 at hF
  refine r_iadd (i := 110) rfl ?_
  refine q_puti (i := 111) rfl fl_M_416 (fun h => Bool.noConfusion h) (xm_in rfl hn) rfl ?_
  refine q_iinc (i := 112) (k0 := 1) (Ls' := [(1, _), (0, _)]) rfl ki_1 rfl (Nat.le_of_ble_eq_true rfl) rfl ?_
  refine r_goto (i := 113) (tgt := 125) rfl (by decide) ?_
  refine xm_sub (Ls' := [(0, _), (1, _)]) [1, 0] rfl ?_
  have hJ := hg0 _ (ok_some hF)
  exact hJ
set_option maxHeartbeats 4000000 in
set_option maxRecDepth 100000 in
theorem t_M_place_b154 {x1 : Int32} {y1 : Int32} {y2 : Int32} {n : Nat} {I : xm_I} {L : xm_L} {K : (Int32 × xm_I) ⊕ (xm_I × xm_L) → Prop} {Q : Option Value → xm_H → Prop} (hn : 86 ≤ n) (hq : ∀ p : xm_I × xm_L, K (.inr p) → Q none (p.1, p.2, RC n, n)) (hg0 : ∀ s : Int32 × xm_I, K (.inl s) → xm_J 4 mt_M_place 125 [(0, .ref 49), (1, .int s.1)] [] (s.2, L, RC n, n) 0 0 Q) (hF : ok (f_M_place_b154 x1 y1 y2 I L) K) : xm_J 4 mt_M_place 154 [(0, .ref 49), (1, .int x1)] [.int y2, .int y1, .ref 49] (I, L, RC n, n) 0 0 Q := by
  unfold f_M_place_b154 at hF
  refine r_iadd (i := 86) rfl ?_
  refine q_puti (i := 87) rfl fl_M_413 (fun h => Bool.noConfusion h) (xm_in rfl hn) rfl ?_
  refine r_aload_n (i := 88) (k0 := 0) rfl rfl rfl ?_
  refine r_dup (i := 89) rfl rfl ?_
  refine q_geti (i := 90) rfl fl_M_416 (xm_in rfl hn) rfl ?_
  refine r_aload_n (i := 91) (k0 := 0) rfl rfl rfl ?_
  refine q_getr (b := 76) (i := 92) rfl fl_M_106 rfl (xm_in rfl hn) rfl rfl ?_
  refine r_iload_n (i := 93) (k0 := 1) rfl rfl rfl ?_
  obtain ⟨hi, hF⟩ := ok_gd hF
  refine q_iaload (i := 94) rfl (xm_in rfl hn) rfl hi ?_
  refine r_bipush (v := 8) (i := 95) rfl kb_8 ?_
  refine r_icmpne (i := 96) (tgt := 178) rfl (by decide) (fun hc => ?_) (fun hc => ?_)
  · have hF := ok_if hc hF
    refine r_aload_n (i := 99) (k0 := 0) rfl rfl rfl ?_
    refine q_getr (b := 79) (i := 100) rfl fl_M_116 rfl (xm_in rfl hn) rfl rfl ?_
    refine r_bipush (v := 8) (i := 101) rfl kb_8 ?_
    refine r_iload_n (i := 102) (k0 := 1) rfl rfl rfl ?_
    refine r_imul (i := 103) rfl ?_
    refine r_aload_n (i := 104) (k0 := 0) rfl rfl rfl ?_
    refine q_getr (b := 76) (i := 105) rfl fl_M_106 rfl (xm_in rfl hn) rfl rfl ?_
    refine r_iload_n (i := 106) (k0 := 1) rfl rfl rfl ?_
    obtain ⟨hi, hF⟩ := ok_gd hF
    refine q_iaload (i := 107) rfl (xm_in rfl hn) rfl hi ?_
    refine r_iadd (i := 108) rfl ?_
    obtain ⟨hi, hF⟩ := ok_gd hF
    refine q_iaload (i := 109) rfl (xm_in rfl hn) rfl hi ?_
    exact t_M_place_b194 hn (fun p h => hq p h) (fun z h => hg0 z h) hF
  have hF := ok_it hc hF
  refine r_iconst (v := 0) (i := 97) rfl ki_0 ?_
  refine r_goto (i := 98) (tgt := 194) rfl (by decide) ?_
  exact t_M_place_b194 hn (fun p h => hq p h) (fun z h => hg0 z h) hF
set_option maxHeartbeats 4000000 in
set_option maxRecDepth 100000 in
theorem t_M_place_s125 {s : Int32 × xm_I} {n : Nat} {L : xm_L} {K : (Int32 × xm_I) ⊕ (xm_I × xm_L) → Prop} {Q : Option Value → xm_H → Prop} (hn : 86 ≤ n) (hq : ∀ p : xm_I × xm_L, K (.inr p) → Q none (p.1, p.2, RC n, n)) (hg0 : ∀ s : Int32 × xm_I, K (.inl s) → xm_J 4 mt_M_place 125 [(0, .ref 49), (1, .int s.1)] [] (s.2, L, RC n, n) 0 0 Q) (hF : ok (f_M_place_s125 L s) K) : xm_J 4 mt_M_place 125 [(0, .ref 49), (1, .int s.1)] [] (s.2, L, RC n, n) 0 0 Q := by
  unfold f_M_place_s125 at hF
  refine r_iload_n (i := 70) (k0 := 1) rfl rfl rfl ?_
  refine r_aload_n (i := 71) (k0 := 0) rfl rfl rfl ?_
  refine q_geti (i := 72) rfl fl_M_422 (xm_in rfl hn) rfl ?_
  refine r_icmpge (i := 73) (tgt := 204) rfl (by decide) (fun hc => ?_) (fun hc => ?_)
  · have hF := ok_it hc hF
    refine r_iconst (v := 0) (i := 114) rfl ki_0 ?_
    refine r_istore_n (i := 115) (Ls' := [(1, _), (0, _)]) rfl rfl (Nat.le_of_ble_eq_true rfl) rfl ?_
    refine xm_sub (Ls' := [(0, _), (1, _)]) [1, 0] rfl ?_
    exact t_M_place_b206 hn (fun p h => hq p h) (ok_map hF)
  have hF := ok_if hc hF
  refine r_aload_n (i := 74) (k0 := 0) rfl rfl rfl ?_
  refine r_dup (i := 75) rfl rfl ?_
  refine q_geti (i := 76) rfl fl_M_413 (xm_in rfl hn) rfl ?_
  refine r_aload_n (i := 77) (k0 := 0) rfl rfl rfl ?_
  refine q_getr (b := 76) (i := 78) rfl fl_M_106 rfl (xm_in rfl hn) rfl rfl ?_
  refine r_iload_n (i := 79) (k0 := 1) rfl rfl rfl ?_
  obtain ⟨hi, hF⟩ := ok_gd hF
  refine q_iaload (i := 80) rfl (xm_in rfl hn) rfl hi ?_
  refine r_bipush (v := 8) (i := 81) rfl kb_8 ?_
  refine r_icmpne (i := 82) (tgt := 153) rfl (by decide) (fun hc => ?_) (fun hc => ?_)
  · have hF := ok_if hc hF
    refine r_iconst (v := 0) (i := 85) rfl ki_0 ?_
    exact t_M_place_b154 hn (fun p h => hq p h) (fun z h => hg0 z h) hF
  have hF := ok_it hc hF
  refine r_iconst (v := 1) (i := 83) rfl ki_1 ?_
  refine r_goto (i := 84) (tgt := 154) rfl (by decide) ?_
  exact t_M_place_b154 hn (fun p h => hq p h) (fun z h => hg0 z h) hF
set_option maxHeartbeats 4000000 in
set_option maxRecDepth 100000 in
theorem t_M_place_b125 {s : Int32 × xm_I} {n : Nat} {L : xm_L} {K : xm_I × xm_L → Prop} {Q : Option Value → xm_H → Prop} (hn : 86 ≤ n) (hq : ∀ p : xm_I × xm_L, K p → Q none (p.1, p.2, RC n, n)) (hF : ok (f_M_place_b125 L s) K) : xm_J 4 mt_M_place 125 [(0, .ref 49), (1, .int s.1)] [] (s.2, L, RC n, n) 0 0 Q :=
  lp_J (G := fun z => xm_J 4 mt_M_place 125 [(0, .ref 49), (1, .int z.1)] [] (z.2, L, RC n, n) 0 0 Q) (fun z hF => t_M_place_s125 hn (fun p h => hq p h) (fun z h => h) hF) s hF
set_option maxHeartbeats 4000000 in
set_option maxRecDepth 100000 in
theorem t_M_place_b123 {n : Nat} {I : xm_I} {L : xm_L} {K : xm_I × xm_L → Prop} {Q : Option Value → xm_H → Prop} (hn : 86 ≤ n) (hq : ∀ p : xm_I × xm_L, K p → Q none (p.1, p.2, RC n, n)) (hF : ok (f_M_place_b123 I L) K) : xm_J 4 mt_M_place 123 [(0, .ref 49)] [] (I, L, RC n, n) 0 0 Q := by
  unfold f_M_place_b123 at hF
  refine r_iconst (v := 0) (i := 68) rfl ki_0 ?_
  refine r_istore_n (i := 69) (Ls' := [(1, _), (0, _)]) rfl rfl (Nat.le_of_ble_eq_true rfl) rfl ?_
  refine xm_sub (Ls' := [(0, _), (1, _)]) [1, 0] rfl ?_
  exact t_M_place_b125 hn (fun p h => hq p h) hF
set_option maxHeartbeats 4000000 in
set_option maxRecDepth 100000 in
theorem t_M_place_b97 {x1 : Int32} {n : Nat} {I : xm_I} {L : xm_L} {K : (Int32 × xm_I × xm_L) ⊕ (xm_I × xm_L) → Prop} {Q : Option Value → xm_H → Prop} (hn : 86 ≤ n) (hq : ∀ p : xm_I × xm_L, K (.inr p) → Q none (p.1, p.2, RC n, n)) (hg0 : ∀ s : Int32 × xm_I × xm_L, K (.inl s) → xm_J 4 mt_M_place 7 [(0, .ref 49), (1, .int s.1)] [] (s.2.1, s.2.2, RC n, n) 0 0 Q) (hF : ok (f_M_place_b97 x1 I L) K) : xm_J 4 mt_M_place 97 [(0, .ref 49), (1, .int x1)] [] (I, L, RC n, n) 0 0 Q := by
  unfold f_M_place_b97 at hF
  refine q_iinc (i := 57) (k0 := 1) (Ls' := [(1, _), (0, _)]) rfl ki_1 rfl (Nat.le_of_ble_eq_true rfl) rfl ?_
  refine r_goto (i := 58) (tgt := 7) rfl (by decide) ?_
  refine xm_sub (Ls' := [(0, _), (1, _)]) [1, 0] rfl ?_
  have hJ := hg0 _ (ok_some hF)
  exact hJ
set_option maxHeartbeats 4000000 in
set_option maxRecDepth 100000 in
theorem t_M_place_b90 {x1 : Int32} {x2 : Int32} {y1 : Int32} {y2 : Int32} {n : Nat} {I : xm_I} {L : xm_L} {K : (Int32 × xm_I × xm_L) ⊕ ((Int32 × xm_I × xm_L) ⊕ (xm_I × xm_L)) → Prop} {Q : Option Value → xm_H → Prop} (hn : 86 ≤ n) (hq : ∀ p : xm_I × xm_L, K (.inr (.inr p)) → Q none (p.1, p.2, RC n, n)) (hg0 : ∀ s : Int32 × xm_I × xm_L, K (.inr (.inl s)) → xm_J 4 mt_M_place 7 [(0, .ref 49), (1, .int s.1)] [] (s.2.1, s.2.2, RC n, n) 0 0 Q) (hg1 : ∀ s : Int32 × xm_I × xm_L, K (.inl s) → xm_J 4 mt_M_place 51 [(0, .ref 49), (1, .int x1), (2, .int s.1)] [] (s.2.1, s.2.2, RC n, n) 0 0 Q) (hF : ok (f_M_place_b90 x1 x2 y1 y2 I L) K) : xm_J 4 mt_M_place 90 [(0, .ref 49), (1, .int x1), (2, .int x2)] [.int y2, .int y1, .ref 79] (I, L, RC n, n) 0 0 Q := by
  unfold f_M_place_b90 at hF
  obtain ⟨hi, hF⟩ := ok_gd hF
  refine q_iastore (i := 54) rfl (xm_in rfl hn) rfl hi ?_
  refine q_iinc (i := 55) (k0 := 2) (Ls' := [(2, _), (0, _), (1, _)]) rfl ki_1 rfl (Nat.le_of_ble_eq_true rfl) rfl ?_
  refine r_goto (i := 56) (tgt := 51) rfl (by decide) ?_
  refine xm_sub (Ls' := [(0, _), (1, _), (2, _)]) [1, 2, 0] rfl ?_
  have hJ := hg1 _ (ok_some hF)
  exact hJ
set_option maxHeartbeats 4000000 in
set_option maxRecDepth 100000 in
theorem t_M_place_s51 {x1 : Int32} {s : Int32 × xm_I × xm_L} {n : Nat} {K : (Int32 × xm_I × xm_L) ⊕ ((Int32 × xm_I × xm_L) ⊕ (xm_I × xm_L)) → Prop} {Q : Option Value → xm_H → Prop} (hn : 86 ≤ n) (hq : ∀ p : xm_I × xm_L, K (.inr (.inr p)) → Q none (p.1, p.2, RC n, n)) (hg0 : ∀ s : Int32 × xm_I × xm_L, K (.inr (.inl s)) → xm_J 4 mt_M_place 7 [(0, .ref 49), (1, .int s.1)] [] (s.2.1, s.2.2, RC n, n) 0 0 Q) (hg1 : ∀ s : Int32 × xm_I × xm_L, K (.inl s) → xm_J 4 mt_M_place 51 [(0, .ref 49), (1, .int x1), (2, .int s.1)] [] (s.2.1, s.2.2, RC n, n) 0 0 Q) (hF : ok (f_M_place_s51 x1 s) K) : xm_J 4 mt_M_place 51 [(0, .ref 49), (1, .int x1), (2, .int s.1)] [] (s.2.1, s.2.2, RC n, n) 0 0 Q := by
  unfold f_M_place_s51 at hF
  refine r_iload_n (i := 31) (k0 := 2) rfl rfl rfl ?_
  refine r_bipush (v := 8) (i := 32) rfl kb_8 ?_
  refine r_icmpge (i := 33) (tgt := 97) rfl (by decide) (fun hc => ?_) (fun hc => ?_)
  · have hF := ok_it hc hF
    refine xm_sub (Ls' := [(0, _), (1, _)]) [0, 1] rfl ?_
    exact t_M_place_b97 hn (fun p h => hq p h) (fun z h => hg0 z h) (ok_map hF)
  have hF := ok_if hc hF
  refine r_aload_n (i := 34) (k0 := 0) rfl rfl rfl ?_
  refine q_getr (b := 79) (i := 35) rfl fl_M_116 rfl (xm_in rfl hn) rfl rfl ?_
  refine r_bipush (v := 8) (i := 36) rfl kb_8 ?_
  refine r_iload_n (i := 37) (k0 := 1) rfl rfl rfl ?_
  refine r_imul (i := 38) rfl ?_
  refine r_iload_n (i := 39) (k0 := 2) rfl rfl rfl ?_
  refine r_iadd (i := 40) rfl ?_
  refine r_aload_n (i := 41) (k0 := 0) rfl rfl rfl ?_
  refine r_iload_n (i := 42) (k0 := 1) rfl rfl rfl ?_
  refine r_iload_n (i := 43) (k0 := 2) rfl rfl rfl ?_
  refine c_V2I (i := 44) rfl vm_M_isOpen lk_M_458 (t_M_isOpen hn (ok_bind hF)) (Nat.le_of_ble_eq_true rfl) (xm_in rfl hn) rfl rfl (Nat.le_of_ble_eq_true rfl) (fun p_1 hF => ?_)
  refine r_ifeq (i := 45) (tgt := 89) rfl (by decide) (fun hc => ?_) (fun hc => ?_)
  · have hF := ok_it hc hF
    refine r_iconst (v := (-1)) (i := 53) rfl ki_m1 ?_
    exact t_M_place_b90 hn (fun p h => hq p h) (fun z h => hg0 z h) (fun z h => hg1 z h) hF
  have hF := ok_if hc hF
  refine r_aload_n (i := 46) (k0 := 0) rfl rfl rfl ?_
  refine r_iload_n (i := 47) (k0 := 1) rfl rfl rfl ?_
  refine r_iload_n (i := 48) (k0 := 2) rfl rfl rfl ?_
  refine r_aload_n (i := 49) (k0 := 0) rfl rfl rfl ?_
  refine q_geti (i := 50) rfl fl_M_321 (xm_in rfl hn) rfl ?_
  refine c_V3I (i := 51) rfl vm_M_cost lk_M_461 (t_M_cost hn (ok_bind hF)) (Nat.le_of_ble_eq_true rfl) (xm_in rfl hn) rfl rfl (Nat.le_of_ble_eq_true rfl) (fun p_2 hF => ?_)
  refine r_goto (i := 52) (tgt := 90) rfl (by decide) ?_
  exact t_M_place_b90 hn (fun p h => hq p h) (fun z h => hg0 z h) (fun z h => hg1 z h) hF
set_option maxHeartbeats 4000000 in
set_option maxRecDepth 100000 in
theorem t_M_place_b51 {x1 : Int32} {s : Int32 × xm_I × xm_L} {n : Nat} {K : (Int32 × xm_I × xm_L) ⊕ (xm_I × xm_L) → Prop} {Q : Option Value → xm_H → Prop} (hn : 86 ≤ n) (hq : ∀ p : xm_I × xm_L, K (.inr p) → Q none (p.1, p.2, RC n, n)) (hg0 : ∀ s : Int32 × xm_I × xm_L, K (.inl s) → xm_J 4 mt_M_place 7 [(0, .ref 49), (1, .int s.1)] [] (s.2.1, s.2.2, RC n, n) 0 0 Q) (hF : ok (f_M_place_b51 x1 s) K) : xm_J 4 mt_M_place 51 [(0, .ref 49), (1, .int x1), (2, .int s.1)] [] (s.2.1, s.2.2, RC n, n) 0 0 Q :=
  lp_J (G := fun z => xm_J 4 mt_M_place 51 [(0, .ref 49), (1, .int x1), (2, .int z.1)] [] (z.2.1, z.2.2, RC n, n) 0 0 Q) (fun z hF => t_M_place_s51 hn (fun p h => hq p h) (fun z h => hg0 z h) (fun z h => h) hF) s hF
set_option maxHeartbeats 4000000 in
set_option maxRecDepth 100000 in
theorem t_M_place_s7 {s : Int32 × xm_I × xm_L} {n : Nat} {K : (Int32 × xm_I × xm_L) ⊕ (xm_I × xm_L) → Prop} {Q : Option Value → xm_H → Prop} (hn : 86 ≤ n) (hq : ∀ p : xm_I × xm_L, K (.inr p) → Q none (p.1, p.2, RC n, n)) (hg0 : ∀ s : Int32 × xm_I × xm_L, K (.inl s) → xm_J 4 mt_M_place 7 [(0, .ref 49), (1, .int s.1)] [] (s.2.1, s.2.2, RC n, n) 0 0 Q) (hF : ok (f_M_place_s7 s) K) : xm_J 4 mt_M_place 7 [(0, .ref 49), (1, .int s.1)] [] (s.2.1, s.2.2, RC n, n) 0 0 Q := by
  unfold f_M_place_s7 at hF
  refine r_iload_n (i := 5) (k0 := 1) rfl rfl rfl ?_
  refine r_aload_n (i := 6) (k0 := 0) rfl rfl rfl ?_
  refine q_geti (i := 7) rfl fl_M_422 (xm_in rfl hn) rfl ?_
  refine r_icmpge (i := 8) (tgt := 103) rfl (by decide) (fun hc => ?_) (fun hc => ?_)
  · have hF := ok_it hc hF
    refine r_aload_n (i := 59) (k0 := 0) rfl rfl rfl ?_
    refine q_geti (i := 60) rfl fl_M_455 (xm_in rfl hn) rfl ?_
    refine r_bipush (v := 6) (i := 61) rfl kb_6 ?_
    refine r_icmpgt (i := 62) (tgt := 119) rfl (by decide) (fun hc => ?_) (fun hc => ?_)
    · have hF := ok_it hc hF
      refine r_aload_n (i := 66) (k0 := 0) rfl rfl rfl ?_
      refine c_V0V (i := 67) rfl vm_M_goRound lk_M_468 (t_M_goRound hn (ok_bind hF)) (Nat.le_of_ble_eq_true rfl) (xm_in rfl hn) rfl rfl (Nat.le_of_ble_eq_true rfl) (fun p_1 hF => ?_)
      refine xm_sub (Ls' := [(0, _)]) [0] rfl ?_
      exact t_M_place_b123 hn (fun p h => hq p h) (ok_map hF)
    have hF := ok_if hc hF
    refine r_aload_n (i := 63) (k0 := 0) rfl rfl rfl ?_
    refine c_V0V (i := 64) rfl vm_M_findBest lk_M_465 (t_M_findBest hn (ok_bind hF)) (Nat.le_of_ble_eq_true rfl) (xm_in rfl hn) rfl rfl (Nat.le_of_ble_eq_true rfl) (fun p_2 hF => ?_)
    refine r_goto (i := 65) (tgt := 123) rfl (by decide) ?_
    refine xm_sub (Ls' := [(0, _)]) [0] rfl ?_
    exact t_M_place_b123 hn (fun p h => hq p h) (ok_map hF)
  have hF := ok_if hc hF
  refine r_aload_n (i := 9) (k0 := 0) rfl rfl rfl ?_
  refine q_getr (b := 73) (i := 10) rfl fl_M_97 rfl (xm_in rfl hn) rfl rfl ?_
  refine r_aload_n (i := 11) (k0 := 0) rfl rfl rfl ?_
  refine q_getr (b := 69) (i := 12) rfl fl_M_84 rfl (xm_in rfl hn) rfl rfl ?_
  refine r_iload_n (i := 13) (k0 := 1) rfl rfl rfl ?_
  obtain ⟨hi, hF⟩ := ok_gd hF
  refine q_iaload (i := 14) rfl (xm_in rfl hn) rfl hi ?_
  obtain ⟨hi, hF⟩ := ok_gd hF
  refine q_baload (i := 15) rfl (xm_in rfl hn) rfl hi ?_
  refine r_ifeq (i := 16) (tgt := 97) rfl (by decide) (fun hc => ?_) (fun hc => ?_)
  · have hF := ok_it hc hF
    exact t_M_place_b97 hn (fun p h => hq p h) (fun z h => hg0 z h) hF
  have hF := ok_if hc hF
  refine r_aload_n (i := 17) (k0 := 0) rfl rfl rfl ?_
  refine q_getr (b := 80) (i := 18) rfl fl_M_119 rfl (xm_in rfl hn) rfl rfl ?_
  refine r_aload_n (i := 19) (k0 := 0) rfl rfl rfl ?_
  refine q_geti (i := 20) rfl fl_M_455 (xm_in rfl hn) rfl ?_
  refine r_iload_n (i := 21) (k0 := 1) rfl rfl rfl ?_
  obtain ⟨hi, hF⟩ := ok_gd hF
  refine q_iastore (i := 22) rfl (xm_in rfl hn) rfl hi ?_
  refine r_aload_n (i := 23) (k0 := 0) rfl rfl rfl ?_
  refine r_dup (i := 24) rfl rfl ?_
  refine q_geti (i := 25) rfl fl_M_455 (xm_in rfl hn) rfl ?_
  refine r_iconst (v := 1) (i := 26) rfl ki_1 ?_
  refine r_iadd (i := 27) rfl ?_
  refine q_puti (i := 28) rfl fl_M_455 (fun h => Bool.noConfusion h) (xm_in rfl hn) rfl ?_
  refine r_iconst (v := 0) (i := 29) rfl ki_0 ?_
  refine r_istore_n (i := 30) (Ls' := [(2, _), (0, _), (1, _)]) rfl rfl (Nat.le_of_ble_eq_true rfl) rfl ?_
  refine xm_sub (Ls' := [(0, _), (1, _), (2, _)]) [1, 2, 0] rfl ?_
  exact t_M_place_b51 hn (fun p h => hq p h) (fun z h => hg0 z h) hF
set_option maxHeartbeats 4000000 in
set_option maxRecDepth 100000 in
theorem t_M_place_b7 {s : Int32 × xm_I × xm_L} {n : Nat} {K : xm_I × xm_L → Prop} {Q : Option Value → xm_H → Prop} (hn : 86 ≤ n) (hq : ∀ p : xm_I × xm_L, K p → Q none (p.1, p.2, RC n, n)) (hF : ok (f_M_place_b7 s) K) : xm_J 4 mt_M_place 7 [(0, .ref 49), (1, .int s.1)] [] (s.2.1, s.2.2, RC n, n) 0 0 Q :=
  lp_J (G := fun z => xm_J 4 mt_M_place 7 [(0, .ref 49), (1, .int z.1)] [] (z.2.1, z.2.2, RC n, n) 0 0 Q) (fun z hF => t_M_place_s7 hn (fun p h => hq p h) (fun z h => h) hF) s hF
set_option maxHeartbeats 4000000 in
set_option maxRecDepth 100000 in
theorem t_M_place_b0 {n : Nat} {I : xm_I} {L : xm_L} {K : xm_I × xm_L → Prop} {Q : Option Value → xm_H → Prop} (hn : 86 ≤ n) (hq : ∀ p : xm_I × xm_L, K p → Q none (p.1, p.2, RC n, n)) (hF : ok (f_M_place_b0 I L) K) : xm_J 4 mt_M_place 0 [(0, .ref 49)] [] (I, L, RC n, n) 0 0 Q := by
  unfold f_M_place_b0 at hF
  refine r_aload_n (i := 0) (k0 := 0) rfl rfl rfl ?_
  refine r_iconst (v := 0) (i := 1) rfl ki_0 ?_
  refine q_puti (i := 2) rfl fl_M_455 (fun h => Bool.noConfusion h) (xm_in rfl hn) rfl ?_
  refine r_iconst (v := 0) (i := 3) rfl ki_0 ?_
  refine r_istore_n (i := 4) (Ls' := [(1, _), (0, _)]) rfl rfl (Nat.le_of_ble_eq_true rfl) rfl ?_
  refine xm_sub (Ls' := [(0, _), (1, _)]) [1, 0] rfl ?_
  exact t_M_place_b7 hn (fun p h => hq p h) hF
set_option maxHeartbeats 4000000 in
set_option maxRecDepth 100000 in
theorem t_M_place {n : Nat} {I : xm_I} {L : xm_L} {K : xm_I × xm_L → Prop} (hn : 86 ≤ n) (hF : ok (f_M_place I L) K) : xm_C 4 mt_M_place [.ref 49] (I, L, RC n, n) 0 0 (pV (fun p : xm_I × xm_L => (p.1, p.2, RC n, n)) K) := by
  unfold f_M_place at hF
  refine xm_enter (by decide +kernel) dv_M_place (Nat.le_of_ble_eq_true rfl) ?_
  exact t_M_place_b0 hn (fun p hp => ⟨p, rfl, rfl, hp⟩) hF

noncomputable def f_M_draw_b249 (I : xm_I) (L : xm_L) : Option (Int32 × xm_I × xm_L) :=
  (f_M_place I L).bind fun p_1 =>
  (f_M_lay p_1.1).bind fun p_2 =>
  some (p_2 49 49, p_2, p_1.2)
noncomputable def f_M_draw_s220 (s : Int32 × xm_I × xm_L) : Option ((Int32 × xm_I × xm_L) ⊕ (Int32 × xm_I × xm_L)) :=
  if (s.2.1 49 31) ≤ s.1 then (
    (f_M_draw_b249 s.2.1 s.2.2).map .inr)
  else (
  if (s.2.1 60 (Int32.toNatClampNeg 8)) = 0 then (
    (f_M_drawSolid s.1 s.2.1 s.2.2).bind fun p_1 =>
    let x1_2 : Int32 := s.1 + 1
    some (.inl (x1_2, p_1.1, p_1.2)))
  else (
    (f_M_draw_b249 s.2.1 s.2.2).map .inr))
noncomputable def f_M_draw_b220 (s : Int32 × xm_I × xm_L) : Option (Int32 × xm_I × xm_L) := lp (f_M_draw_s220) s
noncomputable def f_M_draw_b212 (x1 : Int32) (I : xm_I) (L : xm_L) : Option ((Int32 × xm_I × xm_L) ⊕ (Int32 × xm_I × xm_L)) :=
  let x1_1 : Int32 := x1 + 1
  some (.inl (x1_1, I, L))
noncomputable def f_M_draw_s180 (s : Int32 × xm_I × xm_L) : Option ((Int32 × xm_I × xm_L) ⊕ (Int32 × xm_I × xm_L)) :=
  if (s.2.1 49 11) ≤ s.1 then (
    (f_M_draw_b220 (0, s.2.1, s.2.2)).map .inr)
  else (
  gd (0 ≤ (s.1).toInt ∧ (s.1).toInt < 40) <|
  if (s.2.1 54 (Int32.toNatClampNeg s.1)) = 7 then (
    f_M_draw_b212 s.1 s.2.1 s.2.2)
  else (
  (f_M_isDrawable s.1 s.2.1).bind fun p_1 =>
  if p_1 = 0 then (
    f_M_draw_b212 s.1 s.2.1 s.2.2)
  else (
  (f_M_drawObject s.1 s.2.1 s.2.2).bind fun p_2 =>
  f_M_draw_b212 s.1 p_2.1 p_2.2)))
noncomputable def f_M_draw_b180 (s : Int32 × xm_I × xm_L) : Option (Int32 × xm_I × xm_L) := lp (f_M_draw_s180) s
noncomputable def f_M_draw_b172 (x1 : Int32) (I : xm_I) (L : xm_L) : Option ((Int32 × xm_I × xm_L) ⊕ (Int32 × xm_I × xm_L)) :=
  let x1_1 : Int32 := x1 + 1
  some (.inl (x1_1, I, L))
noncomputable def f_M_draw_s140 (s : Int32 × xm_I × xm_L) : Option ((Int32 × xm_I × xm_L) ⊕ (Int32 × xm_I × xm_L)) :=
  if (s.2.1 49 11) ≤ s.1 then (
    (f_M_draw_b180 (0, s.2.1, s.2.2)).map .inr)
  else (
  gd (0 ≤ (s.1).toInt ∧ (s.1).toInt < 40) <|
  if (s.2.1 54 (Int32.toNatClampNeg s.1)) = 7 then (
    (f_M_isDrawable s.1 s.2.1).bind fun p_1 =>
    if p_1 = 0 then (
      f_M_draw_b172 s.1 s.2.1 s.2.2)
    else (
    (f_M_drawArea s.1 s.2.1 s.2.2).bind fun p_2 =>
    f_M_draw_b172 s.1 p_2.1 p_2.2))
  else (
    f_M_draw_b172 s.1 s.2.1 s.2.2))
noncomputable def f_M_draw_b140 (s : Int32 × xm_I × xm_L) : Option (Int32 × xm_I × xm_L) := lp (f_M_draw_s140) s
noncomputable def f_M_draw_s68 (L : xm_L) (s : Int32 × xm_I) : Option ((Int32 × xm_I) ⊕ (Int32 × xm_I × xm_L)) :=
  if (s.2 49 37) ≤ s.1 then (
    (f_M_add 70 (s.2 49 19) (s.2 49 20) 0 0 0 s.2).bind fun p_1 =>
    (f_M_hasScale p_1 L).bind fun p_2 =>
    if p_2.1 = 0 then (
      let I_4 : xm_I := up2 p_1 49 38 6
      let I_5 : xm_I := up2 I_4 49 58 (I_4 49 37)
      (f_M_lay I_5).bind fun p_6 =>
      some (.inr (0, p_6, p_2.2)))
    else (
      (f_M_drawGrid p_1 p_2.2).bind fun p_3 =>
      (f_M_draw_b140 (0, p_3, p_2.2)).map .inr))
  else (
  gd (0 ≤ (s.1).toInt ∧ (s.1).toInt < 20) <|
  let I_7 : xm_I := up2 s.2 76 (Int32.toNatClampNeg s.1) 8
  let x1_8 : Int32 := s.1 + 1
  some (.inl (x1_8, I_7)))
noncomputable def f_M_draw_b68 (L : xm_L) (s : Int32 × xm_I) : Option (Int32 × xm_I × xm_L) := lp (f_M_draw_s68 L) s
noncomputable def f_M_draw_s45 (L : xm_L) (s : Int32 × xm_I) : Option ((Int32 × xm_I) ⊕ (Int32 × xm_I × xm_L)) :=
  if (s.2 49 11) ≤ s.1 then (
    (f_M_draw_b68 L (0, s.2)).map .inr)
  else (
  gd (0 ≤ (s.1).toInt ∧ (s.1).toInt < 40) <|
  let I_1 : xm_I := up2 s.2 73 (Int32.toNatClampNeg s.1) (0 &&& 1)
  let x1_2 : Int32 := s.1 + 1
  some (.inl (x1_2, I_1)))
noncomputable def f_M_draw_b45 (L : xm_L) (s : Int32 × xm_I) : Option (Int32 × xm_I × xm_L) := lp (f_M_draw_s45 L) s
noncomputable def f_M_draw_b0 (I : xm_I) (L : xm_L) : Option (Int32 × xm_I × xm_L) :=
  let I_1 : xm_I := up2 I 49 38 0
  let I_2 : xm_I := up2 I_1 49 47 1
  let I_3 : xm_I := up2 I_2 49 49 0
  let I_4 : xm_I := up2 I_3 49 50 0
  let I_5 : xm_I := up2 I_4 49 58 0
  let I_6 : xm_I := up2 I_5 49 59 0
  let I_7 : xm_I := up2 I_6 49 60 0
  let I_8 : xm_I := up2 I_7 49 56 (I_7 49 37)
  f_M_draw_b45 L (0, I_8)
noncomputable def f_M_draw (I : xm_I) (L : xm_L) : Option (Int32 × xm_I × xm_L) := f_M_draw_b0 I L
set_option maxHeartbeats 4000000 in
set_option maxRecDepth 100000 in
theorem t_M_draw_b249 {n : Nat} {I : xm_I} {L : xm_L} {K : Int32 × xm_I × xm_L → Prop} {Q : Option Value → xm_H → Prop} (hn : 86 ≤ n) (hq : ∀ p : Int32 × xm_I × xm_L, K p → Q (some (.int p.1)) (p.2.1, p.2.2, RC n, n)) (hF : ok (f_M_draw_b249 I L) K) : xm_J 5 mt_M_draw 249 [(0, .ref 49)] [] (I, L, RC n, n) 0 0 Q := by
  unfold f_M_draw_b249 at hF
  refine r_aload_n (i := 135) (k0 := 0) rfl rfl rfl ?_
  refine c_V0V (i := 136) rfl vm_M_place lk_M_446 (t_M_place hn (ok_bind hF)) (Nat.le_of_ble_eq_true rfl) (xm_in rfl hn) rfl rfl (Nat.le_of_ble_eq_true rfl) (fun p_1 hF => ?_)
  refine r_aload_n (i := 137) (k0 := 0) rfl rfl rfl ?_
  refine c_V0V (i := 138) rfl vm_M_lay lk_M_428 (t_M_lay hn (ok_bind hF)) (Nat.le_of_ble_eq_true rfl) (xm_in rfl hn) rfl rfl (Nat.le_of_ble_eq_true rfl) (fun p_2 hF => ?_)
  refine r_aload_n (i := 139) (k0 := 0) rfl rfl rfl ?_
  refine q_geti (i := 140) rfl fl_M_321 (xm_in rfl hn) rfl ?_
  have hQ := hq _ (ok_some hF)
  exact r_ireturn (i := 141) rfl rfl rfl hQ
set_option maxHeartbeats 4000000 in
set_option maxRecDepth 100000 in
theorem t_M_draw_s220 {s : Int32 × xm_I × xm_L} {n : Nat} {K : (Int32 × xm_I × xm_L) ⊕ (Int32 × xm_I × xm_L) → Prop} {Q : Option Value → xm_H → Prop} (hn : 86 ≤ n) (hq : ∀ p : Int32 × xm_I × xm_L, K (.inr p) → Q (some (.int p.1)) (p.2.1, p.2.2, RC n, n)) (hg0 : ∀ s : Int32 × xm_I × xm_L, K (.inl s) → xm_J 5 mt_M_draw 220 [(0, .ref 49), (1, .int s.1)] [] (s.2.1, s.2.2, RC n, n) 0 0 Q) (hF : ok (f_M_draw_s220 s) K) : xm_J 5 mt_M_draw 220 [(0, .ref 49), (1, .int s.1)] [] (s.2.1, s.2.2, RC n, n) 0 0 Q := by
  unfold f_M_draw_s220 at hF
  refine r_iload_n (i := 121) (k0 := 1) rfl rfl rfl ?_
  refine r_aload_n (i := 122) (k0 := 0) rfl rfl rfl ?_
  refine q_geti (i := 123) rfl fl_M_143 (xm_in rfl hn) rfl ?_
  refine r_icmpge (i := 124) (tgt := 249) rfl (by decide) (fun hc => ?_) (fun hc => ?_)
  · have hF := ok_it hc hF
    refine xm_sub (Ls' := [(0, _)]) [0] rfl ?_
    exact t_M_draw_b249 hn (fun p h => hq p h) (ok_map hF)
  have hF := ok_if hc hF
  refine r_aload_n (i := 125) (k0 := 0) rfl rfl rfl ?_
  refine q_getr (b := 60) (i := 126) rfl fl_M_40 rfl (xm_in rfl hn) rfl rfl ?_
  refine r_bipush (v := 8) (i := 127) rfl kb_8 ?_
  refine q_baload (i := 128) rfl (xm_in rfl hn) rfl ⟨by decide, by decide⟩ ?_
  refine r_ifne (i := 129) (tgt := 249) rfl (by decide) (fun hc => ?_) (fun hc => ?_)
  · have hF := ok_if hc hF
    refine xm_sub (Ls' := [(0, _)]) [0] rfl ?_
    exact t_M_draw_b249 hn (fun p h => hq p h) (ok_map hF)
  have hF := ok_it hc hF
  refine r_aload_n (i := 130) (k0 := 0) rfl rfl rfl ?_
  refine r_iload_n (i := 131) (k0 := 1) rfl rfl rfl ?_
  refine c_V1V (i := 132) rfl vm_M_drawSolid lk_M_443 (t_M_drawSolid hn (ok_bind hF)) (Nat.le_of_ble_eq_true rfl) (xm_in rfl hn) rfl rfl (Nat.le_of_ble_eq_true rfl) (fun p_1 hF => ?_)
  refine q_iinc (i := 133) (k0 := 1) (Ls' := [(1, _), (0, _)]) rfl ki_1 rfl (Nat.le_of_ble_eq_true rfl) rfl ?_
  refine r_goto (i := 134) (tgt := 220) rfl (by decide) ?_
  refine xm_sub (Ls' := [(0, _), (1, _)]) [1, 0] rfl ?_
  have hJ := hg0 _ (ok_some hF)
  exact hJ
set_option maxHeartbeats 4000000 in
set_option maxRecDepth 100000 in
theorem t_M_draw_b220 {s : Int32 × xm_I × xm_L} {n : Nat} {K : Int32 × xm_I × xm_L → Prop} {Q : Option Value → xm_H → Prop} (hn : 86 ≤ n) (hq : ∀ p : Int32 × xm_I × xm_L, K p → Q (some (.int p.1)) (p.2.1, p.2.2, RC n, n)) (hF : ok (f_M_draw_b220 s) K) : xm_J 5 mt_M_draw 220 [(0, .ref 49), (1, .int s.1)] [] (s.2.1, s.2.2, RC n, n) 0 0 Q :=
  lp_J (G := fun z => xm_J 5 mt_M_draw 220 [(0, .ref 49), (1, .int z.1)] [] (z.2.1, z.2.2, RC n, n) 0 0 Q) (fun z hF => t_M_draw_s220 hn (fun p h => hq p h) (fun z h => h) hF) s hF
set_option maxHeartbeats 4000000 in
set_option maxRecDepth 100000 in
theorem t_M_draw_b212 {x1 : Int32} {n : Nat} {I : xm_I} {L : xm_L} {K : (Int32 × xm_I × xm_L) ⊕ (Int32 × xm_I × xm_L) → Prop} {Q : Option Value → xm_H → Prop} (hn : 86 ≤ n) (hq : ∀ p : Int32 × xm_I × xm_L, K (.inr p) → Q (some (.int p.1)) (p.2.1, p.2.2, RC n, n)) (hg0 : ∀ s : Int32 × xm_I × xm_L, K (.inl s) → xm_J 5 mt_M_draw 180 [(0, .ref 49), (1, .int s.1)] [] (s.2.1, s.2.2, RC n, n) 0 0 Q) (hF : ok (f_M_draw_b212 x1 I L) K) : xm_J 5 mt_M_draw 212 [(0, .ref 49), (1, .int x1)] [] (I, L, RC n, n) 0 0 Q := by
  unfold f_M_draw_b212 at hF
  refine q_iinc (i := 117) (k0 := 1) (Ls' := [(1, _), (0, _)]) rfl ki_1 rfl (Nat.le_of_ble_eq_true rfl) rfl ?_
  refine r_goto (i := 118) (tgt := 180) rfl (by decide) ?_
  refine xm_sub (Ls' := [(0, _), (1, _)]) [1, 0] rfl ?_
  have hJ := hg0 _ (ok_some hF)
  exact hJ
set_option maxHeartbeats 4000000 in
set_option maxRecDepth 100000 in
theorem t_M_draw_s180 {s : Int32 × xm_I × xm_L} {n : Nat} {K : (Int32 × xm_I × xm_L) ⊕ (Int32 × xm_I × xm_L) → Prop} {Q : Option Value → xm_H → Prop} (hn : 86 ≤ n) (hq : ∀ p : Int32 × xm_I × xm_L, K (.inr p) → Q (some (.int p.1)) (p.2.1, p.2.2, RC n, n)) (hg0 : ∀ s : Int32 × xm_I × xm_L, K (.inl s) → xm_J 5 mt_M_draw 180 [(0, .ref 49), (1, .int s.1)] [] (s.2.1, s.2.2, RC n, n) 0 0 Q) (hF : ok (f_M_draw_s180 s) K) : xm_J 5 mt_M_draw 180 [(0, .ref 49), (1, .int s.1)] [] (s.2.1, s.2.2, RC n, n) 0 0 Q := by
  unfold f_M_draw_s180 at hF
  refine r_iload_n (i := 100) (k0 := 1) rfl rfl rfl ?_
  refine r_aload_n (i := 101) (k0 := 0) rfl rfl rfl ?_
  refine q_geti (i := 102) rfl fl_M_140 (xm_in rfl hn) rfl ?_
  refine r_icmpge (i := 103) (tgt := 218) rfl (by decide) (fun hc => ?_) (fun hc => ?_)
  · have hF := ok_it hc hF
    refine r_iconst (v := 0) (i := 119) rfl ki_0 ?_
    refine r_istore_n (i := 120) (Ls' := [(1, _), (0, _)]) rfl rfl (Nat.le_of_ble_eq_true rfl) rfl ?_
    refine xm_sub (Ls' := [(0, _), (1, _)]) [1, 0] rfl ?_
    exact t_M_draw_b220 hn (fun p h => hq p h) (ok_map hF)
  have hF := ok_if hc hF
  refine r_aload_n (i := 104) (k0 := 0) rfl rfl rfl ?_
  refine q_getr (b := 54) (i := 105) rfl fl_M_22 rfl (xm_in rfl hn) rfl rfl ?_
  refine r_iload_n (i := 106) (k0 := 1) rfl rfl rfl ?_
  obtain ⟨hi, hF⟩ := ok_gd hF
  refine q_iaload (i := 107) rfl (xm_in rfl hn) rfl hi ?_
  refine r_bipush (v := 7) (i := 108) rfl kb_7 ?_
  refine r_icmpeq (i := 109) (tgt := 212) rfl (by decide) (fun hc => ?_) (fun hc => ?_)
  · have hF := ok_it hc hF
    exact t_M_draw_b212 hn (fun p h => hq p h) (fun z h => hg0 z h) hF
  have hF := ok_if hc hF
  refine r_aload_n (i := 110) (k0 := 0) rfl rfl rfl ?_
  refine r_iload_n (i := 111) (k0 := 1) rfl rfl rfl ?_
  refine c_V1I (i := 112) rfl vm_M_isDrawable lk_M_434 (t_M_isDrawable hn (ok_bind hF)) (Nat.le_of_ble_eq_true rfl) (xm_in rfl hn) rfl rfl (Nat.le_of_ble_eq_true rfl) (fun p_1 hF => ?_)
  refine r_ifeq (i := 113) (tgt := 212) rfl (by decide) (fun hc => ?_) (fun hc => ?_)
  · have hF := ok_it hc hF
    exact t_M_draw_b212 hn (fun p h => hq p h) (fun z h => hg0 z h) hF
  have hF := ok_if hc hF
  refine r_aload_n (i := 114) (k0 := 0) rfl rfl rfl ?_
  refine r_iload_n (i := 115) (k0 := 1) rfl rfl rfl ?_
  refine c_V1V (i := 116) rfl vm_M_drawObject lk_M_440 (t_M_drawObject hn (ok_bind hF)) (Nat.le_of_ble_eq_true rfl) (xm_in rfl hn) rfl rfl (Nat.le_of_ble_eq_true rfl) (fun p_2 hF => ?_)
  exact t_M_draw_b212 hn (fun p h => hq p h) (fun z h => hg0 z h) hF
set_option maxHeartbeats 4000000 in
set_option maxRecDepth 100000 in
theorem t_M_draw_b180 {s : Int32 × xm_I × xm_L} {n : Nat} {K : Int32 × xm_I × xm_L → Prop} {Q : Option Value → xm_H → Prop} (hn : 86 ≤ n) (hq : ∀ p : Int32 × xm_I × xm_L, K p → Q (some (.int p.1)) (p.2.1, p.2.2, RC n, n)) (hF : ok (f_M_draw_b180 s) K) : xm_J 5 mt_M_draw 180 [(0, .ref 49), (1, .int s.1)] [] (s.2.1, s.2.2, RC n, n) 0 0 Q :=
  lp_J (G := fun z => xm_J 5 mt_M_draw 180 [(0, .ref 49), (1, .int z.1)] [] (z.2.1, z.2.2, RC n, n) 0 0 Q) (fun z hF => t_M_draw_s180 hn (fun p h => hq p h) (fun z h => h) hF) s hF
set_option maxHeartbeats 4000000 in
set_option maxRecDepth 100000 in
theorem t_M_draw_b172 {x1 : Int32} {n : Nat} {I : xm_I} {L : xm_L} {K : (Int32 × xm_I × xm_L) ⊕ (Int32 × xm_I × xm_L) → Prop} {Q : Option Value → xm_H → Prop} (hn : 86 ≤ n) (hq : ∀ p : Int32 × xm_I × xm_L, K (.inr p) → Q (some (.int p.1)) (p.2.1, p.2.2, RC n, n)) (hg0 : ∀ s : Int32 × xm_I × xm_L, K (.inl s) → xm_J 5 mt_M_draw 140 [(0, .ref 49), (1, .int s.1)] [] (s.2.1, s.2.2, RC n, n) 0 0 Q) (hF : ok (f_M_draw_b172 x1 I L) K) : xm_J 5 mt_M_draw 172 [(0, .ref 49), (1, .int x1)] [] (I, L, RC n, n) 0 0 Q := by
  unfold f_M_draw_b172 at hF
  refine q_iinc (i := 96) (k0 := 1) (Ls' := [(1, _), (0, _)]) rfl ki_1 rfl (Nat.le_of_ble_eq_true rfl) rfl ?_
  refine r_goto (i := 97) (tgt := 140) rfl (by decide) ?_
  refine xm_sub (Ls' := [(0, _), (1, _)]) [1, 0] rfl ?_
  have hJ := hg0 _ (ok_some hF)
  exact hJ
set_option maxHeartbeats 4000000 in
set_option maxRecDepth 100000 in
theorem t_M_draw_s140 {s : Int32 × xm_I × xm_L} {n : Nat} {K : (Int32 × xm_I × xm_L) ⊕ (Int32 × xm_I × xm_L) → Prop} {Q : Option Value → xm_H → Prop} (hn : 86 ≤ n) (hq : ∀ p : Int32 × xm_I × xm_L, K (.inr p) → Q (some (.int p.1)) (p.2.1, p.2.2, RC n, n)) (hg0 : ∀ s : Int32 × xm_I × xm_L, K (.inl s) → xm_J 5 mt_M_draw 140 [(0, .ref 49), (1, .int s.1)] [] (s.2.1, s.2.2, RC n, n) 0 0 Q) (hF : ok (f_M_draw_s140 s) K) : xm_J 5 mt_M_draw 140 [(0, .ref 49), (1, .int s.1)] [] (s.2.1, s.2.2, RC n, n) 0 0 Q := by
  unfold f_M_draw_s140 at hF
  refine r_iload_n (i := 79) (k0 := 1) rfl rfl rfl ?_
  refine r_aload_n (i := 80) (k0 := 0) rfl rfl rfl ?_
  refine q_geti (i := 81) rfl fl_M_140 (xm_in rfl hn) rfl ?_
  refine r_icmpge (i := 82) (tgt := 178) rfl (by decide) (fun hc => ?_) (fun hc => ?_)
  · have hF := ok_it hc hF
    refine r_iconst (v := 0) (i := 98) rfl ki_0 ?_
    refine r_istore_n (i := 99) (Ls' := [(1, _), (0, _)]) rfl rfl (Nat.le_of_ble_eq_true rfl) rfl ?_
    refine xm_sub (Ls' := [(0, _), (1, _)]) [1, 0] rfl ?_
    exact t_M_draw_b180 hn (fun p h => hq p h) (ok_map hF)
  have hF := ok_if hc hF
  refine r_aload_n (i := 83) (k0 := 0) rfl rfl rfl ?_
  refine q_getr (b := 54) (i := 84) rfl fl_M_22 rfl (xm_in rfl hn) rfl rfl ?_
  refine r_iload_n (i := 85) (k0 := 1) rfl rfl rfl ?_
  obtain ⟨hi, hF⟩ := ok_gd hF
  refine q_iaload (i := 86) rfl (xm_in rfl hn) rfl hi ?_
  refine r_bipush (v := 7) (i := 87) rfl kb_7 ?_
  refine r_icmpne (i := 88) (tgt := 172) rfl (by decide) (fun hc => ?_) (fun hc => ?_)
  · have hF := ok_if hc hF
    exact t_M_draw_b172 hn (fun p h => hq p h) (fun z h => hg0 z h) hF
  have hF := ok_it hc hF
  refine r_aload_n (i := 89) (k0 := 0) rfl rfl rfl ?_
  refine r_iload_n (i := 90) (k0 := 1) rfl rfl rfl ?_
  refine c_V1I (i := 91) rfl vm_M_isDrawable lk_M_434 (t_M_isDrawable hn (ok_bind hF)) (Nat.le_of_ble_eq_true rfl) (xm_in rfl hn) rfl rfl (Nat.le_of_ble_eq_true rfl) (fun p_1 hF => ?_)
  refine r_ifeq (i := 92) (tgt := 172) rfl (by decide) (fun hc => ?_) (fun hc => ?_)
  · have hF := ok_it hc hF
    exact t_M_draw_b172 hn (fun p h => hq p h) (fun z h => hg0 z h) hF
  have hF := ok_if hc hF
  refine r_aload_n (i := 93) (k0 := 0) rfl rfl rfl ?_
  refine r_iload_n (i := 94) (k0 := 1) rfl rfl rfl ?_
  refine c_V1V (i := 95) rfl vm_M_drawArea lk_M_437 (t_M_drawArea hn (ok_bind hF)) (Nat.le_of_ble_eq_true rfl) (xm_in rfl hn) rfl rfl (Nat.le_of_ble_eq_true rfl) (fun p_2 hF => ?_)
  exact t_M_draw_b172 hn (fun p h => hq p h) (fun z h => hg0 z h) hF
set_option maxHeartbeats 4000000 in
set_option maxRecDepth 100000 in
theorem t_M_draw_b140 {s : Int32 × xm_I × xm_L} {n : Nat} {K : Int32 × xm_I × xm_L → Prop} {Q : Option Value → xm_H → Prop} (hn : 86 ≤ n) (hq : ∀ p : Int32 × xm_I × xm_L, K p → Q (some (.int p.1)) (p.2.1, p.2.2, RC n, n)) (hF : ok (f_M_draw_b140 s) K) : xm_J 5 mt_M_draw 140 [(0, .ref 49), (1, .int s.1)] [] (s.2.1, s.2.2, RC n, n) 0 0 Q :=
  lp_J (G := fun z => xm_J 5 mt_M_draw 140 [(0, .ref 49), (1, .int z.1)] [] (z.2.1, z.2.2, RC n, n) 0 0 Q) (fun z hF => t_M_draw_s140 hn (fun p h => hq p h) (fun z h => h) hF) s hF
set_option maxHeartbeats 4000000 in
set_option maxRecDepth 100000 in
theorem t_M_draw_s68 {s : Int32 × xm_I} {n : Nat} {L : xm_L} {K : (Int32 × xm_I) ⊕ (Int32 × xm_I × xm_L) → Prop} {Q : Option Value → xm_H → Prop} (hn : 86 ≤ n) (hq : ∀ p : Int32 × xm_I × xm_L, K (.inr p) → Q (some (.int p.1)) (p.2.1, p.2.2, RC n, n)) (hg0 : ∀ s : Int32 × xm_I, K (.inl s) → xm_J 5 mt_M_draw 68 [(0, .ref 49), (1, .int s.1)] [] (s.2, L, RC n, n) 0 0 Q) (hF : ok (f_M_draw_s68 L s) K) : xm_J 5 mt_M_draw 68 [(0, .ref 49), (1, .int s.1)] [] (s.2, L, RC n, n) 0 0 Q := by
  unfold f_M_draw_s68 at hF
  refine r_iload_n (i := 40) (k0 := 1) rfl rfl rfl ?_
  refine r_aload_n (i := 41) (k0 := 0) rfl rfl rfl ?_
  refine q_geti (i := 42) rfl fl_M_422 (xm_in rfl hn) rfl ?_
  refine r_icmpge (i := 43) (tgt := 90) rfl (by decide) (fun hc => ?_) (fun hc => ?_)
  · have hF := ok_it hc hF
    refine r_aload_n (i := 51) (k0 := 0) rfl rfl rfl ?_
    refine r_bipush (v := 70) (i := 52) rfl kb_70 ?_
    refine r_aload_n (i := 53) (k0 := 0) rfl rfl rfl ?_
    refine q_geti (i := 54) rfl fl_M_51 (xm_in rfl hn) rfl ?_
    refine r_aload_n (i := 55) (k0 := 0) rfl rfl rfl ?_
    refine q_geti (i := 56) rfl fl_M_54 (xm_in rfl hn) rfl ?_
    refine r_iconst (v := 0) (i := 57) rfl ki_0 ?_
    refine r_iconst (v := 0) (i := 58) rfl ki_0 ?_
    refine r_iconst (v := 0) (i := 59) rfl ki_0 ?_
    refine c_V6V (i := 60) rfl vm_M_add lk_M_343 (t_M_add hn (ok_bind hF)) (Nat.le_of_ble_eq_true rfl) (xm_in rfl hn) rfl rfl (Nat.le_of_ble_eq_true rfl) (fun p_1 hF => ?_)
    refine r_aload_n (i := 61) (k0 := 0) rfl rfl rfl ?_
    refine c_V0I (i := 62) rfl vm_M_hasScale lk_M_253 (t_M_hasScale hn (ok_bind hF)) (Nat.le_of_ble_eq_true rfl) (xm_in rfl hn) rfl rfl (Nat.le_of_ble_eq_true rfl) (fun p_2 hF => ?_)
    refine r_ifne (i := 63) (tgt := 134) rfl (by decide) (fun hc => ?_) (fun hc => ?_)
    · have hF := ok_if hc hF
      refine r_aload_n (i := 75) (k0 := 0) rfl rfl rfl ?_
      refine c_V0V (i := 76) rfl vm_M_drawGrid lk_M_431 (t_M_drawGrid hn (ok_bind hF)) (Nat.le_of_ble_eq_true rfl) (xm_in rfl hn) rfl rfl (Nat.le_of_ble_eq_true rfl) (fun p_3 hF => ?_)
      refine r_iconst (v := 0) (i := 77) rfl ki_0 ?_
      refine r_istore_n (i := 78) (Ls' := [(1, _), (0, _)]) rfl rfl (Nat.le_of_ble_eq_true rfl) rfl ?_
      refine xm_sub (Ls' := [(0, _), (1, _)]) [1, 0] rfl ?_
      exact t_M_draw_b140 hn (fun p h => hq p h) (ok_map hF)
    have hF := ok_it hc hF
    refine r_aload_n (i := 64) (k0 := 0) rfl rfl rfl ?_
    refine r_bipush (v := 6) (i := 65) rfl kb_6 ?_
    refine q_puti (i := 66) rfl fl_M_257 (fun h => Bool.noConfusion h) (xm_in rfl hn) rfl ?_
    refine r_aload_n (i := 67) (k0 := 0) rfl rfl rfl ?_
    refine r_aload_n (i := 68) (k0 := 0) rfl rfl rfl ?_
    refine q_geti (i := 69) rfl fl_M_422 (xm_in rfl hn) rfl ?_
    refine q_puti (i := 70) rfl fl_M_413 (fun h => Bool.noConfusion h) (xm_in rfl hn) rfl ?_
    refine r_aload_n (i := 71) (k0 := 0) rfl rfl rfl ?_
    refine c_V0V (i := 72) rfl vm_M_lay lk_M_428 (t_M_lay hn (ok_bind hF)) (Nat.le_of_ble_eq_true rfl) (xm_in rfl hn) rfl rfl (Nat.le_of_ble_eq_true rfl) (fun p_6 hF => ?_)
    refine r_iconst (v := 0) (i := 73) rfl ki_0 ?_
    have hQ := hq _ (ok_some hF)
    exact r_ireturn (i := 74) rfl rfl rfl hQ
  have hF := ok_if hc hF
  refine r_aload_n (i := 44) (k0 := 0) rfl rfl rfl ?_
  refine q_getr (b := 76) (i := 45) rfl fl_M_106 rfl (xm_in rfl hn) rfl rfl ?_
  refine r_iload_n (i := 46) (k0 := 1) rfl rfl rfl ?_
  refine r_bipush (v := 8) (i := 47) rfl kb_8 ?_
  obtain ⟨hi, hF⟩ := ok_gd hF
  refine q_iastore (i := 48) rfl (xm_in rfl hn) rfl hi ?_
  refine q_iinc (i := 49) (k0 := 1) (Ls' := [(1, _), (0, _)]) rfl ki_1 rfl (Nat.le_of_ble_eq_true rfl) rfl ?_
  refine r_goto (i := 50) (tgt := 68) rfl (by decide) ?_
  refine xm_sub (Ls' := [(0, _), (1, _)]) [1, 0] rfl ?_
  have hJ := hg0 _ (ok_some hF)
  exact hJ
set_option maxHeartbeats 4000000 in
set_option maxRecDepth 100000 in
theorem t_M_draw_b68 {s : Int32 × xm_I} {n : Nat} {L : xm_L} {K : Int32 × xm_I × xm_L → Prop} {Q : Option Value → xm_H → Prop} (hn : 86 ≤ n) (hq : ∀ p : Int32 × xm_I × xm_L, K p → Q (some (.int p.1)) (p.2.1, p.2.2, RC n, n)) (hF : ok (f_M_draw_b68 L s) K) : xm_J 5 mt_M_draw 68 [(0, .ref 49), (1, .int s.1)] [] (s.2, L, RC n, n) 0 0 Q :=
  lp_J (G := fun z => xm_J 5 mt_M_draw 68 [(0, .ref 49), (1, .int z.1)] [] (z.2, L, RC n, n) 0 0 Q) (fun z hF => t_M_draw_s68 hn (fun p h => hq p h) (fun z h => h) hF) s hF
set_option maxHeartbeats 4000000 in
set_option maxRecDepth 100000 in
theorem t_M_draw_s45 {s : Int32 × xm_I} {n : Nat} {L : xm_L} {K : (Int32 × xm_I) ⊕ (Int32 × xm_I × xm_L) → Prop} {Q : Option Value → xm_H → Prop} (hn : 86 ≤ n) (hq : ∀ p : Int32 × xm_I × xm_L, K (.inr p) → Q (some (.int p.1)) (p.2.1, p.2.2, RC n, n)) (hg0 : ∀ s : Int32 × xm_I, K (.inl s) → xm_J 5 mt_M_draw 45 [(0, .ref 49), (1, .int s.1)] [] (s.2, L, RC n, n) 0 0 Q) (hF : ok (f_M_draw_s45 L s) K) : xm_J 5 mt_M_draw 45 [(0, .ref 49), (1, .int s.1)] [] (s.2, L, RC n, n) 0 0 Q := by
  unfold f_M_draw_s45 at hF
  refine r_iload_n (i := 27) (k0 := 1) rfl rfl rfl ?_
  refine r_aload_n (i := 28) (k0 := 0) rfl rfl rfl ?_
  refine q_geti (i := 29) rfl fl_M_140 (xm_in rfl hn) rfl ?_
  refine r_icmpge (i := 30) (tgt := 66) rfl (by decide) (fun hc => ?_) (fun hc => ?_)
  · have hF := ok_it hc hF
    refine r_iconst (v := 0) (i := 38) rfl ki_0 ?_
    refine r_istore_n (i := 39) (Ls' := [(1, _), (0, _)]) rfl rfl (Nat.le_of_ble_eq_true rfl) rfl ?_
    refine xm_sub (Ls' := [(0, _), (1, _)]) [1, 0] rfl ?_
    exact t_M_draw_b68 hn (fun p h => hq p h) (ok_map hF)
  have hF := ok_if hc hF
  refine r_aload_n (i := 31) (k0 := 0) rfl rfl rfl ?_
  refine q_getr (b := 73) (i := 32) rfl fl_M_97 rfl (xm_in rfl hn) rfl rfl ?_
  refine r_iload_n (i := 33) (k0 := 1) rfl rfl rfl ?_
  refine r_iconst (v := 0) (i := 34) rfl ki_0 ?_
  obtain ⟨hi, hF⟩ := ok_gd hF
  refine q_bastore (i := 35) rfl (xm_in rfl hn) rfl hi ?_
  refine q_iinc (i := 36) (k0 := 1) (Ls' := [(1, _), (0, _)]) rfl ki_1 rfl (Nat.le_of_ble_eq_true rfl) rfl ?_
  refine r_goto (i := 37) (tgt := 45) rfl (by decide) ?_
  refine xm_sub (Ls' := [(0, _), (1, _)]) [1, 0] rfl ?_
  have hJ := hg0 _ (ok_some hF)
  exact hJ
set_option maxHeartbeats 4000000 in
set_option maxRecDepth 100000 in
theorem t_M_draw_b45 {s : Int32 × xm_I} {n : Nat} {L : xm_L} {K : Int32 × xm_I × xm_L → Prop} {Q : Option Value → xm_H → Prop} (hn : 86 ≤ n) (hq : ∀ p : Int32 × xm_I × xm_L, K p → Q (some (.int p.1)) (p.2.1, p.2.2, RC n, n)) (hF : ok (f_M_draw_b45 L s) K) : xm_J 5 mt_M_draw 45 [(0, .ref 49), (1, .int s.1)] [] (s.2, L, RC n, n) 0 0 Q :=
  lp_J (G := fun z => xm_J 5 mt_M_draw 45 [(0, .ref 49), (1, .int z.1)] [] (z.2, L, RC n, n) 0 0 Q) (fun z hF => t_M_draw_s45 hn (fun p h => hq p h) (fun z h => h) hF) s hF
set_option maxHeartbeats 4000000 in
set_option maxRecDepth 100000 in
theorem t_M_draw_b0 {n : Nat} {I : xm_I} {L : xm_L} {K : Int32 × xm_I × xm_L → Prop} {Q : Option Value → xm_H → Prop} (hn : 86 ≤ n) (hq : ∀ p : Int32 × xm_I × xm_L, K p → Q (some (.int p.1)) (p.2.1, p.2.2, RC n, n)) (hF : ok (f_M_draw_b0 I L) K) : xm_J 5 mt_M_draw 0 [(0, .ref 49)] [] (I, L, RC n, n) 0 0 Q := by
  unfold f_M_draw_b0 at hF
  refine r_aload_n (i := 0) (k0 := 0) rfl rfl rfl ?_
  refine r_iconst (v := 0) (i := 1) rfl ki_0 ?_
  refine q_puti (i := 2) rfl fl_M_257 (fun h => Bool.noConfusion h) (xm_in rfl hn) rfl ?_
  refine r_aload_n (i := 3) (k0 := 0) rfl rfl rfl ?_
  refine r_iconst (v := 1) (i := 4) rfl ki_1 ?_
  refine q_putz (i := 5) rfl fl_M_410 (fun h => Bool.noConfusion h) (xm_in rfl hn) rfl (Or.inr rfl) ?_
  refine r_aload_n (i := 6) (k0 := 0) rfl rfl rfl ?_
  refine r_iconst (v := 0) (i := 7) rfl ki_0 ?_
  refine q_puti (i := 8) rfl fl_M_321 (fun h => Bool.noConfusion h) (xm_in rfl hn) rfl ?_
  refine r_aload_n (i := 9) (k0 := 0) rfl rfl rfl ?_
  refine r_iconst (v := 0) (i := 10) rfl ki_0 ?_
  refine q_puti (i := 11) rfl fl_M_324 (fun h => Bool.noConfusion h) (xm_in rfl hn) rfl ?_
  refine r_aload_n (i := 12) (k0 := 0) rfl rfl rfl ?_
  refine r_iconst (v := 0) (i := 13) rfl ki_0 ?_
  refine q_puti (i := 14) rfl fl_M_413 (fun h => Bool.noConfusion h) (xm_in rfl hn) rfl ?_
  refine r_aload_n (i := 15) (k0 := 0) rfl rfl rfl ?_
  refine r_iconst (v := 0) (i := 16) rfl ki_0 ?_
  refine q_puti (i := 17) rfl fl_M_416 (fun h => Bool.noConfusion h) (xm_in rfl hn) rfl ?_
  refine r_aload_n (i := 18) (k0 := 0) rfl rfl rfl ?_
  refine r_iconst (v := 0) (i := 19) rfl ki_0 ?_
  refine q_puti (i := 20) rfl fl_M_419 (fun h => Bool.noConfusion h) (xm_in rfl hn) rfl ?_
  refine r_aload_n (i := 21) (k0 := 0) rfl rfl rfl ?_
  refine r_aload_n (i := 22) (k0 := 0) rfl rfl rfl ?_
  refine q_geti (i := 23) rfl fl_M_422 (xm_in rfl hn) rfl ?_
  refine q_puti (i := 24) rfl fl_M_425 (fun h => Bool.noConfusion h) (xm_in rfl hn) rfl ?_
  refine r_iconst (v := 0) (i := 25) rfl ki_0 ?_
  refine r_istore_n (i := 26) (Ls' := [(1, _), (0, _)]) rfl rfl (Nat.le_of_ble_eq_true rfl) rfl ?_
  refine xm_sub (Ls' := [(0, _), (1, _)]) [1, 0] rfl ?_
  exact t_M_draw_b45 hn (fun p h => hq p h) hF
set_option maxHeartbeats 4000000 in
set_option maxRecDepth 100000 in
theorem t_M_draw {n : Nat} {I : xm_I} {L : xm_L} {K : Int32 × xm_I × xm_L → Prop} (hn : 86 ≤ n) (hF : ok (f_M_draw I L) K) : xm_C 5 mt_M_draw [.ref 49] (I, L, RC n, n) 0 0 (pI (fun p : Int32 × xm_I × xm_L => p.1) (fun p : Int32 × xm_I × xm_L => (p.2.1, p.2.2, RC n, n)) K) := by
  unfold f_M_draw at hF
  refine xm_enter (by decide +kernel) dv_M_draw (Nat.le_of_ble_eq_true rfl) ?_
  exact t_M_draw_b0 hn (fun p hp => ⟨p, rfl, rfl, hp⟩) hF

noncomputable def f_M_label_b0 (x1 : Int32) (x2 : Int32) (I : xm_I) : Option (Int32 × xm_I) :=
  (f_M_isObject x1 I).bind fun p_1 =>
  if p_1 = 0 then (
    some ((-100001), I))
  else (
    (f_M_in (Int32.toInt64 x2) 1 8).bind fun p_2 =>
    if p_2 = 0 then (
      some ((-100002), I))
    else (
      if (I 49 37) = 20 then (
        some ((-100004), I))
      else (
        gd (0 ≤ (I 49 37).toInt ∧ (I 49 37).toInt < 20) <|
        let I_3 : xm_I := up2 I 69 (Int32.toNatClampNeg (I 49 37)) x1
        gd (0 ≤ (I_3 49 37).toInt ∧ (I_3 49 37).toInt < 20) <|
        let I_4 : xm_I := up2 I_3 70 (Int32.toNatClampNeg (I_3 49 37)) x2
        let I_5 : xm_I := up2 I_4 49 37 ((I_4 49 37) + 1)
        some ((I_5 49 37) - 1, I_5))))
noncomputable def f_M_label (x1 : Int32) (x2 : Int32) (I : xm_I) : Option (Int32 × xm_I) := f_M_label_b0 x1 x2 I
set_option maxHeartbeats 4000000 in
set_option maxRecDepth 100000 in
theorem t_M_label_b0 {x1 : Int32} {x2 : Int32} {n : Nat} {I : xm_I} {L : xm_L} {K : Int32 × xm_I → Prop} {Q : Option Value → xm_H → Prop} (hn : 86 ≤ n) (hq : ∀ p : Int32 × xm_I, K p → Q (some (.int p.1)) (p.2, L, RC n, n)) (hF : ok (f_M_label_b0 x1 x2 I) K) : xm_J 1 mt_M_label 0 [(0, .ref 49), (1, .int x1), (2, .int x2)] [] (I, L, RC n, n) 0 0 Q := by
  unfold f_M_label_b0 at hF
  refine r_aload_n (i := 0) (k0 := 0) rfl rfl rfl ?_
  refine r_iload_n (i := 1) (k0 := 1) rfl rfl rfl ?_
  refine c_V1I (i := 2) rfl vm_M_isObject lk_M_186 (t_M_isObject hn (ok_bind hF)) (Nat.le_of_ble_eq_true rfl) (xm_in rfl hn) rfl rfl (Nat.le_of_ble_eq_true rfl) (fun p_1 hF => ?_)
  refine r_ifne (i := 3) (tgt := 11) rfl (by decide) (fun hc => ?_) (fun hc => ?_)
  · have hF := ok_if hc hF
    refine r_iload_n (i := 6) (k0 := 2) rfl rfl rfl ?_
    refine r_i2l (i := 7) rfl ?_
    refine r_lconst (v := 1) (i := 8) rfl rfl ?_
    refine r_ldc2 (i := 9) rfl ct_M_499 ?_
    refine c_S3I (i := 10) rfl sm_M_in lk_M_150 (t_M_in hn (ok_bind hF)) (Nat.le_of_ble_eq_true rfl) rfl (Nat.le_of_ble_eq_true rfl) (fun p_2 hF => ?_)
    refine r_ifne (i := 11) (tgt := 26) rfl (by decide) (fun hc => ?_) (fun hc => ?_)
    · have hF := ok_if hc hF
      refine r_aload_n (i := 14) (k0 := 0) rfl rfl rfl ?_
      refine q_geti (i := 15) rfl fl_M_422 (xm_in rfl hn) rfl ?_
      refine r_bipush (v := 20) (i := 16) rfl kb_20 ?_
      refine r_icmpne (i := 17) (tgt := 38) rfl (by decide) (fun hc => ?_) (fun hc => ?_)
      · have hF := ok_if hc hF
        refine r_aload_n (i := 20) (k0 := 0) rfl rfl rfl ?_
        refine q_getr (b := 69) (i := 21) rfl fl_M_84 rfl (xm_in rfl hn) rfl rfl ?_
        refine r_aload_n (i := 22) (k0 := 0) rfl rfl rfl ?_
        refine q_geti (i := 23) rfl fl_M_422 (xm_in rfl hn) rfl ?_
        refine r_iload_n (i := 24) (k0 := 1) rfl rfl rfl ?_
        obtain ⟨hi, hF⟩ := ok_gd hF
        refine q_iastore (i := 25) rfl (xm_in rfl hn) rfl hi ?_
        refine r_aload_n (i := 26) (k0 := 0) rfl rfl rfl ?_
        refine q_getr (b := 70) (i := 27) rfl fl_M_87 rfl (xm_in rfl hn) rfl rfl ?_
        refine r_aload_n (i := 28) (k0 := 0) rfl rfl rfl ?_
        refine q_geti (i := 29) rfl fl_M_422 (xm_in rfl hn) rfl ?_
        refine r_iload_n (i := 30) (k0 := 2) rfl rfl rfl ?_
        obtain ⟨hi, hF⟩ := ok_gd hF
        refine q_iastore (i := 31) rfl (xm_in rfl hn) rfl hi ?_
        refine r_aload_n (i := 32) (k0 := 0) rfl rfl rfl ?_
        refine r_dup (i := 33) rfl rfl ?_
        refine q_geti (i := 34) rfl fl_M_422 (xm_in rfl hn) rfl ?_
        refine r_iconst (v := 1) (i := 35) rfl ki_1 ?_
        refine r_iadd (i := 36) rfl ?_
        refine q_puti (i := 37) rfl fl_M_422 (fun h => Bool.noConfusion h) (xm_in rfl hn) rfl ?_
        refine r_aload_n (i := 38) (k0 := 0) rfl rfl rfl ?_
        refine q_geti (i := 39) rfl fl_M_422 (xm_in rfl hn) rfl ?_
        refine r_iconst (v := 1) (i := 40) rfl ki_1 ?_
        refine r_isub (i := 41) rfl ?_
        have hQ := hq _ (ok_some hF)
        exact r_ireturn (i := 42) rfl rfl rfl hQ
      have hF := ok_it hc hF
      refine r_ldc (i := 18) rfl ct_M_155 ?_
      have hQ := hq _ (ok_some hF)
      exact r_ireturn (i := 19) rfl rfl rfl hQ
    have hF := ok_it hc hF
    refine r_ldc (i := 12) rfl ct_M_154 ?_
    have hQ := hq _ (ok_some hF)
    exact r_ireturn (i := 13) rfl rfl rfl hQ
  have hF := ok_it hc hF
  refine r_ldc (i := 4) rfl ct_M_160 ?_
  have hQ := hq _ (ok_some hF)
  exact r_ireturn (i := 5) rfl rfl rfl hQ
set_option maxHeartbeats 4000000 in
set_option maxRecDepth 100000 in
theorem t_M_label {x1 : Int32} {x2 : Int32} {n : Nat} {I : xm_I} {L : xm_L} {K : Int32 × xm_I → Prop} (hn : 86 ≤ n) (hF : ok (f_M_label x1 x2 I) K) : xm_C 1 mt_M_label [.ref 49, .int x1, .int x2] (I, L, RC n, n) 0 0 (pI (fun p : Int32 × xm_I => p.1) (fun p : Int32 × xm_I => (p.2, L, RC n, n)) K) := by
  unfold f_M_label at hF
  refine xm_enter (by decide +kernel) dv_M_label (Nat.le_of_ble_eq_true rfl) ?_
  exact t_M_label_b0 hn (fun p hp => ⟨p, rfl, rfl, hp⟩) hF

noncomputable def f_M_mark_b0 (x1 : Int32) (x2 : Int32) (I : xm_I) : Option (Int32) :=
  if (I 49 47) = 0 then (
    some ((-100001)))
  else (
  (f_M_in (Int32.toInt64 x1) 0 (Int32.toInt64 ((I 49 49) - 1))).bind fun p_1 =>
  if p_1 = 0 then (
    some ((-100001)))
  else (
    (f_M_in (Int32.toInt64 x2) 0 6).bind fun p_2 =>
    if p_2 = 0 then (
      some ((-100002)))
    else (
      gd (0 ≤ ((7 * x1) + x2).toInt ∧ ((7 * x1) + x2).toInt < 4200) <|
      some (I 71 (Int32.toNatClampNeg ((7 * x1) + x2))))))
noncomputable def f_M_mark (x1 : Int32) (x2 : Int32) (I : xm_I) : Option (Int32) := f_M_mark_b0 x1 x2 I
set_option maxHeartbeats 4000000 in
set_option maxRecDepth 100000 in
theorem t_M_mark_b0 {x1 : Int32} {x2 : Int32} {n : Nat} {I : xm_I} {L : xm_L} {K : Int32 → Prop} {Q : Option Value → xm_H → Prop} (hn : 86 ≤ n) (hq : ∀ p : Int32, K p → Q (some (.int p)) (I, L, RC n, n)) (hF : ok (f_M_mark_b0 x1 x2 I) K) : xm_J 1 mt_M_mark 0 [(0, .ref 49), (1, .int x1), (2, .int x2)] [] (I, L, RC n, n) 0 0 Q := by
  unfold f_M_mark_b0 at hF
  refine r_aload_n (i := 0) (k0 := 0) rfl rfl rfl ?_
  refine q_getz (i := 1) rfl fl_M_410 (xm_in rfl hn) rfl ?_
  refine r_ifeq (i := 2) (tgt := 23) rfl (by decide) (fun hc => ?_) (fun hc => ?_)
  · have hF := ok_it hc hF
    refine r_ldc (i := 13) rfl ct_M_160 ?_
    refine r_goto (i := 14) (tgt := 56) rfl (by decide) ?_
    have hQ := hq _ (ok_some hF)
    exact r_ireturn (i := 31) rfl rfl rfl hQ
  have hF := ok_if hc hF
  refine r_iload_n (i := 3) (k0 := 1) rfl rfl rfl ?_
  refine r_i2l (i := 4) rfl ?_
  refine r_lconst (v := 0) (i := 5) rfl rfl ?_
  refine r_aload_n (i := 6) (k0 := 0) rfl rfl rfl ?_
  refine q_geti (i := 7) rfl fl_M_321 (xm_in rfl hn) rfl ?_
  refine r_iconst (v := 1) (i := 8) rfl ki_1 ?_
  refine r_isub (i := 9) rfl ?_
  refine r_i2l (i := 10) rfl ?_
  refine c_S3I (i := 11) rfl sm_M_in lk_M_150 (t_M_in hn (ok_bind hF)) (Nat.le_of_ble_eq_true rfl) rfl (Nat.le_of_ble_eq_true rfl) (fun p_1 hF => ?_)
  refine r_ifne (i := 12) (tgt := 28) rfl (by decide) (fun hc => ?_) (fun hc => ?_)
  · have hF := ok_if hc hF
    refine r_iload_n (i := 15) (k0 := 2) rfl rfl rfl ?_
    refine r_i2l (i := 16) rfl ?_
    refine r_lconst (v := 0) (i := 17) rfl rfl ?_
    refine r_ldc2 (i := 18) rfl ct_M_175 ?_
    refine c_S3I (i := 19) rfl sm_M_in lk_M_150 (t_M_in hn (ok_bind hF)) (Nat.le_of_ble_eq_true rfl) rfl (Nat.le_of_ble_eq_true rfl) (fun p_2 hF => ?_)
    refine r_ifne (i := 20) (tgt := 45) rfl (by decide) (fun hc => ?_) (fun hc => ?_)
    · have hF := ok_if hc hF
      refine r_aload_n (i := 23) (k0 := 0) rfl rfl rfl ?_
      refine q_getr (b := 71) (i := 24) rfl fl_M_90 rfl (xm_in rfl hn) rfl rfl ?_
      refine r_bipush (v := 7) (i := 25) rfl kb_7 ?_
      refine r_iload_n (i := 26) (k0 := 1) rfl rfl rfl ?_
      refine r_imul (i := 27) rfl ?_
      refine r_iload_n (i := 28) (k0 := 2) rfl rfl rfl ?_
      refine r_iadd (i := 29) rfl ?_
      obtain ⟨hi, hF⟩ := ok_gd hF
      refine q_iaload (i := 30) rfl (xm_in rfl hn) rfl hi ?_
      have hQ := hq _ (ok_some hF)
      exact r_ireturn (i := 31) rfl rfl rfl hQ
    have hF := ok_it hc hF
    refine r_ldc (i := 21) rfl ct_M_154 ?_
    refine r_goto (i := 22) (tgt := 56) rfl (by decide) ?_
    have hQ := hq _ (ok_some hF)
    exact r_ireturn (i := 31) rfl rfl rfl hQ
  have hF := ok_it hc hF
  refine r_ldc (i := 13) rfl ct_M_160 ?_
  refine r_goto (i := 14) (tgt := 56) rfl (by decide) ?_
  have hQ := hq _ (ok_some hF)
  exact r_ireturn (i := 31) rfl rfl rfl hQ
set_option maxHeartbeats 4000000 in
set_option maxRecDepth 100000 in
theorem t_M_mark {x1 : Int32} {x2 : Int32} {n : Nat} {I : xm_I} {L : xm_L} {K : Int32 → Prop} (hn : 86 ≤ n) (hF : ok (f_M_mark x1 x2 I) K) : xm_C 1 mt_M_mark [.ref 49, .int x1, .int x2] (I, L, RC n, n) 0 0 (pI (fun p : Int32 => p) (fun p : Int32 => (I, L, RC n, n)) K) := by
  unfold f_M_mark at hF
  refine xm_enter (by decide +kernel) dv_M_mark (Nat.le_of_ble_eq_true rfl) ?_
  exact t_M_mark_b0 hn (fun p hp => ⟨p, rfl, rfl, hp⟩) hF

noncomputable def f_M_placed_b0 (x1 : Int32) (I : xm_I) : Option (Int32) :=
  (f_M_in (Int32.toInt64 x1) 0 (Int32.toInt64 ((I 49 37) - 1))).bind fun p_1 =>
  if p_1 = 0 then (
    some ((-100001)))
  else (
    if (I 49 47) = 0 then (
      some ((-1)))
    else (
    if (I 49 56) ≤ x1 then (
      some ((-1)))
    else (
    gd (0 ≤ (x1).toInt ∧ (x1).toInt < 20) <|
    some (I 76 (Int32.toNatClampNeg x1)))))
noncomputable def f_M_placed (x1 : Int32) (I : xm_I) : Option (Int32) := f_M_placed_b0 x1 I
set_option maxHeartbeats 4000000 in
set_option maxRecDepth 100000 in
theorem t_M_placed_b0 {x1 : Int32} {n : Nat} {I : xm_I} {L : xm_L} {K : Int32 → Prop} {Q : Option Value → xm_H → Prop} (hn : 86 ≤ n) (hq : ∀ p : Int32, K p → Q (some (.int p)) (I, L, RC n, n)) (hF : ok (f_M_placed_b0 x1 I) K) : xm_J 1 mt_M_placed 0 [(0, .ref 49), (1, .int x1)] [] (I, L, RC n, n) 0 0 Q := by
  unfold f_M_placed_b0 at hF
  refine r_iload_n (i := 0) (k0 := 1) rfl rfl rfl ?_
  refine r_i2l (i := 1) rfl ?_
  refine r_lconst (v := 0) (i := 2) rfl rfl ?_
  refine r_aload_n (i := 3) (k0 := 0) rfl rfl rfl ?_
  refine q_geti (i := 4) rfl fl_M_422 (xm_in rfl hn) rfl ?_
  refine r_iconst (v := 1) (i := 5) rfl ki_1 ?_
  refine r_isub (i := 6) rfl ?_
  refine r_i2l (i := 7) rfl ?_
  refine c_S3I (i := 8) rfl sm_M_in lk_M_150 (t_M_in hn (ok_bind hF)) (Nat.le_of_ble_eq_true rfl) rfl (Nat.le_of_ble_eq_true rfl) (fun p_1 hF => ?_)
  refine r_ifne (i := 9) (tgt := 19) rfl (by decide) (fun hc => ?_) (fun hc => ?_)
  · have hF := ok_if hc hF
    refine r_aload_n (i := 12) (k0 := 0) rfl rfl rfl ?_
    refine q_getz (i := 13) rfl fl_M_410 (xm_in rfl hn) rfl ?_
    refine r_ifeq (i := 14) (tgt := 43) rfl (by decide) (fun hc => ?_) (fun hc => ?_)
    · have hF := ok_it hc hF
      refine r_iconst (v := (-1)) (i := 24) rfl ki_m1 ?_
      have hQ := hq _ (ok_some hF)
      exact r_ireturn (i := 25) rfl rfl rfl hQ
    have hF := ok_if hc hF
    refine r_iload_n (i := 15) (k0 := 1) rfl rfl rfl ?_
    refine r_aload_n (i := 16) (k0 := 0) rfl rfl rfl ?_
    refine q_geti (i := 17) rfl fl_M_425 (xm_in rfl hn) rfl ?_
    refine r_icmpge (i := 18) (tgt := 43) rfl (by decide) (fun hc => ?_) (fun hc => ?_)
    · have hF := ok_it hc hF
      refine r_iconst (v := (-1)) (i := 24) rfl ki_m1 ?_
      have hQ := hq _ (ok_some hF)
      exact r_ireturn (i := 25) rfl rfl rfl hQ
    have hF := ok_if hc hF
    refine r_aload_n (i := 19) (k0 := 0) rfl rfl rfl ?_
    refine q_getr (b := 76) (i := 20) rfl fl_M_106 rfl (xm_in rfl hn) rfl rfl ?_
    refine r_iload_n (i := 21) (k0 := 1) rfl rfl rfl ?_
    obtain ⟨hi, hF⟩ := ok_gd hF
    refine q_iaload (i := 22) rfl (xm_in rfl hn) rfl hi ?_
    refine r_goto (i := 23) (tgt := 44) rfl (by decide) ?_
    have hQ := hq _ (ok_some hF)
    exact r_ireturn (i := 25) rfl rfl rfl hQ
  have hF := ok_it hc hF
  refine r_ldc (i := 10) rfl ct_M_160 ?_
  have hQ := hq _ (ok_some hF)
  exact r_ireturn (i := 11) rfl rfl rfl hQ
set_option maxHeartbeats 4000000 in
set_option maxRecDepth 100000 in
theorem t_M_placed {x1 : Int32} {n : Nat} {I : xm_I} {L : xm_L} {K : Int32 → Prop} (hn : 86 ≤ n) (hF : ok (f_M_placed x1 I) K) : xm_C 1 mt_M_placed [.ref 49, .int x1] (I, L, RC n, n) 0 0 (pI (fun p : Int32 => p) (fun p : Int32 => (I, L, RC n, n)) K) := by
  unfold f_M_placed at hF
  refine xm_enter (by decide +kernel) dv_M_placed (Nat.le_of_ble_eq_true rfl) ?_
  exact t_M_placed_b0 hn (fun p hp => ⟨p, rfl, rfl, hp⟩) hF

noncomputable def f_M_octet_b0 (x1 : Int32) (I : xm_I) : Option (Int32) :=
  (f_M_in (Int32.toInt64 x1) 0 (Int32.toInt64 ((I 49 52) - 1))).bind fun p_1 =>
  if p_1 = 0 then (
    some ((-1)))
  else (
  gd (0 ≤ (x1).toInt ∧ (x1).toInt < 42000) <|
  some (I 72 (Int32.toNatClampNeg x1)))
noncomputable def f_M_octet (x1 : Int32) (I : xm_I) : Option (Int32) := f_M_octet_b0 x1 I
set_option maxHeartbeats 4000000 in
set_option maxRecDepth 100000 in
theorem t_M_octet_b0 {x1 : Int32} {n : Nat} {I : xm_I} {L : xm_L} {K : Int32 → Prop} {Q : Option Value → xm_H → Prop} (hn : 86 ≤ n) (hq : ∀ p : Int32, K p → Q (some (.int p)) (I, L, RC n, n)) (hF : ok (f_M_octet_b0 x1 I) K) : xm_J 1 mt_M_octet 0 [(0, .ref 49), (1, .int x1)] [] (I, L, RC n, n) 0 0 Q := by
  unfold f_M_octet_b0 at hF
  refine r_iload_n (i := 0) (k0 := 1) rfl rfl rfl ?_
  refine r_i2l (i := 1) rfl ?_
  refine r_lconst (v := 0) (i := 2) rfl rfl ?_
  refine r_aload_n (i := 3) (k0 := 0) rfl rfl rfl ?_
  refine q_geti (i := 4) rfl fl_M_501 (xm_in rfl hn) rfl ?_
  refine r_iconst (v := 1) (i := 5) rfl ki_1 ?_
  refine r_isub (i := 6) rfl ?_
  refine r_i2l (i := 7) rfl ?_
  refine c_S3I (i := 8) rfl sm_M_in lk_M_150 (t_M_in hn (ok_bind hF)) (Nat.le_of_ble_eq_true rfl) rfl (Nat.le_of_ble_eq_true rfl) (fun p_1 hF => ?_)
  refine r_ifeq (i := 9) (tgt := 25) rfl (by decide) (fun hc => ?_) (fun hc => ?_)
  · have hF := ok_it hc hF
    refine r_iconst (v := (-1)) (i := 15) rfl ki_m1 ?_
    have hQ := hq _ (ok_some hF)
    exact r_ireturn (i := 16) rfl rfl rfl hQ
  have hF := ok_if hc hF
  refine r_aload_n (i := 10) (k0 := 0) rfl rfl rfl ?_
  refine q_getr (b := 72) (i := 11) rfl fl_M_94 rfl (xm_in rfl hn) rfl rfl ?_
  refine r_iload_n (i := 12) (k0 := 1) rfl rfl rfl ?_
  obtain ⟨hi, hF⟩ := ok_gd hF
  refine q_iaload (i := 13) rfl (xm_in rfl hn) rfl hi ?_
  refine r_goto (i := 14) (tgt := 26) rfl (by decide) ?_
  have hQ := hq _ (ok_some hF)
  exact r_ireturn (i := 16) rfl rfl rfl hQ
set_option maxHeartbeats 4000000 in
set_option maxRecDepth 100000 in
theorem t_M_octet {x1 : Int32} {n : Nat} {I : xm_I} {L : xm_L} {K : Int32 → Prop} (hn : 86 ≤ n) (hF : ok (f_M_octet x1 I) K) : xm_C 1 mt_M_octet [.ref 49, .int x1] (I, L, RC n, n) 0 0 (pI (fun p : Int32 => p) (fun p : Int32 => (I, L, RC n, n)) K) := by
  unfold f_M_octet at hF
  refine xm_enter (by decide +kernel) dv_M_octet (Nat.le_of_ble_eq_true rfl) ?_
  exact t_M_octet_b0 hn (fun p hp => ⟨p, rfl, rfl, hp⟩) hF

noncomputable def f_M_digest_s5 (I : xm_I) (s : Int32 × Int32) : Option ((Int32 × Int32) ⊕ (Int32)) :=
  if (I 49 52) ≤ s.2 then (
    some (.inr (s.1)))
  else (
  gd (0 ≤ (s.2).toInt ∧ (s.2).toInt < 42000) <|
  let x1_1 : Int32 := (31 * s.1) + (I 72 (Int32.toNatClampNeg s.2))
  let x2_2 : Int32 := s.2 + 1
  some (.inl (x1_1, x2_2)))
noncomputable def f_M_digest_b5 (I : xm_I) (s : Int32 × Int32) : Option (Int32) := lp (f_M_digest_s5 I) s
noncomputable def f_M_digest_b0 (I : xm_I) : Option (Int32) :=
  f_M_digest_b5 I (17, 0)
noncomputable def f_M_digest (I : xm_I) : Option (Int32) := f_M_digest_b0 I
set_option maxHeartbeats 4000000 in
set_option maxRecDepth 100000 in
theorem t_M_digest_s5 {s : Int32 × Int32} {n : Nat} {I : xm_I} {L : xm_L} {K : (Int32 × Int32) ⊕ (Int32) → Prop} {Q : Option Value → xm_H → Prop} (hn : 86 ≤ n) (hq : ∀ p : Int32, K (.inr p) → Q (some (.int p)) (I, L, RC n, n)) (hg0 : ∀ s : Int32 × Int32, K (.inl s) → xm_J 0 mt_M_digest 5 [(0, .ref 49), (1, .int s.1), (2, .int s.2)] [] (I, L, RC n, n) 0 0 Q) (hF : ok (f_M_digest_s5 I s) K) : xm_J 0 mt_M_digest 5 [(0, .ref 49), (1, .int s.1), (2, .int s.2)] [] (I, L, RC n, n) 0 0 Q := by
  unfold f_M_digest_s5 at hF
  refine r_iload_n (i := 4) (k0 := 2) rfl rfl rfl ?_
  refine r_aload_n (i := 5) (k0 := 0) rfl rfl rfl ?_
  refine q_geti (i := 6) rfl fl_M_501 (xm_in rfl hn) rfl ?_
  refine r_icmpge (i := 7) (tgt := 31) rfl (by decide) (fun hc => ?_) (fun hc => ?_)
  · have hF := ok_it hc hF
    refine r_iload_n (i := 19) (k0 := 1) rfl rfl rfl ?_
    have hQ := hq _ (ok_some hF)
    exact r_ireturn (i := 20) rfl rfl rfl hQ
  have hF := ok_if hc hF
  refine r_bipush (v := 31) (i := 8) rfl kb_31 ?_
  refine r_iload_n (i := 9) (k0 := 1) rfl rfl rfl ?_
  refine r_imul (i := 10) rfl ?_
  refine r_aload_n (i := 11) (k0 := 0) rfl rfl rfl ?_
  refine q_getr (b := 72) (i := 12) rfl fl_M_94 rfl (xm_in rfl hn) rfl rfl ?_
  refine r_iload_n (i := 13) (k0 := 2) rfl rfl rfl ?_
  obtain ⟨hi, hF⟩ := ok_gd hF
  refine q_iaload (i := 14) rfl (xm_in rfl hn) rfl hi ?_
  refine r_iadd (i := 15) rfl ?_
  refine r_istore_n (i := 16) (Ls' := [(1, _), (0, _), (2, _)]) rfl rfl (Nat.le_of_ble_eq_true rfl) rfl ?_
  refine q_iinc (i := 17) (k0 := 2) (Ls' := [(2, _), (1, _), (0, _)]) rfl ki_1 rfl (Nat.le_of_ble_eq_true rfl) rfl ?_
  refine r_goto (i := 18) (tgt := 5) rfl (by decide) ?_
  refine xm_sub (Ls' := [(0, _), (1, _), (2, _)]) [2, 1, 0] rfl ?_
  have hJ := hg0 _ (ok_some hF)
  exact hJ
set_option maxHeartbeats 4000000 in
set_option maxRecDepth 100000 in
theorem t_M_digest_b5 {s : Int32 × Int32} {n : Nat} {I : xm_I} {L : xm_L} {K : Int32 → Prop} {Q : Option Value → xm_H → Prop} (hn : 86 ≤ n) (hq : ∀ p : Int32, K p → Q (some (.int p)) (I, L, RC n, n)) (hF : ok (f_M_digest_b5 I s) K) : xm_J 0 mt_M_digest 5 [(0, .ref 49), (1, .int s.1), (2, .int s.2)] [] (I, L, RC n, n) 0 0 Q :=
  lp_J (G := fun z => xm_J 0 mt_M_digest 5 [(0, .ref 49), (1, .int z.1), (2, .int z.2)] [] (I, L, RC n, n) 0 0 Q) (fun z hF => t_M_digest_s5 hn (fun p h => hq p h) (fun z h => h) hF) s hF
set_option maxHeartbeats 4000000 in
set_option maxRecDepth 100000 in
theorem t_M_digest_b0 {n : Nat} {I : xm_I} {L : xm_L} {K : Int32 → Prop} {Q : Option Value → xm_H → Prop} (hn : 86 ≤ n) (hq : ∀ p : Int32, K p → Q (some (.int p)) (I, L, RC n, n)) (hF : ok (f_M_digest_b0 I) K) : xm_J 0 mt_M_digest 0 [(0, .ref 49)] [] (I, L, RC n, n) 0 0 Q := by
  unfold f_M_digest_b0 at hF
  refine r_bipush (v := 17) (i := 0) rfl kb_17 ?_
  refine r_istore_n (i := 1) (Ls' := [(1, _), (0, _)]) rfl rfl (Nat.le_of_ble_eq_true rfl) rfl ?_
  refine r_iconst (v := 0) (i := 2) rfl ki_0 ?_
  refine r_istore_n (i := 3) (Ls' := [(2, _), (1, _), (0, _)]) rfl rfl (Nat.le_of_ble_eq_true rfl) rfl ?_
  refine xm_sub (Ls' := [(0, _), (1, _), (2, _)]) [2, 1, 0] rfl ?_
  exact t_M_digest_b5 hn (fun p h => hq p h) hF
set_option maxHeartbeats 4000000 in
set_option maxRecDepth 100000 in
theorem t_M_digest {n : Nat} {I : xm_I} {L : xm_L} {K : Int32 → Prop} (hn : 86 ≤ n) (hF : ok (f_M_digest I) K) : xm_C 0 mt_M_digest [.ref 49] (I, L, RC n, n) 0 0 (pI (fun p : Int32 => p) (fun p : Int32 => (I, L, RC n, n)) K) := by
  unfold f_M_digest at hF
  refine xm_enter (by decide +kernel) dv_M_digest (Nat.le_of_ble_eq_true rfl) ?_
  exact t_M_digest_b0 hn (fun p hp => ⟨p, rfl, rfl, hp⟩) hF

noncomputable def f_M_count_b0 (x1 : Int32) (I : xm_I) : Option (Int32) :=
  if x1 = 0 then (
    some (I 49 4))
  else (
  if x1 = 1 then (
    some (I 49 11))
  else (
  if x1 = 2 then (
    some (I 49 31))
  else (
  if x1 = 3 then (
    some (I 49 37))
  else (
  if x1 = 4 then (
    some (I 49 5))
  else (
  if x1 = 5 then (
    some (I 49 32))
  else (
  if x1 = 6 then (
    some (I 49 49))
  else (
  if x1 = 7 then (
    some (I 49 50))
  else (
  if x1 = 8 then (
    some (I 49 52))
  else (
  if x1 = 9 then (
    some (I 49 58))
  else (
  if x1 = 10 then (
    some (I 49 59))
  else (
  if x1 = 11 then (
    some (I 49 60))
  else (
  some ((-100002))))))))))))))
noncomputable def f_M_count (x1 : Int32) (I : xm_I) : Option (Int32) := f_M_count_b0 x1 I
set_option maxHeartbeats 4000000 in
set_option maxRecDepth 100000 in
theorem t_M_count_b0 {x1 : Int32} {n : Nat} {I : xm_I} {L : xm_L} {K : Int32 → Prop} {Q : Option Value → xm_H → Prop} (hn : 86 ≤ n) (hq : ∀ p : Int32, K p → Q (some (.int p)) (I, L, RC n, n)) (hF : ok (f_M_count_b0 x1 I) K) : xm_J 0 mt_M_count 0 [(0, .ref 49), (1, .int x1)] [] (I, L, RC n, n) 0 0 Q := by
  unfold f_M_count_b0 at hF
  refine r_iload_n (i := 0) (k0 := 1) rfl rfl rfl ?_
  refine r_case 0 (fun hc0 => ?_) (fun hc0 => ?_)
  · have hF := ok_it hc0 hF
    refine r_tsIn (i := 1) (tgt := 64) rfl (by decide) (by decide) rfl (by decide) ?_
    refine r_aload_n (i := 2) (k0 := 0) rfl rfl rfl ?_
    refine q_geti (i := 3) rfl fl_M_137 (xm_in rfl hn) rfl ?_
    have hQ := hq _ (ok_some hF)
    exact r_ireturn (i := 4) rfl rfl rfl hQ
  have hF := ok_if hc0 hF
  refine r_case 1 (fun hc1 => ?_) (fun hc1 => ?_)
  · have hF := ok_it hc1 hF
    refine r_tsIn (i := 1) (tgt := 69) rfl (by decide) (by decide) rfl (by decide) ?_
    refine r_aload_n (i := 5) (k0 := 0) rfl rfl rfl ?_
    refine q_geti (i := 6) rfl fl_M_140 (xm_in rfl hn) rfl ?_
    have hQ := hq _ (ok_some hF)
    exact r_ireturn (i := 7) rfl rfl rfl hQ
  have hF := ok_if hc1 hF
  refine r_case 2 (fun hc2 => ?_) (fun hc2 => ?_)
  · have hF := ok_it hc2 hF
    refine r_tsIn (i := 1) (tgt := 74) rfl (by decide) (by decide) rfl (by decide) ?_
    refine r_aload_n (i := 8) (k0 := 0) rfl rfl rfl ?_
    refine q_geti (i := 9) rfl fl_M_143 (xm_in rfl hn) rfl ?_
    have hQ := hq _ (ok_some hF)
    exact r_ireturn (i := 10) rfl rfl rfl hQ
  have hF := ok_if hc2 hF
  refine r_case 3 (fun hc3 => ?_) (fun hc3 => ?_)
  · have hF := ok_it hc3 hF
    refine r_tsIn (i := 1) (tgt := 79) rfl (by decide) (by decide) rfl (by decide) ?_
    refine r_aload_n (i := 11) (k0 := 0) rfl rfl rfl ?_
    refine q_geti (i := 12) rfl fl_M_422 (xm_in rfl hn) rfl ?_
    have hQ := hq _ (ok_some hF)
    exact r_ireturn (i := 13) rfl rfl rfl hQ
  have hF := ok_if hc3 hF
  refine r_case 4 (fun hc4 => ?_) (fun hc4 => ?_)
  · have hF := ok_it hc4 hF
    refine r_tsIn (i := 1) (tgt := 84) rfl (by decide) (by decide) rfl (by decide) ?_
    refine r_aload_n (i := 14) (k0 := 0) rfl rfl rfl ?_
    refine q_geti (i := 15) rfl fl_M_165 (xm_in rfl hn) rfl ?_
    have hQ := hq _ (ok_some hF)
    exact r_ireturn (i := 16) rfl rfl rfl hQ
  have hF := ok_if hc4 hF
  refine r_case 5 (fun hc5 => ?_) (fun hc5 => ?_)
  · have hF := ok_it hc5 hF
    refine r_tsIn (i := 1) (tgt := 89) rfl (by decide) (by decide) rfl (by decide) ?_
    refine r_aload_n (i := 17) (k0 := 0) rfl rfl rfl ?_
    refine q_geti (i := 18) rfl fl_M_276 (xm_in rfl hn) rfl ?_
    have hQ := hq _ (ok_some hF)
    exact r_ireturn (i := 19) rfl rfl rfl hQ
  have hF := ok_if hc5 hF
  refine r_case 6 (fun hc6 => ?_) (fun hc6 => ?_)
  · have hF := ok_it hc6 hF
    refine r_tsIn (i := 1) (tgt := 94) rfl (by decide) (by decide) rfl (by decide) ?_
    refine r_aload_n (i := 20) (k0 := 0) rfl rfl rfl ?_
    refine q_geti (i := 21) rfl fl_M_321 (xm_in rfl hn) rfl ?_
    have hQ := hq _ (ok_some hF)
    exact r_ireturn (i := 22) rfl rfl rfl hQ
  have hF := ok_if hc6 hF
  refine r_case 7 (fun hc7 => ?_) (fun hc7 => ?_)
  · have hF := ok_it hc7 hF
    refine r_tsIn (i := 1) (tgt := 99) rfl (by decide) (by decide) rfl (by decide) ?_
    refine r_aload_n (i := 23) (k0 := 0) rfl rfl rfl ?_
    refine q_geti (i := 24) rfl fl_M_324 (xm_in rfl hn) rfl ?_
    have hQ := hq _ (ok_some hF)
    exact r_ireturn (i := 25) rfl rfl rfl hQ
  have hF := ok_if hc7 hF
  refine r_case 8 (fun hc8 => ?_) (fun hc8 => ?_)
  · have hF := ok_it hc8 hF
    refine r_tsIn (i := 1) (tgt := 104) rfl (by decide) (by decide) rfl (by decide) ?_
    refine r_aload_n (i := 26) (k0 := 0) rfl rfl rfl ?_
    refine q_geti (i := 27) rfl fl_M_501 (xm_in rfl hn) rfl ?_
    have hQ := hq _ (ok_some hF)
    exact r_ireturn (i := 28) rfl rfl rfl hQ
  have hF := ok_if hc8 hF
  refine r_case 9 (fun hc9 => ?_) (fun hc9 => ?_)
  · have hF := ok_it hc9 hF
    refine r_tsIn (i := 1) (tgt := 109) rfl (by decide) (by decide) rfl (by decide) ?_
    refine r_aload_n (i := 29) (k0 := 0) rfl rfl rfl ?_
    refine q_geti (i := 30) rfl fl_M_413 (xm_in rfl hn) rfl ?_
    have hQ := hq _ (ok_some hF)
    exact r_ireturn (i := 31) rfl rfl rfl hQ
  have hF := ok_if hc9 hF
  refine r_case 10 (fun hc10 => ?_) (fun hc10 => ?_)
  · have hF := ok_it hc10 hF
    refine r_tsIn (i := 1) (tgt := 114) rfl (by decide) (by decide) rfl (by decide) ?_
    refine r_aload_n (i := 32) (k0 := 0) rfl rfl rfl ?_
    refine q_geti (i := 33) rfl fl_M_416 (xm_in rfl hn) rfl ?_
    have hQ := hq _ (ok_some hF)
    exact r_ireturn (i := 34) rfl rfl rfl hQ
  have hF := ok_if hc10 hF
  refine r_case 11 (fun hc11 => ?_) (fun hc11 => ?_)
  · have hF := ok_it hc11 hF
    refine r_tsIn (i := 1) (tgt := 119) rfl (by decide) (by decide) rfl (by decide) ?_
    refine r_aload_n (i := 35) (k0 := 0) rfl rfl rfl ?_
    refine q_geti (i := 36) rfl fl_M_419 (xm_in rfl hn) rfl ?_
    have hQ := hq _ (ok_some hF)
    exact r_ireturn (i := 37) rfl rfl rfl hQ
  have hF := ok_if hc11 hF
  refine r_tsOut (i := 1) (tgt := 124) rfl (by have e0 := lv_neT hc0 (a := 0) (by decide); have e1 := lv_neT hc1 (a := 1) (by decide); have e2 := lv_neT hc2 (a := 2) (by decide); have e3 := lv_neT hc3 (a := 3) (by decide); have e4 := lv_neT hc4 (a := 4) (by decide); have e5 := lv_neT hc5 (a := 5) (by decide); have e6 := lv_neT hc6 (a := 6) (by decide); have e7 := lv_neT hc7 (a := 7) (by decide); have e8 := lv_neT hc8 (a := 8) (by decide); have e9 := lv_neT hc9 (a := 9) (by decide); have e10 := lv_neT hc10 (a := 10) (by decide); have e11 := lv_neT hc11 (a := 11) (by decide); omega) (by decide) ?_
  refine r_ldc (i := 38) rfl ct_M_154 ?_
  have hQ := hq _ (ok_some hF)
  exact r_ireturn (i := 39) rfl rfl rfl hQ
set_option maxHeartbeats 4000000 in
set_option maxRecDepth 100000 in
theorem t_M_count {x1 : Int32} {n : Nat} {I : xm_I} {L : xm_L} {K : Int32 → Prop} (hn : 86 ≤ n) (hF : ok (f_M_count x1 I) K) : xm_C 0 mt_M_count [.ref 49, .int x1] (I, L, RC n, n) 0 0 (pI (fun p : Int32 => p) (fun p : Int32 => (I, L, RC n, n)) K) := by
  unfold f_M_count at hF
  refine xm_enter (by decide +kernel) dv_M_count (Nat.le_of_ble_eq_true rfl) ?_
  exact t_M_count_b0 hn (fun p hp => ⟨p, rfl, rfl, hp⟩) hF

noncomputable def f_M_code_b0 (I : xm_I) : Option (Int32) :=
  some (I 49 38)
noncomputable def f_M_code (I : xm_I) : Option (Int32) := f_M_code_b0 I
set_option maxHeartbeats 4000000 in
set_option maxRecDepth 100000 in
theorem t_M_code_b0 {n : Nat} {I : xm_I} {L : xm_L} {K : Int32 → Prop} {Q : Option Value → xm_H → Prop} (hn : 86 ≤ n) (hq : ∀ p : Int32, K p → Q (some (.int p)) (I, L, RC n, n)) (hF : ok (f_M_code_b0 I) K) : xm_J 0 mt_M_code 0 [(0, .ref 49)] [] (I, L, RC n, n) 0 0 Q := by
  unfold f_M_code_b0 at hF
  refine r_aload_n (i := 0) (k0 := 0) rfl rfl rfl ?_
  refine q_geti (i := 1) rfl fl_M_257 (xm_in rfl hn) rfl ?_
  have hQ := hq _ (ok_some hF)
  exact r_ireturn (i := 2) rfl rfl rfl hQ
set_option maxHeartbeats 4000000 in
set_option maxRecDepth 100000 in
theorem t_M_code {n : Nat} {I : xm_I} {L : xm_L} {K : Int32 → Prop} (hn : 86 ≤ n) (hF : ok (f_M_code I) K) : xm_C 0 mt_M_code [.ref 49] (I, L, RC n, n) 0 0 (pI (fun p : Int32 => p) (fun p : Int32 => (I, L, RC n, n)) K) := by
  unfold f_M_code at hF
  refine xm_enter (by decide +kernel) dv_M_code (Nat.le_of_ble_eq_true rfl) ?_
  exact t_M_code_b0 hn (fun p hp => ⟨p, rfl, rfl, hp⟩) hF

noncomputable def f_M_group_s72 (x1 : Int32) (x3 : Int32) (s : Int32 × xm_I) : Option ((Int32 × xm_I) ⊕ (Int32 × xm_I)) :=
  if x3 ≤ s.1 then (
    some (.inr (x3, s.2)))
  else (
  gd (0 ≤ ((64 * x1) + s.1).toInt ∧ ((64 * x1) + s.1).toInt < 384) <|
  let I_1 : xm_I := up2 s.2 85 (Int32.toNatClampNeg ((64 * x1) + s.1)) ((-1))
  let x4_2 : Int32 := s.1 + 1
  some (.inl (x4_2, I_1)))
noncomputable def f_M_group_b72 (x1 : Int32) (x3 : Int32) (s : Int32 × xm_I) : Option (Int32 × xm_I) := lp (f_M_group_s72 x1 x3) s
noncomputable def f_M_group_b43 (x1 : Int32) (x2 : Int32) (x3 : Int32) (y1 : Int32) (I : xm_I) : Option (Int32 × xm_I) :=
  let I_1 : xm_I := up2 I 49 38 y1
  if (I_1 49 38) ≤ 0 then (
    gd (0 ≤ (x1).toInt ∧ (x1).toInt < 6) <|
    let I_2 : xm_I := up2 I_1 83 (Int32.toNatClampNeg x1) x2
    gd (0 ≤ (x1).toInt ∧ (x1).toInt < 6) <|
    let I_3 : xm_I := up2 I_2 84 (Int32.toNatClampNeg x1) x3
    f_M_group_b72 x1 x3 (0, I_3))
  else (
  some (0, I_1))
noncomputable def f_M_group_b0 (x1 : Int32) (x2 : Int32) (x3 : Int32) (I : xm_I) : Option (Int32 × xm_I) :=
  (f_M_in (Int32.toInt64 x1) 0 5).bind fun p_1 =>
  if p_1 = 0 then (
    some ((-100002), I))
  else (
  (f_M_in (Int32.toInt64 x2) 0 8).bind fun p_2 =>
  if p_2 = 0 then (
    some ((-100002), I))
  else (
  if x3 ≤ 64 then (
    if 0 ≤ x3 then (
      f_M_group_b43 x1 x2 x3 0 I)
    else (
    f_M_group_b43 x1 x2 x3 4 I))
  else (
  some ((-100002), I))))
noncomputable def f_M_group (x1 : Int32) (x2 : Int32) (x3 : Int32) (I : xm_I) : Option (Int32 × xm_I) := f_M_group_b0 x1 x2 x3 I
set_option maxHeartbeats 4000000 in
set_option maxRecDepth 100000 in
theorem t_M_group_s72 {x1 : Int32} {x3 : Int32} {s : Int32 × xm_I} {n : Nat} {L : xm_L} {K : (Int32 × xm_I) ⊕ (Int32 × xm_I) → Prop} {Q : Option Value → xm_H → Prop} (hn : 86 ≤ n) (hq : ∀ p : Int32 × xm_I, K (.inr p) → Q (some (.int p.1)) (p.2, L, RC n, n)) (hg0 : ∀ s : Int32 × xm_I, K (.inl s) → xm_J 1 mt_M_group 72 [(0, .ref 49), (1, .int x1), (3, .int x3), (4, .int s.1)] [] (s.2, L, RC n, n) 0 0 Q) (hF : ok (f_M_group_s72 x1 x3 s) K) : xm_J 1 mt_M_group 72 [(0, .ref 49), (1, .int x1), (3, .int x3), (4, .int s.1)] [] (s.2, L, RC n, n) 0 0 Q := by
  unfold f_M_group_s72 at hF
  refine r_iload (i := 41) (k0 := 3) rfl rfl ?_
  refine r_iload_n (i := 42) (k0 := 2) rfl rfl rfl ?_
  refine r_icmpge (i := 43) (tgt := 97) rfl (by decide) (fun hc => ?_) (fun hc => ?_)
  · have hF := ok_it hc hF
    refine r_iload_n (i := 55) (k0 := 2) rfl rfl rfl ?_
    have hQ := hq _ (ok_some hF)
    exact r_ireturn (i := 56) rfl rfl rfl hQ
  have hF := ok_if hc hF
  refine r_aload_n (i := 44) (k0 := 0) rfl rfl rfl ?_
  refine q_getr (b := 85) (i := 45) rfl fl_M_134 rfl (xm_in rfl hn) rfl rfl ?_
  refine r_bipush (v := 64) (i := 46) rfl kb_64 ?_
  refine r_iload_n (i := 47) (k0 := 1) rfl rfl rfl ?_
  refine r_imul (i := 48) rfl ?_
  refine r_iload (i := 49) (k0 := 3) rfl rfl ?_
  refine r_iadd (i := 50) rfl ?_
  refine r_iconst (v := (-1)) (i := 51) rfl ki_m1 ?_
  obtain ⟨hi, hF⟩ := ok_gd hF
  refine q_iastore (i := 52) rfl (xm_in rfl hn) rfl hi ?_
  refine q_iinc (i := 53) (k0 := 3) (Ls' := [(4, _), (0, _), (1, _), (3, _)]) rfl ki_1 rfl (Nat.le_of_ble_eq_true rfl) rfl ?_
  refine r_goto (i := 54) (tgt := 72) rfl (by decide) ?_
  refine xm_sub (Ls' := [(0, _), (1, _), (3, _), (4, _)]) [1, 2, 3, 0] rfl ?_
  have hJ := hg0 _ (ok_some hF)
  exact hJ
set_option maxHeartbeats 4000000 in
set_option maxRecDepth 100000 in
theorem t_M_group_b72 {x1 : Int32} {x3 : Int32} {s : Int32 × xm_I} {n : Nat} {L : xm_L} {K : Int32 × xm_I → Prop} {Q : Option Value → xm_H → Prop} (hn : 86 ≤ n) (hq : ∀ p : Int32 × xm_I, K p → Q (some (.int p.1)) (p.2, L, RC n, n)) (hF : ok (f_M_group_b72 x1 x3 s) K) : xm_J 1 mt_M_group 72 [(0, .ref 49), (1, .int x1), (3, .int x3), (4, .int s.1)] [] (s.2, L, RC n, n) 0 0 Q :=
  lp_J (G := fun z => xm_J 1 mt_M_group 72 [(0, .ref 49), (1, .int x1), (3, .int x3), (4, .int z.1)] [] (z.2, L, RC n, n) 0 0 Q) (fun z hF => t_M_group_s72 hn (fun p h => hq p h) (fun z h => h) hF) s hF
set_option maxHeartbeats 4000000 in
set_option maxRecDepth 100000 in
theorem t_M_group_b43 {x1 : Int32} {x2 : Int32} {x3 : Int32} {y1 : Int32} {n : Nat} {I : xm_I} {L : xm_L} {K : Int32 × xm_I → Prop} {Q : Option Value → xm_H → Prop} (hn : 86 ≤ n) (hq : ∀ p : Int32 × xm_I, K p → Q (some (.int p.1)) (p.2, L, RC n, n)) (hF : ok (f_M_group_b43 x1 x2 x3 y1 I) K) : xm_J 1 mt_M_group 43 [(0, .ref 49), (1, .int x1), (2, .int x2), (3, .int x3)] [.int y1, .ref 49] (I, L, RC n, n) 0 0 Q := by
  unfold f_M_group_b43 at hF
  refine q_puti (i := 23) rfl fl_M_257 (fun h => Bool.noConfusion h) (xm_in rfl hn) rfl ?_
  refine r_aload_n (i := 24) (k0 := 0) rfl rfl rfl ?_
  refine q_geti (i := 25) rfl fl_M_257 (xm_in rfl hn) rfl ?_
  refine r_ifle (i := 26) (tgt := 55) rfl (by decide) (fun hc => ?_) (fun hc => ?_)
  · have hF := ok_it hc hF
    refine r_aload_n (i := 29) (k0 := 0) rfl rfl rfl ?_
    refine q_getr (b := 83) (i := 30) rfl fl_M_128 rfl (xm_in rfl hn) rfl rfl ?_
    refine r_iload_n (i := 31) (k0 := 1) rfl rfl rfl ?_
    refine r_iload_n (i := 32) (k0 := 2) rfl rfl rfl ?_
    obtain ⟨hi, hF⟩ := ok_gd hF
    refine q_iastore (i := 33) rfl (xm_in rfl hn) rfl hi ?_
    refine r_aload_n (i := 34) (k0 := 0) rfl rfl rfl ?_
    refine q_getr (b := 84) (i := 35) rfl fl_M_131 rfl (xm_in rfl hn) rfl rfl ?_
    refine r_iload_n (i := 36) (k0 := 1) rfl rfl rfl ?_
    refine r_iload_n (i := 37) (k0 := 3) rfl rfl rfl ?_
    obtain ⟨hi, hF⟩ := ok_gd hF
    refine q_iastore (i := 38) rfl (xm_in rfl hn) rfl hi ?_
    refine r_iconst (v := 0) (i := 39) rfl ki_0 ?_
    refine r_istore (i := 40) (Ls' := [(4, _), (0, _), (1, _), (2, _), (3, _)]) rfl (Nat.le_of_ble_eq_true rfl) rfl ?_
    refine xm_sub (Ls' := [(0, _), (1, _), (3, _), (4, _)]) [1, 2, 4, 0] rfl ?_
    exact t_M_group_b72 hn (fun p h => hq p h) hF
  have hF := ok_if hc hF
  refine r_iconst (v := 0) (i := 27) rfl ki_0 ?_
  have hQ := hq _ (ok_some hF)
  exact r_ireturn (i := 28) rfl rfl rfl hQ
set_option maxHeartbeats 4000000 in
set_option maxRecDepth 100000 in
theorem t_M_group_b0 {x1 : Int32} {x2 : Int32} {x3 : Int32} {n : Nat} {I : xm_I} {L : xm_L} {K : Int32 × xm_I → Prop} {Q : Option Value → xm_H → Prop} (hn : 86 ≤ n) (hq : ∀ p : Int32 × xm_I, K p → Q (some (.int p.1)) (p.2, L, RC n, n)) (hF : ok (f_M_group_b0 x1 x2 x3 I) K) : xm_J 1 mt_M_group 0 [(0, .ref 49), (1, .int x1), (2, .int x2), (3, .int x3)] [] (I, L, RC n, n) 0 0 Q := by
  unfold f_M_group_b0 at hF
  refine r_iload_n (i := 0) (k0 := 1) rfl rfl rfl ?_
  refine r_i2l (i := 1) rfl ?_
  refine r_lconst (v := 0) (i := 2) rfl rfl ?_
  refine r_ldc2 (i := 3) rfl ct_M_512 ?_
  refine c_S3I (i := 4) rfl sm_M_in lk_M_150 (t_M_in hn (ok_bind hF)) (Nat.le_of_ble_eq_true rfl) rfl (Nat.le_of_ble_eq_true rfl) (fun p_1 hF => ?_)
  refine r_ifeq (i := 5) (tgt := 30) rfl (by decide) (fun hc => ?_) (fun hc => ?_)
  · have hF := ok_it hc hF
    refine r_ldc (i := 15) rfl ct_M_154 ?_
    have hQ := hq _ (ok_some hF)
    exact r_ireturn (i := 16) rfl rfl rfl hQ
  have hF := ok_if hc hF
  refine r_iload_n (i := 6) (k0 := 2) rfl rfl rfl ?_
  refine r_i2l (i := 7) rfl ?_
  refine r_lconst (v := 0) (i := 8) rfl rfl ?_
  refine r_ldc2 (i := 9) rfl ct_M_499 ?_
  refine c_S3I (i := 10) rfl sm_M_in lk_M_150 (t_M_in hn (ok_bind hF)) (Nat.le_of_ble_eq_true rfl) rfl (Nat.le_of_ble_eq_true rfl) (fun p_2 hF => ?_)
  refine r_ifeq (i := 11) (tgt := 30) rfl (by decide) (fun hc => ?_) (fun hc => ?_)
  · have hF := ok_it hc hF
    refine r_ldc (i := 15) rfl ct_M_154 ?_
    have hQ := hq _ (ok_some hF)
    exact r_ireturn (i := 16) rfl rfl rfl hQ
  have hF := ok_if hc hF
  refine r_iload_n (i := 12) (k0 := 3) rfl rfl rfl ?_
  refine r_bipush (v := 64) (i := 13) rfl kb_64 ?_
  refine r_icmple (i := 14) (tgt := 33) rfl (by decide) (fun hc => ?_) (fun hc => ?_)
  · have hF := ok_it hc hF
    refine r_aload_n (i := 17) (k0 := 0) rfl rfl rfl ?_
    refine r_iload_n (i := 18) (k0 := 3) rfl rfl rfl ?_
    refine r_ifge (i := 19) (tgt := 42) rfl (by decide) (fun hc => ?_) (fun hc => ?_)
    · have hF := ok_it hc hF
      refine r_iconst (v := 0) (i := 22) rfl ki_0 ?_
      exact t_M_group_b43 hn (fun p h => hq p h) hF
    have hF := ok_if hc hF
    refine r_iconst (v := 4) (i := 20) rfl ki_4 ?_
    refine r_goto (i := 21) (tgt := 43) rfl (by decide) ?_
    exact t_M_group_b43 hn (fun p h => hq p h) hF
  have hF := ok_if hc hF
  refine r_ldc (i := 15) rfl ct_M_154 ?_
  have hQ := hq _ (ok_some hF)
  exact r_ireturn (i := 16) rfl rfl rfl hQ
set_option maxHeartbeats 4000000 in
set_option maxRecDepth 100000 in
theorem t_M_group {x1 : Int32} {x2 : Int32} {x3 : Int32} {n : Nat} {I : xm_I} {L : xm_L} {K : Int32 × xm_I → Prop} (hn : 86 ≤ n) (hF : ok (f_M_group x1 x2 x3 I) K) : xm_C 1 mt_M_group [.ref 49, .int x1, .int x2, .int x3] (I, L, RC n, n) 0 0 (pI (fun p : Int32 × xm_I => p.1) (fun p : Int32 × xm_I => (p.2, L, RC n, n)) K) := by
  unfold f_M_group at hF
  refine xm_enter (by decide +kernel) dv_M_group (Nat.le_of_ble_eq_true rfl) ?_
  exact t_M_group_b0 hn (fun p hp => ⟨p, rfl, rfl, hp⟩) hF

noncomputable def f_M_put_b115 (x1 : Int32) (x2 : Int32) (x3 : Int32) (y1 : Int32) (I : xm_I) : Option (Int32 × xm_I) :=
  let I_1 : xm_I := up2 I 49 38 y1
  if (I_1 49 38) ≤ 0 then (
    gd (0 ≤ ((64 * x1) + x2).toInt ∧ ((64 * x1) + x2).toInt < 384) <|
    let I_2 : xm_I := up2 I_1 85 (Int32.toNatClampNeg ((64 * x1) + x2)) x3
    some (1, I_2))
  else (
  some (0, I_1))
noncomputable def f_M_put_b67 (x1 : Int32) (x2 : Int32) (x3 : Int32) (y0 : Int32) (I : xm_I) : Option (Int32 × xm_I) :=
  gd (0 ≤ (x1).toInt ∧ (x1).toInt < 6) <|
  if 0 ≤ (I 84 (Int32.toNatClampNeg x1)) then (
    gd (0 ≤ (x1).toInt ∧ (x1).toInt < 6) <|
    (f_M_in (Int32.toInt64 x2) 0 (Int32.toInt64 ((I 84 (Int32.toNatClampNeg x1)) - 1))).bind fun p_1 =>
    if p_1 = 0 then (
      f_M_put_b115 x1 x2 x3 3 I)
    else (
      if y0 = 0 then (
        f_M_put_b115 x1 x2 x3 0 I)
      else (
      f_M_put_b115 x1 x2 x3 2 I)))
  else (
  f_M_put_b115 x1 x2 x3 1 I)
noncomputable def f_M_put_b66 (x1 : Int32) (x2 : Int32) (x3 : Int32) (I : xm_I) : Option (Int32 × xm_I) :=
  f_M_put_b67 x1 x2 x3 0 I
noncomputable def f_M_put_b16 (x1 : Int32) (x2 : Int32) (x3 : Int32) (I : xm_I) : Option (Int32 × xm_I) :=
  (f_M_in (Int32.toInt64 x1) 0 5).bind fun p_1 =>
  if p_1 = 0 then (
    some ((-100002), I))
  else (
    if x3 = ((-1)) then (
      f_M_put_b66 x1 x2 x3 I)
    else (
    gd (0 ≤ (x1).toInt ∧ (x1).toInt < 6) <|
    if 8 ≤ (I 83 (Int32.toNatClampNeg x1)) then (
      f_M_put_b66 x1 x2 x3 I)
    else (
    gd (0 ≤ (x3).toInt ∧ (x3).toInt < 40) <|
    gd (0 ≤ (x1).toInt ∧ (x1).toInt < 6) <|
    if (I 54 (Int32.toNatClampNeg x3)) = (I 83 (Int32.toNatClampNeg x1)) then (
      f_M_put_b66 x1 x2 x3 I)
    else (
    f_M_put_b67 x1 x2 x3 1 I))))
noncomputable def f_M_put_b0 (x1 : Int32) (x2 : Int32) (x3 : Int32) (I : xm_I) : Option (Int32 × xm_I) :=
  if x3 = ((-1)) then (
    f_M_put_b16 x1 x2 x3 I)
  else (
  (f_M_isObject x3 I).bind fun p_1 =>
  if p_1 = 0 then (
    some ((-100001), I))
  else (
    f_M_put_b16 x1 x2 x3 I))
noncomputable def f_M_put (x1 : Int32) (x2 : Int32) (x3 : Int32) (I : xm_I) : Option (Int32 × xm_I) := f_M_put_b0 x1 x2 x3 I
set_option maxHeartbeats 4000000 in
set_option maxRecDepth 100000 in
theorem t_M_put_b115 {x1 : Int32} {x2 : Int32} {x3 : Int32} {y1 : Int32} {n : Nat} {I : xm_I} {L : xm_L} {K : Int32 × xm_I → Prop} {Q : Option Value → xm_H → Prop} (hn : 86 ≤ n) (hq : ∀ p : Int32 × xm_I, K p → Q (some (.int p.1)) (p.2, L, RC n, n)) (hF : ok (f_M_put_b115 x1 x2 x3 y1 I) K) : xm_J 1 mt_M_put 115 [(0, .ref 49), (1, .int x1), (2, .int x2), (3, .int x3)] [.int y1, .ref 49] (I, L, RC n, n) 0 0 Q := by
  unfold f_M_put_b115 at hF
  refine q_puti (i := 66) rfl fl_M_257 (fun h => Bool.noConfusion h) (xm_in rfl hn) rfl ?_
  refine r_aload_n (i := 67) (k0 := 0) rfl rfl rfl ?_
  refine q_geti (i := 68) rfl fl_M_257 (xm_in rfl hn) rfl ?_
  refine r_ifle (i := 69) (tgt := 127) rfl (by decide) (fun hc => ?_) (fun hc => ?_)
  · have hF := ok_it hc hF
    refine r_aload_n (i := 72) (k0 := 0) rfl rfl rfl ?_
    refine q_getr (b := 85) (i := 73) rfl fl_M_134 rfl (xm_in rfl hn) rfl rfl ?_
    refine r_bipush (v := 64) (i := 74) rfl kb_64 ?_
    refine r_iload_n (i := 75) (k0 := 1) rfl rfl rfl ?_
    refine r_imul (i := 76) rfl ?_
    refine r_iload_n (i := 77) (k0 := 2) rfl rfl rfl ?_
    refine r_iadd (i := 78) rfl ?_
    refine r_iload_n (i := 79) (k0 := 3) rfl rfl rfl ?_
    obtain ⟨hi, hF⟩ := ok_gd hF
    refine q_iastore (i := 80) rfl (xm_in rfl hn) rfl hi ?_
    refine r_iconst (v := 1) (i := 81) rfl ki_1 ?_
    have hQ := hq _ (ok_some hF)
    exact r_ireturn (i := 82) rfl rfl rfl hQ
  have hF := ok_if hc hF
  refine r_iconst (v := 0) (i := 70) rfl ki_0 ?_
  have hQ := hq _ (ok_some hF)
  exact r_ireturn (i := 71) rfl rfl rfl hQ
set_option maxHeartbeats 4000000 in
set_option maxRecDepth 100000 in
theorem t_M_put_b67 {x1 : Int32} {x2 : Int32} {x3 : Int32} {y0 : Int32} {n : Nat} {I : xm_I} {L : xm_L} {K : Int32 × xm_I → Prop} {Q : Option Value → xm_H → Prop} (hn : 86 ≤ n) (hq : ∀ p : Int32 × xm_I, K p → Q (some (.int p.1)) (p.2, L, RC n, n)) (hF : ok (f_M_put_b67 x1 x2 x3 y0 I) K) : xm_J 1 mt_M_put 67 [(0, .ref 49), (1, .int x1), (2, .int x2), (3, .int x3)] [.int y0] (I, L, RC n, n) 0 0 Q := by
  unfold f_M_put_b67 at hF
  refine r_istore (i := 38) (Ls' := [(4, _), (0, _), (1, _), (2, _), (3, _)]) rfl (Nat.le_of_ble_eq_true rfl) rfl ?_
  refine r_aload_n (i := 39) (k0 := 1) rfl rfl rfl ?_
  refine r_aload_n (i := 40) (k0 := 1) rfl rfl rfl ?_
  refine q_getr (b := 84) (i := 41) rfl fl_M_131 rfl (xm_in rfl hn) rfl rfl ?_
  refine r_iload_n (i := 42) (k0 := 2) rfl rfl rfl ?_
  obtain ⟨hi, hF⟩ := ok_gd hF
  refine q_iaload (i := 43) rfl (xm_in rfl hn) rfl hi ?_
  refine r_ifge (i := 44) (tgt := 83) rfl (by decide) (fun hc => ?_) (fun hc => ?_)
  · have hF := ok_it hc hF
    refine r_iload_n (i := 47) (k0 := 3) rfl rfl rfl ?_
    refine r_i2l (i := 48) rfl ?_
    refine r_lconst (v := 0) (i := 49) rfl rfl ?_
    refine r_aload_n (i := 50) (k0 := 1) rfl rfl rfl ?_
    refine q_getr (b := 84) (i := 51) rfl fl_M_131 rfl (xm_in rfl hn) rfl rfl ?_
    refine r_iload_n (i := 52) (k0 := 2) rfl rfl rfl ?_
    obtain ⟨hi, hF⟩ := ok_gd hF
    refine q_iaload (i := 53) rfl (xm_in rfl hn) rfl hi ?_
    refine r_iconst (v := 1) (i := 54) rfl ki_1 ?_
    refine r_isub (i := 55) rfl ?_
    refine r_i2l (i := 56) rfl ?_
    refine c_S3I (i := 57) rfl sm_M_in lk_M_150 (t_M_in hn (ok_bind hF)) (Nat.le_of_ble_eq_true rfl) rfl (Nat.le_of_ble_eq_true rfl) (fun p_1 hF => ?_)
    refine r_ifne (i := 58) (tgt := 105) rfl (by decide) (fun hc => ?_) (fun hc => ?_)
    · have hF := ok_if hc hF
      refine r_iload (i := 61) (k0 := 0) rfl rfl ?_
      refine r_ifeq (i := 62) (tgt := 114) rfl (by decide) (fun hc => ?_) (fun hc => ?_)
      · have hF := ok_it hc hF
        refine r_iconst (v := 0) (i := 65) rfl ki_0 ?_
        refine xm_sub (Ls' := [(0, _), (1, _), (2, _), (3, _)]) [1, 2, 3, 4] rfl ?_
        exact t_M_put_b115 hn (fun p h => hq p h) hF
      have hF := ok_if hc hF
      refine r_iconst (v := 2) (i := 63) rfl ki_2 ?_
      refine r_goto (i := 64) (tgt := 115) rfl (by decide) ?_
      refine xm_sub (Ls' := [(0, _), (1, _), (2, _), (3, _)]) [1, 2, 3, 4] rfl ?_
      exact t_M_put_b115 hn (fun p h => hq p h) hF
    have hF := ok_it hc hF
    refine r_iconst (v := 3) (i := 59) rfl ki_3 ?_
    refine r_goto (i := 60) (tgt := 115) rfl (by decide) ?_
    refine xm_sub (Ls' := [(0, _), (1, _), (2, _), (3, _)]) [1, 2, 3, 4] rfl ?_
    exact t_M_put_b115 hn (fun p h => hq p h) hF
  have hF := ok_if hc hF
  refine r_iconst (v := 1) (i := 45) rfl ki_1 ?_
  refine r_goto (i := 46) (tgt := 115) rfl (by decide) ?_
  refine xm_sub (Ls' := [(0, _), (1, _), (2, _), (3, _)]) [1, 2, 3, 4] rfl ?_
  exact t_M_put_b115 hn (fun p h => hq p h) hF
set_option maxHeartbeats 4000000 in
set_option maxRecDepth 100000 in
theorem t_M_put_b66 {x1 : Int32} {x2 : Int32} {x3 : Int32} {n : Nat} {I : xm_I} {L : xm_L} {K : Int32 × xm_I → Prop} {Q : Option Value → xm_H → Prop} (hn : 86 ≤ n) (hq : ∀ p : Int32 × xm_I, K p → Q (some (.int p.1)) (p.2, L, RC n, n)) (hF : ok (f_M_put_b66 x1 x2 x3 I) K) : xm_J 1 mt_M_put 66 [(0, .ref 49), (1, .int x1), (2, .int x2), (3, .int x3)] [] (I, L, RC n, n) 0 0 Q := by
  unfold f_M_put_b66 at hF
  refine r_iconst (v := 0) (i := 37) rfl ki_0 ?_
  exact t_M_put_b67 hn (fun p h => hq p h) hF
set_option maxHeartbeats 4000000 in
set_option maxRecDepth 100000 in
theorem t_M_put_b16 {x1 : Int32} {x2 : Int32} {x3 : Int32} {n : Nat} {I : xm_I} {L : xm_L} {K : Int32 × xm_I → Prop} {Q : Option Value → xm_H → Prop} (hn : 86 ≤ n) (hq : ∀ p : Int32 × xm_I, K p → Q (some (.int p.1)) (p.2, L, RC n, n)) (hF : ok (f_M_put_b16 x1 x2 x3 I) K) : xm_J 1 mt_M_put 16 [(0, .ref 49), (1, .int x1), (2, .int x2), (3, .int x3)] [] (I, L, RC n, n) 0 0 Q := by
  unfold f_M_put_b16 at hF
  refine r_iload_n (i := 9) (k0 := 1) rfl rfl rfl ?_
  refine r_i2l (i := 10) rfl ?_
  refine r_lconst (v := 0) (i := 11) rfl rfl ?_
  refine r_ldc2 (i := 12) rfl ct_M_512 ?_
  refine c_S3I (i := 13) rfl sm_M_in lk_M_150 (t_M_in hn (ok_bind hF)) (Nat.le_of_ble_eq_true rfl) rfl (Nat.le_of_ble_eq_true rfl) (fun p_1 hF => ?_)
  refine r_ifne (i := 14) (tgt := 31) rfl (by decide) (fun hc => ?_) (fun hc => ?_)
  · have hF := ok_if hc hF
    refine r_iload_n (i := 17) (k0 := 3) rfl rfl rfl ?_
    refine r_iconst (v := (-1)) (i := 18) rfl ki_m1 ?_
    refine r_icmpeq (i := 19) (tgt := 66) rfl (by decide) (fun hc => ?_) (fun hc => ?_)
    · have hF := ok_it hc hF
      exact t_M_put_b66 hn (fun p h => hq p h) hF
    have hF := ok_if hc hF
    refine r_aload_n (i := 20) (k0 := 0) rfl rfl rfl ?_
    refine q_getr (b := 83) (i := 21) rfl fl_M_128 rfl (xm_in rfl hn) rfl rfl ?_
    refine r_iload_n (i := 22) (k0 := 1) rfl rfl rfl ?_
    obtain ⟨hi, hF⟩ := ok_gd hF
    refine q_iaload (i := 23) rfl (xm_in rfl hn) rfl hi ?_
    refine r_bipush (v := 8) (i := 24) rfl kb_8 ?_
    refine r_icmpge (i := 25) (tgt := 66) rfl (by decide) (fun hc => ?_) (fun hc => ?_)
    · have hF := ok_it hc hF
      exact t_M_put_b66 hn (fun p h => hq p h) hF
    have hF := ok_if hc hF
    refine r_aload_n (i := 26) (k0 := 0) rfl rfl rfl ?_
    refine q_getr (b := 54) (i := 27) rfl fl_M_22 rfl (xm_in rfl hn) rfl rfl ?_
    refine r_iload_n (i := 28) (k0 := 3) rfl rfl rfl ?_
    obtain ⟨hi, hF⟩ := ok_gd hF
    refine q_iaload (i := 29) rfl (xm_in rfl hn) rfl hi ?_
    refine r_aload_n (i := 30) (k0 := 0) rfl rfl rfl ?_
    refine q_getr (b := 83) (i := 31) rfl fl_M_128 rfl (xm_in rfl hn) rfl rfl ?_
    refine r_iload_n (i := 32) (k0 := 1) rfl rfl rfl ?_
    obtain ⟨hi, hF⟩ := ok_gd hF
    refine q_iaload (i := 33) rfl (xm_in rfl hn) rfl hi ?_
    refine r_icmpeq (i := 34) (tgt := 66) rfl (by decide) (fun hc => ?_) (fun hc => ?_)
    · have hF := ok_it hc hF
      exact t_M_put_b66 hn (fun p h => hq p h) hF
    have hF := ok_if hc hF
    refine r_iconst (v := 1) (i := 35) rfl ki_1 ?_
    refine r_goto (i := 36) (tgt := 67) rfl (by decide) ?_
    exact t_M_put_b67 hn (fun p h => hq p h) hF
  have hF := ok_it hc hF
  refine r_ldc (i := 15) rfl ct_M_154 ?_
  have hQ := hq _ (ok_some hF)
  exact r_ireturn (i := 16) rfl rfl rfl hQ
set_option maxHeartbeats 4000000 in
set_option maxRecDepth 100000 in
theorem t_M_put_b0 {x1 : Int32} {x2 : Int32} {x3 : Int32} {n : Nat} {I : xm_I} {L : xm_L} {K : Int32 × xm_I → Prop} {Q : Option Value → xm_H → Prop} (hn : 86 ≤ n) (hq : ∀ p : Int32 × xm_I, K p → Q (some (.int p.1)) (p.2, L, RC n, n)) (hF : ok (f_M_put_b0 x1 x2 x3 I) K) : xm_J 1 mt_M_put 0 [(0, .ref 49), (1, .int x1), (2, .int x2), (3, .int x3)] [] (I, L, RC n, n) 0 0 Q := by
  unfold f_M_put_b0 at hF
  refine r_iload_n (i := 0) (k0 := 3) rfl rfl rfl ?_
  refine r_iconst (v := (-1)) (i := 1) rfl ki_m1 ?_
  refine r_icmpeq (i := 2) (tgt := 16) rfl (by decide) (fun hc => ?_) (fun hc => ?_)
  · have hF := ok_it hc hF
    exact t_M_put_b16 hn (fun p h => hq p h) hF
  have hF := ok_if hc hF
  refine r_aload_n (i := 3) (k0 := 0) rfl rfl rfl ?_
  refine r_iload_n (i := 4) (k0 := 3) rfl rfl rfl ?_
  refine c_V1I (i := 5) rfl vm_M_isObject lk_M_186 (t_M_isObject hn (ok_bind hF)) (Nat.le_of_ble_eq_true rfl) (xm_in rfl hn) rfl rfl (Nat.le_of_ble_eq_true rfl) (fun p_1 hF => ?_)
  refine r_ifne (i := 6) (tgt := 16) rfl (by decide) (fun hc => ?_) (fun hc => ?_)
  · have hF := ok_if hc hF
    exact t_M_put_b16 hn (fun p h => hq p h) hF
  have hF := ok_it hc hF
  refine r_ldc (i := 7) rfl ct_M_160 ?_
  have hQ := hq _ (ok_some hF)
  exact r_ireturn (i := 8) rfl rfl rfl hQ
set_option maxHeartbeats 4000000 in
set_option maxRecDepth 100000 in
theorem t_M_put {x1 : Int32} {x2 : Int32} {x3 : Int32} {n : Nat} {I : xm_I} {L : xm_L} {K : Int32 × xm_I → Prop} (hn : 86 ≤ n) (hF : ok (f_M_put x1 x2 x3 I) K) : xm_C 1 mt_M_put [.ref 49, .int x1, .int x2, .int x3] (I, L, RC n, n) 0 0 (pI (fun p : Int32 × xm_I => p.1) (fun p : Int32 × xm_I => (p.2, L, RC n, n)) K) := by
  unfold f_M_put at hF
  refine xm_enter (by decide +kernel) dv_M_put (Nat.le_of_ble_eq_true rfl) ?_
  exact t_M_put_b0 hn (fun p hp => ⟨p, rfl, rfl, hp⟩) hF
