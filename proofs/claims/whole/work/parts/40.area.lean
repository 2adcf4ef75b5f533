/-! ===== addArea, area ===== -/
theorem ct_cp1 : Cond.methodLink RX1 53 arraycopyName ∈ xm_tb := xm_tb_in (in_t3 _ (List.mem_of_getElem? (i := 43) rfl)) rfl
theorem ct_cp2 : Cond.native arraycopyName ∈ xm_tb := xm_tb_in (in_t3 _ (List.mem_of_getElem? (i := 45) rfl)) rfl
theorem ct_cp3 : Cond.static arraycopyName ∈ xm_tb := xm_tb_in (in_t3 _ (List.mem_of_getElem? (i := 44) rfl)) rfl
theorem ct_cp4 : Cond.initialized "java/lang/System" ∈ xm_tb := xm_tb_in (in_t1 _ (List.mem_of_getElem? (i := 13) rfl)) rfl
section XA
variable {d : Nat} {M : xm_M} {pc : Nat} {Ls : List (Nat × Value)} {S : List Value} {I : xm_I} {L : xm_L} {R : xm_R} {n kc ks : Nat} {Q : Option Value → xm_H → Prop} {i index a b : Nat}
theorem q_copy {na nb : Nat} {sp dp k : Int32} (hd : M.2.2.2.2[i]? = some (pc, .invokestatic index, 3)) (hw1 : Cond.methodLink M.1.cls index arraycopyName ∈ xm_tb) (hw2 : Cond.native arraycopyName ∈ xm_tb) (hw3 : Cond.static arraycopyName ∈ xm_tb) (hw4 : Cond.initialized "java/lang/System" ∈ xm_tb) (hd1 : 1 ≤ d) (ha : a < n) (hla : xm_lay a = (100, na)) (hb0 : b < n) (hlb : xm_lay b = (100, nb)) (hsum : (S.map fun v => v.category).sum ≤ 8)
    (h1 : ¬ sp < 0) (h2 : ¬ dp < 0) (h3 : ¬ k < 0) (h4 : sp.toNatClampNeg + k.toNatClampNeg ≤ na) (h5 : dp.toNatClampNeg + k.toNatClampNeg ≤ nb)
    (kk : xm_J d M (pc + 3) Ls S (xm_cp I a b sp.toNatClampNeg dp.toNatClampNeg k.toNatClampNeg, L, R, n) kc ks Q) : xm_J d M pc Ls (.int k :: .int dp :: .ref b :: .int sp :: .ref a :: S) (I, L, R, n) kc ks Q := r_copy (h := (I, L, R, n)) hd hw1 hw2 hw3 hw4 hd1 ha hla hb0 hlb hsum h1 h2 h3 h4 h5 kk
end XA
noncomputable def f_Fg_addArea_b0 (I : xm_I) : Option (Int32 × xm_I) :=
  (f_Fg_isFull I).bind fun p_1 =>
  if p_1 = 0 then (
    gd (0 ≤ (I 6 9).toInt ∧ (I 6 9).toInt < 40) <|
    let I_2 : xm_I := up2 I 7 (Int32.toNatClampNeg (I 6 9)) 7
    gd (0 ≤ (I_2 6 9).toInt ∧ (I_2 6 9).toInt < 40) <|
    let I_3 : xm_I := up2 I_2 10 (Int32.toNatClampNeg (I_2 6 9)) (I_2 6 8)
    gd (¬ (0 : Int32) < 0 ∧ ¬ ((I_3 6 9) * 12) < 0 ∧ ¬ (12 : Int32) < 0 ∧ (0 : Int32).toNatClampNeg + (12 : Int32).toNatClampNeg ≤ 12 ∧ ((I_3 6 9) * 12).toNatClampNeg + (12 : Int32).toNatClampNeg ≤ 480) <|
    let I_4 : xm_I := xm_cp I_3 13 11 (0 : Int32).toNatClampNeg ((I_3 6 9) * 12).toNatClampNeg (12 : Int32).toNatClampNeg
    let I_5 : xm_I := up2 I_4 6 8 0
    let I_6 : xm_I := up2 I_5 6 9 ((I_5 6 9) + 1)
    some ((I_6 6 9) - 1, I_6))
  else (
  some ((-100004), I))
noncomputable def f_Fg_addArea (I : xm_I) : Option (Int32 × xm_I) := f_Fg_addArea_b0 I
set_option maxHeartbeats 4000000 in
set_option maxRecDepth 100000 in
theorem t_Fg_addArea_b0 {n : Nat} {I : xm_I} {L : xm_L} {K : Int32 × xm_I → Prop} {Q : Option Value → xm_H → Prop} (hn : 86 ≤ n) (hq : ∀ p : Int32 × xm_I, K p → Q (some (.int p.1)) (p.2, L, RC n, n)) (hF : ok (f_Fg_addArea_b0 I) K) : xm_J 1 mt_Fg_addArea 0 [(0, .ref 6)] [] (I, L, RC n, n) 0 0 Q := by
  unfold f_Fg_addArea_b0 at hF
  refine r_aload_n (i := 0) (k0 := 0) rfl rfl rfl ?_
  refine c_V0I (i := 1) rfl vm_Fg_isFull lk_Fg_49 (t_Fg_isFull hn (ok_bind hF)) (Nat.le_of_ble_eq_true rfl) (xm_in rfl hn) rfl rfl (Nat.le_of_ble_eq_true rfl) (fun p_1 hF => ?_)
  refine r_ifeq (i := 2) (tgt := 10) rfl (by decide) (fun hc => ?_) (fun hc => ?_)
  · have hF := ok_it hc hF
    refine r_aload_n (i := 5) (k0 := 0) rfl rfl rfl ?_
    refine q_getr (b := 7) (i := 6) rfl fl_Fg_11 rfl (xm_in rfl hn) rfl rfl ?_
    refine r_aload_n (i := 7) (k0 := 0) rfl rfl rfl ?_
    refine q_geti (i := 8) rfl fl_Fg_38 (xm_in rfl hn) rfl ?_
    refine r_bipush (v := 7) (i := 9) rfl kb_7 ?_
    obtain ⟨hi, hF⟩ := ok_gd hF
    refine q_iastore (i := 10) rfl (xm_in rfl hn) rfl hi ?_
    refine r_aload_n (i := 11) (k0 := 0) rfl rfl rfl ?_
    refine q_getr (b := 10) (i := 12) rfl fl_Fg_21 rfl (xm_in rfl hn) rfl rfl ?_
    refine r_aload_n (i := 13) (k0 := 0) rfl rfl rfl ?_
    refine q_geti (i := 14) rfl fl_Fg_38 (xm_in rfl hn) rfl ?_
    refine r_aload_n (i := 15) (k0 := 0) rfl rfl rfl ?_
    refine q_geti (i := 16) rfl fl_Fg_42 (xm_in rfl hn) rfl ?_
    obtain ⟨hi, hF⟩ := ok_gd hF
    refine q_iastore (i := 17) rfl (xm_in rfl hn) rfl hi ?_
    refine r_aload_n (i := 18) (k0 := 0) rfl rfl rfl ?_
    refine q_getr (b := 13) (i := 19) rfl fl_Fg_31 rfl (xm_in rfl hn) rfl rfl ?_
    refine r_iconst (v := 0) (i := 20) rfl ki_0 ?_
    refine r_aload_n (i := 21) (k0 := 0) rfl rfl rfl ?_
    refine q_getr (b := 11) (i := 22) rfl fl_Fg_24 rfl (xm_in rfl hn) rfl rfl ?_
    refine r_aload_n (i := 23) (k0 := 0) rfl rfl rfl ?_
    refine q_geti (i := 24) rfl fl_Fg_38 (xm_in rfl hn) rfl ?_
    refine r_bipush (v := 12) (i := 25) rfl kb_12 ?_
    refine r_imul (i := 26) rfl ?_
    refine r_bipush (v := 12) (i := 27) rfl kb_12 ?_
    obtain ⟨⟨h1, h2, h3, h4, h5⟩, hF⟩ := ok_gd hF
    refine q_copy (i := 28) rfl ct_cp1 ct_cp2 ct_cp3 ct_cp4 (by decide) (xm_in rfl hn) rfl (xm_in rfl hn) rfl (Nat.le_of_ble_eq_true rfl) h1 h2 h3 h4 h5 ?_
    refine r_aload_n (i := 29) (k0 := 0) rfl rfl rfl ?_
    refine r_iconst (v := 0) (i := 30) rfl ki_0 ?_
    refine q_puti (i := 31) rfl fl_Fg_42 (fun h => Bool.noConfusion h) (xm_in rfl hn) rfl ?_
    refine r_aload_n (i := 32) (k0 := 0) rfl rfl rfl ?_
    refine r_dup (i := 33) rfl rfl ?_
    refine q_geti (i := 34) rfl fl_Fg_38 (xm_in rfl hn) rfl ?_
    refine r_iconst (v := 1) (i := 35) rfl ki_1 ?_
    refine r_iadd (i := 36) rfl ?_
    refine q_puti (i := 37) rfl fl_Fg_38 (fun h => Bool.noConfusion h) (xm_in rfl hn) rfl ?_
    refine r_aload_n (i := 38) (k0 := 0) rfl rfl rfl ?_
    refine q_geti (i := 39) rfl fl_Fg_38 (xm_in rfl hn) rfl ?_
    refine r_iconst (v := 1) (i := 40) rfl ki_1 ?_
    refine r_isub (i := 41) rfl ?_
    have hQ := hq _ (ok_some hF)
    exact r_ireturn (i := 42) rfl rfl rfl hQ
  have hF := ok_if hc hF
  refine r_ldc (i := 3) rfl ct_Fg_52 ?_
  have hQ := hq _ (ok_some hF)
  exact r_ireturn (i := 4) rfl rfl rfl hQ
set_option maxHeartbeats 4000000 in
set_option maxRecDepth 100000 in
theorem t_Fg_addArea {n : Nat} {I : xm_I} {L : xm_L} {K : Int32 × xm_I → Prop} (hn : 86 ≤ n) (hF : ok (f_Fg_addArea I) K) : xm_C 1 mt_Fg_addArea [.ref 6] (I, L, RC n, n) 0 0 (pI (fun p : Int32 × xm_I => p.1) (fun p : Int32 × xm_I => (p.2, L, RC n, n)) K) := by
  unfold f_Fg_addArea at hF
  refine xm_enter (by decide +kernel) dv_Fg_addArea (Nat.le_of_ble_eq_true rfl) ?_
  exact t_Fg_addArea_b0 hn (fun p hp => ⟨p, rfl, rfl, hp⟩) hF
noncomputable def f_D_area_b0 (I : xm_I) : Option (Int32 × xm_I) :=
  if 3 ≤ (I 6 8) then (
    (f_Fg_isFull I).bind fun p_1 =>
    if p_1 = 0 then (
      (f_Fg_addArea I).bind fun p_2 =>
      some (p_2.1, p_2.2))
    else (
    some ((-100004), I)))
  else (
  some ((-100003), I))
noncomputable def f_D_area (I : xm_I) : Option (Int32 × xm_I) := f_D_area_b0 I
set_option maxHeartbeats 4000000 in
set_option maxRecDepth 100000 in
theorem t_D_area_b0 {n : Nat} {I : xm_I} {L : xm_L} {K : Int32 × xm_I → Prop} {Q : Option Value → xm_H → Prop} (hn : 86 ≤ n) (hq : ∀ p : Int32 × xm_I, K p → Q (some (.int p.1)) (p.2, L, RC n, n)) (hF : ok (f_D_area_b0 I) K) : xm_J 2 mt_D_area 0 [(0, .ref 0)] [] (I, L, RC n, n) 0 0 Q := by
  unfold f_D_area_b0 at hF
  refine r_aload_n (i := 0) (k0 := 0) rfl rfl rfl ?_
  refine q_getr (b := 6) (i := 1) rfl fl_D_21 rfl (xm_in rfl hn) rfl rfl ?_
  refine q_geti (i := 2) rfl fl_D_125 (xm_in rfl hn) rfl ?_
  refine r_iconst (v := 3) (i := 3) rfl ki_3 ?_
  refine r_icmpge (i := 4) (tgt := 14) rfl (by decide) (fun hc => ?_) (fun hc => ?_)
  · have hF := ok_it hc hF
    refine r_aload_n (i := 7) (k0 := 0) rfl rfl rfl ?_
    refine q_getr (b := 6) (i := 8) rfl fl_D_21 rfl (xm_in rfl hn) rfl rfl ?_
    refine c_V0I (i := 9) rfl vm_Fg_isFull lk_D_115 (t_Fg_isFull hn (ok_bind hF)) (Nat.le_of_ble_eq_true rfl) (xm_in rfl hn) rfl rfl (Nat.le_of_ble_eq_true rfl) (fun p_1 hF => ?_)
    refine r_ifeq (i := 10) (tgt := 29) rfl (by decide) (fun hc => ?_) (fun hc => ?_)
    · have hF := ok_it hc hF
      refine r_aload_n (i := 13) (k0 := 0) rfl rfl rfl ?_
      refine q_getr (b := 6) (i := 14) rfl fl_D_21 rfl (xm_in rfl hn) rfl rfl ?_
      refine c_V0I (i := 15) rfl vm_Fg_addArea lk_D_129 (t_Fg_addArea hn (ok_bind hF)) (Nat.le_of_ble_eq_true rfl) (xm_in rfl hn) rfl rfl (Nat.le_of_ble_eq_true rfl) (fun p_2 hF => ?_)
      have hQ := hq _ (ok_some hF)
      exact r_ireturn (i := 16) rfl rfl rfl hQ
    have hF := ok_if hc hF
    refine r_ldc (i := 11) rfl ct_D_91 ?_
    refine r_goto (i := 12) (tgt := 36) rfl (by decide) ?_
    have hQ := hq _ (ok_some hF)
    exact r_ireturn (i := 16) rfl rfl rfl hQ
  have hF := ok_if hc hF
  refine r_ldc (i := 5) rfl ct_D_128 ?_
  have hQ := hq _ (ok_some hF)
  exact r_ireturn (i := 6) rfl rfl rfl hQ
set_option maxHeartbeats 4000000 in
set_option maxRecDepth 100000 in
theorem t_D_area {n : Nat} {I : xm_I} {L : xm_L} {K : Int32 × xm_I → Prop} (hn : 86 ≤ n) (hF : ok (f_D_area I) K) : xm_C 2 mt_D_area [.ref 0] (I, L, RC n, n) 0 0 (pI (fun p : Int32 × xm_I => p.1) (fun p : Int32 × xm_I => (p.2, L, RC n, n)) K) := by
  unfold f_D_area at hF
  refine xm_enter (by decide +kernel) dv_D_area (Nat.le_of_ble_eq_true rfl) ?_
  exact t_D_area_b0 hn (fun p hp => ⟨p, rfl, rfl, hp⟩) hF
