/-! ===== turned: Pn_paintSolids D_draw D_mark Lb_drawnPlaceOf D_placed Mk_octetCount Mk_octetAt D_octet D_digest D_count D_code Gr_isNumber Gr_make D_group Gr_isMade Gr_placesOf Gr_hasPlace Gr_setMember Gr_takes D_put Gr_memberAt D_member D_paint D_reach M_in M_isPoint M_isObject M_isSolid M_point M_move M_tick M_nowX M_nowY M_at M_wanted M_object ===== -/
noncomputable def f_Pn_paintSolids_b42 (x2 : Int32) (n : Nat) (I : xm_I) (L : xm_L) : Option ((Int32 × xm_I × xm_L) ⊕ (xm_I × xm_L)) :=
  let x2_1 : Int32 := x2 + 1
  some (.inl (x2_1, I, L))
noncomputable def f_Pn_paintSolids_s15 (n : Nat) (s : Int32 × xm_I × xm_L) : Option ((Int32 × xm_I × xm_L) ⊕ (xm_I × xm_L)) :=
  if (s.2.1 15 1) ≤ s.1 then (
    some (.inr (s.2.1, s.2.2)))
  else (
  (f_Ss_find s.1 n s.2.1).bind fun p_1 =>
  mo p_1 (
    f_Pn_paintSolids_b42 s.1 n s.2.1 s.2.2) (fun r_2 => gd (xm_sd n r_2) (
    (f_Pn_paintSolid r_2 (s.2.1 15 2) s.2.1 s.2.2).bind fun p_4 =>
    f_Pn_paintSolids_b42 s.1 n p_4.1 p_4.2)))
noncomputable def f_Pn_paintSolids_b15 (n : Nat) (s : Int32 × xm_I × xm_L) : Option (xm_I × xm_L) := lp (f_Pn_paintSolids_s15 n) s
noncomputable def f_Pn_paintSolids_b0 (n : Nat) (I : xm_I) (L : xm_L) : Option (xm_I × xm_L) :=
  (f_Fg_isHidden 8 I).bind fun p_1 =>
  if p_1 = 0 then (
    f_Pn_paintSolids_b15 n (0, I, L))
  else (
  some (I, L))
noncomputable def f_Pn_paintSolids (n : Nat) (I : xm_I) (L : xm_L) : Option (xm_I × xm_L) := f_Pn_paintSolids_b0 n I L
set_option maxHeartbeats 4000000 in
set_option maxRecDepth 100000 in
theorem t_Pn_paintSolids_b42 {x2 : Int32} {n : Nat} {I : xm_I} {L : xm_L} {K : (Int32 × xm_I × xm_L) ⊕ (xm_I × xm_L) → Prop} {Q : Option Value → xm_H → Prop} (hn : 86 ≤ n) (hq : ∀ p : xm_I × xm_L, K (.inr p) → Q none (p.1, p.2, RC n, n)) (hg0 : ∀ s : Int32 × xm_I × xm_L, K (.inl s) → xm_J 6 mt_Pn_paintSolids 15 [(0, .ref 30), (1, .ref 15), (2, .int s.1)] [] (s.2.1, s.2.2, RC n, n) 0 0 Q) (hF : ok (f_Pn_paintSolids_b42 x2 n I L) K) : xm_J 6 mt_Pn_paintSolids 42 [(0, .ref 30), (1, .ref 15), (2, .int x2)] [] (I, L, RC n, n) 0 0 Q := by
  unfold f_Pn_paintSolids_b42 at hF
  refine q_iinc (i := 23) (k0 := 2) (Ls' := [(2, _), (0, _), (1, _)]) rfl ki_1 rfl (Nat.le_of_ble_eq_true rfl) rfl ?_
  refine r_goto (i := 24) (tgt := 15) rfl (by decide) ?_
  refine xm_sub (Ls' := [(0, _), (1, _), (2, _)]) [1, 2, 0] rfl ?_
  have hJ := hg0 _ (ok_some hF)
  exact hJ
set_option maxHeartbeats 4000000 in
set_option maxRecDepth 100000 in
theorem t_Pn_paintSolids_s15 {s : Int32 × xm_I × xm_L} {n : Nat} {K : (Int32 × xm_I × xm_L) ⊕ (xm_I × xm_L) → Prop} {Q : Option Value → xm_H → Prop} (hn : 86 ≤ n) (hq : ∀ p : xm_I × xm_L, K (.inr p) → Q none (p.1, p.2, RC n, n)) (hg0 : ∀ s : Int32 × xm_I × xm_L, K (.inl s) → xm_J 6 mt_Pn_paintSolids 15 [(0, .ref 30), (1, .ref 15), (2, .int s.1)] [] (s.2.1, s.2.2, RC n, n) 0 0 Q) (hF : ok (f_Pn_paintSolids_s15 n s) K) : xm_J 6 mt_Pn_paintSolids 15 [(0, .ref 30), (1, .ref 15), (2, .int s.1)] [] (s.2.1, s.2.2, RC n, n) 0 0 Q := by
  unfold f_Pn_paintSolids_s15 at hF
  refine r_iload_n (i := 8) (k0 := 2) rfl rfl rfl ?_
  refine r_aload_n (i := 9) (k0 := 1) rfl rfl rfl ?_
  refine q_geti (i := 10) rfl fl_Pn_275 (xm_in rfl hn) rfl ?_
  refine r_icmpge (i := 11) (tgt := 48) rfl (by decide) (fun hc => ?_) (fun hc => ?_)
  · have hF := ok_it hc hF
    have hQ := hq _ (ok_some hF)
    exact r_return (i := 25) rfl rfl hQ
  have hF := ok_if hc hF
  refine r_aload_n (i := 12) (k0 := 1) rfl rfl rfl ?_
  refine r_iload_n (i := 13) (k0 := 2) rfl rfl rfl ?_
  refine c_V1R (i := 14) rfl vm_Ss_find lk_Pn_278 (t_Ss_find hn (ok_bind hF)) (Nat.le_of_ble_eq_true rfl) (xm_in rfl hn) rfl rfl (Nat.le_of_ble_eq_true rfl) (fun p_1 hF => ?_)
  cases p_1 with
  | none =>
    refine r_astore_nN (i := 15) (Ls' := [(3, _), (0, _), (1, _), (2, _)]) rfl rfl (Nat.le_of_ble_eq_true rfl) rfl ?_
    refine r_aload_nN (i := 16) (k0 := 0) rfl rfl rfl ?_
    refine r_ifnullN (i := 17) (tgt := 42) rfl (by decide) ?_
    refine xm_sub (Ls' := [(0, _), (1, _), (2, _)]) [1, 2, 3] rfl ?_
    exact t_Pn_paintSolids_b42 hn (fun p h => hq p h) (fun z h => hg0 z h) hF
  | some r_2 =>
    obtain ⟨hs_3, hF⟩ := ok_gd hF
    refine r_astore_n (i := 15) (Ls' := [(3, _), (0, _), (1, _), (2, _)]) rfl rfl (Nat.le_of_ble_eq_true rfl) rfl ?_
    refine r_aload_n (i := 16) (k0 := 0) rfl rfl rfl ?_
    refine r_ifnull (i := 17) rfl ?_
    refine r_aload_n (i := 18) (k0 := 1) rfl rfl rfl ?_
    refine r_aload_n (i := 19) (k0 := 0) rfl rfl rfl ?_
    refine r_aload_n (i := 20) (k0 := 2) rfl rfl rfl ?_
    refine q_geti (i := 21) rfl fl_Pn_282 (xm_in rfl hn) rfl ?_
    refine c_V2V (i := 22) rfl vm_Pn_paintSolid lk_Pn_285 (t_Pn_paintSolid hn hs_3 (ok_bind hF)) (Nat.le_of_ble_eq_true rfl) (xm_in rfl hn) rfl rfl (Nat.le_of_ble_eq_true rfl) (fun p_4 hF => ?_)
    refine xm_sub (Ls' := [(0, _), (1, _), (2, _)]) [1, 2, 3] rfl ?_
    exact t_Pn_paintSolids_b42 hn (fun p h => hq p h) (fun z h => hg0 z h) hF
set_option maxHeartbeats 4000000 in
set_option maxRecDepth 100000 in
theorem t_Pn_paintSolids_b15 {s : Int32 × xm_I × xm_L} {n : Nat} {K : xm_I × xm_L → Prop} {Q : Option Value → xm_H → Prop} (hn : 86 ≤ n) (hq : ∀ p : xm_I × xm_L, K p → Q none (p.1, p.2, RC n, n)) (hF : ok (f_Pn_paintSolids_b15 n s) K) : xm_J 6 mt_Pn_paintSolids 15 [(0, .ref 30), (1, .ref 15), (2, .int s.1)] [] (s.2.1, s.2.2, RC n, n) 0 0 Q :=
  lp_J (G := fun z => xm_J 6 mt_Pn_paintSolids 15 [(0, .ref 30), (1, .ref 15), (2, .int z.1)] [] (z.2.1, z.2.2, RC n, n) 0 0 Q) (fun z hF => t_Pn_paintSolids_s15 hn (fun p h => hq p h) (fun z h => h) hF) s hF
set_option maxHeartbeats 4000000 in
set_option maxRecDepth 100000 in
theorem t_Pn_paintSolids_b0 {n : Nat} {I : xm_I} {L : xm_L} {K : xm_I × xm_L → Prop} {Q : Option Value → xm_H → Prop} (hn : 86 ≤ n) (hq : ∀ p : xm_I × xm_L, K p → Q none (p.1, p.2, RC n, n)) (hF : ok (f_Pn_paintSolids_b0 n I L) K) : xm_J 6 mt_Pn_paintSolids 0 [(0, .ref 30), (1, .ref 15)] [] (I, L, RC n, n) 0 0 Q := by
  unfold f_Pn_paintSolids_b0 at hF
  refine r_aload_n (i := 0) (k0 := 0) rfl rfl rfl ?_
  refine q_getr (b := 6) (i := 1) rfl fl_Pn_35 rfl (xm_in rfl hn) rfl rfl ?_
  refine r_bipush (v := 8) (i := 2) rfl kb_8 ?_
  refine c_V1I (i := 3) rfl vm_Fg_isHidden lk_Pn_272 (t_Fg_isHidden hn (ok_bind hF)) (Nat.le_of_ble_eq_true rfl) (xm_in rfl hn) rfl rfl (Nat.le_of_ble_eq_true rfl) (fun p_1 hF => ?_)
  refine r_ifeq (i := 4) (tgt := 13) rfl (by decide) (fun hc => ?_) (fun hc => ?_)
  · have hF := ok_it hc hF
    refine r_iconst (v := 0) (i := 6) rfl ki_0 ?_
    refine r_istore_n (i := 7) (Ls' := [(2, _), (0, _), (1, _)]) rfl rfl (Nat.le_of_ble_eq_true rfl) rfl ?_
    refine xm_sub (Ls' := [(0, _), (1, _), (2, _)]) [1, 2, 0] rfl ?_
    exact t_Pn_paintSolids_b15 hn (fun p h => hq p h) hF
  have hF := ok_if hc hF
  have hQ := hq _ (ok_some hF)
  exact r_return (i := 5) rfl rfl hQ
set_option maxHeartbeats 4000000 in
set_option maxRecDepth 100000 in
theorem t_Pn_paintSolids {n : Nat} {I : xm_I} {L : xm_L} {K : xm_I × xm_L → Prop} (hn : 86 ≤ n) (hF : ok (f_Pn_paintSolids n I L) K) : xm_C 6 mt_Pn_paintSolids [.ref 30, .ref 15] (I, L, RC n, n) 0 0 (pV (fun p : xm_I × xm_L => (p.1, p.2, RC n, n)) K) := by
  unfold f_Pn_paintSolids at hF
  refine xm_enter (by decide +kernel) dv_Pn_paintSolids (Nat.le_of_ble_eq_true rfl) ?_
  exact t_Pn_paintSolids_b0 hn (fun p hp => ⟨p, rfl, rfl, hp⟩) hF

noncomputable def f_D_draw_b49 (n : Nat) (I : xm_I) (L : xm_L) : Option (Int32 × xm_I × xm_L) :=
  (f_Pl_placeAll I).bind fun p_1 =>
  (f_Mk_seal p_1).bind fun p_2 =>
  (f_Fr_hasScale p_2).bind fun p_3 =>
  if p_3 = 0 then (
    (f_D_endWith 6 p_2).bind fun p_5 =>
    some (p_5.1, p_5.2, L))
  else (
    let I_4 : xm_I := up2 p_2 0 9 0
    some (I_4 17 4, I_4, L))
noncomputable def f_D_draw_b0 (n : Nat) (I : xm_I) (L : xm_L) : Option (Int32 × xm_I × xm_L) :=
  (f_Pn_begin I).bind fun p_1 =>
  (f_Fr_hasScale p_1).bind fun p_2 =>
  if p_2 = 0 then (
    f_D_draw_b49 n p_1 L)
  else (
  (f_Pn_paintGrid p_1).bind fun p_3 =>
  (f_Pn_paintAreas p_3 L).bind fun p_4 =>
  (f_Pn_paintOthers p_4.1 p_4.2).bind fun p_5 =>
  (f_Pn_paintSolids n p_5.1 p_5.2).bind fun p_6 =>
  f_D_draw_b49 n p_6.1 p_6.2)
noncomputable def f_D_draw (n : Nat) (I : xm_I) (L : xm_L) : Option (Int32 × xm_I × xm_L) := f_D_draw_b0 n I L
set_option maxHeartbeats 4000000 in
set_option maxRecDepth 100000 in
theorem t_D_draw_b49 {n : Nat} {I : xm_I} {L : xm_L} {K : Int32 × xm_I × xm_L → Prop} {Q : Option Value → xm_H → Prop} (hn : 86 ≤ n) (hq : ∀ p : Int32 × xm_I × xm_L, K p → Q (some (.int p.1)) (p.2.1, p.2.2, RC n, n)) (hF : ok (f_D_draw_b49 n I L) K) : xm_J 13 mt_D_draw 49 [(0, .ref 0)] [] (I, L, RC n, n) 0 0 Q := by
  unfold f_D_draw_b49 at hF
  refine r_aload_n (i := 21) (k0 := 0) rfl rfl rfl ?_
  refine q_getr (b := 39) (i := 22) rfl fl_D_74 rfl (xm_in rfl hn) rfl rfl ?_
  refine c_V0V (i := 23) rfl vm_Pl_placeAll lk_D_308 (t_Pl_placeAll hn (ok_bind hF)) (Nat.le_of_ble_eq_true rfl) (xm_in rfl hn) rfl rfl (Nat.le_of_ble_eq_true rfl) (fun p_1 hF => ?_)
  refine r_aload_n (i := 24) (k0 := 0) rfl rfl rfl ?_
  refine q_getr (b := 17) (i := 25) rfl fl_D_42 rfl (xm_in rfl hn) rfl rfl ?_
  refine c_V0V (i := 26) rfl vm_Mk_seal lk_D_311 (t_Mk_seal hn (ok_bind hF)) (Nat.le_of_ble_eq_true rfl) (xm_in rfl hn) rfl rfl (Nat.le_of_ble_eq_true rfl) (fun p_2 hF => ?_)
  refine r_aload_n (i := 27) (k0 := 0) rfl rfl rfl ?_
  refine q_getr (b := 14) (i := 28) rfl fl_D_28 rfl (xm_in rfl hn) rfl rfl ?_
  refine c_V0I (i := 29) rfl vm_Fr_hasScale lk_D_207 (t_Fr_hasScale hn (ok_bind hF)) (Nat.le_of_ble_eq_true rfl) (xm_in rfl hn) rfl rfl (Nat.le_of_ble_eq_true rfl) (fun p_3 hF => ?_)
  refine r_ifne (i := 30) (tgt := 80) rfl (by decide) (fun hc => ?_) (fun hc => ?_)
  · have hF := ok_if hc hF
    refine r_aload_n (i := 35) (k0 := 0) rfl rfl rfl ?_
    refine r_iconst (v := 0) (i := 36) rfl ki_0 ?_
    refine q_puti (i := 37) rfl fl_D_78 (fun h => Bool.noConfusion h) (xm_in rfl hn) rfl ?_
    refine r_aload_n (i := 38) (k0 := 0) rfl rfl rfl ?_
    refine q_getr (b := 17) (i := 39) rfl fl_D_42 rfl (xm_in rfl hn) rfl rfl ?_
    refine q_geti (i := 40) rfl fl_D_314 (xm_in rfl hn) rfl ?_
    have hQ := hq _ (ok_some hF)
    exact r_ireturn (i := 41) rfl rfl rfl hQ
  have hF := ok_it hc hF
  refine r_aload_n (i := 31) (k0 := 0) rfl rfl rfl ?_
  refine r_bipush (v := 6) (i := 32) rfl kb_6 ?_
  refine c_V1I (i := 33) rfl vm_D_endWith lk_D_210 (t_D_endWith hn (ok_bind hF)) (Nat.le_of_ble_eq_true rfl) (xm_in rfl hn) rfl rfl (Nat.le_of_ble_eq_true rfl) (fun p_5 hF => ?_)
  have hQ := hq _ (ok_some hF)
  exact r_ireturn (i := 34) rfl rfl rfl hQ
set_option maxHeartbeats 4000000 in
set_option maxRecDepth 100000 in
theorem t_D_draw_b0 {n : Nat} {I : xm_I} {L : xm_L} {K : Int32 × xm_I × xm_L → Prop} {Q : Option Value → xm_H → Prop} (hn : 86 ≤ n) (hq : ∀ p : Int32 × xm_I × xm_L, K p → Q (some (.int p.1)) (p.2.1, p.2.2, RC n, n)) (hF : ok (f_D_draw_b0 n I L) K) : xm_J 13 mt_D_draw 0 [(0, .ref 0)] [] (I, L, RC n, n) 0 0 Q := by
  unfold f_D_draw_b0 at hF
  refine r_aload_n (i := 0) (k0 := 0) rfl rfl rfl ?_
  refine q_getr (b := 30) (i := 1) rfl fl_D_65 rfl (xm_in rfl hn) rfl rfl ?_
  refine c_V0V (i := 2) rfl vm_Pn_begin lk_D_292 (t_Pn_begin hn (ok_bind hF)) (Nat.le_of_ble_eq_true rfl) (xm_in rfl hn) rfl rfl (Nat.le_of_ble_eq_true rfl) (fun p_1 hF => ?_)
  refine r_aload_n (i := 3) (k0 := 0) rfl rfl rfl ?_
  refine q_getr (b := 14) (i := 4) rfl fl_D_28 rfl (xm_in rfl hn) rfl rfl ?_
  refine c_V0I (i := 5) rfl vm_Fr_hasScale lk_D_207 (t_Fr_hasScale hn (ok_bind hF)) (Nat.le_of_ble_eq_true rfl) (xm_in rfl hn) rfl rfl (Nat.le_of_ble_eq_true rfl) (fun p_2 hF => ?_)
  refine r_ifeq (i := 6) (tgt := 49) rfl (by decide) (fun hc => ?_) (fun hc => ?_)
  · have hF := ok_it hc hF
    exact t_D_draw_b49 hn (fun p h => hq p h) hF
  have hF := ok_if hc hF
  refine r_aload_n (i := 7) (k0 := 0) rfl rfl rfl ?_
  refine q_getr (b := 30) (i := 8) rfl fl_D_65 rfl (xm_in rfl hn) rfl rfl ?_
  refine c_V0V (i := 9) rfl vm_Pn_paintGrid lk_D_295 (t_Pn_paintGrid hn (ok_bind hF)) (Nat.le_of_ble_eq_true rfl) (xm_in rfl hn) rfl rfl (Nat.le_of_ble_eq_true rfl) (fun p_3 hF => ?_)
  refine r_aload_n (i := 10) (k0 := 0) rfl rfl rfl ?_
  refine q_getr (b := 30) (i := 11) rfl fl_D_65 rfl (xm_in rfl hn) rfl rfl ?_
  refine c_V0V (i := 12) rfl vm_Pn_paintAreas lk_D_298 (t_Pn_paintAreas hn (ok_bind hF)) (Nat.le_of_ble_eq_true rfl) (xm_in rfl hn) rfl rfl (Nat.le_of_ble_eq_true rfl) (fun p_4 hF => ?_)
  refine r_aload_n (i := 13) (k0 := 0) rfl rfl rfl ?_
  refine q_getr (b := 30) (i := 14) rfl fl_D_65 rfl (xm_in rfl hn) rfl rfl ?_
  refine c_V0V (i := 15) rfl vm_Pn_paintOthers lk_D_301 (t_Pn_paintOthers hn (ok_bind hF)) (Nat.le_of_ble_eq_true rfl) (xm_in rfl hn) rfl rfl (Nat.le_of_ble_eq_true rfl) (fun p_5 hF => ?_)
  refine r_aload_n (i := 16) (k0 := 0) rfl rfl rfl ?_
  refine q_getr (b := 30) (i := 17) rfl fl_D_65 rfl (xm_in rfl hn) rfl rfl ?_
  refine r_aload_n (i := 18) (k0 := 0) rfl rfl rfl ?_
  refine q_getr (b := 15) (i := 19) rfl fl_D_35 rfl (xm_in rfl hn) rfl rfl ?_
  refine c_V1V (i := 20) rfl vm_Pn_paintSolids lk_D_304 (t_Pn_paintSolids hn (ok_bind hF)) (Nat.le_of_ble_eq_true rfl) (xm_in rfl hn) rfl rfl (Nat.le_of_ble_eq_true rfl) (fun p_6 hF => ?_)
  exact t_D_draw_b49 hn (fun p h => hq p h) hF
set_option maxHeartbeats 4000000 in
set_option maxRecDepth 100000 in
theorem t_D_draw {n : Nat} {I : xm_I} {L : xm_L} {K : Int32 × xm_I × xm_L → Prop} (hn : 86 ≤ n) (hF : ok (f_D_draw n I L) K) : xm_C 13 mt_D_draw [.ref 0] (I, L, RC n, n) 0 0 (pI (fun p : Int32 × xm_I × xm_L => p.1) (fun p : Int32 × xm_I × xm_L => (p.2.1, p.2.2, RC n, n)) K) := by
  unfold f_D_draw at hF
  refine xm_enter (by decide +kernel) dv_D_draw (Nat.le_of_ble_eq_true rfl) ?_
  exact t_D_draw_b0 hn (fun p hp => ⟨p, rfl, rfl, hp⟩) hF

noncomputable def f_D_mark_b0 (x1 : Int32) (x2 : Int32) (I : xm_I) : Option (Int32) :=
  (f_Mk_has x1 I).bind fun p_1 =>
  if p_1 = 0 then (
    some ((-100001)))
  else (
    (f_D_isWithin x2 0 6).bind fun p_2 =>
    if p_2 = 0 then (
      some ((-100002)))
    else (
      (f_Mk_valueAt x1 x2 I).bind fun p_3 =>
      some (p_3)))
noncomputable def f_D_mark (x1 : Int32) (x2 : Int32) (I : xm_I) : Option (Int32) := f_D_mark_b0 x1 x2 I
set_option maxHeartbeats 4000000 in
set_option maxRecDepth 100000 in
theorem t_D_mark_b0 {x1 : Int32} {x2 : Int32} {n : Nat} {I : xm_I} {L : xm_L} {K : Int32 → Prop} {Q : Option Value → xm_H → Prop} (hn : 86 ≤ n) (hq : ∀ p : Int32, K p → Q (some (.int p)) (I, L, RC n, n)) (hF : ok (f_D_mark_b0 x1 x2 I) K) : xm_J 2 mt_D_mark 0 [(0, .ref 0), (1, .int x1), (2, .int x2)] [] (I, L, RC n, n) 0 0 Q := by
  unfold f_D_mark_b0 at hF
  refine r_aload_n (i := 0) (k0 := 0) rfl rfl rfl ?_
  refine q_getr (b := 17) (i := 1) rfl fl_D_42 rfl (xm_in rfl hn) rfl rfl ?_
  refine r_iload_n (i := 2) (k0 := 1) rfl rfl rfl ?_
  refine c_V1I (i := 3) rfl vm_Mk_has lk_D_315 (t_Mk_has hn (ok_bind hF)) (Nat.le_of_ble_eq_true rfl) (xm_in rfl hn) rfl rfl (Nat.le_of_ble_eq_true rfl) (fun p_1 hF => ?_)
  refine r_ifne (i := 4) (tgt := 14) rfl (by decide) (fun hc => ?_) (fun hc => ?_)
  · have hF := ok_if hc hF
    refine r_iload_n (i := 7) (k0 := 2) rfl rfl rfl ?_
    refine r_iconst (v := 0) (i := 8) rfl ki_0 ?_
    refine r_bipush (v := 6) (i := 9) rfl kb_6 ?_
    refine c_S3I (i := 10) rfl sm_D_isWithin lk_D_82 (t_D_isWithin hn (ok_bind hF)) (Nat.le_of_ble_eq_true rfl) rfl (Nat.le_of_ble_eq_true rfl) (fun p_2 hF => ?_)
    refine r_ifne (i := 11) (tgt := 27) rfl (by decide) (fun hc => ?_) (fun hc => ?_)
    · have hF := ok_if hc hF
      refine r_aload_n (i := 14) (k0 := 0) rfl rfl rfl ?_
      refine q_getr (b := 17) (i := 15) rfl fl_D_42 rfl (xm_in rfl hn) rfl rfl ?_
      refine r_iload_n (i := 16) (k0 := 1) rfl rfl rfl ?_
      refine r_iload_n (i := 17) (k0 := 2) rfl rfl rfl ?_
      refine c_V2I (i := 18) rfl vm_Mk_valueAt lk_D_316 (t_Mk_valueAt hn (ok_bind hF)) (Nat.le_of_ble_eq_true rfl) (xm_in rfl hn) rfl rfl (Nat.le_of_ble_eq_true rfl) (fun p_3 hF => ?_)
      have hQ := hq _ (ok_some hF)
      exact r_ireturn (i := 19) rfl rfl rfl hQ
    have hF := ok_it hc hF
    refine r_ldc (i := 12) rfl ct_D_86 ?_
    have hQ := hq _ (ok_some hF)
    exact r_ireturn (i := 13) rfl rfl rfl hQ
  have hF := ok_it hc hF
  refine r_ldc (i := 5) rfl ct_D_100 ?_
  have hQ := hq _ (ok_some hF)
  exact r_ireturn (i := 6) rfl rfl rfl hQ
set_option maxHeartbeats 4000000 in
set_option maxRecDepth 100000 in
theorem t_D_mark {x1 : Int32} {x2 : Int32} {n : Nat} {I : xm_I} {L : xm_L} {K : Int32 → Prop} (hn : 86 ≤ n) (hF : ok (f_D_mark x1 x2 I) K) : xm_C 2 mt_D_mark [.ref 0, .int x1, .int x2] (I, L, RC n, n) 0 0 (pI (fun p : Int32 => p) (fun p : Int32 => (I, L, RC n, n)) K) := by
  unfold f_D_mark at hF
  refine xm_enter (by decide +kernel) dv_D_mark (Nat.le_of_ble_eq_true rfl) ?_
  exact t_D_mark_b0 hn (fun p hp => ⟨p, rfl, rfl, hp⟩) hF

noncomputable def f_Lb_drawnPlaceOf_b0 (x1 : Int32) (I : xm_I) : Option (Int32) :=
  (f_Lb_has x1 I).bind fun p_1 =>
  if p_1 = 0 then (
    some ((-1)))
  else (
  if (I 21 4) ≤ x1 then (
    some ((-1)))
  else (
  gd (0 ≤ (x1).toInt ∧ (x1).toInt < 20) <|
  some (I 24 (Int32.toNatClampNeg x1))))
noncomputable def f_Lb_drawnPlaceOf (x1 : Int32) (I : xm_I) : Option (Int32) := f_Lb_drawnPlaceOf_b0 x1 I
set_option maxHeartbeats 4000000 in
set_option maxRecDepth 100000 in
theorem t_Lb_drawnPlaceOf_b0 {x1 : Int32} {n : Nat} {I : xm_I} {L : xm_L} {K : Int32 → Prop} {Q : Option Value → xm_H → Prop} (hn : 86 ≤ n) (hq : ∀ p : Int32, K p → Q (some (.int p)) (I, L, RC n, n)) (hF : ok (f_Lb_drawnPlaceOf_b0 x1 I) K) : xm_J 1 mt_Lb_drawnPlaceOf 0 [(0, .ref 21), (1, .int x1)] [] (I, L, RC n, n) 0 0 Q := by
  unfold f_Lb_drawnPlaceOf_b0 at hF
  refine r_aload_n (i := 0) (k0 := 0) rfl rfl rfl ?_
  refine r_iload_n (i := 1) (k0 := 1) rfl rfl rfl ?_
  refine c_V1I (i := 2) rfl vm_Lb_has lk_Lb_30 (t_Lb_has hn (ok_bind hF)) (Nat.le_of_ble_eq_true rfl) (xm_in rfl hn) rfl rfl (Nat.le_of_ble_eq_true rfl) (fun p_1 hF => ?_)
  refine r_ifeq (i := 3) (tgt := 25) rfl (by decide) (fun hc => ?_) (fun hc => ?_)
  · have hF := ok_it hc hF
    refine r_iconst (v := (-1)) (i := 13) rfl ki_m1 ?_
    have hQ := hq _ (ok_some hF)
    exact r_ireturn (i := 14) rfl rfl rfl hQ
  have hF := ok_if hc hF
  refine r_iload_n (i := 4) (k0 := 1) rfl rfl rfl ?_
  refine r_aload_n (i := 5) (k0 := 0) rfl rfl rfl ?_
  refine q_geti (i := 6) rfl fl_Lb_34 (xm_in rfl hn) rfl ?_
  refine r_icmpge (i := 7) (tgt := 25) rfl (by decide) (fun hc => ?_) (fun hc => ?_)
  · have hF := ok_it hc hF
    refine r_iconst (v := (-1)) (i := 13) rfl ki_m1 ?_
    have hQ := hq _ (ok_some hF)
    exact r_ireturn (i := 14) rfl rfl rfl hQ
  have hF := ok_if hc hF
  refine r_aload_n (i := 8) (k0 := 0) rfl rfl rfl ?_
  refine q_getr (b := 24) (i := 9) rfl fl_Lb_18 rfl (xm_in rfl hn) rfl rfl ?_
  refine r_iload_n (i := 10) (k0 := 1) rfl rfl rfl ?_
  obtain ⟨hi, hF⟩ := ok_gd hF
  refine q_iaload (i := 11) rfl (xm_in rfl hn) rfl hi ?_
  refine r_goto (i := 12) (tgt := 26) rfl (by decide) ?_
  have hQ := hq _ (ok_some hF)
  exact r_ireturn (i := 14) rfl rfl rfl hQ
set_option maxHeartbeats 4000000 in
set_option maxRecDepth 100000 in
theorem t_Lb_drawnPlaceOf {x1 : Int32} {n : Nat} {I : xm_I} {L : xm_L} {K : Int32 → Prop} (hn : 86 ≤ n) (hF : ok (f_Lb_drawnPlaceOf x1 I) K) : xm_C 1 mt_Lb_drawnPlaceOf [.ref 21, .int x1] (I, L, RC n, n) 0 0 (pI (fun p : Int32 => p) (fun p : Int32 => (I, L, RC n, n)) K) := by
  unfold f_Lb_drawnPlaceOf at hF
  refine xm_enter (by decide +kernel) dv_Lb_drawnPlaceOf (Nat.le_of_ble_eq_true rfl) ?_
  exact t_Lb_drawnPlaceOf_b0 hn (fun p hp => ⟨p, rfl, rfl, hp⟩) hF

noncomputable def f_D_placed_b0 (x1 : Int32) (I : xm_I) : Option (Int32) :=
  (f_Lb_has x1 I).bind fun p_1 =>
  if p_1 = 0 then (
    some ((-100001)))
  else (
    (f_Lb_drawnPlaceOf x1 I).bind fun p_2 =>
    some (p_2))
noncomputable def f_D_placed (x1 : Int32) (I : xm_I) : Option (Int32) := f_D_placed_b0 x1 I
set_option maxHeartbeats 4000000 in
set_option maxRecDepth 100000 in
theorem t_D_placed_b0 {x1 : Int32} {n : Nat} {I : xm_I} {L : xm_L} {K : Int32 → Prop} {Q : Option Value → xm_H → Prop} (hn : 86 ≤ n) (hq : ∀ p : Int32, K p → Q (some (.int p)) (I, L, RC n, n)) (hF : ok (f_D_placed_b0 x1 I) K) : xm_J 2 mt_D_placed 0 [(0, .ref 0), (1, .int x1)] [] (I, L, RC n, n) 0 0 Q := by
  unfold f_D_placed_b0 at hF
  refine r_aload_n (i := 0) (k0 := 0) rfl rfl rfl ?_
  refine q_getr (b := 21) (i := 1) rfl fl_D_49 rfl (xm_in rfl hn) rfl rfl ?_
  refine r_iload_n (i := 2) (k0 := 1) rfl rfl rfl ?_
  refine c_V1I (i := 3) rfl vm_Lb_has lk_D_319 (t_Lb_has hn (ok_bind hF)) (Nat.le_of_ble_eq_true rfl) (xm_in rfl hn) rfl rfl (Nat.le_of_ble_eq_true rfl) (fun p_1 hF => ?_)
  refine r_ifne (i := 4) (tgt := 14) rfl (by decide) (fun hc => ?_) (fun hc => ?_)
  · have hF := ok_if hc hF
    refine r_aload_n (i := 7) (k0 := 0) rfl rfl rfl ?_
    refine q_getr (b := 21) (i := 8) rfl fl_D_49 rfl (xm_in rfl hn) rfl rfl ?_
    refine r_iload_n (i := 9) (k0 := 1) rfl rfl rfl ?_
    refine c_V1I (i := 10) rfl vm_Lb_drawnPlaceOf lk_D_320 (t_Lb_drawnPlaceOf hn (ok_bind hF)) (Nat.le_of_ble_eq_true rfl) (xm_in rfl hn) rfl rfl (Nat.le_of_ble_eq_true rfl) (fun p_2 hF => ?_)
    have hQ := hq _ (ok_some hF)
    exact r_ireturn (i := 11) rfl rfl rfl hQ
  have hF := ok_it hc hF
  refine r_ldc (i := 5) rfl ct_D_100 ?_
  have hQ := hq _ (ok_some hF)
  exact r_ireturn (i := 6) rfl rfl rfl hQ
set_option maxHeartbeats 4000000 in
set_option maxRecDepth 100000 in
theorem t_D_placed {x1 : Int32} {n : Nat} {I : xm_I} {L : xm_L} {K : Int32 → Prop} (hn : 86 ≤ n) (hF : ok (f_D_placed x1 I) K) : xm_C 2 mt_D_placed [.ref 0, .int x1] (I, L, RC n, n) 0 0 (pI (fun p : Int32 => p) (fun p : Int32 => (I, L, RC n, n)) K) := by
  unfold f_D_placed at hF
  refine xm_enter (by decide +kernel) dv_D_placed (Nat.le_of_ble_eq_true rfl) ?_
  exact t_D_placed_b0 hn (fun p hp => ⟨p, rfl, rfl, hp⟩) hF

noncomputable def f_Mk_octetCount_b0 (I : xm_I) : Option (Int32) :=
  (f_Mk_has ((I 17 4) - 1) I).bind fun p_1 =>
  if p_1 = 0 then (
    some (0))
  else (
  gd (0 ≤ ((I 17 4) - 1).toInt ∧ ((I 17 4) - 1).toInt < 600) <|
  some (I 19 (Int32.toNatClampNeg ((I 17 4) - 1))))
noncomputable def f_Mk_octetCount (I : xm_I) : Option (Int32) := f_Mk_octetCount_b0 I
set_option maxHeartbeats 4000000 in
set_option maxRecDepth 100000 in
theorem t_Mk_octetCount_b0 {n : Nat} {I : xm_I} {L : xm_L} {K : Int32 → Prop} {Q : Option Value → xm_H → Prop} (hn : 86 ≤ n) (hq : ∀ p : Int32, K p → Q (some (.int p)) (I, L, RC n, n)) (hF : ok (f_Mk_octetCount_b0 I) K) : xm_J 1 mt_Mk_octetCount 0 [(0, .ref 17)] [] (I, L, RC n, n) 0 0 Q := by
  unfold f_Mk_octetCount_b0 at hF
  refine r_aload_n (i := 0) (k0 := 0) rfl rfl rfl ?_
  refine r_aload_n (i := 1) (k0 := 0) rfl rfl rfl ?_
  refine q_geti (i := 2) rfl fl_Mk_25 (xm_in rfl hn) rfl ?_
  refine r_iconst (v := 1) (i := 3) rfl ki_1 ?_
  refine r_isub (i := 4) rfl ?_
  refine c_V1I (i := 5) rfl vm_Mk_has lk_Mk_39 (t_Mk_has hn (ok_bind hF)) (Nat.le_of_ble_eq_true rfl) (xm_in rfl hn) rfl rfl (Nat.le_of_ble_eq_true rfl) (fun p_1 hF => ?_)
  refine r_ifeq (i := 6) (tgt := 27) rfl (by decide) (fun hc => ?_) (fun hc => ?_)
  · have hF := ok_it hc hF
    refine r_iconst (v := 0) (i := 15) rfl ki_0 ?_
    have hQ := hq _ (ok_some hF)
    exact r_ireturn (i := 16) rfl rfl rfl hQ
  have hF := ok_if hc hF
  refine r_aload_n (i := 7) (k0 := 0) rfl rfl rfl ?_
  refine q_getr (b := 19) (i := 8) rfl fl_Mk_15 rfl (xm_in rfl hn) rfl rfl ?_
  refine r_aload_n (i := 9) (k0 := 0) rfl rfl rfl ?_
  refine q_geti (i := 10) rfl fl_Mk_25 (xm_in rfl hn) rfl ?_
  refine r_iconst (v := 1) (i := 11) rfl ki_1 ?_
  refine r_isub (i := 12) rfl ?_
  obtain ⟨hi, hF⟩ := ok_gd hF
  refine q_iaload (i := 13) rfl (xm_in rfl hn) rfl hi ?_
  refine r_goto (i := 14) (tgt := 28) rfl (by decide) ?_
  have hQ := hq _ (ok_some hF)
  exact r_ireturn (i := 16) rfl rfl rfl hQ
set_option maxHeartbeats 4000000 in
set_option maxRecDepth 100000 in
theorem t_Mk_octetCount {n : Nat} {I : xm_I} {L : xm_L} {K : Int32 → Prop} (hn : 86 ≤ n) (hF : ok (f_Mk_octetCount I) K) : xm_C 1 mt_Mk_octetCount [.ref 17] (I, L, RC n, n) 0 0 (pI (fun p : Int32 => p) (fun p : Int32 => (I, L, RC n, n)) K) := by
  unfold f_Mk_octetCount at hF
  refine xm_enter (by decide +kernel) dv_Mk_octetCount (Nat.le_of_ble_eq_true rfl) ?_
  exact t_Mk_octetCount_b0 hn (fun p hp => ⟨p, rfl, rfl, hp⟩) hF

noncomputable def f_Mk_octetAt_s18 (x1 : Int32) (I : xm_I) (s : Int32 × Int32) : Option ((Int32 × Int32) ⊕ (Int32 × xm_I)) :=
  if (I 17 4) ≤ s.2 then (
    some (.inr ((-1), I)))
  else (
  gd (0 ≤ (s.2).toInt ∧ (s.2).toInt < 600) <|
  if (I 19 (Int32.toNatClampNeg s.2)) ≤ x1 then (
    gd (0 ≤ (s.2).toInt ∧ (s.2).toInt < 600) <|
    let x2_1 : Int32 := I 19 (Int32.toNatClampNeg s.2)
    let x3_2 : Int32 := s.2 + 1
    some (.inl (x2_1, x3_2)))
  else (
  (f_Mk_write s.2 I).bind fun p_3 =>
  if (p_3 17 3) ≤ (x1 - s.1) then (
    some (.inr ((-1), p_3)))
  else (
  gd (0 ≤ (x1 - s.1).toInt ∧ (x1 - s.1).toInt < 62) <|
  some (.inr (p_3 20 (Int32.toNatClampNeg (x1 - s.1)), p_3)))))
noncomputable def f_Mk_octetAt_b18 (x1 : Int32) (I : xm_I) (s : Int32 × Int32) : Option (Int32 × xm_I) := lp (f_Mk_octetAt_s18 x1 I) s
noncomputable def f_Mk_octetAt_b0 (x1 : Int32) (I : xm_I) : Option (Int32 × xm_I) :=
  if x1 < 0 then (
    some ((-1), I))
  else (
  (f_Mk_octetCount I).bind fun p_1 =>
  if x1 < p_1 then (
    f_Mk_octetAt_b18 x1 I (0, 0))
  else (
  some ((-1), I)))
noncomputable def f_Mk_octetAt (x1 : Int32) (I : xm_I) : Option (Int32 × xm_I) := f_Mk_octetAt_b0 x1 I
set_option maxHeartbeats 4000000 in
set_option maxRecDepth 100000 in
theorem t_Mk_octetAt_s18 {x1 : Int32} {s : Int32 × Int32} {n : Nat} {I : xm_I} {L : xm_L} {K : (Int32 × Int32) ⊕ (Int32 × xm_I) → Prop} {Q : Option Value → xm_H → Prop} (hn : 86 ≤ n) (hq : ∀ p : Int32 × xm_I, K (.inr p) → Q (some (.int p.1)) (p.2, L, RC n, n)) (hg0 : ∀ s : Int32 × Int32, K (.inl s) → xm_J 3 mt_Mk_octetAt 18 [(0, .ref 17), (1, .int x1), (2, .int s.1), (3, .int s.2)] [] (I, L, RC n, n) 0 0 Q) (hF : ok (f_Mk_octetAt_s18 x1 I s) K) : xm_J 3 mt_Mk_octetAt 18 [(0, .ref 17), (1, .int x1), (2, .int s.1), (3, .int s.2)] [] (I, L, RC n, n) 0 0 Q := by
  unfold f_Mk_octetAt_s18 at hF
  refine r_iload_n (i := 12) (k0 := 3) rfl rfl rfl ?_
  refine r_aload_n (i := 13) (k0 := 0) rfl rfl rfl ?_
  refine q_geti (i := 14) rfl fl_Mk_25 (xm_in rfl hn) rfl ?_
  refine r_icmpge (i := 15) (tgt := 77) rfl (by decide) (fun hc => ?_) (fun hc => ?_)
  · have hF := ok_it hc hF
    refine r_iconst (v := (-1)) (i := 47) rfl ki_m1 ?_
    have hQ := hq _ (ok_some hF)
    exact r_ireturn (i := 48) rfl rfl rfl hQ
  have hF := ok_if hc hF
  refine r_iload_n (i := 16) (k0 := 1) rfl rfl rfl ?_
  refine r_aload_n (i := 17) (k0 := 0) rfl rfl rfl ?_
  refine q_getr (b := 19) (i := 18) rfl fl_Mk_15 rfl (xm_in rfl hn) rfl rfl ?_
  refine r_iload_n (i := 19) (k0 := 3) rfl rfl rfl ?_
  obtain ⟨hi, hF⟩ := ok_gd hF
  refine q_iaload (i := 20) rfl (xm_in rfl hn) rfl hi ?_
  refine r_icmpge (i := 21) (tgt := 64) rfl (by decide) (fun hc => ?_) (fun hc => ?_)
  · have hF := ok_it hc hF
    refine r_aload_n (i := 40) (k0 := 0) rfl rfl rfl ?_
    refine q_getr (b := 19) (i := 41) rfl fl_Mk_15 rfl (xm_in rfl hn) rfl rfl ?_
    refine r_iload_n (i := 42) (k0 := 3) rfl rfl rfl ?_
    obtain ⟨hi, hF⟩ := ok_gd hF
    refine q_iaload (i := 43) rfl (xm_in rfl hn) rfl hi ?_
    refine r_istore_n (i := 44) (Ls' := [(2, _), (0, _), (1, _), (3, _)]) rfl rfl (Nat.le_of_ble_eq_true rfl) rfl ?_
    refine q_iinc (i := 45) (k0 := 3) (Ls' := [(3, _), (2, _), (0, _), (1, _)]) rfl ki_1 rfl (Nat.le_of_ble_eq_true rfl) rfl ?_
    refine r_goto (i := 46) (tgt := 18) rfl (by decide) ?_
    refine xm_sub (Ls' := [(0, _), (1, _), (2, _), (3, _)]) [2, 3, 1, 0] rfl ?_
    have hJ := hg0 _ (ok_some hF)
    exact hJ
  have hF := ok_if hc hF
  refine r_aload_n (i := 22) (k0 := 0) rfl rfl rfl ?_
  refine r_iload_n (i := 23) (k0 := 3) rfl rfl rfl ?_
  refine c_V1V (i := 24) rfl vm_Mk_write lk_Mk_43 (t_Mk_write hn (ok_bind hF)) (Nat.le_of_ble_eq_true rfl) (xm_in rfl hn) rfl rfl (Nat.le_of_ble_eq_true rfl) (fun p_3 hF => ?_)
  refine r_iload_n (i := 25) (k0 := 1) rfl rfl rfl ?_
  refine r_iload_n (i := 26) (k0 := 2) rfl rfl rfl ?_
  refine r_isub (i := 27) rfl ?_
  refine r_aload_n (i := 28) (k0 := 0) rfl rfl rfl ?_
  refine q_geti (i := 29) rfl fl_Mk_46 (xm_in rfl hn) rfl ?_
  refine r_icmpge (i := 30) (tgt := 62) rfl (by decide) (fun hc => ?_) (fun hc => ?_)
  · have hF := ok_it hc hF
    refine r_iconst (v := (-1)) (i := 38) rfl ki_m1 ?_
    have hQ := hq _ (ok_some hF)
    exact r_ireturn (i := 39) rfl rfl rfl hQ
  have hF := ok_if hc hF
  refine r_aload_n (i := 31) (k0 := 0) rfl rfl rfl ?_
  refine q_getr (b := 20) (i := 32) rfl fl_Mk_18 rfl (xm_in rfl hn) rfl rfl ?_
  refine r_iload_n (i := 33) (k0 := 1) rfl rfl rfl ?_
  refine r_iload_n (i := 34) (k0 := 2) rfl rfl rfl ?_
  refine r_isub (i := 35) rfl ?_
  obtain ⟨hi, hF⟩ := ok_gd hF
  refine q_iaload (i := 36) rfl (xm_in rfl hn) rfl hi ?_
  refine r_goto (i := 37) (tgt := 63) rfl (by decide) ?_
  have hQ := hq _ (ok_some hF)
  exact r_ireturn (i := 39) rfl rfl rfl hQ
set_option maxHeartbeats 4000000 in
set_option maxRecDepth 100000 in
theorem t_Mk_octetAt_b18 {x1 : Int32} {s : Int32 × Int32} {n : Nat} {I : xm_I} {L : xm_L} {K : Int32 × xm_I → Prop} {Q : Option Value → xm_H → Prop} (hn : 86 ≤ n) (hq : ∀ p : Int32 × xm_I, K p → Q (some (.int p.1)) (p.2, L, RC n, n)) (hF : ok (f_Mk_octetAt_b18 x1 I s) K) : xm_J 3 mt_Mk_octetAt 18 [(0, .ref 17), (1, .int x1), (2, .int s.1), (3, .int s.2)] [] (I, L, RC n, n) 0 0 Q :=
  lp_J (G := fun z => xm_J 3 mt_Mk_octetAt 18 [(0, .ref 17), (1, .int x1), (2, .int z.1), (3, .int z.2)] [] (I, L, RC n, n) 0 0 Q) (fun z hF => t_Mk_octetAt_s18 hn (fun p h => hq p h) (fun z h => h) hF) s hF
set_option maxHeartbeats 4000000 in
set_option maxRecDepth 100000 in
theorem t_Mk_octetAt_b0 {x1 : Int32} {n : Nat} {I : xm_I} {L : xm_L} {K : Int32 × xm_I → Prop} {Q : Option Value → xm_H → Prop} (hn : 86 ≤ n) (hq : ∀ p : Int32 × xm_I, K p → Q (some (.int p.1)) (p.2, L, RC n, n)) (hF : ok (f_Mk_octetAt_b0 x1 I) K) : xm_J 3 mt_Mk_octetAt 0 [(0, .ref 17), (1, .int x1)] [] (I, L, RC n, n) 0 0 Q := by
  unfold f_Mk_octetAt_b0 at hF
  refine r_iload_n (i := 0) (k0 := 1) rfl rfl rfl ?_
  refine r_iflt (i := 1) (tgt := 12) rfl (by decide) (fun hc => ?_) (fun hc => ?_)
  · have hF := ok_it hc hF
    refine r_iconst (v := (-1)) (i := 6) rfl ki_m1 ?_
    have hQ := hq _ (ok_some hF)
    exact r_ireturn (i := 7) rfl rfl rfl hQ
  have hF := ok_if hc hF
  refine r_iload_n (i := 2) (k0 := 1) rfl rfl rfl ?_
  refine r_aload_n (i := 3) (k0 := 0) rfl rfl rfl ?_
  refine c_V0I (i := 4) rfl vm_Mk_octetCount lk_Mk_49 (t_Mk_octetCount hn (ok_bind hF)) (Nat.le_of_ble_eq_true rfl) (xm_in rfl hn) rfl rfl (Nat.le_of_ble_eq_true rfl) (fun p_1 hF => ?_)
  refine r_icmplt (i := 5) (tgt := 14) rfl (by decide) (fun hc => ?_) (fun hc => ?_)
  · have hF := ok_it hc hF
    refine r_iconst (v := 0) (i := 8) rfl ki_0 ?_
    refine r_istore_n (i := 9) (Ls' := [(2, _), (0, _), (1, _)]) rfl rfl (Nat.le_of_ble_eq_true rfl) rfl ?_
    refine r_iconst (v := 0) (i := 10) rfl ki_0 ?_
    refine r_istore_n (i := 11) (Ls' := [(3, _), (2, _), (0, _), (1, _)]) rfl rfl (Nat.le_of_ble_eq_true rfl) rfl ?_
    refine xm_sub (Ls' := [(0, _), (1, _), (2, _), (3, _)]) [2, 3, 1, 0] rfl ?_
    exact t_Mk_octetAt_b18 hn (fun p h => hq p h) hF
  have hF := ok_if hc hF
  refine r_iconst (v := (-1)) (i := 6) rfl ki_m1 ?_
  have hQ := hq _ (ok_some hF)
  exact r_ireturn (i := 7) rfl rfl rfl hQ
set_option maxHeartbeats 4000000 in
set_option maxRecDepth 100000 in
theorem t_Mk_octetAt {x1 : Int32} {n : Nat} {I : xm_I} {L : xm_L} {K : Int32 × xm_I → Prop} (hn : 86 ≤ n) (hF : ok (f_Mk_octetAt x1 I) K) : xm_C 3 mt_Mk_octetAt [.ref 17, .int x1] (I, L, RC n, n) 0 0 (pI (fun p : Int32 × xm_I => p.1) (fun p : Int32 × xm_I => (p.2, L, RC n, n)) K) := by
  unfold f_Mk_octetAt at hF
  refine xm_enter (by decide +kernel) dv_Mk_octetAt (Nat.le_of_ble_eq_true rfl) ?_
  exact t_Mk_octetAt_b0 hn (fun p hp => ⟨p, rfl, rfl, hp⟩) hF

noncomputable def f_D_octet_b0 (x1 : Int32) (I : xm_I) : Option (Int32 × xm_I) :=
  (f_Mk_octetAt x1 I).bind fun p_1 =>
  some (p_1.1, p_1.2)
noncomputable def f_D_octet (x1 : Int32) (I : xm_I) : Option (Int32 × xm_I) := f_D_octet_b0 x1 I
set_option maxHeartbeats 4000000 in
set_option maxRecDepth 100000 in
theorem t_D_octet_b0 {x1 : Int32} {n : Nat} {I : xm_I} {L : xm_L} {K : Int32 × xm_I → Prop} {Q : Option Value → xm_H → Prop} (hn : 86 ≤ n) (hq : ∀ p : Int32 × xm_I, K p → Q (some (.int p.1)) (p.2, L, RC n, n)) (hF : ok (f_D_octet_b0 x1 I) K) : xm_J 4 mt_D_octet 0 [(0, .ref 0), (1, .int x1)] [] (I, L, RC n, n) 0 0 Q := by
  unfold f_D_octet_b0 at hF
  refine r_aload_n (i := 0) (k0 := 0) rfl rfl rfl ?_
  refine q_getr (b := 17) (i := 1) rfl fl_D_42 rfl (xm_in rfl hn) rfl rfl ?_
  refine r_iload_n (i := 2) (k0 := 1) rfl rfl rfl ?_
  refine c_V1I (i := 3) rfl vm_Mk_octetAt lk_D_323 (t_Mk_octetAt hn (ok_bind hF)) (Nat.le_of_ble_eq_true rfl) (xm_in rfl hn) rfl rfl (Nat.le_of_ble_eq_true rfl) (fun p_1 hF => ?_)
  have hQ := hq _ (ok_some hF)
  exact r_ireturn (i := 4) rfl rfl rfl hQ
set_option maxHeartbeats 4000000 in
set_option maxRecDepth 100000 in
theorem t_D_octet {x1 : Int32} {n : Nat} {I : xm_I} {L : xm_L} {K : Int32 × xm_I → Prop} (hn : 86 ≤ n) (hF : ok (f_D_octet x1 I) K) : xm_C 4 mt_D_octet [.ref 0, .int x1] (I, L, RC n, n) 0 0 (pI (fun p : Int32 × xm_I => p.1) (fun p : Int32 × xm_I => (p.2, L, RC n, n)) K) := by
  unfold f_D_octet at hF
  refine xm_enter (by decide +kernel) dv_D_octet (Nat.le_of_ble_eq_true rfl) ?_
  exact t_D_octet_b0 hn (fun p hp => ⟨p, rfl, rfl, hp⟩) hF

noncomputable def f_D_digest_b0 (I : xm_I) : Option (Int32) :=
  some (I 17 6)
noncomputable def f_D_digest (I : xm_I) : Option (Int32) := f_D_digest_b0 I
set_option maxHeartbeats 4000000 in
set_option maxRecDepth 100000 in
theorem t_D_digest_b0 {n : Nat} {I : xm_I} {L : xm_L} {K : Int32 → Prop} {Q : Option Value → xm_H → Prop} (hn : 86 ≤ n) (hq : ∀ p : Int32, K p → Q (some (.int p)) (I, L, RC n, n)) (hF : ok (f_D_digest_b0 I) K) : xm_J 0 mt_D_digest 0 [(0, .ref 0)] [] (I, L, RC n, n) 0 0 Q := by
  unfold f_D_digest_b0 at hF
  refine r_aload_n (i := 0) (k0 := 0) rfl rfl rfl ?_
  refine q_getr (b := 17) (i := 1) rfl fl_D_42 rfl (xm_in rfl hn) rfl rfl ?_
  refine q_geti (i := 2) rfl fl_D_326 (xm_in rfl hn) rfl ?_
  have hQ := hq _ (ok_some hF)
  exact r_ireturn (i := 3) rfl rfl rfl hQ
set_option maxHeartbeats 4000000 in
set_option maxRecDepth 100000 in
theorem t_D_digest {n : Nat} {I : xm_I} {L : xm_L} {K : Int32 → Prop} (hn : 86 ≤ n) (hF : ok (f_D_digest I) K) : xm_C 0 mt_D_digest [.ref 0] (I, L, RC n, n) 0 0 (pI (fun p : Int32 => p) (fun p : Int32 => (I, L, RC n, n)) K) := by
  unfold f_D_digest at hF
  refine xm_enter (by decide +kernel) dv_D_digest (Nat.le_of_ble_eq_true rfl) ?_
  exact t_D_digest_b0 hn (fun p hp => ⟨p, rfl, rfl, hp⟩) hF

noncomputable def f_D_count_b0 (x1 : Int32) (I : xm_I) : Option (Int32) :=
  if x1 = 0 then (
    some (I 1 4))
  else (
  if x1 = 1 then (
    some (I 6 9))
  else (
  if x1 = 2 then (
    some (I 15 1))
  else (
  if x1 = 3 then (
    some (I 21 3))
  else (
  if x1 = 4 then (
    some (I 1 5))
  else (
  if x1 = 5 then (
    some (I 15 2))
  else (
  if x1 = 6 then (
    some (I 17 4))
  else (
  if x1 = 7 then (
    some (I 17 5))
  else (
  if x1 = 8 then (
    (f_Mk_octetCount I).bind fun p_1 =>
    some (p_1))
  else (
  if x1 = 9 then (
    some (I 21 5))
  else (
  if x1 = 10 then (
    some (I 21 6))
  else (
  if x1 = 11 then (
    some (I 21 7))
  else (
  some ((-100002))))))))))))))
noncomputable def f_D_count (x1 : Int32) (I : xm_I) : Option (Int32) := f_D_count_b0 x1 I
set_option maxHeartbeats 4000000 in
set_option maxRecDepth 100000 in
theorem t_D_count_b0 {x1 : Int32} {n : Nat} {I : xm_I} {L : xm_L} {K : Int32 → Prop} {Q : Option Value → xm_H → Prop} (hn : 86 ≤ n) (hq : ∀ p : Int32, K p → Q (some (.int p)) (I, L, RC n, n)) (hF : ok (f_D_count_b0 x1 I) K) : xm_J 2 mt_D_count 0 [(0, .ref 0), (1, .int x1)] [] (I, L, RC n, n) 0 0 Q := by
  unfold f_D_count_b0 at hF
  refine r_iload_n (i := 0) (k0 := 1) rfl rfl rfl ?_
  refine r_case 0 (fun hc0 => ?_) (fun hc0 => ?_)
  · have hF := ok_it hc0 hF
    refine r_tsIn (i := 1) (tgt := 64) rfl (by decide) (by decide) rfl (by decide) ?_
    refine r_aload_n (i := 2) (k0 := 0) rfl rfl rfl ?_
    refine q_getr (b := 1) (i := 3) rfl fl_D_10 rfl (xm_in rfl hn) rfl rfl ?_
    refine q_geti (i := 4) rfl fl_D_329 (xm_in rfl hn) rfl ?_
    have hQ := hq _ (ok_some hF)
    exact r_ireturn (i := 5) rfl rfl rfl hQ
  have hF := ok_if hc0 hF
  refine r_case 1 (fun hc1 => ?_) (fun hc1 => ?_)
  · have hF := ok_it hc1 hF
    refine r_tsIn (i := 1) (tgt := 72) rfl (by decide) (by decide) rfl (by decide) ?_
    refine r_aload_n (i := 6) (k0 := 0) rfl rfl rfl ?_
    refine q_getr (b := 6) (i := 7) rfl fl_D_21 rfl (xm_in rfl hn) rfl rfl ?_
    refine q_geti (i := 8) rfl fl_D_166 (xm_in rfl hn) rfl ?_
    have hQ := hq _ (ok_some hF)
    exact r_ireturn (i := 9) rfl rfl rfl hQ
  have hF := ok_if hc1 hF
  refine r_case 2 (fun hc2 => ?_) (fun hc2 => ?_)
  · have hF := ok_it hc2 hF
    refine r_tsIn (i := 1) (tgt := 80) rfl (by decide) (by decide) rfl (by decide) ?_
    refine r_aload_n (i := 10) (k0 := 0) rfl rfl rfl ?_
    refine q_getr (b := 15) (i := 11) rfl fl_D_35 rfl (xm_in rfl hn) rfl rfl ?_
    refine q_geti (i := 12) rfl fl_D_330 (xm_in rfl hn) rfl ?_
    have hQ := hq _ (ok_some hF)
    exact r_ireturn (i := 13) rfl rfl rfl hQ
  have hF := ok_if hc2 hF
  refine r_case 3 (fun hc3 => ?_) (fun hc3 => ?_)
  · have hF := ok_it hc3 hF
    refine r_tsIn (i := 1) (tgt := 88) rfl (by decide) (by decide) rfl (by decide) ?_
    refine r_aload_n (i := 14) (k0 := 0) rfl rfl rfl ?_
    refine q_getr (b := 21) (i := 15) rfl fl_D_49 rfl (xm_in rfl hn) rfl rfl ?_
    refine q_geti (i := 16) rfl fl_D_331 (xm_in rfl hn) rfl ?_
    have hQ := hq _ (ok_some hF)
    exact r_ireturn (i := 17) rfl rfl rfl hQ
  have hF := ok_if hc3 hF
  refine r_case 4 (fun hc4 => ?_) (fun hc4 => ?_)
  · have hF := ok_it hc4 hF
    refine r_tsIn (i := 1) (tgt := 96) rfl (by decide) (by decide) rfl (by decide) ?_
    refine r_aload_n (i := 18) (k0 := 0) rfl rfl rfl ?_
    refine q_getr (b := 1) (i := 19) rfl fl_D_10 rfl (xm_in rfl hn) rfl rfl ?_
    refine q_geti (i := 20) rfl fl_D_105 (xm_in rfl hn) rfl ?_
    have hQ := hq _ (ok_some hF)
    exact r_ireturn (i := 21) rfl rfl rfl hQ
  have hF := ok_if hc4 hF
  refine r_case 5 (fun hc5 => ?_) (fun hc5 => ?_)
  · have hF := ok_it hc5 hF
    refine r_tsIn (i := 1) (tgt := 104) rfl (by decide) (by decide) rfl (by decide) ?_
    refine r_aload_n (i := 22) (k0 := 0) rfl rfl rfl ?_
    refine q_getr (b := 15) (i := 23) rfl fl_D_35 rfl (xm_in rfl hn) rfl rfl ?_
    refine q_geti (i := 24) rfl fl_D_266 (xm_in rfl hn) rfl ?_
    have hQ := hq _ (ok_some hF)
    exact r_ireturn (i := 25) rfl rfl rfl hQ
  have hF := ok_if hc5 hF
  refine r_case 6 (fun hc6 => ?_) (fun hc6 => ?_)
  · have hF := ok_it hc6 hF
    refine r_tsIn (i := 1) (tgt := 112) rfl (by decide) (by decide) rfl (by decide) ?_
    refine r_aload_n (i := 26) (k0 := 0) rfl rfl rfl ?_
    refine q_getr (b := 17) (i := 27) rfl fl_D_42 rfl (xm_in rfl hn) rfl rfl ?_
    refine q_geti (i := 28) rfl fl_D_314 (xm_in rfl hn) rfl ?_
    have hQ := hq _ (ok_some hF)
    exact r_ireturn (i := 29) rfl rfl rfl hQ
  have hF := ok_if hc6 hF
  refine r_case 7 (fun hc7 => ?_) (fun hc7 => ?_)
  · have hF := ok_it hc7 hF
    refine r_tsIn (i := 1) (tgt := 120) rfl (by decide) (by decide) rfl (by decide) ?_
    refine r_aload_n (i := 30) (k0 := 0) rfl rfl rfl ?_
    refine q_getr (b := 17) (i := 31) rfl fl_D_42 rfl (xm_in rfl hn) rfl rfl ?_
    refine q_geti (i := 32) rfl fl_D_332 (xm_in rfl hn) rfl ?_
    have hQ := hq _ (ok_some hF)
    exact r_ireturn (i := 33) rfl rfl rfl hQ
  have hF := ok_if hc7 hF
  refine r_case 8 (fun hc8 => ?_) (fun hc8 => ?_)
  · have hF := ok_it hc8 hF
    refine r_tsIn (i := 1) (tgt := 128) rfl (by decide) (by decide) rfl (by decide) ?_
    refine r_aload_n (i := 34) (k0 := 0) rfl rfl rfl ?_
    refine q_getr (b := 17) (i := 35) rfl fl_D_42 rfl (xm_in rfl hn) rfl rfl ?_
    refine c_V0I (i := 36) rfl vm_Mk_octetCount lk_D_335 (t_Mk_octetCount hn (ok_bind hF)) (Nat.le_of_ble_eq_true rfl) (xm_in rfl hn) rfl rfl (Nat.le_of_ble_eq_true rfl) (fun p_1 hF => ?_)
    have hQ := hq _ (ok_some hF)
    exact r_ireturn (i := 37) rfl rfl rfl hQ
  have hF := ok_if hc8 hF
  refine r_case 9 (fun hc9 => ?_) (fun hc9 => ?_)
  · have hF := ok_it hc9 hF
    refine r_tsIn (i := 1) (tgt := 136) rfl (by decide) (by decide) rfl (by decide) ?_
    refine r_aload_n (i := 38) (k0 := 0) rfl rfl rfl ?_
    refine q_getr (b := 21) (i := 39) rfl fl_D_49 rfl (xm_in rfl hn) rfl rfl ?_
    refine q_geti (i := 40) rfl fl_D_338 (xm_in rfl hn) rfl ?_
    have hQ := hq _ (ok_some hF)
    exact r_ireturn (i := 41) rfl rfl rfl hQ
  have hF := ok_if hc9 hF
  refine r_case 10 (fun hc10 => ?_) (fun hc10 => ?_)
  · have hF := ok_it hc10 hF
    refine r_tsIn (i := 1) (tgt := 144) rfl (by decide) (by decide) rfl (by decide) ?_
    refine r_aload_n (i := 42) (k0 := 0) rfl rfl rfl ?_
    refine q_getr (b := 21) (i := 43) rfl fl_D_49 rfl (xm_in rfl hn) rfl rfl ?_
    refine q_geti (i := 44) rfl fl_D_341 (xm_in rfl hn) rfl ?_
    have hQ := hq _ (ok_some hF)
    exact r_ireturn (i := 45) rfl rfl rfl hQ
  have hF := ok_if hc10 hF
  refine r_case 11 (fun hc11 => ?_) (fun hc11 => ?_)
  · have hF := ok_it hc11 hF
    refine r_tsIn (i := 1) (tgt := 152) rfl (by decide) (by decide) rfl (by decide) ?_
    refine r_aload_n (i := 46) (k0 := 0) rfl rfl rfl ?_
    refine q_getr (b := 21) (i := 47) rfl fl_D_49 rfl (xm_in rfl hn) rfl rfl ?_
    refine q_geti (i := 48) rfl fl_D_344 (xm_in rfl hn) rfl ?_
    have hQ := hq _ (ok_some hF)
    exact r_ireturn (i := 49) rfl rfl rfl hQ
  have hF := ok_if hc11 hF
  refine r_tsOut (i := 1) (tgt := 160) rfl (by have e0 := lv_neT hc0 (a := 0) (by decide); have e1 := lv_neT hc1 (a := 1) (by decide); have e2 := lv_neT hc2 (a := 2) (by decide); have e3 := lv_neT hc3 (a := 3) (by decide); have e4 := lv_neT hc4 (a := 4) (by decide); have e5 := lv_neT hc5 (a := 5) (by decide); have e6 := lv_neT hc6 (a := 6) (by decide); have e7 := lv_neT hc7 (a := 7) (by decide); have e8 := lv_neT hc8 (a := 8) (by decide); have e9 := lv_neT hc9 (a := 9) (by decide); have e10 := lv_neT hc10 (a := 10) (by decide); have e11 := lv_neT hc11 (a := 11) (by decide); omega) (by decide) ?_
  refine r_ldc (i := 50) rfl ct_D_86 ?_
  have hQ := hq _ (ok_some hF)
  exact r_ireturn (i := 51) rfl rfl rfl hQ
set_option maxHeartbeats 4000000 in
set_option maxRecDepth 100000 in
theorem t_D_count {x1 : Int32} {n : Nat} {I : xm_I} {L : xm_L} {K : Int32 → Prop} (hn : 86 ≤ n) (hF : ok (f_D_count x1 I) K) : xm_C 2 mt_D_count [.ref 0, .int x1] (I, L, RC n, n) 0 0 (pI (fun p : Int32 => p) (fun p : Int32 => (I, L, RC n, n)) K) := by
  unfold f_D_count at hF
  refine xm_enter (by decide +kernel) dv_D_count (Nat.le_of_ble_eq_true rfl) ?_
  exact t_D_count_b0 hn (fun p hp => ⟨p, rfl, rfl, hp⟩) hF

noncomputable def f_D_code_b0 (I : xm_I) : Option (Int32) :=
  some (I 0 9)
noncomputable def f_D_code (I : xm_I) : Option (Int32) := f_D_code_b0 I
set_option maxHeartbeats 4000000 in
set_option maxRecDepth 100000 in
theorem t_D_code_b0 {n : Nat} {I : xm_I} {L : xm_L} {K : Int32 → Prop} {Q : Option Value → xm_H → Prop} (hn : 86 ≤ n) (hq : ∀ p : Int32, K p → Q (some (.int p)) (I, L, RC n, n)) (hF : ok (f_D_code_b0 I) K) : xm_J 0 mt_D_code 0 [(0, .ref 0)] [] (I, L, RC n, n) 0 0 Q := by
  unfold f_D_code_b0 at hF
  refine r_aload_n (i := 0) (k0 := 0) rfl rfl rfl ?_
  refine q_geti (i := 1) rfl fl_D_78 (xm_in rfl hn) rfl ?_
  have hQ := hq _ (ok_some hF)
  exact r_ireturn (i := 2) rfl rfl rfl hQ
set_option maxHeartbeats 4000000 in
set_option maxRecDepth 100000 in
theorem t_D_code {n : Nat} {I : xm_I} {L : xm_L} {K : Int32 → Prop} (hn : 86 ≤ n) (hF : ok (f_D_code I) K) : xm_C 0 mt_D_code [.ref 0] (I, L, RC n, n) 0 0 (pI (fun p : Int32 => p) (fun p : Int32 => (I, L, RC n, n)) K) := by
  unfold f_D_code at hF
  refine xm_enter (by decide +kernel) dv_D_code (Nat.le_of_ble_eq_true rfl) ?_
  exact t_D_code_b0 hn (fun p hp => ⟨p, rfl, rfl, hp⟩) hF

noncomputable def f_Gr_isNumber_b0 (x0 : Int32) : Option (Int32) :=
  if x0 < 0 then (
    some (0))
  else (
  if 6 ≤ x0 then (
    some (0))
  else (
  some (1)))
noncomputable def f_Gr_isNumber (x0 : Int32) : Option (Int32) := f_Gr_isNumber_b0 x0
set_option maxHeartbeats 4000000 in
set_option maxRecDepth 100000 in
theorem t_Gr_isNumber_b0 {x0 : Int32} {n : Nat} {I : xm_I} {L : xm_L} {K : Int32 → Prop} {Q : Option Value → xm_H → Prop} (hn : 86 ≤ n) (hq : ∀ p : Int32, K p → Q (some (.int p)) (I, L, RC n, n)) (hF : ok (f_Gr_isNumber_b0 x0) K) : xm_J 0 mt_Gr_isNumber 0 [(0, .int x0)] [] (I, L, RC n, n) 0 0 Q := by
  unfold f_Gr_isNumber_b0 at hF
  refine r_iload_n (i := 0) (k0 := 0) rfl rfl rfl ?_
  refine r_iflt (i := 1) (tgt := 14) rfl (by decide) (fun hc => ?_) (fun hc => ?_)
  · have hF := ok_it hc hF
    refine r_iconst (v := 0) (i := 7) rfl ki_0 ?_
    have hQ := hq _ (ok_some hF)
    exact r_ireturn (i := 8) rfl rfl rfl hQ
  have hF := ok_if hc hF
  refine r_iload_n (i := 2) (k0 := 0) rfl rfl rfl ?_
  refine r_bipush (v := 6) (i := 3) rfl kb_6 ?_
  refine r_icmpge (i := 4) (tgt := 14) rfl (by decide) (fun hc => ?_) (fun hc => ?_)
  · have hF := ok_it hc hF
    refine r_iconst (v := 0) (i := 7) rfl ki_0 ?_
    have hQ := hq _ (ok_some hF)
    exact r_ireturn (i := 8) rfl rfl rfl hQ
  have hF := ok_if hc hF
  refine r_iconst (v := 1) (i := 5) rfl ki_1 ?_
  refine r_goto (i := 6) (tgt := 15) rfl (by decide) ?_
  have hQ := hq _ (ok_some hF)
  exact r_ireturn (i := 8) rfl rfl rfl hQ
set_option maxHeartbeats 4000000 in
set_option maxRecDepth 100000 in
theorem t_Gr_isNumber {x0 : Int32} {n : Nat} {I : xm_I} {L : xm_L} {K : Int32 → Prop} (hn : 86 ≤ n) (hF : ok (f_Gr_isNumber x0) K) : xm_C 0 mt_Gr_isNumber [.int x0] (I, L, RC n, n) 0 0 (pI (fun p : Int32 => p) (fun p : Int32 => (I, L, RC n, n)) K) := by
  unfold f_Gr_isNumber at hF
  refine xm_enter (by decide +kernel) dv_Gr_isNumber (Nat.le_of_ble_eq_true rfl) ?_
  exact t_Gr_isNumber_b0 hn (fun p hp => ⟨p, rfl, rfl, hp⟩) hF

noncomputable def f_Gr_make_s42 (x1 : Int32) (x3 : Int32) (s : Int32 × xm_I) : Option ((Int32 × xm_I) ⊕ (xm_I)) :=
  if x3 ≤ s.1 then (
    some (.inr (s.2)))
  else (
  gd (0 ≤ ((x1 * 64) + s.1).toInt ∧ ((x1 * 64) + s.1).toInt < 384) <|
  let I_1 : xm_I := up2 s.2 29 (Int32.toNatClampNeg ((x1 * 64) + s.1)) ((-1))
  let x4_2 : Int32 := s.1 + 1
  some (.inl (x4_2, I_1)))
noncomputable def f_Gr_make_b42 (x1 : Int32) (x3 : Int32) (s : Int32 × xm_I) : Option (xm_I) := lp (f_Gr_make_s42 x1 x3) s
noncomputable def f_Gr_make_b0 (x1 : Int32) (x2 : Int32) (x3 : Int32) (I : xm_I) : Option (xm_I) :=
  (f_Gr_isNumber x1).bind fun p_1 =>
  if p_1 = 0 then (
    some (I))
  else (
  if x3 < 0 then (
    some (I))
  else (
  if x3 ≤ 64 then (
    gd (0 ≤ (x1).toInt ∧ (x1).toInt < 6) <|
    let I_2 : xm_I := up2 I 26 (Int32.toNatClampNeg x1) (1 &&& 1)
    gd (0 ≤ (x1).toInt ∧ (x1).toInt < 6) <|
    let I_3 : xm_I := up2 I_2 27 (Int32.toNatClampNeg x1) x2
    gd (0 ≤ (x1).toInt ∧ (x1).toInt < 6) <|
    let I_4 : xm_I := up2 I_3 28 (Int32.toNatClampNeg x1) x3
    f_Gr_make_b42 x1 x3 (0, I_4))
  else (
  some (I))))
noncomputable def f_Gr_make (x1 : Int32) (x2 : Int32) (x3 : Int32) (I : xm_I) : Option (xm_I) := f_Gr_make_b0 x1 x2 x3 I
set_option maxHeartbeats 4000000 in
set_option maxRecDepth 100000 in
theorem t_Gr_make_s42 {x1 : Int32} {x3 : Int32} {s : Int32 × xm_I} {n : Nat} {L : xm_L} {K : (Int32 × xm_I) ⊕ (xm_I) → Prop} {Q : Option Value → xm_H → Prop} (hn : 86 ≤ n) (hq : ∀ p : xm_I, K (.inr p) → Q none (p, L, RC n, n)) (hg0 : ∀ s : Int32 × xm_I, K (.inl s) → xm_J 1 mt_Gr_make 42 [(0, .ref 25), (1, .int x1), (3, .int x3), (4, .int s.1)] [] (s.2, L, RC n, n) 0 0 Q) (hF : ok (f_Gr_make_s42 x1 x3 s) K) : xm_J 1 mt_Gr_make 42 [(0, .ref 25), (1, .int x1), (3, .int x3), (4, .int s.1)] [] (s.2, L, RC n, n) 0 0 Q := by
  unfold f_Gr_make_s42 at hF
  refine r_iload (i := 26) (k0 := 3) rfl rfl ?_
  refine r_iload_n (i := 27) (k0 := 2) rfl rfl rfl ?_
  refine r_icmpge (i := 28) (tgt := 67) rfl (by decide) (fun hc => ?_) (fun hc => ?_)
  · have hF := ok_it hc hF
    have hQ := hq _ (ok_some hF)
    exact r_return (i := 40) rfl rfl hQ
  have hF := ok_if hc hF
  refine r_aload_n (i := 29) (k0 := 0) rfl rfl rfl ?_
  refine q_getr (b := 29) (i := 30) rfl fl_Gr_22 rfl (xm_in rfl hn) rfl rfl ?_
  refine r_iload_n (i := 31) (k0 := 1) rfl rfl rfl ?_
  refine r_bipush (v := 64) (i := 32) rfl kb_64 ?_
  refine r_imul (i := 33) rfl ?_
  refine r_iload (i := 34) (k0 := 3) rfl rfl ?_
  refine r_iadd (i := 35) rfl ?_
  refine r_iconst (v := (-1)) (i := 36) rfl ki_m1 ?_
  obtain ⟨hi, hF⟩ := ok_gd hF
  refine q_iastore (i := 37) rfl (xm_in rfl hn) rfl hi ?_
  refine q_iinc (i := 38) (k0 := 3) (Ls' := [(4, _), (0, _), (1, _), (3, _)]) rfl ki_1 rfl (Nat.le_of_ble_eq_true rfl) rfl ?_
  refine r_goto (i := 39) (tgt := 42) rfl (by decide) ?_
  refine xm_sub (Ls' := [(0, _), (1, _), (3, _), (4, _)]) [1, 2, 3, 0] rfl ?_
  have hJ := hg0 _ (ok_some hF)
  exact hJ
set_option maxHeartbeats 4000000 in
set_option maxRecDepth 100000 in
theorem t_Gr_make_b42 {x1 : Int32} {x3 : Int32} {s : Int32 × xm_I} {n : Nat} {L : xm_L} {K : xm_I → Prop} {Q : Option Value → xm_H → Prop} (hn : 86 ≤ n) (hq : ∀ p : xm_I, K p → Q none (p, L, RC n, n)) (hF : ok (f_Gr_make_b42 x1 x3 s) K) : xm_J 1 mt_Gr_make 42 [(0, .ref 25), (1, .int x1), (3, .int x3), (4, .int s.1)] [] (s.2, L, RC n, n) 0 0 Q :=
  lp_J (G := fun z => xm_J 1 mt_Gr_make 42 [(0, .ref 25), (1, .int x1), (3, .int x3), (4, .int z.1)] [] (z.2, L, RC n, n) 0 0 Q) (fun z hF => t_Gr_make_s42 hn (fun p h => hq p h) (fun z h => h) hF) s hF
set_option maxHeartbeats 4000000 in
set_option maxRecDepth 100000 in
theorem t_Gr_make_b0 {x1 : Int32} {x2 : Int32} {x3 : Int32} {n : Nat} {I : xm_I} {L : xm_L} {K : xm_I → Prop} {Q : Option Value → xm_H → Prop} (hn : 86 ≤ n) (hq : ∀ p : xm_I, K p → Q none (p, L, RC n, n)) (hF : ok (f_Gr_make_b0 x1 x2 x3 I) K) : xm_J 1 mt_Gr_make 0 [(0, .ref 25), (1, .int x1), (2, .int x2), (3, .int x3)] [] (I, L, RC n, n) 0 0 Q := by
  unfold f_Gr_make_b0 at hF
  refine r_iload_n (i := 0) (k0 := 1) rfl rfl rfl ?_
  refine c_S1I (i := 1) rfl sm_Gr_isNumber lk_Gr_25 (t_Gr_isNumber hn (ok_bind hF)) (Nat.le_of_ble_eq_true rfl) rfl (Nat.le_of_ble_eq_true rfl) (fun p_1 hF => ?_)
  refine r_ifeq (i := 2) (tgt := 17) rfl (by decide) (fun hc => ?_) (fun hc => ?_)
  · have hF := ok_it hc hF
    have hQ := hq _ (ok_some hF)
    exact r_return (i := 8) rfl rfl hQ
  have hF := ok_if hc hF
  refine r_iload_n (i := 3) (k0 := 3) rfl rfl rfl ?_
  refine r_iflt (i := 4) (tgt := 17) rfl (by decide) (fun hc => ?_) (fun hc => ?_)
  · have hF := ok_it hc hF
    have hQ := hq _ (ok_some hF)
    exact r_return (i := 8) rfl rfl hQ
  have hF := ok_if hc hF
  refine r_iload_n (i := 5) (k0 := 3) rfl rfl rfl ?_
  refine r_bipush (v := 64) (i := 6) rfl kb_64 ?_
  refine r_icmple (i := 7) (tgt := 18) rfl (by decide) (fun hc => ?_) (fun hc => ?_)
  · have hF := ok_it hc hF
    refine r_aload_n (i := 9) (k0 := 0) rfl rfl rfl ?_
    refine q_getr (b := 26) (i := 10) rfl fl_Gr_11 rfl (xm_in rfl hn) rfl rfl ?_
    refine r_iload_n (i := 11) (k0 := 1) rfl rfl rfl ?_
    refine r_iconst (v := 1) (i := 12) rfl ki_1 ?_
    obtain ⟨hi, hF⟩ := ok_gd hF
    refine q_bastore (i := 13) rfl (xm_in rfl hn) rfl hi ?_
    refine r_aload_n (i := 14) (k0 := 0) rfl rfl rfl ?_
    refine q_getr (b := 27) (i := 15) rfl fl_Gr_15 rfl (xm_in rfl hn) rfl rfl ?_
    refine r_iload_n (i := 16) (k0 := 1) rfl rfl rfl ?_
    refine r_iload_n (i := 17) (k0 := 2) rfl rfl rfl ?_
    obtain ⟨hi, hF⟩ := ok_gd hF
    refine q_iastore (i := 18) rfl (xm_in rfl hn) rfl hi ?_
    refine r_aload_n (i := 19) (k0 := 0) rfl rfl rfl ?_
    refine q_getr (b := 28) (i := 20) rfl fl_Gr_19 rfl (xm_in rfl hn) rfl rfl ?_
    refine r_iload_n (i := 21) (k0 := 1) rfl rfl rfl ?_
    refine r_iload_n (i := 22) (k0 := 3) rfl rfl rfl ?_
    obtain ⟨hi, hF⟩ := ok_gd hF
    refine q_iastore (i := 23) rfl (xm_in rfl hn) rfl hi ?_
    refine r_iconst (v := 0) (i := 24) rfl ki_0 ?_
    refine r_istore (i := 25) (Ls' := [(4, _), (0, _), (1, _), (2, _), (3, _)]) rfl (Nat.le_of_ble_eq_true rfl) rfl ?_
    refine xm_sub (Ls' := [(0, _), (1, _), (3, _), (4, _)]) [1, 2, 4, 0] rfl ?_
    exact t_Gr_make_b42 hn (fun p h => hq p h) hF
  have hF := ok_if hc hF
  have hQ := hq _ (ok_some hF)
  exact r_return (i := 8) rfl rfl hQ
set_option maxHeartbeats 4000000 in
set_option maxRecDepth 100000 in
theorem t_Gr_make {x1 : Int32} {x2 : Int32} {x3 : Int32} {n : Nat} {I : xm_I} {L : xm_L} {K : xm_I → Prop} (hn : 86 ≤ n) (hF : ok (f_Gr_make x1 x2 x3 I) K) : xm_C 1 mt_Gr_make [.ref 25, .int x1, .int x2, .int x3] (I, L, RC n, n) 0 0 (pV (fun p : xm_I => (p, L, RC n, n)) K) := by
  unfold f_Gr_make at hF
  refine xm_enter (by decide +kernel) dv_Gr_make (Nat.le_of_ble_eq_true rfl) ?_
  exact t_Gr_make_b0 hn (fun p hp => ⟨p, rfl, rfl, hp⟩) hF

noncomputable def f_D_group_b0 (x1 : Int32) (x2 : Int32) (x3 : Int32) (I : xm_I) : Option (Int32 × xm_I) :=
  (f_Gr_isNumber x1).bind fun p_1 =>
  if p_1 = 0 then (
    some ((-100002), I))
  else (
  (f_D_isWithin x2 0 8).bind fun p_2 =>
  if p_2 = 0 then (
    some ((-100002), I))
  else (
  if x3 ≤ 64 then (
    if 0 ≤ x3 then (
      (f_Gr_make x1 x2 x3 I).bind fun p_3 =>
      let I_4 : xm_I := up2 p_3 0 9 0
      some (x3, I_4))
    else (
    (f_D_endWith 4 I).bind fun p_5 =>
    some (p_5.1, p_5.2)))
  else (
  some ((-100002), I))))
noncomputable def f_D_group (x1 : Int32) (x2 : Int32) (x3 : Int32) (I : xm_I) : Option (Int32 × xm_I) := f_D_group_b0 x1 x2 x3 I
set_option maxHeartbeats 4000000 in
set_option maxRecDepth 100000 in
theorem t_D_group_b0 {x1 : Int32} {x2 : Int32} {x3 : Int32} {n : Nat} {I : xm_I} {L : xm_L} {K : Int32 × xm_I → Prop} {Q : Option Value → xm_H → Prop} (hn : 86 ≤ n) (hq : ∀ p : Int32 × xm_I, K p → Q (some (.int p.1)) (p.2, L, RC n, n)) (hF : ok (f_D_group_b0 x1 x2 x3 I) K) : xm_J 2 mt_D_group 0 [(0, .ref 0), (1, .int x1), (2, .int x2), (3, .int x3)] [] (I, L, RC n, n) 0 0 Q := by
  unfold f_D_group_b0 at hF
  refine r_iload_n (i := 0) (k0 := 1) rfl rfl rfl ?_
  refine c_S1I (i := 1) rfl sm_Gr_isNumber lk_D_347 (t_Gr_isNumber hn (ok_bind hF)) (Nat.le_of_ble_eq_true rfl) rfl (Nat.le_of_ble_eq_true rfl) (fun p_1 hF => ?_)
  refine r_ifeq (i := 2) (tgt := 23) rfl (by decide) (fun hc => ?_) (fun hc => ?_)
  · have hF := ok_it hc hF
    refine r_ldc (i := 11) rfl ct_D_86 ?_
    have hQ := hq _ (ok_some hF)
    exact r_ireturn (i := 12) rfl rfl rfl hQ
  have hF := ok_if hc hF
  refine r_iload_n (i := 3) (k0 := 2) rfl rfl rfl ?_
  refine r_iconst (v := 0) (i := 4) rfl ki_0 ?_
  refine r_bipush (v := 8) (i := 5) rfl kb_8 ?_
  refine c_S3I (i := 6) rfl sm_D_isWithin lk_D_82 (t_D_isWithin hn (ok_bind hF)) (Nat.le_of_ble_eq_true rfl) rfl (Nat.le_of_ble_eq_true rfl) (fun p_2 hF => ?_)
  refine r_ifeq (i := 7) (tgt := 23) rfl (by decide) (fun hc => ?_) (fun hc => ?_)
  · have hF := ok_it hc hF
    refine r_ldc (i := 11) rfl ct_D_86 ?_
    have hQ := hq _ (ok_some hF)
    exact r_ireturn (i := 12) rfl rfl rfl hQ
  have hF := ok_if hc hF
  refine r_iload_n (i := 8) (k0 := 3) rfl rfl rfl ?_
  refine r_bipush (v := 64) (i := 9) rfl kb_64 ?_
  refine r_icmple (i := 10) (tgt := 26) rfl (by decide) (fun hc => ?_) (fun hc => ?_)
  · have hF := ok_it hc hF
    refine r_iload_n (i := 13) (k0 := 3) rfl rfl rfl ?_
    refine r_ifge (i := 14) (tgt := 36) rfl (by decide) (fun hc => ?_) (fun hc => ?_)
    · have hF := ok_it hc hF
      refine r_aload_n (i := 19) (k0 := 0) rfl rfl rfl ?_
      refine q_getr (b := 25) (i := 20) rfl fl_D_56 rfl (xm_in rfl hn) rfl rfl ?_
      refine r_iload_n (i := 21) (k0 := 1) rfl rfl rfl ?_
      refine r_iload_n (i := 22) (k0 := 2) rfl rfl rfl ?_
      refine r_iload_n (i := 23) (k0 := 3) rfl rfl rfl ?_
      refine c_V3V (i := 24) rfl vm_Gr_make lk_D_350 (t_Gr_make hn (ok_bind hF)) (Nat.le_of_ble_eq_true rfl) (xm_in rfl hn) rfl rfl (Nat.le_of_ble_eq_true rfl) (fun p_3 hF => ?_)
      refine r_aload_n (i := 25) (k0 := 0) rfl rfl rfl ?_
      refine r_iconst (v := 0) (i := 26) rfl ki_0 ?_
      refine q_puti (i := 27) rfl fl_D_78 (fun h => Bool.noConfusion h) (xm_in rfl hn) rfl ?_
      refine r_iload_n (i := 28) (k0 := 3) rfl rfl rfl ?_
      have hQ := hq _ (ok_some hF)
      exact r_ireturn (i := 29) rfl rfl rfl hQ
    have hF := ok_if hc hF
    refine r_aload_n (i := 15) (k0 := 0) rfl rfl rfl ?_
    refine r_iconst (v := 4) (i := 16) rfl ki_4 ?_
    refine c_V1I (i := 17) rfl vm_D_endWith lk_D_210 (t_D_endWith hn (ok_bind hF)) (Nat.le_of_ble_eq_true rfl) (xm_in rfl hn) rfl rfl (Nat.le_of_ble_eq_true rfl) (fun p_5 hF => ?_)
    have hQ := hq _ (ok_some hF)
    exact r_ireturn (i := 18) rfl rfl rfl hQ
  have hF := ok_if hc hF
  refine r_ldc (i := 11) rfl ct_D_86 ?_
  have hQ := hq _ (ok_some hF)
  exact r_ireturn (i := 12) rfl rfl rfl hQ
set_option maxHeartbeats 4000000 in
set_option maxRecDepth 100000 in
theorem t_D_group {x1 : Int32} {x2 : Int32} {x3 : Int32} {n : Nat} {I : xm_I} {L : xm_L} {K : Int32 × xm_I → Prop} (hn : 86 ≤ n) (hF : ok (f_D_group x1 x2 x3 I) K) : xm_C 2 mt_D_group [.ref 0, .int x1, .int x2, .int x3] (I, L, RC n, n) 0 0 (pI (fun p : Int32 × xm_I => p.1) (fun p : Int32 × xm_I => (p.2, L, RC n, n)) K) := by
  unfold f_D_group at hF
  refine xm_enter (by decide +kernel) dv_D_group (Nat.le_of_ble_eq_true rfl) ?_
  exact t_D_group_b0 hn (fun p hp => ⟨p, rfl, rfl, hp⟩) hF

noncomputable def f_Gr_isMade_b0 (x1 : Int32) (I : xm_I) : Option (Int32) :=
  (f_Gr_isNumber x1).bind fun p_1 =>
  if p_1 = 0 then (
    some (0))
  else (
  gd (0 ≤ (x1).toInt ∧ (x1).toInt < 6) <|
  if (I 26 (Int32.toNatClampNeg x1)) = 0 then (
    some (0))
  else (
  some (1)))
noncomputable def f_Gr_isMade (x1 : Int32) (I : xm_I) : Option (Int32) := f_Gr_isMade_b0 x1 I
set_option maxHeartbeats 4000000 in
set_option maxRecDepth 100000 in
theorem t_Gr_isMade_b0 {x1 : Int32} {n : Nat} {I : xm_I} {L : xm_L} {K : Int32 → Prop} {Q : Option Value → xm_H → Prop} (hn : 86 ≤ n) (hq : ∀ p : Int32, K p → Q (some (.int p)) (I, L, RC n, n)) (hF : ok (f_Gr_isMade_b0 x1 I) K) : xm_J 1 mt_Gr_isMade 0 [(0, .ref 25), (1, .int x1)] [] (I, L, RC n, n) 0 0 Q := by
  unfold f_Gr_isMade_b0 at hF
  refine r_iload_n (i := 0) (k0 := 1) rfl rfl rfl ?_
  refine c_S1I (i := 1) rfl sm_Gr_isNumber lk_Gr_25 (t_Gr_isNumber hn (ok_bind hF)) (Nat.le_of_ble_eq_true rfl) rfl (Nat.le_of_ble_eq_true rfl) (fun p_1 hF => ?_)
  refine r_ifeq (i := 2) (tgt := 20) rfl (by decide) (fun hc => ?_) (fun hc => ?_)
  · have hF := ok_it hc hF
    refine r_iconst (v := 0) (i := 10) rfl ki_0 ?_
    have hQ := hq _ (ok_some hF)
    exact r_ireturn (i := 11) rfl rfl rfl hQ
  have hF := ok_if hc hF
  refine r_aload_n (i := 3) (k0 := 0) rfl rfl rfl ?_
  refine q_getr (b := 26) (i := 4) rfl fl_Gr_11 rfl (xm_in rfl hn) rfl rfl ?_
  refine r_iload_n (i := 5) (k0 := 1) rfl rfl rfl ?_
  obtain ⟨hi, hF⟩ := ok_gd hF
  refine q_baload (i := 6) rfl (xm_in rfl hn) rfl hi ?_
  refine r_ifeq (i := 7) (tgt := 20) rfl (by decide) (fun hc => ?_) (fun hc => ?_)
  · have hF := ok_it hc hF
    refine r_iconst (v := 0) (i := 10) rfl ki_0 ?_
    have hQ := hq _ (ok_some hF)
    exact r_ireturn (i := 11) rfl rfl rfl hQ
  have hF := ok_if hc hF
  refine r_iconst (v := 1) (i := 8) rfl ki_1 ?_
  refine r_goto (i := 9) (tgt := 21) rfl (by decide) ?_
  have hQ := hq _ (ok_some hF)
  exact r_ireturn (i := 11) rfl rfl rfl hQ
set_option maxHeartbeats 4000000 in
set_option maxRecDepth 100000 in
theorem t_Gr_isMade {x1 : Int32} {n : Nat} {I : xm_I} {L : xm_L} {K : Int32 → Prop} (hn : 86 ≤ n) (hF : ok (f_Gr_isMade x1 I) K) : xm_C 1 mt_Gr_isMade [.ref 25, .int x1] (I, L, RC n, n) 0 0 (pI (fun p : Int32 => p) (fun p : Int32 => (I, L, RC n, n)) K) := by
  unfold f_Gr_isMade at hF
  refine xm_enter (by decide +kernel) dv_Gr_isMade (Nat.le_of_ble_eq_true rfl) ?_
  exact t_Gr_isMade_b0 hn (fun p hp => ⟨p, rfl, rfl, hp⟩) hF

noncomputable def f_Gr_placesOf_b0 (x1 : Int32) (I : xm_I) : Option (Int32) :=
  (f_Gr_isMade x1 I).bind fun p_1 =>
  if p_1 = 0 then (
    some (0))
  else (
  gd (0 ≤ (x1).toInt ∧ (x1).toInt < 6) <|
  some (I 28 (Int32.toNatClampNeg x1)))
noncomputable def f_Gr_placesOf (x1 : Int32) (I : xm_I) : Option (Int32) := f_Gr_placesOf_b0 x1 I
set_option maxHeartbeats 4000000 in
set_option maxRecDepth 100000 in
theorem t_Gr_placesOf_b0 {x1 : Int32} {n : Nat} {I : xm_I} {L : xm_L} {K : Int32 → Prop} {Q : Option Value → xm_H → Prop} (hn : 86 ≤ n) (hq : ∀ p : Int32, K p → Q (some (.int p)) (I, L, RC n, n)) (hF : ok (f_Gr_placesOf_b0 x1 I) K) : xm_J 2 mt_Gr_placesOf 0 [(0, .ref 25), (1, .int x1)] [] (I, L, RC n, n) 0 0 Q := by
  unfold f_Gr_placesOf_b0 at hF
  refine r_aload_n (i := 0) (k0 := 0) rfl rfl rfl ?_
  refine r_iload_n (i := 1) (k0 := 1) rfl rfl rfl ?_
  refine c_V1I (i := 2) rfl vm_Gr_isMade lk_Gr_29 (t_Gr_isMade hn (ok_bind hF)) (Nat.le_of_ble_eq_true rfl) (xm_in rfl hn) rfl rfl (Nat.le_of_ble_eq_true rfl) (fun p_1 hF => ?_)
  refine r_ifeq (i := 3) (tgt := 17) rfl (by decide) (fun hc => ?_) (fun hc => ?_)
  · have hF := ok_it hc hF
    refine r_iconst (v := 0) (i := 9) rfl ki_0 ?_
    have hQ := hq _ (ok_some hF)
    exact r_ireturn (i := 10) rfl rfl rfl hQ
  have hF := ok_if hc hF
  refine r_aload_n (i := 4) (k0 := 0) rfl rfl rfl ?_
  refine q_getr (b := 28) (i := 5) rfl fl_Gr_19 rfl (xm_in rfl hn) rfl rfl ?_
  refine r_iload_n (i := 6) (k0 := 1) rfl rfl rfl ?_
  obtain ⟨hi, hF⟩ := ok_gd hF
  refine q_iaload (i := 7) rfl (xm_in rfl hn) rfl hi ?_
  refine r_goto (i := 8) (tgt := 18) rfl (by decide) ?_
  have hQ := hq _ (ok_some hF)
  exact r_ireturn (i := 10) rfl rfl rfl hQ
set_option maxHeartbeats 4000000 in
set_option maxRecDepth 100000 in
theorem t_Gr_placesOf {x1 : Int32} {n : Nat} {I : xm_I} {L : xm_L} {K : Int32 → Prop} (hn : 86 ≤ n) (hF : ok (f_Gr_placesOf x1 I) K) : xm_C 2 mt_Gr_placesOf [.ref 25, .int x1] (I, L, RC n, n) 0 0 (pI (fun p : Int32 => p) (fun p : Int32 => (I, L, RC n, n)) K) := by
  unfold f_Gr_placesOf at hF
  refine xm_enter (by decide +kernel) dv_Gr_placesOf (Nat.le_of_ble_eq_true rfl) ?_
  exact t_Gr_placesOf_b0 hn (fun p hp => ⟨p, rfl, rfl, hp⟩) hF

noncomputable def f_Gr_hasPlace_b0 (x1 : Int32) (x2 : Int32) (I : xm_I) : Option (Int32) :=
  if x2 < 0 then (
    some (0))
  else (
  (f_Gr_placesOf x1 I).bind fun p_1 =>
  if p_1 ≤ x2 then (
    some (0))
  else (
  if 64 ≤ x2 then (
    some (0))
  else (
  some (1))))
noncomputable def f_Gr_hasPlace (x1 : Int32) (x2 : Int32) (I : xm_I) : Option (Int32) := f_Gr_hasPlace_b0 x1 x2 I
set_option maxHeartbeats 4000000 in
set_option maxRecDepth 100000 in
theorem t_Gr_hasPlace_b0 {x1 : Int32} {x2 : Int32} {n : Nat} {I : xm_I} {L : xm_L} {K : Int32 → Prop} {Q : Option Value → xm_H → Prop} (hn : 86 ≤ n) (hq : ∀ p : Int32, K p → Q (some (.int p)) (I, L, RC n, n)) (hF : ok (f_Gr_hasPlace_b0 x1 x2 I) K) : xm_J 3 mt_Gr_hasPlace 0 [(0, .ref 25), (1, .int x1), (2, .int x2)] [] (I, L, RC n, n) 0 0 Q := by
  unfold f_Gr_hasPlace_b0 at hF
  refine r_iload_n (i := 0) (k0 := 2) rfl rfl rfl ?_
  refine r_iflt (i := 1) (tgt := 23) rfl (by decide) (fun hc => ?_) (fun hc => ?_)
  · have hF := ok_it hc hF
    refine r_iconst (v := 0) (i := 12) rfl ki_0 ?_
    have hQ := hq _ (ok_some hF)
    exact r_ireturn (i := 13) rfl rfl rfl hQ
  have hF := ok_if hc hF
  refine r_iload_n (i := 2) (k0 := 2) rfl rfl rfl ?_
  refine r_aload_n (i := 3) (k0 := 0) rfl rfl rfl ?_
  refine r_iload_n (i := 4) (k0 := 1) rfl rfl rfl ?_
  refine c_V1I (i := 5) rfl vm_Gr_placesOf lk_Gr_32 (t_Gr_placesOf hn (ok_bind hF)) (Nat.le_of_ble_eq_true rfl) (xm_in rfl hn) rfl rfl (Nat.le_of_ble_eq_true rfl) (fun p_1 hF => ?_)
  refine r_icmpge (i := 6) (tgt := 23) rfl (by decide) (fun hc => ?_) (fun hc => ?_)
  · have hF := ok_it hc hF
    refine r_iconst (v := 0) (i := 12) rfl ki_0 ?_
    have hQ := hq _ (ok_some hF)
    exact r_ireturn (i := 13) rfl rfl rfl hQ
  have hF := ok_if hc hF
  refine r_iload_n (i := 7) (k0 := 2) rfl rfl rfl ?_
  refine r_bipush (v := 64) (i := 8) rfl kb_64 ?_
  refine r_icmpge (i := 9) (tgt := 23) rfl (by decide) (fun hc => ?_) (fun hc => ?_)
  · have hF := ok_it hc hF
    refine r_iconst (v := 0) (i := 12) rfl ki_0 ?_
    have hQ := hq _ (ok_some hF)
    exact r_ireturn (i := 13) rfl rfl rfl hQ
  have hF := ok_if hc hF
  refine r_iconst (v := 1) (i := 10) rfl ki_1 ?_
  refine r_goto (i := 11) (tgt := 24) rfl (by decide) ?_
  have hQ := hq _ (ok_some hF)
  exact r_ireturn (i := 13) rfl rfl rfl hQ
set_option maxHeartbeats 4000000 in
set_option maxRecDepth 100000 in
theorem t_Gr_hasPlace {x1 : Int32} {x2 : Int32} {n : Nat} {I : xm_I} {L : xm_L} {K : Int32 → Prop} (hn : 86 ≤ n) (hF : ok (f_Gr_hasPlace x1 x2 I) K) : xm_C 3 mt_Gr_hasPlace [.ref 25, .int x1, .int x2] (I, L, RC n, n) 0 0 (pI (fun p : Int32 => p) (fun p : Int32 => (I, L, RC n, n)) K) := by
  unfold f_Gr_hasPlace at hF
  refine xm_enter (by decide +kernel) dv_Gr_hasPlace (Nat.le_of_ble_eq_true rfl) ?_
  exact t_Gr_hasPlace_b0 hn (fun p hp => ⟨p, rfl, rfl, hp⟩) hF

noncomputable def f_Gr_setMember_b0 (x1 : Int32) (x2 : Int32) (x3 : Int32) (I : xm_I) : Option (xm_I) :=
  (f_Gr_hasPlace x1 x2 I).bind fun p_1 =>
  if p_1 = 0 then (
    some (I))
  else (
  gd (0 ≤ ((x1 * 64) + x2).toInt ∧ ((x1 * 64) + x2).toInt < 384) <|
  let I_2 : xm_I := up2 I 29 (Int32.toNatClampNeg ((x1 * 64) + x2)) x3
  some (I_2))
noncomputable def f_Gr_setMember (x1 : Int32) (x2 : Int32) (x3 : Int32) (I : xm_I) : Option (xm_I) := f_Gr_setMember_b0 x1 x2 x3 I
set_option maxHeartbeats 4000000 in
set_option maxRecDepth 100000 in
theorem t_Gr_setMember_b0 {x1 : Int32} {x2 : Int32} {x3 : Int32} {n : Nat} {I : xm_I} {L : xm_L} {K : xm_I → Prop} {Q : Option Value → xm_H → Prop} (hn : 86 ≤ n) (hq : ∀ p : xm_I, K p → Q none (p, L, RC n, n)) (hF : ok (f_Gr_setMember_b0 x1 x2 x3 I) K) : xm_J 4 mt_Gr_setMember 0 [(0, .ref 25), (1, .int x1), (2, .int x2), (3, .int x3)] [] (I, L, RC n, n) 0 0 Q := by
  unfold f_Gr_setMember_b0 at hF
  refine r_aload_n (i := 0) (k0 := 0) rfl rfl rfl ?_
  refine r_iload_n (i := 1) (k0 := 1) rfl rfl rfl ?_
  refine r_iload_n (i := 2) (k0 := 2) rfl rfl rfl ?_
  refine c_V2I (i := 3) rfl vm_Gr_hasPlace lk_Gr_36 (t_Gr_hasPlace hn (ok_bind hF)) (Nat.le_of_ble_eq_true rfl) (xm_in rfl hn) rfl rfl (Nat.le_of_ble_eq_true rfl) (fun p_1 hF => ?_)
  refine r_ifeq (i := 4) (tgt := 21) rfl (by decide) (fun hc => ?_) (fun hc => ?_)
  · have hF := ok_it hc hF
    have hQ := hq _ (ok_some hF)
    exact r_return (i := 14) rfl rfl hQ
  have hF := ok_if hc hF
  refine r_aload_n (i := 5) (k0 := 0) rfl rfl rfl ?_
  refine q_getr (b := 29) (i := 6) rfl fl_Gr_22 rfl (xm_in rfl hn) rfl rfl ?_
  refine r_iload_n (i := 7) (k0 := 1) rfl rfl rfl ?_
  refine r_bipush (v := 64) (i := 8) rfl kb_64 ?_
  refine r_imul (i := 9) rfl ?_
  refine r_iload_n (i := 10) (k0 := 2) rfl rfl rfl ?_
  refine r_iadd (i := 11) rfl ?_
  refine r_iload_n (i := 12) (k0 := 3) rfl rfl rfl ?_
  obtain ⟨hi, hF⟩ := ok_gd hF
  refine q_iastore (i := 13) rfl (xm_in rfl hn) rfl hi ?_
  have hQ := hq _ (ok_some hF)
  exact r_return (i := 14) rfl rfl hQ
set_option maxHeartbeats 4000000 in
set_option maxRecDepth 100000 in
theorem t_Gr_setMember {x1 : Int32} {x2 : Int32} {x3 : Int32} {n : Nat} {I : xm_I} {L : xm_L} {K : xm_I → Prop} (hn : 86 ≤ n) (hF : ok (f_Gr_setMember x1 x2 x3 I) K) : xm_C 4 mt_Gr_setMember [.ref 25, .int x1, .int x2, .int x3] (I, L, RC n, n) 0 0 (pV (fun p : xm_I => (p, L, RC n, n)) K) := by
  unfold f_Gr_setMember at hF
  refine xm_enter (by decide +kernel) dv_Gr_setMember (Nat.le_of_ble_eq_true rfl) ?_
  exact t_Gr_setMember_b0 hn (fun p hp => ⟨p, rfl, rfl, hp⟩) hF

noncomputable def f_Gr_takes_b0 (x1 : Int32) (x2 : Int32) (I : xm_I) : Option (Int32) :=
  (f_Gr_isMade x1 I).bind fun p_1 =>
  if p_1 = 0 then (
    some (0))
  else (
  gd (0 ≤ (x1).toInt ∧ (x1).toInt < 6) <|
  if (I 27 (Int32.toNatClampNeg x1)) = 8 then (
    some (1))
  else (
  gd (0 ≤ (x1).toInt ∧ (x1).toInt < 6) <|
  if (I 27 (Int32.toNatClampNeg x1)) = x2 then (
    some (1))
  else (
    some (0))))
noncomputable def f_Gr_takes (x1 : Int32) (x2 : Int32) (I : xm_I) : Option (Int32) := f_Gr_takes_b0 x1 x2 I
set_option maxHeartbeats 4000000 in
set_option maxRecDepth 100000 in
theorem t_Gr_takes_b0 {x1 : Int32} {x2 : Int32} {n : Nat} {I : xm_I} {L : xm_L} {K : Int32 → Prop} {Q : Option Value → xm_H → Prop} (hn : 86 ≤ n) (hq : ∀ p : Int32, K p → Q (some (.int p)) (I, L, RC n, n)) (hF : ok (f_Gr_takes_b0 x1 x2 I) K) : xm_J 2 mt_Gr_takes 0 [(0, .ref 25), (1, .int x1), (2, .int x2)] [] (I, L, RC n, n) 0 0 Q := by
  unfold f_Gr_takes_b0 at hF
  refine r_aload_n (i := 0) (k0 := 0) rfl rfl rfl ?_
  refine r_iload_n (i := 1) (k0 := 1) rfl rfl rfl ?_
  refine c_V1I (i := 2) rfl vm_Gr_isMade lk_Gr_29 (t_Gr_isMade hn (ok_bind hF)) (Nat.le_of_ble_eq_true rfl) (xm_in rfl hn) rfl rfl (Nat.le_of_ble_eq_true rfl) (fun p_1 hF => ?_)
  refine r_ifeq (i := 3) (tgt := 33) rfl (by decide) (fun hc => ?_) (fun hc => ?_)
  · have hF := ok_it hc hF
    refine r_iconst (v := 0) (i := 18) rfl ki_0 ?_
    have hQ := hq _ (ok_some hF)
    exact r_ireturn (i := 19) rfl rfl rfl hQ
  have hF := ok_if hc hF
  refine r_aload_n (i := 4) (k0 := 0) rfl rfl rfl ?_
  refine q_getr (b := 27) (i := 5) rfl fl_Gr_15 rfl (xm_in rfl hn) rfl rfl ?_
  refine r_iload_n (i := 6) (k0 := 1) rfl rfl rfl ?_
  obtain ⟨hi, hF⟩ := ok_gd hF
  refine q_iaload (i := 7) rfl (xm_in rfl hn) rfl hi ?_
  refine r_bipush (v := 8) (i := 8) rfl kb_8 ?_
  refine r_icmpeq (i := 9) (tgt := 29) rfl (by decide) (fun hc => ?_) (fun hc => ?_)
  · have hF := ok_it hc hF
    refine r_iconst (v := 1) (i := 16) rfl ki_1 ?_
    refine r_goto (i := 17) (tgt := 34) rfl (by decide) ?_
    have hQ := hq _ (ok_some hF)
    exact r_ireturn (i := 19) rfl rfl rfl hQ
  have hF := ok_if hc hF
  refine r_aload_n (i := 10) (k0 := 0) rfl rfl rfl ?_
  refine q_getr (b := 27) (i := 11) rfl fl_Gr_15 rfl (xm_in rfl hn) rfl rfl ?_
  refine r_iload_n (i := 12) (k0 := 1) rfl rfl rfl ?_
  obtain ⟨hi, hF⟩ := ok_gd hF
  refine q_iaload (i := 13) rfl (xm_in rfl hn) rfl hi ?_
  refine r_iload_n (i := 14) (k0 := 2) rfl rfl rfl ?_
  refine r_icmpne (i := 15) (tgt := 33) rfl (by decide) (fun hc => ?_) (fun hc => ?_)
  · have hF := ok_if hc hF
    refine r_iconst (v := 0) (i := 18) rfl ki_0 ?_
    have hQ := hq _ (ok_some hF)
    exact r_ireturn (i := 19) rfl rfl rfl hQ
  have hF := ok_it hc hF
  refine r_iconst (v := 1) (i := 16) rfl ki_1 ?_
  refine r_goto (i := 17) (tgt := 34) rfl (by decide) ?_
  have hQ := hq _ (ok_some hF)
  exact r_ireturn (i := 19) rfl rfl rfl hQ
set_option maxHeartbeats 4000000 in
set_option maxRecDepth 100000 in
theorem t_Gr_takes {x1 : Int32} {x2 : Int32} {n : Nat} {I : xm_I} {L : xm_L} {K : Int32 → Prop} (hn : 86 ≤ n) (hF : ok (f_Gr_takes x1 x2 I) K) : xm_C 2 mt_Gr_takes [.ref 25, .int x1, .int x2] (I, L, RC n, n) 0 0 (pI (fun p : Int32 => p) (fun p : Int32 => (I, L, RC n, n)) K) := by
  unfold f_Gr_takes at hF
  refine xm_enter (by decide +kernel) dv_Gr_takes (Nat.le_of_ble_eq_true rfl) ?_
  exact t_Gr_takes_b0 hn (fun p hp => ⟨p, rfl, rfl, hp⟩) hF

noncomputable def f_D_put_b94 (x1 : Int32) (x2 : Int32) (x3 : Int32) (I : xm_I) : Option (Int32 × xm_I) :=
  (f_Gr_setMember x1 x2 x3 I).bind fun p_1 =>
  let I_2 : xm_I := up2 p_1 0 9 0
  some (1, I_2)
noncomputable def f_D_put_b19 (x1 : Int32) (x2 : Int32) (x3 : Int32) (I : xm_I) : Option (Int32 × xm_I) :=
  (f_Gr_isNumber x1).bind fun p_1 =>
  if p_1 = 0 then (
    some ((-100002), I))
  else (
    (f_Gr_isMade x1 I).bind fun p_2 =>
    if p_2 = 0 then (
      (f_D_endWith 1 I).bind fun p_8 =>
      some (p_8.1, p_8.2))
    else (
      (f_Gr_hasPlace x1 x2 I).bind fun p_3 =>
      if p_3 = 0 then (
        (f_D_endWith 3 I).bind fun p_7 =>
        some (p_7.1, p_7.2))
      else (
        if x3 = ((-1)) then (
          f_D_put_b94 x1 x2 x3 I)
        else (
        (f_Fg_kindOf x3 I).bind fun p_4 =>
        (f_Gr_takes x1 p_4 I).bind fun p_5 =>
        if p_5 = 0 then (
          (f_D_endWith 2 I).bind fun p_6 =>
          some (p_6.1, p_6.2))
        else (
          f_D_put_b94 x1 x2 x3 I)))))
noncomputable def f_D_put_b0 (x1 : Int32) (x2 : Int32) (x3 : Int32) (I : xm_I) : Option (Int32 × xm_I) :=
  if x3 = ((-1)) then (
    f_D_put_b19 x1 x2 x3 I)
  else (
  (f_Fg_has x3 I).bind fun p_1 =>
  if p_1 = 0 then (
    some ((-100001), I))
  else (
    f_D_put_b19 x1 x2 x3 I))
noncomputable def f_D_put (x1 : Int32) (x2 : Int32) (x3 : Int32) (I : xm_I) : Option (Int32 × xm_I) := f_D_put_b0 x1 x2 x3 I
set_option maxHeartbeats 4000000 in
set_option maxRecDepth 100000 in
theorem t_D_put_b94 {x1 : Int32} {x2 : Int32} {x3 : Int32} {n : Nat} {I : xm_I} {L : xm_L} {K : Int32 × xm_I → Prop} {Q : Option Value → xm_H → Prop} (hn : 86 ≤ n) (hq : ∀ p : Int32 × xm_I, K p → Q (some (.int p.1)) (p.2, L, RC n, n)) (hF : ok (f_D_put_b94 x1 x2 x3 I) K) : xm_J 5 mt_D_put 94 [(0, .ref 0), (1, .int x1), (2, .int x2), (3, .int x3)] [] (I, L, RC n, n) 0 0 Q := by
  unfold f_D_put_b94 at hF
  refine r_aload_n (i := 50) (k0 := 0) rfl rfl rfl ?_
  refine q_getr (b := 25) (i := 51) rfl fl_D_56 rfl (xm_in rfl hn) rfl rfl ?_
  refine r_iload_n (i := 52) (k0 := 1) rfl rfl rfl ?_
  refine r_iload_n (i := 53) (k0 := 2) rfl rfl rfl ?_
  refine r_iload_n (i := 54) (k0 := 3) rfl rfl rfl ?_
  refine c_V3V (i := 55) rfl vm_Gr_setMember lk_D_362 (t_Gr_setMember hn (ok_bind hF)) (Nat.le_of_ble_eq_true rfl) (xm_in rfl hn) rfl rfl (Nat.le_of_ble_eq_true rfl) (fun p_1 hF => ?_)
  refine r_aload_n (i := 56) (k0 := 0) rfl rfl rfl ?_
  refine r_iconst (v := 0) (i := 57) rfl ki_0 ?_
  refine q_puti (i := 58) rfl fl_D_78 (fun h => Bool.noConfusion h) (xm_in rfl hn) rfl ?_
  refine r_iconst (v := 1) (i := 59) rfl ki_1 ?_
  have hQ := hq _ (ok_some hF)
  exact r_ireturn (i := 60) rfl rfl rfl hQ
set_option maxHeartbeats 4000000 in
set_option maxRecDepth 100000 in
theorem t_D_put_b19 {x1 : Int32} {x2 : Int32} {x3 : Int32} {n : Nat} {I : xm_I} {L : xm_L} {K : Int32 × xm_I → Prop} {Q : Option Value → xm_H → Prop} (hn : 86 ≤ n) (hq : ∀ p : Int32 × xm_I, K p → Q (some (.int p.1)) (p.2, L, RC n, n)) (hF : ok (f_D_put_b19 x1 x2 x3 I) K) : xm_J 5 mt_D_put 19 [(0, .ref 0), (1, .int x1), (2, .int x2), (3, .int x3)] [] (I, L, RC n, n) 0 0 Q := by
  unfold f_D_put_b19 at hF
  refine r_iload_n (i := 10) (k0 := 1) rfl rfl rfl ?_
  refine c_S1I (i := 11) rfl sm_Gr_isNumber lk_D_347 (t_Gr_isNumber hn (ok_bind hF)) (Nat.le_of_ble_eq_true rfl) rfl (Nat.le_of_ble_eq_true rfl) (fun p_1 hF => ?_)
  refine r_ifne (i := 12) (tgt := 29) rfl (by decide) (fun hc => ?_) (fun hc => ?_)
  · have hF := ok_if hc hF
    refine r_aload_n (i := 15) (k0 := 0) rfl rfl rfl ?_
    refine q_getr (b := 25) (i := 16) rfl fl_D_56 rfl (xm_in rfl hn) rfl rfl ?_
    refine r_iload_n (i := 17) (k0 := 1) rfl rfl rfl ?_
    refine c_V1I (i := 18) rfl vm_Gr_isMade lk_D_353 (t_Gr_isMade hn (ok_bind hF)) (Nat.le_of_ble_eq_true rfl) (xm_in rfl hn) rfl rfl (Nat.le_of_ble_eq_true rfl) (fun p_2 hF => ?_)
    refine r_ifne (i := 19) (tgt := 46) rfl (by decide) (fun hc => ?_) (fun hc => ?_)
    · have hF := ok_if hc hF
      refine r_aload_n (i := 24) (k0 := 0) rfl rfl rfl ?_
      refine q_getr (b := 25) (i := 25) rfl fl_D_56 rfl (xm_in rfl hn) rfl rfl ?_
      refine r_iload_n (i := 26) (k0 := 1) rfl rfl rfl ?_
      refine r_iload_n (i := 27) (k0 := 2) rfl rfl rfl ?_
      refine c_V2I (i := 28) rfl vm_Gr_hasPlace lk_D_356 (t_Gr_hasPlace hn (ok_bind hF)) (Nat.le_of_ble_eq_true rfl) (xm_in rfl hn) rfl rfl (Nat.le_of_ble_eq_true rfl) (fun p_3 hF => ?_)
      refine r_ifne (i := 29) (tgt := 64) rfl (by decide) (fun hc => ?_) (fun hc => ?_)
      · have hF := ok_if hc hF
        refine r_iload_n (i := 34) (k0 := 3) rfl rfl rfl ?_
        refine r_iconst (v := (-1)) (i := 35) rfl ki_m1 ?_
        refine r_icmpeq (i := 36) (tgt := 94) rfl (by decide) (fun hc => ?_) (fun hc => ?_)
        · have hF := ok_it hc hF
          exact t_D_put_b94 hn (fun p h => hq p h) hF
        have hF := ok_if hc hF
        refine r_aload_n (i := 37) (k0 := 0) rfl rfl rfl ?_
        refine q_getr (b := 25) (i := 38) rfl fl_D_56 rfl (xm_in rfl hn) rfl rfl ?_
        refine r_iload_n (i := 39) (k0 := 1) rfl rfl rfl ?_
        refine r_aload_n (i := 40) (k0 := 0) rfl rfl rfl ?_
        refine q_getr (b := 6) (i := 41) rfl fl_D_21 rfl (xm_in rfl hn) rfl rfl ?_
        refine r_iload_n (i := 42) (k0 := 3) rfl rfl rfl ?_
        refine c_V1I (i := 43) rfl vm_Fg_kindOf lk_D_153 (t_Fg_kindOf hn (ok_bind hF)) (Nat.le_of_ble_eq_true rfl) (xm_in rfl hn) rfl rfl (Nat.le_of_ble_eq_true rfl) (fun p_4 hF => ?_)
        refine c_V2I (i := 44) rfl vm_Gr_takes lk_D_359 (t_Gr_takes hn (ok_bind hF)) (Nat.le_of_ble_eq_true rfl) (xm_in rfl hn) rfl rfl (Nat.le_of_ble_eq_true rfl) (fun p_5 hF => ?_)
        refine r_ifne (i := 45) (tgt := 94) rfl (by decide) (fun hc => ?_) (fun hc => ?_)
        · have hF := ok_if hc hF
          exact t_D_put_b94 hn (fun p h => hq p h) hF
        have hF := ok_it hc hF
        refine r_aload_n (i := 46) (k0 := 0) rfl rfl rfl ?_
        refine r_iconst (v := 2) (i := 47) rfl ki_2 ?_
        refine c_V1I (i := 48) rfl vm_D_endWith lk_D_210 (t_D_endWith hn (ok_bind hF)) (Nat.le_of_ble_eq_true rfl) (xm_in rfl hn) rfl rfl (Nat.le_of_ble_eq_true rfl) (fun p_6 hF => ?_)
        have hQ := hq _ (ok_some hF)
        exact r_ireturn (i := 49) rfl rfl rfl hQ
      have hF := ok_it hc hF
      refine r_aload_n (i := 30) (k0 := 0) rfl rfl rfl ?_
      refine r_iconst (v := 3) (i := 31) rfl ki_3 ?_
      refine c_V1I (i := 32) rfl vm_D_endWith lk_D_210 (t_D_endWith hn (ok_bind hF)) (Nat.le_of_ble_eq_true rfl) (xm_in rfl hn) rfl rfl (Nat.le_of_ble_eq_true rfl) (fun p_7 hF => ?_)
      have hQ := hq _ (ok_some hF)
      exact r_ireturn (i := 33) rfl rfl rfl hQ
    have hF := ok_it hc hF
    refine r_aload_n (i := 20) (k0 := 0) rfl rfl rfl ?_
    refine r_iconst (v := 1) (i := 21) rfl ki_1 ?_
    refine c_V1I (i := 22) rfl vm_D_endWith lk_D_210 (t_D_endWith hn (ok_bind hF)) (Nat.le_of_ble_eq_true rfl) (xm_in rfl hn) rfl rfl (Nat.le_of_ble_eq_true rfl) (fun p_8 hF => ?_)
    have hQ := hq _ (ok_some hF)
    exact r_ireturn (i := 23) rfl rfl rfl hQ
  have hF := ok_it hc hF
  refine r_ldc (i := 13) rfl ct_D_86 ?_
  have hQ := hq _ (ok_some hF)
  exact r_ireturn (i := 14) rfl rfl rfl hQ
set_option maxHeartbeats 4000000 in
set_option maxRecDepth 100000 in
theorem t_D_put_b0 {x1 : Int32} {x2 : Int32} {x3 : Int32} {n : Nat} {I : xm_I} {L : xm_L} {K : Int32 × xm_I → Prop} {Q : Option Value → xm_H → Prop} (hn : 86 ≤ n) (hq : ∀ p : Int32 × xm_I, K p → Q (some (.int p.1)) (p.2, L, RC n, n)) (hF : ok (f_D_put_b0 x1 x2 x3 I) K) : xm_J 5 mt_D_put 0 [(0, .ref 0), (1, .int x1), (2, .int x2), (3, .int x3)] [] (I, L, RC n, n) 0 0 Q := by
  unfold f_D_put_b0 at hF
  refine r_iload_n (i := 0) (k0 := 3) rfl rfl rfl ?_
  refine r_iconst (v := (-1)) (i := 1) rfl ki_m1 ?_
  refine r_icmpeq (i := 2) (tgt := 19) rfl (by decide) (fun hc => ?_) (fun hc => ?_)
  · have hF := ok_it hc hF
    exact t_D_put_b19 hn (fun p h => hq p h) hF
  have hF := ok_if hc hF
  refine r_aload_n (i := 3) (k0 := 0) rfl rfl rfl ?_
  refine q_getr (b := 6) (i := 4) rfl fl_D_21 rfl (xm_in rfl hn) rfl rfl ?_
  refine r_iload_n (i := 5) (k0 := 3) rfl rfl rfl ?_
  refine c_V1I (i := 6) rfl vm_Fg_has lk_D_133 (t_Fg_has hn (ok_bind hF)) (Nat.le_of_ble_eq_true rfl) (xm_in rfl hn) rfl rfl (Nat.le_of_ble_eq_true rfl) (fun p_1 hF => ?_)
  refine r_ifne (i := 7) (tgt := 19) rfl (by decide) (fun hc => ?_) (fun hc => ?_)
  · have hF := ok_if hc hF
    exact t_D_put_b19 hn (fun p h => hq p h) hF
  have hF := ok_it hc hF
  refine r_ldc (i := 8) rfl ct_D_100 ?_
  have hQ := hq _ (ok_some hF)
  exact r_ireturn (i := 9) rfl rfl rfl hQ
set_option maxHeartbeats 4000000 in
set_option maxRecDepth 100000 in
theorem t_D_put {x1 : Int32} {x2 : Int32} {x3 : Int32} {n : Nat} {I : xm_I} {L : xm_L} {K : Int32 × xm_I → Prop} (hn : 86 ≤ n) (hF : ok (f_D_put x1 x2 x3 I) K) : xm_C 5 mt_D_put [.ref 0, .int x1, .int x2, .int x3] (I, L, RC n, n) 0 0 (pI (fun p : Int32 × xm_I => p.1) (fun p : Int32 × xm_I => (p.2, L, RC n, n)) K) := by
  unfold f_D_put at hF
  refine xm_enter (by decide +kernel) dv_D_put (Nat.le_of_ble_eq_true rfl) ?_
  exact t_D_put_b0 hn (fun p hp => ⟨p, rfl, rfl, hp⟩) hF

noncomputable def f_Gr_memberAt_b0 (x1 : Int32) (x2 : Int32) (I : xm_I) : Option (Int32) :=
  (f_Gr_hasPlace x1 x2 I).bind fun p_1 =>
  if p_1 = 0 then (
    some ((-1)))
  else (
  gd (0 ≤ ((x1 * 64) + x2).toInt ∧ ((x1 * 64) + x2).toInt < 384) <|
  some (I 29 (Int32.toNatClampNeg ((x1 * 64) + x2))))
noncomputable def f_Gr_memberAt (x1 : Int32) (x2 : Int32) (I : xm_I) : Option (Int32) := f_Gr_memberAt_b0 x1 x2 I
set_option maxHeartbeats 4000000 in
set_option maxRecDepth 100000 in
theorem t_Gr_memberAt_b0 {x1 : Int32} {x2 : Int32} {n : Nat} {I : xm_I} {L : xm_L} {K : Int32 → Prop} {Q : Option Value → xm_H → Prop} (hn : 86 ≤ n) (hq : ∀ p : Int32, K p → Q (some (.int p)) (I, L, RC n, n)) (hF : ok (f_Gr_memberAt_b0 x1 x2 I) K) : xm_J 4 mt_Gr_memberAt 0 [(0, .ref 25), (1, .int x1), (2, .int x2)] [] (I, L, RC n, n) 0 0 Q := by
  unfold f_Gr_memberAt_b0 at hF
  refine r_aload_n (i := 0) (k0 := 0) rfl rfl rfl ?_
  refine r_iload_n (i := 1) (k0 := 1) rfl rfl rfl ?_
  refine r_iload_n (i := 2) (k0 := 2) rfl rfl rfl ?_
  refine c_V2I (i := 3) rfl vm_Gr_hasPlace lk_Gr_36 (t_Gr_hasPlace hn (ok_bind hF)) (Nat.le_of_ble_eq_true rfl) (xm_in rfl hn) rfl rfl (Nat.le_of_ble_eq_true rfl) (fun p_1 hF => ?_)
  refine r_ifeq (i := 4) (tgt := 23) rfl (by decide) (fun hc => ?_) (fun hc => ?_)
  · have hF := ok_it hc hF
    refine r_iconst (v := (-1)) (i := 14) rfl ki_m1 ?_
    have hQ := hq _ (ok_some hF)
    exact r_ireturn (i := 15) rfl rfl rfl hQ
  have hF := ok_if hc hF
  refine r_aload_n (i := 5) (k0 := 0) rfl rfl rfl ?_
  refine q_getr (b := 29) (i := 6) rfl fl_Gr_22 rfl (xm_in rfl hn) rfl rfl ?_
  refine r_iload_n (i := 7) (k0 := 1) rfl rfl rfl ?_
  refine r_bipush (v := 64) (i := 8) rfl kb_64 ?_
  refine r_imul (i := 9) rfl ?_
  refine r_iload_n (i := 10) (k0 := 2) rfl rfl rfl ?_
  refine r_iadd (i := 11) rfl ?_
  obtain ⟨hi, hF⟩ := ok_gd hF
  refine q_iaload (i := 12) rfl (xm_in rfl hn) rfl hi ?_
  refine r_goto (i := 13) (tgt := 24) rfl (by decide) ?_
  have hQ := hq _ (ok_some hF)
  exact r_ireturn (i := 15) rfl rfl rfl hQ
set_option maxHeartbeats 4000000 in
set_option maxRecDepth 100000 in
theorem t_Gr_memberAt {x1 : Int32} {x2 : Int32} {n : Nat} {I : xm_I} {L : xm_L} {K : Int32 → Prop} (hn : 86 ≤ n) (hF : ok (f_Gr_memberAt x1 x2 I) K) : xm_C 4 mt_Gr_memberAt [.ref 25, .int x1, .int x2] (I, L, RC n, n) 0 0 (pI (fun p : Int32 => p) (fun p : Int32 => (I, L, RC n, n)) K) := by
  unfold f_Gr_memberAt at hF
  refine xm_enter (by decide +kernel) dv_Gr_memberAt (Nat.le_of_ble_eq_true rfl) ?_
  exact t_Gr_memberAt_b0 hn (fun p hp => ⟨p, rfl, rfl, hp⟩) hF

noncomputable def f_D_member_b0 (x1 : Int32) (x2 : Int32) (I : xm_I) : Option (Int32 × xm_I) :=
  (f_Gr_isNumber x1).bind fun p_1 =>
  if p_1 = 0 then (
    some ((-100002), I))
  else (
    (f_Gr_isMade x1 I).bind fun p_2 =>
    if p_2 = 0 then (
      (f_D_endWith 1 I).bind fun p_8 =>
      some (p_8.1, p_8.2))
    else (
      (f_Gr_hasPlace x1 x2 I).bind fun p_3 =>
      if p_3 = 0 then (
        (f_D_endWith 3 I).bind fun p_7 =>
        some (p_7.1, p_7.2))
      else (
        (f_Gr_memberAt x1 x2 I).bind fun p_4 =>
        if p_4 = ((-1)) then (
          (f_D_endWith 1 I).bind fun p_6 =>
          some (p_6.1, p_6.2))
        else (
          let I_5 : xm_I := up2 I 0 9 0
          some (p_4, I_5)))))
noncomputable def f_D_member (x1 : Int32) (x2 : Int32) (I : xm_I) : Option (Int32 × xm_I) := f_D_member_b0 x1 x2 I
set_option maxHeartbeats 4000000 in
set_option maxRecDepth 100000 in
theorem t_D_member_b0 {x1 : Int32} {x2 : Int32} {n : Nat} {I : xm_I} {L : xm_L} {K : Int32 × xm_I → Prop} {Q : Option Value → xm_H → Prop} (hn : 86 ≤ n) (hq : ∀ p : Int32 × xm_I, K p → Q (some (.int p.1)) (p.2, L, RC n, n)) (hF : ok (f_D_member_b0 x1 x2 I) K) : xm_J 5 mt_D_member 0 [(0, .ref 0), (1, .int x1), (2, .int x2)] [] (I, L, RC n, n) 0 0 Q := by
  unfold f_D_member_b0 at hF
  refine r_iload_n (i := 0) (k0 := 1) rfl rfl rfl ?_
  refine c_S1I (i := 1) rfl sm_Gr_isNumber lk_D_347 (t_Gr_isNumber hn (ok_bind hF)) (Nat.le_of_ble_eq_true rfl) rfl (Nat.le_of_ble_eq_true rfl) (fun p_1 hF => ?_)
  refine r_ifne (i := 2) (tgt := 10) rfl (by decide) (fun hc => ?_) (fun hc => ?_)
  · have hF := ok_if hc hF
    refine r_aload_n (i := 5) (k0 := 0) rfl rfl rfl ?_
    refine q_getr (b := 25) (i := 6) rfl fl_D_56 rfl (xm_in rfl hn) rfl rfl ?_
    refine r_iload_n (i := 7) (k0 := 1) rfl rfl rfl ?_
    refine c_V1I (i := 8) rfl vm_Gr_isMade lk_D_353 (t_Gr_isMade hn (ok_bind hF)) (Nat.le_of_ble_eq_true rfl) (xm_in rfl hn) rfl rfl (Nat.le_of_ble_eq_true rfl) (fun p_2 hF => ?_)
    refine r_ifne (i := 9) (tgt := 27) rfl (by decide) (fun hc => ?_) (fun hc => ?_)
    · have hF := ok_if hc hF
      refine r_aload_n (i := 14) (k0 := 0) rfl rfl rfl ?_
      refine q_getr (b := 25) (i := 15) rfl fl_D_56 rfl (xm_in rfl hn) rfl rfl ?_
      refine r_iload_n (i := 16) (k0 := 1) rfl rfl rfl ?_
      refine r_iload_n (i := 17) (k0 := 2) rfl rfl rfl ?_
      refine c_V2I (i := 18) rfl vm_Gr_hasPlace lk_D_356 (t_Gr_hasPlace hn (ok_bind hF)) (Nat.le_of_ble_eq_true rfl) (xm_in rfl hn) rfl rfl (Nat.le_of_ble_eq_true rfl) (fun p_3 hF => ?_)
      refine r_ifne (i := 19) (tgt := 45) rfl (by decide) (fun hc => ?_) (fun hc => ?_)
      · have hF := ok_if hc hF
        refine r_aload_n (i := 24) (k0 := 0) rfl rfl rfl ?_
        refine q_getr (b := 25) (i := 25) rfl fl_D_56 rfl (xm_in rfl hn) rfl rfl ?_
        refine r_iload_n (i := 26) (k0 := 1) rfl rfl rfl ?_
        refine r_iload_n (i := 27) (k0 := 2) rfl rfl rfl ?_
        refine c_V2I (i := 28) rfl vm_Gr_memberAt lk_D_365 (t_Gr_memberAt hn (ok_bind hF)) (Nat.le_of_ble_eq_true rfl) (xm_in rfl hn) rfl rfl (Nat.le_of_ble_eq_true rfl) (fun p_4 hF => ?_)
        refine r_istore_n (i := 29) (Ls' := [(3, _), (0, _), (1, _), (2, _)]) rfl rfl (Nat.le_of_ble_eq_true rfl) rfl ?_
        refine r_iload_n (i := 30) (k0 := 0) rfl rfl rfl ?_
        refine r_iconst (v := (-1)) (i := 31) rfl ki_m1 ?_
        refine r_icmpne (i := 32) (tgt := 66) rfl (by decide) (fun hc => ?_) (fun hc => ?_)
        · have hF := ok_if hc hF
          refine r_aload_n (i := 37) (k0 := 1) rfl rfl rfl ?_
          refine r_iconst (v := 0) (i := 38) rfl ki_0 ?_
          refine q_puti (i := 39) rfl fl_D_78 (fun h => Bool.noConfusion h) (xm_in rfl hn) rfl ?_
          refine r_iload_n (i := 40) (k0 := 0) rfl rfl rfl ?_
          have hQ := hq _ (ok_some hF)
          exact r_ireturn (i := 41) rfl rfl rfl hQ
        have hF := ok_it hc hF
        refine r_aload_n (i := 33) (k0 := 1) rfl rfl rfl ?_
        refine r_iconst (v := 1) (i := 34) rfl ki_1 ?_
        refine c_V1I (i := 35) rfl vm_D_endWith lk_D_210 (t_D_endWith hn (ok_bind hF)) (Nat.le_of_ble_eq_true rfl) (xm_in rfl hn) rfl rfl (Nat.le_of_ble_eq_true rfl) (fun p_6 hF => ?_)
        have hQ := hq _ (ok_some hF)
        exact r_ireturn (i := 36) rfl rfl rfl hQ
      have hF := ok_it hc hF
      refine r_aload_n (i := 20) (k0 := 0) rfl rfl rfl ?_
      refine r_iconst (v := 3) (i := 21) rfl ki_3 ?_
      refine c_V1I (i := 22) rfl vm_D_endWith lk_D_210 (t_D_endWith hn (ok_bind hF)) (Nat.le_of_ble_eq_true rfl) (xm_in rfl hn) rfl rfl (Nat.le_of_ble_eq_true rfl) (fun p_7 hF => ?_)
      have hQ := hq _ (ok_some hF)
      exact r_ireturn (i := 23) rfl rfl rfl hQ
    have hF := ok_it hc hF
    refine r_aload_n (i := 10) (k0 := 0) rfl rfl rfl ?_
    refine r_iconst (v := 1) (i := 11) rfl ki_1 ?_
    refine c_V1I (i := 12) rfl vm_D_endWith lk_D_210 (t_D_endWith hn (ok_bind hF)) (Nat.le_of_ble_eq_true rfl) (xm_in rfl hn) rfl rfl (Nat.le_of_ble_eq_true rfl) (fun p_8 hF => ?_)
    have hQ := hq _ (ok_some hF)
    exact r_ireturn (i := 13) rfl rfl rfl hQ
  have hF := ok_it hc hF
  refine r_ldc (i := 3) rfl ct_D_86 ?_
  have hQ := hq _ (ok_some hF)
  exact r_ireturn (i := 4) rfl rfl rfl hQ
set_option maxHeartbeats 4000000 in
set_option maxRecDepth 100000 in
theorem t_D_member {x1 : Int32} {x2 : Int32} {n : Nat} {I : xm_I} {L : xm_L} {K : Int32 × xm_I → Prop} (hn : 86 ≤ n) (hF : ok (f_D_member x1 x2 I) K) : xm_C 5 mt_D_member [.ref 0, .int x1, .int x2] (I, L, RC n, n) 0 0 (pI (fun p : Int32 × xm_I => p.1) (fun p : Int32 × xm_I => (p.2, L, RC n, n)) K) := by
  unfold f_D_member at hF
  refine xm_enter (by decide +kernel) dv_D_member (Nat.le_of_ble_eq_true rfl) ?_
  exact t_D_member_b0 hn (fun p hp => ⟨p, rfl, rfl, hp⟩) hF

noncomputable def f_D_paint_s48 (x1 : Int32) (x2 : Int32) (x3 : Int32) (s : Int32 × xm_I) : Option ((Int32 × xm_I) ⊕ (Int32 × xm_I)) :=
  if x3 ≤ s.1 then (
    let I_1 : xm_I := up2 s.2 0 9 0
    some (.inr (x3, I_1)))
  else (
  (f_Gr_memberAt x1 s.1 s.2).bind fun p_2 =>
  if p_2 = ((-1)) then (
    (f_D_endWith 1 s.2).bind fun p_5 =>
    some (.inr (p_5.1, p_5.2)))
  else (
    (f_Fg_setStyle p_2 x2 s.2).bind fun p_3 =>
    let x4_4 : Int32 := s.1 + 1
    some (.inl (x4_4, p_3))))
noncomputable def f_D_paint_b48 (x1 : Int32) (x2 : Int32) (x3 : Int32) (s : Int32 × xm_I) : Option (Int32 × xm_I) := lp (f_D_paint_s48 x1 x2 x3) s
noncomputable def f_D_paint_b0 (x1 : Int32) (x2 : Int32) (I : xm_I) : Option (Int32 × xm_I) :=
  (f_Gr_isNumber x1).bind fun p_1 =>
  if p_1 = 0 then (
    some ((-100002), I))
  else (
  (f_D_isWithin x2 0 2).bind fun p_2 =>
  if p_2 = 0 then (
    some ((-100002), I))
  else (
    (f_Gr_isMade x1 I).bind fun p_3 =>
    if p_3 = 0 then (
      (f_D_endWith 1 I).bind fun p_5 =>
      some (p_5.1, p_5.2))
    else (
      (f_Gr_placesOf x1 I).bind fun p_4 =>
      f_D_paint_b48 x1 x2 p_4 (0, I))))
noncomputable def f_D_paint (x1 : Int32) (x2 : Int32) (I : xm_I) : Option (Int32 × xm_I) := f_D_paint_b0 x1 x2 I
set_option maxHeartbeats 4000000 in
set_option maxRecDepth 100000 in
theorem t_D_paint_s48 {x1 : Int32} {x2 : Int32} {x3 : Int32} {s : Int32 × xm_I} {n : Nat} {L : xm_L} {K : (Int32 × xm_I) ⊕ (Int32 × xm_I) → Prop} {Q : Option Value → xm_H → Prop} (hn : 86 ≤ n) (hq : ∀ p : Int32 × xm_I, K (.inr p) → Q (some (.int p.1)) (p.2, L, RC n, n)) (hg0 : ∀ s : Int32 × xm_I, K (.inl s) → xm_J 5 mt_D_paint 48 [(0, .ref 0), (1, .int x1), (2, .int x2), (3, .int x3), (4, .int s.1)] [] (s.2, L, RC n, n) 0 0 Q) (hF : ok (f_D_paint_s48 x1 x2 x3 s) K) : xm_J 5 mt_D_paint 48 [(0, .ref 0), (1, .int x1), (2, .int x2), (3, .int x3), (4, .int s.1)] [] (s.2, L, RC n, n) 0 0 Q := by
  unfold f_D_paint_s48 at hF
  refine r_iload (i := 26) (k0 := 4) rfl rfl ?_
  refine r_iload_n (i := 27) (k0 := 3) rfl rfl rfl ?_
  refine r_icmpge (i := 28) (tgt := 94) rfl (by decide) (fun hc => ?_) (fun hc => ?_)
  · have hF := ok_it hc hF
    refine r_aload_n (i := 49) (k0 := 0) rfl rfl rfl ?_
    refine r_iconst (v := 0) (i := 50) rfl ki_0 ?_
    refine q_puti (i := 51) rfl fl_D_78 (fun h => Bool.noConfusion h) (xm_in rfl hn) rfl ?_
    refine r_iload_n (i := 52) (k0 := 3) rfl rfl rfl ?_
    have hQ := hq _ (ok_some hF)
    exact r_ireturn (i := 53) rfl rfl rfl hQ
  have hF := ok_if hc hF
  refine r_aload_n (i := 29) (k0 := 0) rfl rfl rfl ?_
  refine q_getr (b := 25) (i := 30) rfl fl_D_56 rfl (xm_in rfl hn) rfl rfl ?_
  refine r_iload_n (i := 31) (k0 := 1) rfl rfl rfl ?_
  refine r_iload (i := 32) (k0 := 4) rfl rfl ?_
  refine c_V2I (i := 33) rfl vm_Gr_memberAt lk_D_365 (t_Gr_memberAt hn (ok_bind hF)) (Nat.le_of_ble_eq_true rfl) (xm_in rfl hn) rfl rfl (Nat.le_of_ble_eq_true rfl) (fun p_2 hF => ?_)
  refine r_istore (i := 34) (Ls' := [(5, _), (0, _), (1, _), (2, _), (3, _), (4, _)]) rfl (Nat.le_of_ble_eq_true rfl) rfl ?_
  refine r_iload (i := 35) (k0 := 0) rfl rfl ?_
  refine r_iconst (v := (-1)) (i := 36) rfl ki_m1 ?_
  refine r_icmpne (i := 37) (tgt := 78) rfl (by decide) (fun hc => ?_) (fun hc => ?_)
  · have hF := ok_if hc hF
    refine r_aload_n (i := 42) (k0 := 1) rfl rfl rfl ?_
    refine q_getr (b := 6) (i := 43) rfl fl_D_21 rfl (xm_in rfl hn) rfl rfl ?_
    refine r_iload (i := 44) (k0 := 0) rfl rfl ?_
    refine r_iload_n (i := 45) (k0 := 3) rfl rfl rfl ?_
    refine c_V2V (i := 46) rfl vm_Fg_setStyle lk_D_137 (t_Fg_setStyle hn (ok_bind hF)) (Nat.le_of_ble_eq_true rfl) (xm_in rfl hn) rfl rfl (Nat.le_of_ble_eq_true rfl) (fun p_3 hF => ?_)
    refine q_iinc (i := 47) (k0 := 5) (Ls' := [(4, _), (5, _), (0, _), (1, _), (2, _), (3, _)]) rfl ki_1 rfl (Nat.le_of_ble_eq_true rfl) rfl ?_
    refine r_goto (i := 48) (tgt := 48) rfl (by decide) ?_
    refine xm_sub (Ls' := [(0, _), (1, _), (2, _), (3, _), (4, _)]) [2, 3, 4, 5, 0] rfl ?_
    have hJ := hg0 _ (ok_some hF)
    exact hJ
  have hF := ok_it hc hF
  refine r_aload_n (i := 38) (k0 := 1) rfl rfl rfl ?_
  refine r_iconst (v := 1) (i := 39) rfl ki_1 ?_
  refine c_V1I (i := 40) rfl vm_D_endWith lk_D_210 (t_D_endWith hn (ok_bind hF)) (Nat.le_of_ble_eq_true rfl) (xm_in rfl hn) rfl rfl (Nat.le_of_ble_eq_true rfl) (fun p_5 hF => ?_)
  have hQ := hq _ (ok_some hF)
  exact r_ireturn (i := 41) rfl rfl rfl hQ
set_option maxHeartbeats 4000000 in
set_option maxRecDepth 100000 in
theorem t_D_paint_b48 {x1 : Int32} {x2 : Int32} {x3 : Int32} {s : Int32 × xm_I} {n : Nat} {L : xm_L} {K : Int32 × xm_I → Prop} {Q : Option Value → xm_H → Prop} (hn : 86 ≤ n) (hq : ∀ p : Int32 × xm_I, K p → Q (some (.int p.1)) (p.2, L, RC n, n)) (hF : ok (f_D_paint_b48 x1 x2 x3 s) K) : xm_J 5 mt_D_paint 48 [(0, .ref 0), (1, .int x1), (2, .int x2), (3, .int x3), (4, .int s.1)] [] (s.2, L, RC n, n) 0 0 Q :=
  lp_J (G := fun z => xm_J 5 mt_D_paint 48 [(0, .ref 0), (1, .int x1), (2, .int x2), (3, .int x3), (4, .int z.1)] [] (z.2, L, RC n, n) 0 0 Q) (fun z hF => t_D_paint_s48 hn (fun p h => hq p h) (fun z h => h) hF) s hF
set_option maxHeartbeats 4000000 in
set_option maxRecDepth 100000 in
theorem t_D_paint_b0 {x1 : Int32} {x2 : Int32} {n : Nat} {I : xm_I} {L : xm_L} {K : Int32 × xm_I → Prop} {Q : Option Value → xm_H → Prop} (hn : 86 ≤ n) (hq : ∀ p : Int32 × xm_I, K p → Q (some (.int p.1)) (p.2, L, RC n, n)) (hF : ok (f_D_paint_b0 x1 x2 I) K) : xm_J 5 mt_D_paint 0 [(0, .ref 0), (1, .int x1), (2, .int x2)] [] (I, L, RC n, n) 0 0 Q := by
  unfold f_D_paint_b0 at hF
  refine r_iload_n (i := 0) (k0 := 1) rfl rfl rfl ?_
  refine c_S1I (i := 1) rfl sm_Gr_isNumber lk_D_347 (t_Gr_isNumber hn (ok_bind hF)) (Nat.le_of_ble_eq_true rfl) rfl (Nat.le_of_ble_eq_true rfl) (fun p_1 hF => ?_)
  refine r_ifeq (i := 2) (tgt := 16) rfl (by decide) (fun hc => ?_) (fun hc => ?_)
  · have hF := ok_it hc hF
    refine r_ldc (i := 8) rfl ct_D_86 ?_
    have hQ := hq _ (ok_some hF)
    exact r_ireturn (i := 9) rfl rfl rfl hQ
  have hF := ok_if hc hF
  refine r_iload_n (i := 3) (k0 := 2) rfl rfl rfl ?_
  refine r_iconst (v := 0) (i := 4) rfl ki_0 ?_
  refine r_iconst (v := 2) (i := 5) rfl ki_2 ?_
  refine c_S3I (i := 6) rfl sm_D_isWithin lk_D_82 (t_D_isWithin hn (ok_bind hF)) (Nat.le_of_ble_eq_true rfl) rfl (Nat.le_of_ble_eq_true rfl) (fun p_2 hF => ?_)
  refine r_ifne (i := 7) (tgt := 19) rfl (by decide) (fun hc => ?_) (fun hc => ?_)
  · have hF := ok_if hc hF
    refine r_aload_n (i := 10) (k0 := 0) rfl rfl rfl ?_
    refine q_getr (b := 25) (i := 11) rfl fl_D_56 rfl (xm_in rfl hn) rfl rfl ?_
    refine r_iload_n (i := 12) (k0 := 1) rfl rfl rfl ?_
    refine c_V1I (i := 13) rfl vm_Gr_isMade lk_D_353 (t_Gr_isMade hn (ok_bind hF)) (Nat.le_of_ble_eq_true rfl) (xm_in rfl hn) rfl rfl (Nat.le_of_ble_eq_true rfl) (fun p_3 hF => ?_)
    refine r_ifne (i := 14) (tgt := 36) rfl (by decide) (fun hc => ?_) (fun hc => ?_)
    · have hF := ok_if hc hF
      refine r_aload_n (i := 19) (k0 := 0) rfl rfl rfl ?_
      refine q_getr (b := 25) (i := 20) rfl fl_D_56 rfl (xm_in rfl hn) rfl rfl ?_
      refine r_iload_n (i := 21) (k0 := 1) rfl rfl rfl ?_
      refine c_V1I (i := 22) rfl vm_Gr_placesOf lk_D_368 (t_Gr_placesOf hn (ok_bind hF)) (Nat.le_of_ble_eq_true rfl) (xm_in rfl hn) rfl rfl (Nat.le_of_ble_eq_true rfl) (fun p_4 hF => ?_)
      refine r_istore_n (i := 23) (Ls' := [(3, _), (0, _), (1, _), (2, _)]) rfl rfl (Nat.le_of_ble_eq_true rfl) rfl ?_
      refine r_iconst (v := 0) (i := 24) rfl ki_0 ?_
      refine r_istore (i := 25) (Ls' := [(4, _), (3, _), (0, _), (1, _), (2, _)]) rfl (Nat.le_of_ble_eq_true rfl) rfl ?_
      refine xm_sub (Ls' := [(0, _), (1, _), (2, _), (3, _), (4, _)]) [2, 3, 4, 1, 0] rfl ?_
      exact t_D_paint_b48 hn (fun p h => hq p h) hF
    have hF := ok_it hc hF
    refine r_aload_n (i := 15) (k0 := 0) rfl rfl rfl ?_
    refine r_iconst (v := 1) (i := 16) rfl ki_1 ?_
    refine c_V1I (i := 17) rfl vm_D_endWith lk_D_210 (t_D_endWith hn (ok_bind hF)) (Nat.le_of_ble_eq_true rfl) (xm_in rfl hn) rfl rfl (Nat.le_of_ble_eq_true rfl) (fun p_5 hF => ?_)
    have hQ := hq _ (ok_some hF)
    exact r_ireturn (i := 18) rfl rfl rfl hQ
  have hF := ok_it hc hF
  refine r_ldc (i := 8) rfl ct_D_86 ?_
  have hQ := hq _ (ok_some hF)
  exact r_ireturn (i := 9) rfl rfl rfl hQ
set_option maxHeartbeats 4000000 in
set_option maxRecDepth 100000 in
theorem t_D_paint {x1 : Int32} {x2 : Int32} {n : Nat} {I : xm_I} {L : xm_L} {K : Int32 × xm_I → Prop} (hn : 86 ≤ n) (hF : ok (f_D_paint x1 x2 I) K) : xm_C 5 mt_D_paint [.ref 0, .int x1, .int x2] (I, L, RC n, n) 0 0 (pI (fun p : Int32 × xm_I => p.1) (fun p : Int32 × xm_I => (p.2, L, RC n, n)) K) := by
  unfold f_D_paint at hF
  refine xm_enter (by decide +kernel) dv_D_paint (Nat.le_of_ble_eq_true rfl) ?_
  exact t_D_paint_b0 hn (fun p hp => ⟨p, rfl, rfl, hp⟩) hF

noncomputable def f_D_reach_b0 (x1 : Int32) (I : xm_I) : Option (Int64 × xm_I) :=
  (f_Fg_has x1 I).bind fun p_1 =>
  if p_1 = 0 then (
    some ((-100001), I))
  else (
    (f_Fg_kindOf x1 I).bind fun p_2 =>
    if p_2 = 4 then (
      let I_3 : xm_I := up2 I 0 9 0
      (f_Fg_squareOfSpan x1 I_3).bind fun p_4 =>
      some (p_4, I_3))
    else (
    (f_D_endWith 2 I).bind fun p_5 =>
    some (Int32.toInt64 p_5.1, p_5.2)))
noncomputable def f_D_reach (x1 : Int32) (I : xm_I) : Option (Int64 × xm_I) := f_D_reach_b0 x1 I
set_option maxHeartbeats 4000000 in
set_option maxRecDepth 100000 in
theorem t_D_reach_b0 {x1 : Int32} {n : Nat} {I : xm_I} {L : xm_L} {K : Int64 × xm_I → Prop} {Q : Option Value → xm_H → Prop} (hn : 86 ≤ n) (hq : ∀ p : Int64 × xm_I, K p → Q (some (.long p.1)) (p.2, L, RC n, n)) (hF : ok (f_D_reach_b0 x1 I) K) : xm_J 4 mt_D_reach 0 [(0, .ref 0), (1, .int x1)] [] (I, L, RC n, n) 0 0 Q := by
  unfold f_D_reach_b0 at hF
  refine r_aload_n (i := 0) (k0 := 0) rfl rfl rfl ?_
  refine q_getr (b := 6) (i := 1) rfl fl_D_21 rfl (xm_in rfl hn) rfl rfl ?_
  refine r_iload_n (i := 2) (k0 := 1) rfl rfl rfl ?_
  refine c_V1I (i := 3) rfl vm_Fg_has lk_D_133 (t_Fg_has hn (ok_bind hF)) (Nat.le_of_ble_eq_true rfl) (xm_in rfl hn) rfl rfl (Nat.le_of_ble_eq_true rfl) (fun p_1 hF => ?_)
  refine r_ifne (i := 4) (tgt := 15) rfl (by decide) (fun hc => ?_) (fun hc => ?_)
  · have hF := ok_if hc hF
    refine r_aload_n (i := 7) (k0 := 0) rfl rfl rfl ?_
    refine q_getr (b := 6) (i := 8) rfl fl_D_21 rfl (xm_in rfl hn) rfl rfl ?_
    refine r_iload_n (i := 9) (k0 := 1) rfl rfl rfl ?_
    refine c_V1I (i := 10) rfl vm_Fg_kindOf lk_D_153 (t_Fg_kindOf hn (ok_bind hF)) (Nat.le_of_ble_eq_true rfl) (xm_in rfl hn) rfl rfl (Nat.le_of_ble_eq_true rfl) (fun p_2 hF => ?_)
    refine r_iconst (v := 4) (i := 11) rfl ki_4 ?_
    refine r_icmpeq (i := 12) (tgt := 34) rfl (by decide) (fun hc => ?_) (fun hc => ?_)
    · have hF := ok_it hc hF
      refine r_aload_n (i := 18) (k0 := 0) rfl rfl rfl ?_
      refine r_iconst (v := 0) (i := 19) rfl ki_0 ?_
      refine q_puti (i := 20) rfl fl_D_78 (fun h => Bool.noConfusion h) (xm_in rfl hn) rfl ?_
      refine r_aload_n (i := 21) (k0 := 0) rfl rfl rfl ?_
      refine q_getr (b := 6) (i := 22) rfl fl_D_21 rfl (xm_in rfl hn) rfl rfl ?_
      refine r_iload_n (i := 23) (k0 := 1) rfl rfl rfl ?_
      refine c_V1L (i := 24) rfl vm_Fg_squareOfSpan lk_D_371 (t_Fg_squareOfSpan hn (ok_bind hF)) (Nat.le_of_ble_eq_true rfl) (xm_in rfl hn) rfl rfl (Nat.le_of_ble_eq_true rfl) (fun p_4 hF => ?_)
      have hQ := hq _ (ok_some hF)
      exact r_lreturn (i := 25) rfl rfl hQ
    have hF := ok_if hc hF
    refine r_aload_n (i := 13) (k0 := 0) rfl rfl rfl ?_
    refine r_iconst (v := 2) (i := 14) rfl ki_2 ?_
    refine c_V1I (i := 15) rfl vm_D_endWith lk_D_210 (t_D_endWith hn (ok_bind hF)) (Nat.le_of_ble_eq_true rfl) (xm_in rfl hn) rfl rfl (Nat.le_of_ble_eq_true rfl) (fun p_5 hF => ?_)
    refine r_i2l (i := 16) rfl ?_
    have hQ := hq _ (ok_some hF)
    exact r_lreturn (i := 17) rfl rfl hQ
  have hF := ok_it hc hF
  refine r_ldc2 (i := 5) rfl ct_D_151 ?_
  have hQ := hq _ (ok_some hF)
  exact r_lreturn (i := 6) rfl rfl hQ
set_option maxHeartbeats 4000000 in
set_option maxRecDepth 100000 in
theorem t_D_reach {x1 : Int32} {n : Nat} {I : xm_I} {L : xm_L} {K : Int64 × xm_I → Prop} (hn : 86 ≤ n) (hF : ok (f_D_reach x1 I) K) : xm_C 4 mt_D_reach [.ref 0, .int x1] (I, L, RC n, n) 0 0 (pL (fun p : Int64 × xm_I => p.1) (fun p : Int64 × xm_I => (p.2, L, RC n, n)) K) := by
  unfold f_D_reach at hF
  refine xm_enter (by decide +kernel) dv_D_reach (Nat.le_of_ble_eq_true rfl) ?_
  exact t_D_reach_b0 hn (fun p hp => ⟨p, rfl, rfl, hp⟩) hF

noncomputable def f_M_in_b0 (l0 : Int64) (l2 : Int64) (l4 : Int64) : Option (Int32) :=
  if l0 < l2 then (
    some (0))
  else (
  if l4 < l0 then (
    some (0))
  else (
  some (1)))
noncomputable def f_M_in (l0 : Int64) (l2 : Int64) (l4 : Int64) : Option (Int32) := f_M_in_b0 l0 l2 l4
set_option maxHeartbeats 4000000 in
set_option maxRecDepth 100000 in
theorem t_M_in_b0 {l0 : Int64} {l2 : Int64} {l4 : Int64} {n : Nat} {I : xm_I} {L : xm_L} {K : Int32 → Prop} {Q : Option Value → xm_H → Prop} (hn : 86 ≤ n) (hq : ∀ p : Int32, K p → Q (some (.int p)) (I, L, RC n, n)) (hF : ok (f_M_in_b0 l0 l2 l4) K) : xm_J 0 mt_M_in 0 [(0, .long l0), (2, .long l2), (4, .long l4)] [] (I, L, RC n, n) 0 0 Q := by
  unfold f_M_in_b0 at hF
  refine r_lload_n (i := 0) (k0 := 0) rfl rfl rfl ?_
  refine r_lload_n (i := 1) (k0 := 1) rfl rfl rfl ?_
  refine r_lcmplt (i := 2) (j := 3) (tgt := 17) rfl rfl (by decide) (fun hc => ?_) (fun hc => ?_)
  · have hF := ok_it hc hF
    refine r_iconst (v := 0) (i := 10) rfl ki_0 ?_
    have hQ := hq _ (ok_some hF)
    exact r_ireturn (i := 11) rfl rfl rfl hQ
  have hF := ok_if hc hF
  refine r_lload_n (i := 4) (k0 := 0) rfl rfl rfl ?_
  refine r_lload (i := 5) (k0 := 2) rfl rfl ?_
  refine r_lcmpgt (i := 6) (j := 7) (tgt := 17) rfl rfl (by decide) (fun hc => ?_) (fun hc => ?_)
  · have hF := ok_it hc hF
    refine r_iconst (v := 0) (i := 10) rfl ki_0 ?_
    have hQ := hq _ (ok_some hF)
    exact r_ireturn (i := 11) rfl rfl rfl hQ
  have hF := ok_if hc hF
  refine r_iconst (v := 1) (i := 8) rfl ki_1 ?_
  refine r_goto (i := 9) (tgt := 18) rfl (by decide) ?_
  have hQ := hq _ (ok_some hF)
  exact r_ireturn (i := 11) rfl rfl rfl hQ
set_option maxHeartbeats 4000000 in
set_option maxRecDepth 100000 in
theorem t_M_in {l0 : Int64} {l2 : Int64} {l4 : Int64} {n : Nat} {I : xm_I} {L : xm_L} {K : Int32 → Prop} (hn : 86 ≤ n) (hF : ok (f_M_in l0 l2 l4) K) : xm_C 0 mt_M_in [.long l0, .long l2, .long l4] (I, L, RC n, n) 0 0 (pI (fun p : Int32 => p) (fun p : Int32 => (I, L, RC n, n)) K) := by
  unfold f_M_in at hF
  refine xm_enter (by decide +kernel) dv_M_in (Nat.le_of_ble_eq_true rfl) ?_
  exact t_M_in_b0 hn (fun p hp => ⟨p, rfl, rfl, hp⟩) hF

noncomputable def f_M_isPoint_b0 (x1 : Int32) (I : xm_I) : Option (Int32) :=
  if x1 < 0 then (
    some (0))
  else (
  if (I 49 4) ≤ x1 then (
    some (0))
  else (
  some (1)))
noncomputable def f_M_isPoint (x1 : Int32) (I : xm_I) : Option (Int32) := f_M_isPoint_b0 x1 I
set_option maxHeartbeats 4000000 in
set_option maxRecDepth 100000 in
theorem t_M_isPoint_b0 {x1 : Int32} {n : Nat} {I : xm_I} {L : xm_L} {K : Int32 → Prop} {Q : Option Value → xm_H → Prop} (hn : 86 ≤ n) (hq : ∀ p : Int32, K p → Q (some (.int p)) (I, L, RC n, n)) (hF : ok (f_M_isPoint_b0 x1 I) K) : xm_J 0 mt_M_isPoint 0 [(0, .ref 49), (1, .int x1)] [] (I, L, RC n, n) 0 0 Q := by
  unfold f_M_isPoint_b0 at hF
  refine r_iload_n (i := 0) (k0 := 1) rfl rfl rfl ?_
  refine r_iflt (i := 1) (tgt := 16) rfl (by decide) (fun hc => ?_) (fun hc => ?_)
  · have hF := ok_it hc hF
    refine r_iconst (v := 0) (i := 8) rfl ki_0 ?_
    have hQ := hq _ (ok_some hF)
    exact r_ireturn (i := 9) rfl rfl rfl hQ
  have hF := ok_if hc hF
  refine r_iload_n (i := 2) (k0 := 1) rfl rfl rfl ?_
  refine r_aload_n (i := 3) (k0 := 0) rfl rfl rfl ?_
  refine q_geti (i := 4) rfl fl_M_137 (xm_in rfl hn) rfl ?_
  refine r_icmpge (i := 5) (tgt := 16) rfl (by decide) (fun hc => ?_) (fun hc => ?_)
  · have hF := ok_it hc hF
    refine r_iconst (v := 0) (i := 8) rfl ki_0 ?_
    have hQ := hq _ (ok_some hF)
    exact r_ireturn (i := 9) rfl rfl rfl hQ
  have hF := ok_if hc hF
  refine r_iconst (v := 1) (i := 6) rfl ki_1 ?_
  refine r_goto (i := 7) (tgt := 17) rfl (by decide) ?_
  have hQ := hq _ (ok_some hF)
  exact r_ireturn (i := 9) rfl rfl rfl hQ
set_option maxHeartbeats 4000000 in
set_option maxRecDepth 100000 in
theorem t_M_isPoint {x1 : Int32} {n : Nat} {I : xm_I} {L : xm_L} {K : Int32 → Prop} (hn : 86 ≤ n) (hF : ok (f_M_isPoint x1 I) K) : xm_C 0 mt_M_isPoint [.ref 49, .int x1] (I, L, RC n, n) 0 0 (pI (fun p : Int32 => p) (fun p : Int32 => (I, L, RC n, n)) K) := by
  unfold f_M_isPoint at hF
  refine xm_enter (by decide +kernel) dv_M_isPoint (Nat.le_of_ble_eq_true rfl) ?_
  exact t_M_isPoint_b0 hn (fun p hp => ⟨p, rfl, rfl, hp⟩) hF

noncomputable def f_M_isObject_b0 (x1 : Int32) (I : xm_I) : Option (Int32) :=
  if x1 < 0 then (
    some (0))
  else (
  if (I 49 11) ≤ x1 then (
    some (0))
  else (
  some (1)))
noncomputable def f_M_isObject (x1 : Int32) (I : xm_I) : Option (Int32) := f_M_isObject_b0 x1 I
set_option maxHeartbeats 4000000 in
set_option maxRecDepth 100000 in
theorem t_M_isObject_b0 {x1 : Int32} {n : Nat} {I : xm_I} {L : xm_L} {K : Int32 → Prop} {Q : Option Value → xm_H → Prop} (hn : 86 ≤ n) (hq : ∀ p : Int32, K p → Q (some (.int p)) (I, L, RC n, n)) (hF : ok (f_M_isObject_b0 x1 I) K) : xm_J 0 mt_M_isObject 0 [(0, .ref 49), (1, .int x1)] [] (I, L, RC n, n) 0 0 Q := by
  unfold f_M_isObject_b0 at hF
  refine r_iload_n (i := 0) (k0 := 1) rfl rfl rfl ?_
  refine r_iflt (i := 1) (tgt := 16) rfl (by decide) (fun hc => ?_) (fun hc => ?_)
  · have hF := ok_it hc hF
    refine r_iconst (v := 0) (i := 8) rfl ki_0 ?_
    have hQ := hq _ (ok_some hF)
    exact r_ireturn (i := 9) rfl rfl rfl hQ
  have hF := ok_if hc hF
  refine r_iload_n (i := 2) (k0 := 1) rfl rfl rfl ?_
  refine r_aload_n (i := 3) (k0 := 0) rfl rfl rfl ?_
  refine q_geti (i := 4) rfl fl_M_140 (xm_in rfl hn) rfl ?_
  refine r_icmpge (i := 5) (tgt := 16) rfl (by decide) (fun hc => ?_) (fun hc => ?_)
  · have hF := ok_it hc hF
    refine r_iconst (v := 0) (i := 8) rfl ki_0 ?_
    have hQ := hq _ (ok_some hF)
    exact r_ireturn (i := 9) rfl rfl rfl hQ
  have hF := ok_if hc hF
  refine r_iconst (v := 1) (i := 6) rfl ki_1 ?_
  refine r_goto (i := 7) (tgt := 17) rfl (by decide) ?_
  have hQ := hq _ (ok_some hF)
  exact r_ireturn (i := 9) rfl rfl rfl hQ
set_option maxHeartbeats 4000000 in
set_option maxRecDepth 100000 in
theorem t_M_isObject {x1 : Int32} {n : Nat} {I : xm_I} {L : xm_L} {K : Int32 → Prop} (hn : 86 ≤ n) (hF : ok (f_M_isObject x1 I) K) : xm_C 0 mt_M_isObject [.ref 49, .int x1] (I, L, RC n, n) 0 0 (pI (fun p : Int32 => p) (fun p : Int32 => (I, L, RC n, n)) K) := by
  unfold f_M_isObject at hF
  refine xm_enter (by decide +kernel) dv_M_isObject (Nat.le_of_ble_eq_true rfl) ?_
  exact t_M_isObject_b0 hn (fun p hp => ⟨p, rfl, rfl, hp⟩) hF

noncomputable def f_M_isSolid_b0 (x1 : Int32) (I : xm_I) : Option (Int32) :=
  if x1 < 0 then (
    some (0))
  else (
  if (I 49 31) ≤ x1 then (
    some (0))
  else (
  some (1)))
noncomputable def f_M_isSolid (x1 : Int32) (I : xm_I) : Option (Int32) := f_M_isSolid_b0 x1 I
set_option maxHeartbeats 4000000 in
set_option maxRecDepth 100000 in
theorem t_M_isSolid_b0 {x1 : Int32} {n : Nat} {I : xm_I} {L : xm_L} {K : Int32 → Prop} {Q : Option Value → xm_H → Prop} (hn : 86 ≤ n) (hq : ∀ p : Int32, K p → Q (some (.int p)) (I, L, RC n, n)) (hF : ok (f_M_isSolid_b0 x1 I) K) : xm_J 0 mt_M_isSolid 0 [(0, .ref 49), (1, .int x1)] [] (I, L, RC n, n) 0 0 Q := by
  unfold f_M_isSolid_b0 at hF
  refine r_iload_n (i := 0) (k0 := 1) rfl rfl rfl ?_
  refine r_iflt (i := 1) (tgt := 16) rfl (by decide) (fun hc => ?_) (fun hc => ?_)
  · have hF := ok_it hc hF
    refine r_iconst (v := 0) (i := 8) rfl ki_0 ?_
    have hQ := hq _ (ok_some hF)
    exact r_ireturn (i := 9) rfl rfl rfl hQ
  have hF := ok_if hc hF
  refine r_iload_n (i := 2) (k0 := 1) rfl rfl rfl ?_
  refine r_aload_n (i := 3) (k0 := 0) rfl rfl rfl ?_
  refine q_geti (i := 4) rfl fl_M_143 (xm_in rfl hn) rfl ?_
  refine r_icmpge (i := 5) (tgt := 16) rfl (by decide) (fun hc => ?_) (fun hc => ?_)
  · have hF := ok_it hc hF
    refine r_iconst (v := 0) (i := 8) rfl ki_0 ?_
    have hQ := hq _ (ok_some hF)
    exact r_ireturn (i := 9) rfl rfl rfl hQ
  have hF := ok_if hc hF
  refine r_iconst (v := 1) (i := 6) rfl ki_1 ?_
  refine r_goto (i := 7) (tgt := 17) rfl (by decide) ?_
  have hQ := hq _ (ok_some hF)
  exact r_ireturn (i := 9) rfl rfl rfl hQ
set_option maxHeartbeats 4000000 in
set_option maxRecDepth 100000 in
theorem t_M_isSolid {x1 : Int32} {n : Nat} {I : xm_I} {L : xm_L} {K : Int32 → Prop} (hn : 86 ≤ n) (hF : ok (f_M_isSolid x1 I) K) : xm_C 0 mt_M_isSolid [.ref 49, .int x1] (I, L, RC n, n) 0 0 (pI (fun p : Int32 => p) (fun p : Int32 => (I, L, RC n, n)) K) := by
  unfold f_M_isSolid at hF
  refine xm_enter (by decide +kernel) dv_M_isSolid (Nat.le_of_ble_eq_true rfl) ?_
  exact t_M_isSolid_b0 hn (fun p hp => ⟨p, rfl, rfl, hp⟩) hF

noncomputable def f_M_point_b0 (x1 : Int32) (x2 : Int32) (I : xm_I) : Option (Int32 × xm_I) :=
  (f_M_in (Int32.toInt64 x1) ((-20000)) 20000).bind fun p_1 =>
  if p_1 = 0 then (
    some ((-100002), I))
  else (
  (f_M_in (Int32.toInt64 x2) ((-20000)) 20000).bind fun p_2 =>
  if p_2 = 0 then (
    some ((-100002), I))
  else (
    if (I 49 4) = 60 then (
      some ((-100004), I))
    else (
      gd (0 ≤ (I 49 4).toInt ∧ (I 49 4).toInt < 60) <|
      let I_3 : xm_I := up2 I 50 (Int32.toNatClampNeg (I 49 4)) x1
      gd (0 ≤ (I_3 49 4).toInt ∧ (I_3 49 4).toInt < 60) <|
      let I_4 : xm_I := up2 I_3 51 (Int32.toNatClampNeg (I_3 49 4)) x2
      gd (0 ≤ (I_4 49 4).toInt ∧ (I_4 49 4).toInt < 60) <|
      let I_5 : xm_I := up2 I_4 52 (Int32.toNatClampNeg (I_4 49 4)) 0
      gd (0 ≤ (I_5 49 4).toInt ∧ (I_5 49 4).toInt < 60) <|
      let I_6 : xm_I := up2 I_5 53 (Int32.toNatClampNeg (I_5 49 4)) 0
      let I_7 : xm_I := up2 I_6 49 4 ((I_6 49 4) + 1)
      some ((I_7 49 4) - 1, I_7))))
noncomputable def f_M_point (x1 : Int32) (x2 : Int32) (I : xm_I) : Option (Int32 × xm_I) := f_M_point_b0 x1 x2 I
set_option maxHeartbeats 4000000 in
set_option maxRecDepth 100000 in
theorem t_M_point_b0 {x1 : Int32} {x2 : Int32} {n : Nat} {I : xm_I} {L : xm_L} {K : Int32 × xm_I → Prop} {Q : Option Value → xm_H → Prop} (hn : 86 ≤ n) (hq : ∀ p : Int32 × xm_I, K p → Q (some (.int p.1)) (p.2, L, RC n, n)) (hF : ok (f_M_point_b0 x1 x2 I) K) : xm_J 1 mt_M_point 0 [(0, .ref 49), (1, .int x1), (2, .int x2)] [] (I, L, RC n, n) 0 0 Q := by
  unfold f_M_point_b0 at hF
  refine r_iload_n (i := 0) (k0 := 1) rfl rfl rfl ?_
  refine r_i2l (i := 1) rfl ?_
  refine r_ldc2 (i := 2) rfl ct_M_146 ?_
  refine r_ldc2 (i := 3) rfl ct_M_148 ?_
  refine c_S3I (i := 4) rfl sm_M_in lk_M_150 (t_M_in hn (ok_bind hF)) (Nat.le_of_ble_eq_true rfl) rfl (Nat.le_of_ble_eq_true rfl) (fun p_1 hF => ?_)
  refine r_ifeq (i := 5) (tgt := 28) rfl (by decide) (fun hc => ?_) (fun hc => ?_)
  · have hF := ok_it hc hF
    refine r_ldc (i := 12) rfl ct_M_154 ?_
    have hQ := hq _ (ok_some hF)
    exact r_ireturn (i := 13) rfl rfl rfl hQ
  have hF := ok_if hc hF
  refine r_iload_n (i := 6) (k0 := 2) rfl rfl rfl ?_
  refine r_i2l (i := 7) rfl ?_
  refine r_ldc2 (i := 8) rfl ct_M_146 ?_
  refine r_ldc2 (i := 9) rfl ct_M_148 ?_
  refine c_S3I (i := 10) rfl sm_M_in lk_M_150 (t_M_in hn (ok_bind hF)) (Nat.le_of_ble_eq_true rfl) rfl (Nat.le_of_ble_eq_true rfl) (fun p_2 hF => ?_)
  refine r_ifne (i := 11) (tgt := 31) rfl (by decide) (fun hc => ?_) (fun hc => ?_)
  · have hF := ok_if hc hF
    refine r_aload_n (i := 14) (k0 := 0) rfl rfl rfl ?_
    refine q_geti (i := 15) rfl fl_M_137 (xm_in rfl hn) rfl ?_
    refine r_bipush (v := 60) (i := 16) rfl kb_60 ?_
    refine r_icmpne (i := 17) (tgt := 43) rfl (by decide) (fun hc => ?_) (fun hc => ?_)
    · have hF := ok_if hc hF
      refine r_aload_n (i := 20) (k0 := 0) rfl rfl rfl ?_
      refine q_getr (b := 50) (i := 21) rfl fl_M_7 rfl (xm_in rfl hn) rfl rfl ?_
      refine r_aload_n (i := 22) (k0 := 0) rfl rfl rfl ?_
      refine q_geti (i := 23) rfl fl_M_137 (xm_in rfl hn) rfl ?_
      refine r_iload_n (i := 24) (k0 := 1) rfl rfl rfl ?_
      obtain ⟨hi, hF⟩ := ok_gd hF
      refine q_iastore (i := 25) rfl (xm_in rfl hn) rfl hi ?_
      refine r_aload_n (i := 26) (k0 := 0) rfl rfl rfl ?_
      refine q_getr (b := 51) (i := 27) rfl fl_M_13 rfl (xm_in rfl hn) rfl rfl ?_
      refine r_aload_n (i := 28) (k0 := 0) rfl rfl rfl ?_
      refine q_geti (i := 29) rfl fl_M_137 (xm_in rfl hn) rfl ?_
      refine r_iload_n (i := 30) (k0 := 2) rfl rfl rfl ?_
      obtain ⟨hi, hF⟩ := ok_gd hF
      refine q_iastore (i := 31) rfl (xm_in rfl hn) rfl hi ?_
      refine r_aload_n (i := 32) (k0 := 0) rfl rfl rfl ?_
      refine q_getr (b := 52) (i := 33) rfl fl_M_16 rfl (xm_in rfl hn) rfl rfl ?_
      refine r_aload_n (i := 34) (k0 := 0) rfl rfl rfl ?_
      refine q_geti (i := 35) rfl fl_M_137 (xm_in rfl hn) rfl ?_
      refine r_iconst (v := 0) (i := 36) rfl ki_0 ?_
      obtain ⟨hi, hF⟩ := ok_gd hF
      refine q_iastore (i := 37) rfl (xm_in rfl hn) rfl hi ?_
      refine r_aload_n (i := 38) (k0 := 0) rfl rfl rfl ?_
      refine q_getr (b := 53) (i := 39) rfl fl_M_19 rfl (xm_in rfl hn) rfl rfl ?_
      refine r_aload_n (i := 40) (k0 := 0) rfl rfl rfl ?_
      refine q_geti (i := 41) rfl fl_M_137 (xm_in rfl hn) rfl ?_
      refine r_iconst (v := 0) (i := 42) rfl ki_0 ?_
      obtain ⟨hi, hF⟩ := ok_gd hF
      refine q_iastore (i := 43) rfl (xm_in rfl hn) rfl hi ?_
      refine r_aload_n (i := 44) (k0 := 0) rfl rfl rfl ?_
      refine r_dup (i := 45) rfl rfl ?_
      refine q_geti (i := 46) rfl fl_M_137 (xm_in rfl hn) rfl ?_
      refine r_iconst (v := 1) (i := 47) rfl ki_1 ?_
      refine r_iadd (i := 48) rfl ?_
      refine q_puti (i := 49) rfl fl_M_137 (fun h => Bool.noConfusion h) (xm_in rfl hn) rfl ?_
      refine r_aload_n (i := 50) (k0 := 0) rfl rfl rfl ?_
      refine q_geti (i := 51) rfl fl_M_137 (xm_in rfl hn) rfl ?_
      refine r_iconst (v := 1) (i := 52) rfl ki_1 ?_
      refine r_isub (i := 53) rfl ?_
      have hQ := hq _ (ok_some hF)
      exact r_ireturn (i := 54) rfl rfl rfl hQ
    have hF := ok_it hc hF
    refine r_ldc (i := 18) rfl ct_M_155 ?_
    have hQ := hq _ (ok_some hF)
    exact r_ireturn (i := 19) rfl rfl rfl hQ
  have hF := ok_it hc hF
  refine r_ldc (i := 12) rfl ct_M_154 ?_
  have hQ := hq _ (ok_some hF)
  exact r_ireturn (i := 13) rfl rfl rfl hQ
set_option maxHeartbeats 4000000 in
set_option maxRecDepth 100000 in
theorem t_M_point {x1 : Int32} {x2 : Int32} {n : Nat} {I : xm_I} {L : xm_L} {K : Int32 × xm_I → Prop} (hn : 86 ≤ n) (hF : ok (f_M_point x1 x2 I) K) : xm_C 1 mt_M_point [.ref 49, .int x1, .int x2] (I, L, RC n, n) 0 0 (pI (fun p : Int32 × xm_I => p.1) (fun p : Int32 × xm_I => (p.2, L, RC n, n)) K) := by
  unfold f_M_point at hF
  refine xm_enter (by decide +kernel) dv_M_point (Nat.le_of_ble_eq_true rfl) ?_
  exact t_M_point_b0 hn (fun p hp => ⟨p, rfl, rfl, hp⟩) hF

noncomputable def f_M_move_b0 (x1 : Int32) (x2 : Int32) (x3 : Int32) (I : xm_I) : Option (Int32 × xm_I) :=
  (f_M_isPoint x1 I).bind fun p_1 =>
  if p_1 = 0 then (
    some ((-100001), I))
  else (
    (f_M_in (Int32.toInt64 x2) ((-100)) 100).bind fun p_2 =>
    if p_2 = 0 then (
      some ((-100002), I))
    else (
    (f_M_in (Int32.toInt64 x3) ((-100)) 100).bind fun p_3 =>
    if p_3 = 0 then (
      some ((-100002), I))
    else (
      gd (0 ≤ (x1).toInt ∧ (x1).toInt < 60) <|
      let I_4 : xm_I := up2 I 52 (Int32.toNatClampNeg x1) x2
      gd (0 ≤ (x1).toInt ∧ (x1).toInt < 60) <|
      let I_5 : xm_I := up2 I_4 53 (Int32.toNatClampNeg x1) x3
      some (1, I_5))))
noncomputable def f_M_move (x1 : Int32) (x2 : Int32) (x3 : Int32) (I : xm_I) : Option (Int32 × xm_I) := f_M_move_b0 x1 x2 x3 I
set_option maxHeartbeats 4000000 in
set_option maxRecDepth 100000 in
theorem t_M_move_b0 {x1 : Int32} {x2 : Int32} {x3 : Int32} {n : Nat} {I : xm_I} {L : xm_L} {K : Int32 × xm_I → Prop} {Q : Option Value → xm_H → Prop} (hn : 86 ≤ n) (hq : ∀ p : Int32 × xm_I, K p → Q (some (.int p.1)) (p.2, L, RC n, n)) (hF : ok (f_M_move_b0 x1 x2 x3 I) K) : xm_J 1 mt_M_move 0 [(0, .ref 49), (1, .int x1), (2, .int x2), (3, .int x3)] [] (I, L, RC n, n) 0 0 Q := by
  unfold f_M_move_b0 at hF
  refine r_aload_n (i := 0) (k0 := 0) rfl rfl rfl ?_
  refine r_iload_n (i := 1) (k0 := 1) rfl rfl rfl ?_
  refine c_V1I (i := 2) rfl vm_M_isPoint lk_M_156 (t_M_isPoint hn (ok_bind hF)) (Nat.le_of_ble_eq_true rfl) (xm_in rfl hn) rfl rfl (Nat.le_of_ble_eq_true rfl) (fun p_1 hF => ?_)
  refine r_ifne (i := 3) (tgt := 11) rfl (by decide) (fun hc => ?_) (fun hc => ?_)
  · have hF := ok_if hc hF
    refine r_iload_n (i := 6) (k0 := 2) rfl rfl rfl ?_
    refine r_i2l (i := 7) rfl ?_
    refine r_ldc2 (i := 8) rfl ct_M_161 ?_
    refine r_ldc2 (i := 9) rfl ct_M_163 ?_
    refine c_S3I (i := 10) rfl sm_M_in lk_M_150 (t_M_in hn (ok_bind hF)) (Nat.le_of_ble_eq_true rfl) rfl (Nat.le_of_ble_eq_true rfl) (fun p_2 hF => ?_)
    refine r_ifeq (i := 11) (tgt := 39) rfl (by decide) (fun hc => ?_) (fun hc => ?_)
    · have hF := ok_it hc hF
      refine r_ldc (i := 18) rfl ct_M_154 ?_
      have hQ := hq _ (ok_some hF)
      exact r_ireturn (i := 19) rfl rfl rfl hQ
    have hF := ok_if hc hF
    refine r_iload_n (i := 12) (k0 := 3) rfl rfl rfl ?_
    refine r_i2l (i := 13) rfl ?_
    refine r_ldc2 (i := 14) rfl ct_M_161 ?_
    refine r_ldc2 (i := 15) rfl ct_M_163 ?_
    refine c_S3I (i := 16) rfl sm_M_in lk_M_150 (t_M_in hn (ok_bind hF)) (Nat.le_of_ble_eq_true rfl) rfl (Nat.le_of_ble_eq_true rfl) (fun p_3 hF => ?_)
    refine r_ifne (i := 17) (tgt := 42) rfl (by decide) (fun hc => ?_) (fun hc => ?_)
    · have hF := ok_if hc hF
      refine r_aload_n (i := 20) (k0 := 0) rfl rfl rfl ?_
      refine q_getr (b := 52) (i := 21) rfl fl_M_16 rfl (xm_in rfl hn) rfl rfl ?_
      refine r_iload_n (i := 22) (k0 := 1) rfl rfl rfl ?_
      refine r_iload_n (i := 23) (k0 := 2) rfl rfl rfl ?_
      obtain ⟨hi, hF⟩ := ok_gd hF
      refine q_iastore (i := 24) rfl (xm_in rfl hn) rfl hi ?_
      refine r_aload_n (i := 25) (k0 := 0) rfl rfl rfl ?_
      refine q_getr (b := 53) (i := 26) rfl fl_M_19 rfl (xm_in rfl hn) rfl rfl ?_
      refine r_iload_n (i := 27) (k0 := 1) rfl rfl rfl ?_
      refine r_iload_n (i := 28) (k0 := 3) rfl rfl rfl ?_
      obtain ⟨hi, hF⟩ := ok_gd hF
      refine q_iastore (i := 29) rfl (xm_in rfl hn) rfl hi ?_
      refine r_iconst (v := 1) (i := 30) rfl ki_1 ?_
      have hQ := hq _ (ok_some hF)
      exact r_ireturn (i := 31) rfl rfl rfl hQ
    have hF := ok_it hc hF
    refine r_ldc (i := 18) rfl ct_M_154 ?_
    have hQ := hq _ (ok_some hF)
    exact r_ireturn (i := 19) rfl rfl rfl hQ
  have hF := ok_it hc hF
  refine r_ldc (i := 4) rfl ct_M_160 ?_
  have hQ := hq _ (ok_some hF)
  exact r_ireturn (i := 5) rfl rfl rfl hQ
set_option maxHeartbeats 4000000 in
set_option maxRecDepth 100000 in
theorem t_M_move {x1 : Int32} {x2 : Int32} {x3 : Int32} {n : Nat} {I : xm_I} {L : xm_L} {K : Int32 × xm_I → Prop} (hn : 86 ≤ n) (hF : ok (f_M_move x1 x2 x3 I) K) : xm_C 1 mt_M_move [.ref 49, .int x1, .int x2, .int x3] (I, L, RC n, n) 0 0 (pI (fun p : Int32 × xm_I => p.1) (fun p : Int32 × xm_I => (p.2, L, RC n, n)) K) := by
  unfold f_M_move at hF
  refine xm_enter (by decide +kernel) dv_M_move (Nat.le_of_ble_eq_true rfl) ?_
  exact t_M_move_b0 hn (fun p hp => ⟨p, rfl, rfl, hp⟩) hF

noncomputable def f_M_tick_b0 (x1 : Int32) (I : xm_I) : Option (Int32 × xm_I) :=
  (f_M_in (Int32.toInt64 x1) 0 100).bind fun p_1 =>
  if p_1 = 0 then (
    some ((-100002), I))
  else (
    let x2_2 : Int32 := I 49 5
    let I_3 : xm_I := up2 I 49 5 x1
    some (x2_2, I_3))
noncomputable def f_M_tick (x1 : Int32) (I : xm_I) : Option (Int32 × xm_I) := f_M_tick_b0 x1 I
set_option maxHeartbeats 4000000 in
set_option maxRecDepth 100000 in
theorem t_M_tick_b0 {x1 : Int32} {n : Nat} {I : xm_I} {L : xm_L} {K : Int32 × xm_I → Prop} {Q : Option Value → xm_H → Prop} (hn : 86 ≤ n) (hq : ∀ p : Int32 × xm_I, K p → Q (some (.int p.1)) (p.2, L, RC n, n)) (hF : ok (f_M_tick_b0 x1 I) K) : xm_J 1 mt_M_tick 0 [(0, .ref 49), (1, .int x1)] [] (I, L, RC n, n) 0 0 Q := by
  unfold f_M_tick_b0 at hF
  refine r_iload_n (i := 0) (k0 := 1) rfl rfl rfl ?_
  refine r_i2l (i := 1) rfl ?_
  refine r_lconst (v := 0) (i := 2) rfl rfl ?_
  refine r_ldc2 (i := 3) rfl ct_M_163 ?_
  refine c_S3I (i := 4) rfl sm_M_in lk_M_150 (t_M_in hn (ok_bind hF)) (Nat.le_of_ble_eq_true rfl) rfl (Nat.le_of_ble_eq_true rfl) (fun p_1 hF => ?_)
  refine r_ifne (i := 5) (tgt := 15) rfl (by decide) (fun hc => ?_) (fun hc => ?_)
  · have hF := ok_if hc hF
    refine r_aload_n (i := 8) (k0 := 0) rfl rfl rfl ?_
    refine q_geti (i := 9) rfl fl_M_165 (xm_in rfl hn) rfl ?_
    refine r_istore_n (i := 10) (Ls' := [(2, _), (0, _), (1, _)]) rfl rfl (Nat.le_of_ble_eq_true rfl) rfl ?_
    refine r_aload_n (i := 11) (k0 := 1) rfl rfl rfl ?_
    refine r_iload_n (i := 12) (k0 := 2) rfl rfl rfl ?_
    refine q_puti (i := 13) rfl fl_M_165 (fun h => Bool.noConfusion h) (xm_in rfl hn) rfl ?_
    refine r_iload_n (i := 14) (k0 := 0) rfl rfl rfl ?_
    have hQ := hq _ (ok_some hF)
    exact r_ireturn (i := 15) rfl rfl rfl hQ
  have hF := ok_it hc hF
  refine r_ldc (i := 6) rfl ct_M_154 ?_
  have hQ := hq _ (ok_some hF)
  exact r_ireturn (i := 7) rfl rfl rfl hQ
set_option maxHeartbeats 4000000 in
set_option maxRecDepth 100000 in
theorem t_M_tick {x1 : Int32} {n : Nat} {I : xm_I} {L : xm_L} {K : Int32 × xm_I → Prop} (hn : 86 ≤ n) (hF : ok (f_M_tick x1 I) K) : xm_C 1 mt_M_tick [.ref 49, .int x1] (I, L, RC n, n) 0 0 (pI (fun p : Int32 × xm_I => p.1) (fun p : Int32 × xm_I => (p.2, L, RC n, n)) K) := by
  unfold f_M_tick at hF
  refine xm_enter (by decide +kernel) dv_M_tick (Nat.le_of_ble_eq_true rfl) ?_
  exact t_M_tick_b0 hn (fun p hp => ⟨p, rfl, rfl, hp⟩) hF

noncomputable def f_M_nowX_b0 (x1 : Int32) (I : xm_I) : Option (Int32) :=
  gd (0 ≤ (x1).toInt ∧ (x1).toInt < 60) <|
  gd (0 ≤ (x1).toInt ∧ (x1).toInt < 60) <|
  some ((I 50 (Int32.toNatClampNeg x1)) + ((I 49 5) * (I 52 (Int32.toNatClampNeg x1))))
noncomputable def f_M_nowX (x1 : Int32) (I : xm_I) : Option (Int32) := f_M_nowX_b0 x1 I
set_option maxHeartbeats 4000000 in
set_option maxRecDepth 100000 in
theorem t_M_nowX_b0 {x1 : Int32} {n : Nat} {I : xm_I} {L : xm_L} {K : Int32 → Prop} {Q : Option Value → xm_H → Prop} (hn : 86 ≤ n) (hq : ∀ p : Int32, K p → Q (some (.int p)) (I, L, RC n, n)) (hF : ok (f_M_nowX_b0 x1 I) K) : xm_J 0 mt_M_nowX 0 [(0, .ref 49), (1, .int x1)] [] (I, L, RC n, n) 0 0 Q := by
  unfold f_M_nowX_b0 at hF
  refine r_aload_n (i := 0) (k0 := 0) rfl rfl rfl ?_
  refine q_getr (b := 50) (i := 1) rfl fl_M_7 rfl (xm_in rfl hn) rfl rfl ?_
  refine r_iload_n (i := 2) (k0 := 1) rfl rfl rfl ?_
  obtain ⟨hi, hF⟩ := ok_gd hF
  refine q_iaload (i := 3) rfl (xm_in rfl hn) rfl hi ?_
  refine r_aload_n (i := 4) (k0 := 0) rfl rfl rfl ?_
  refine q_geti (i := 5) rfl fl_M_165 (xm_in rfl hn) rfl ?_
  refine r_aload_n (i := 6) (k0 := 0) rfl rfl rfl ?_
  refine q_getr (b := 52) (i := 7) rfl fl_M_16 rfl (xm_in rfl hn) rfl rfl ?_
  refine r_iload_n (i := 8) (k0 := 1) rfl rfl rfl ?_
  obtain ⟨hi, hF⟩ := ok_gd hF
  refine q_iaload (i := 9) rfl (xm_in rfl hn) rfl hi ?_
  refine r_imul (i := 10) rfl ?_
  refine r_iadd (i := 11) rfl ?_
  have hQ := hq _ (ok_some hF)
  exact r_ireturn (i := 12) rfl rfl rfl hQ
set_option maxHeartbeats 4000000 in
set_option maxRecDepth 100000 in
theorem t_M_nowX {x1 : Int32} {n : Nat} {I : xm_I} {L : xm_L} {K : Int32 → Prop} (hn : 86 ≤ n) (hF : ok (f_M_nowX x1 I) K) : xm_C 0 mt_M_nowX [.ref 49, .int x1] (I, L, RC n, n) 0 0 (pI (fun p : Int32 => p) (fun p : Int32 => (I, L, RC n, n)) K) := by
  unfold f_M_nowX at hF
  refine xm_enter (by decide +kernel) dv_M_nowX (Nat.le_of_ble_eq_true rfl) ?_
  exact t_M_nowX_b0 hn (fun p hp => ⟨p, rfl, rfl, hp⟩) hF

noncomputable def f_M_nowY_b0 (x1 : Int32) (I : xm_I) : Option (Int32) :=
  gd (0 ≤ (x1).toInt ∧ (x1).toInt < 60) <|
  gd (0 ≤ (x1).toInt ∧ (x1).toInt < 60) <|
  some ((I 51 (Int32.toNatClampNeg x1)) + ((I 49 5) * (I 53 (Int32.toNatClampNeg x1))))
noncomputable def f_M_nowY (x1 : Int32) (I : xm_I) : Option (Int32) := f_M_nowY_b0 x1 I
set_option maxHeartbeats 4000000 in
set_option maxRecDepth 100000 in
theorem t_M_nowY_b0 {x1 : Int32} {n : Nat} {I : xm_I} {L : xm_L} {K : Int32 → Prop} {Q : Option Value → xm_H → Prop} (hn : 86 ≤ n) (hq : ∀ p : Int32, K p → Q (some (.int p)) (I, L, RC n, n)) (hF : ok (f_M_nowY_b0 x1 I) K) : xm_J 0 mt_M_nowY 0 [(0, .ref 49), (1, .int x1)] [] (I, L, RC n, n) 0 0 Q := by
  unfold f_M_nowY_b0 at hF
  refine r_aload_n (i := 0) (k0 := 0) rfl rfl rfl ?_
  refine q_getr (b := 51) (i := 1) rfl fl_M_13 rfl (xm_in rfl hn) rfl rfl ?_
  refine r_iload_n (i := 2) (k0 := 1) rfl rfl rfl ?_
  obtain ⟨hi, hF⟩ := ok_gd hF
  refine q_iaload (i := 3) rfl (xm_in rfl hn) rfl hi ?_
  refine r_aload_n (i := 4) (k0 := 0) rfl rfl rfl ?_
  refine q_geti (i := 5) rfl fl_M_165 (xm_in rfl hn) rfl ?_
  refine r_aload_n (i := 6) (k0 := 0) rfl rfl rfl ?_
  refine q_getr (b := 53) (i := 7) rfl fl_M_19 rfl (xm_in rfl hn) rfl rfl ?_
  refine r_iload_n (i := 8) (k0 := 1) rfl rfl rfl ?_
  obtain ⟨hi, hF⟩ := ok_gd hF
  refine q_iaload (i := 9) rfl (xm_in rfl hn) rfl hi ?_
  refine r_imul (i := 10) rfl ?_
  refine r_iadd (i := 11) rfl ?_
  have hQ := hq _ (ok_some hF)
  exact r_ireturn (i := 12) rfl rfl rfl hQ
set_option maxHeartbeats 4000000 in
set_option maxRecDepth 100000 in
theorem t_M_nowY {x1 : Int32} {n : Nat} {I : xm_I} {L : xm_L} {K : Int32 → Prop} (hn : 86 ≤ n) (hF : ok (f_M_nowY x1 I) K) : xm_C 0 mt_M_nowY [.ref 49, .int x1] (I, L, RC n, n) 0 0 (pI (fun p : Int32 => p) (fun p : Int32 => (I, L, RC n, n)) K) := by
  unfold f_M_nowY at hF
  refine xm_enter (by decide +kernel) dv_M_nowY (Nat.le_of_ble_eq_true rfl) ?_
  exact t_M_nowY_b0 hn (fun p hp => ⟨p, rfl, rfl, hp⟩) hF

noncomputable def f_M_at_b0 (x1 : Int32) (x2 : Int32) (I : xm_I) : Option (Int32) :=
  (f_M_isPoint x1 I).bind fun p_1 =>
  if p_1 = 0 then (
    some ((-100001)))
  else (
    (f_M_in (Int32.toInt64 x2) 0 1).bind fun p_2 =>
    if p_2 = 0 then (
      some ((-100002)))
    else (
      if x2 = 0 then (
        (f_M_nowX x1 I).bind fun p_4 =>
        some (p_4))
      else (
        (f_M_nowY x1 I).bind fun p_3 =>
        some (p_3))))
noncomputable def f_M_at (x1 : Int32) (x2 : Int32) (I : xm_I) : Option (Int32) := f_M_at_b0 x1 x2 I
set_option maxHeartbeats 4000000 in
set_option maxRecDepth 100000 in
theorem t_M_at_b0 {x1 : Int32} {x2 : Int32} {n : Nat} {I : xm_I} {L : xm_L} {K : Int32 → Prop} {Q : Option Value → xm_H → Prop} (hn : 86 ≤ n) (hq : ∀ p : Int32, K p → Q (some (.int p)) (I, L, RC n, n)) (hF : ok (f_M_at_b0 x1 x2 I) K) : xm_J 1 mt_M_at 0 [(0, .ref 49), (1, .int x1), (2, .int x2)] [] (I, L, RC n, n) 0 0 Q := by
  unfold f_M_at_b0 at hF
  refine r_aload_n (i := 0) (k0 := 0) rfl rfl rfl ?_
  refine r_iload_n (i := 1) (k0 := 1) rfl rfl rfl ?_
  refine c_V1I (i := 2) rfl vm_M_isPoint lk_M_156 (t_M_isPoint hn (ok_bind hF)) (Nat.le_of_ble_eq_true rfl) (xm_in rfl hn) rfl rfl (Nat.le_of_ble_eq_true rfl) (fun p_1 hF => ?_)
  refine r_ifne (i := 3) (tgt := 13) rfl (by decide) (fun hc => ?_) (fun hc => ?_)
  · have hF := ok_if hc hF
    refine r_iload_n (i := 6) (k0 := 2) rfl rfl rfl ?_
    refine r_i2l (i := 7) rfl ?_
    refine r_lconst (v := 0) (i := 8) rfl rfl ?_
    refine r_lconst (v := 1) (i := 9) rfl rfl ?_
    refine c_S3I (i := 10) rfl sm_M_in lk_M_150 (t_M_in hn (ok_bind hF)) (Nat.le_of_ble_eq_true rfl) rfl (Nat.le_of_ble_eq_true rfl) (fun p_2 hF => ?_)
    refine r_ifne (i := 11) (tgt := 28) rfl (by decide) (fun hc => ?_) (fun hc => ?_)
    · have hF := ok_if hc hF
      refine r_iload_n (i := 14) (k0 := 2) rfl rfl rfl ?_
      refine r_ifne (i := 15) (tgt := 40) rfl (by decide) (fun hc => ?_) (fun hc => ?_)
      · have hF := ok_if hc hF
        refine r_aload_n (i := 20) (k0 := 0) rfl rfl rfl ?_
        refine r_iload_n (i := 21) (k0 := 1) rfl rfl rfl ?_
        refine c_V1I (i := 22) rfl vm_M_nowY lk_M_172 (t_M_nowY hn (ok_bind hF)) (Nat.le_of_ble_eq_true rfl) (xm_in rfl hn) rfl rfl (Nat.le_of_ble_eq_true rfl) (fun p_3 hF => ?_)
        have hQ := hq _ (ok_some hF)
        exact r_ireturn (i := 23) rfl rfl rfl hQ
      have hF := ok_it hc hF
      refine r_aload_n (i := 16) (k0 := 0) rfl rfl rfl ?_
      refine r_iload_n (i := 17) (k0 := 1) rfl rfl rfl ?_
      refine c_V1I (i := 18) rfl vm_M_nowX lk_M_168 (t_M_nowX hn (ok_bind hF)) (Nat.le_of_ble_eq_true rfl) (xm_in rfl hn) rfl rfl (Nat.le_of_ble_eq_true rfl) (fun p_4 hF => ?_)
      refine r_goto (i := 19) (tgt := 45) rfl (by decide) ?_
      have hQ := hq _ (ok_some hF)
      exact r_ireturn (i := 23) rfl rfl rfl hQ
    have hF := ok_it hc hF
    refine r_ldc (i := 12) rfl ct_M_154 ?_
    refine r_goto (i := 13) (tgt := 45) rfl (by decide) ?_
    have hQ := hq _ (ok_some hF)
    exact r_ireturn (i := 23) rfl rfl rfl hQ
  have hF := ok_it hc hF
  refine r_ldc (i := 4) rfl ct_M_160 ?_
  refine r_goto (i := 5) (tgt := 45) rfl (by decide) ?_
  have hQ := hq _ (ok_some hF)
  exact r_ireturn (i := 23) rfl rfl rfl hQ
set_option maxHeartbeats 4000000 in
set_option maxRecDepth 100000 in
theorem t_M_at {x1 : Int32} {x2 : Int32} {n : Nat} {I : xm_I} {L : xm_L} {K : Int32 → Prop} (hn : 86 ≤ n) (hF : ok (f_M_at x1 x2 I) K) : xm_C 1 mt_M_at [.ref 49, .int x1, .int x2] (I, L, RC n, n) 0 0 (pI (fun p : Int32 => p) (fun p : Int32 => (I, L, RC n, n)) K) := by
  unfold f_M_at at hF
  refine xm_enter (by decide +kernel) dv_M_at (Nat.le_of_ble_eq_true rfl) ?_
  exact t_M_at_b0 hn (fun p hp => ⟨p, rfl, rfl, hp⟩) hF

noncomputable def f_M_wanted_b0 (x0 : Int32) : Option (Int32) :=
  if x0 = 5 then (
    some (3))
  else (
    (f_M_in (Int32.toInt64 x0) 1 6).bind fun p_1 =>
    if p_1 = 0 then (
      some (1))
    else (
    some (2)))
noncomputable def f_M_wanted (x0 : Int32) : Option (Int32) := f_M_wanted_b0 x0
set_option maxHeartbeats 4000000 in
set_option maxRecDepth 100000 in
theorem t_M_wanted_b0 {x0 : Int32} {n : Nat} {I : xm_I} {L : xm_L} {K : Int32 → Prop} {Q : Option Value → xm_H → Prop} (hn : 86 ≤ n) (hq : ∀ p : Int32, K p → Q (some (.int p)) (I, L, RC n, n)) (hF : ok (f_M_wanted_b0 x0) K) : xm_J 1 mt_M_wanted 0 [(0, .int x0)] [] (I, L, RC n, n) 0 0 Q := by
  unfold f_M_wanted_b0 at hF
  refine r_iload_n (i := 0) (k0 := 0) rfl rfl rfl ?_
  refine r_iconst (v := 5) (i := 1) rfl ki_5 ?_
  refine r_icmpne (i := 2) (tgt := 9) rfl (by decide) (fun hc => ?_) (fun hc => ?_)
  · have hF := ok_if hc hF
    refine r_iload_n (i := 5) (k0 := 0) rfl rfl rfl ?_
    refine r_i2l (i := 6) rfl ?_
    refine r_lconst (v := 1) (i := 7) rfl rfl ?_
    refine r_ldc2 (i := 8) rfl ct_M_175 ?_
    refine c_S3I (i := 9) rfl sm_M_in lk_M_150 (t_M_in hn (ok_bind hF)) (Nat.le_of_ble_eq_true rfl) rfl (Nat.le_of_ble_eq_true rfl) (fun p_1 hF => ?_)
    refine r_ifeq (i := 10) (tgt := 25) rfl (by decide) (fun hc => ?_) (fun hc => ?_)
    · have hF := ok_it hc hF
      refine r_iconst (v := 1) (i := 13) rfl ki_1 ?_
      have hQ := hq _ (ok_some hF)
      exact r_ireturn (i := 14) rfl rfl rfl hQ
    have hF := ok_if hc hF
    refine r_iconst (v := 2) (i := 11) rfl ki_2 ?_
    refine r_goto (i := 12) (tgt := 26) rfl (by decide) ?_
    have hQ := hq _ (ok_some hF)
    exact r_ireturn (i := 14) rfl rfl rfl hQ
  have hF := ok_it hc hF
  refine r_iconst (v := 3) (i := 3) rfl ki_3 ?_
  refine r_goto (i := 4) (tgt := 26) rfl (by decide) ?_
  have hQ := hq _ (ok_some hF)
  exact r_ireturn (i := 14) rfl rfl rfl hQ
set_option maxHeartbeats 4000000 in
set_option maxRecDepth 100000 in
theorem t_M_wanted {x0 : Int32} {n : Nat} {I : xm_I} {L : xm_L} {K : Int32 → Prop} (hn : 86 ≤ n) (hF : ok (f_M_wanted x0) K) : xm_C 1 mt_M_wanted [.int x0] (I, L, RC n, n) 0 0 (pI (fun p : Int32 => p) (fun p : Int32 => (I, L, RC n, n)) K) := by
  unfold f_M_wanted at hF
  refine xm_enter (by decide +kernel) dv_M_wanted (Nat.le_of_ble_eq_true rfl) ?_
  exact t_M_wanted_b0 hn (fun p hp => ⟨p, rfl, rfl, hp⟩) hF

noncomputable def f_M_object_b80 (x1 : Int32) (x2 : Int32) (x3 : Int32) (x4 : Int32) (x5 : Int32) (I : xm_I) : Option (Int32 × xm_I) :=
  if (I 49 11) = 40 then (
    some ((-100004), I))
  else (
    gd (0 ≤ (I 49 11).toInt ∧ (I 49 11).toInt < 40) <|
    let I_1 : xm_I := up2 I 54 (Int32.toNatClampNeg (I 49 11)) x1
    gd (0 ≤ (12 * (I_1 49 11)).toInt ∧ (12 * (I_1 49 11)).toInt < 480) <|
    let I_2 : xm_I := up2 I_1 55 (Int32.toNatClampNeg (12 * (I_1 49 11))) x2
    gd (0 ≤ ((12 * (I_2 49 11)) + 1).toInt ∧ ((12 * (I_2 49 11)) + 1).toInt < 480) <|
    let I_3 : xm_I := up2 I_2 55 (Int32.toNatClampNeg ((12 * (I_2 49 11)) + 1)) x3
    gd (0 ≤ ((12 * (I_3 49 11)) + 2).toInt ∧ ((12 * (I_3 49 11)) + 2).toInt < 480) <|
    let I_4 : xm_I := up2 I_3 55 (Int32.toNatClampNeg ((12 * (I_3 49 11)) + 2)) x4
    gd (0 ≤ (I_4 49 11).toInt ∧ (I_4 49 11).toInt < 40) <|
    let I_5 : xm_I := up2 I_4 56 (Int32.toNatClampNeg (I_4 49 11)) x5
    gd (0 ≤ (I_5 49 11).toInt ∧ (I_5 49 11).toInt < 40) <|
    let I_6 : xm_I := up2 I_5 57 (Int32.toNatClampNeg (I_5 49 11)) 0
    gd (0 ≤ (I_6 49 11).toInt ∧ (I_6 49 11).toInt < 40) <|
    let I_7 : xm_I := up2 I_6 58 (Int32.toNatClampNeg (I_6 49 11)) x4
    let I_8 : xm_I := up2 I_7 49 11 ((I_7 49 11) + 1)
    some ((I_8 49 11) - 1, I_8))
noncomputable def f_M_object_b46 (x1 : Int32) (x2 : Int32) (x3 : Int32) (x4 : Int32) (x5 : Int32) (I : xm_I) : Option (Int32 × xm_I) :=
  (f_M_in (Int32.toInt64 x1) 0 6).bind fun p_1 =>
  if p_1 = 0 then (
    some ((-100002), I))
  else (
  if x1 = 6 then (
    (f_M_in (Int32.toInt64 x4) 1 3).bind fun p_2 =>
    if p_2 = 0 then (
      some ((-100002), I))
    else (
      f_M_object_b80 x1 x2 x3 x4 x5 I))
  else (
    f_M_object_b80 x1 x2 x3 x4 x5 I))
noncomputable def f_M_object_b28 (x1 : Int32) (x2 : Int32) (x3 : Int32) (x4 : Int32) (x5 : Int32) (I : xm_I) : Option (Int32 × xm_I) :=
  if x5 ≤ 2 then (
    f_M_object_b46 x1 x2 x3 x4 x5 I)
  else (
  (f_M_isPoint x4 I).bind fun p_1 =>
  if p_1 = 0 then (
    some ((-100001), I))
  else (
    f_M_object_b46 x1 x2 x3 x4 x5 I))
noncomputable def f_M_object_b0 (x1 : Int32) (x2 : Int32) (x3 : Int32) (x4 : Int32) (I : xm_I) : Option (Int32 × xm_I) :=
  (f_M_wanted x1).bind fun p_1 =>
  (f_M_isPoint x2 I).bind fun p_2 =>
  if p_2 = 0 then (
    some ((-100001), I))
  else (
  if p_1 ≤ 1 then (
    f_M_object_b28 x1 x2 x3 x4 p_1 I)
  else (
  (f_M_isPoint x3 I).bind fun p_3 =>
  if p_3 = 0 then (
    some ((-100001), I))
  else (
  f_M_object_b28 x1 x2 x3 x4 p_1 I)))
noncomputable def f_M_object (x1 : Int32) (x2 : Int32) (x3 : Int32) (x4 : Int32) (I : xm_I) : Option (Int32 × xm_I) := f_M_object_b0 x1 x2 x3 x4 I
set_option maxHeartbeats 4000000 in
set_option maxRecDepth 100000 in
theorem t_M_object_b80 {x1 : Int32} {x2 : Int32} {x3 : Int32} {x4 : Int32} {x5 : Int32} {n : Nat} {I : xm_I} {L : xm_L} {K : Int32 × xm_I → Prop} {Q : Option Value → xm_H → Prop} (hn : 86 ≤ n) (hq : ∀ p : Int32 × xm_I, K p → Q (some (.int p.1)) (p.2, L, RC n, n)) (hF : ok (f_M_object_b80 x1 x2 x3 x4 x5 I) K) : xm_J 2 mt_M_object 80 [(0, .ref 49), (1, .int x1), (2, .int x2), (3, .int x3), (4, .int x4), (5, .int x5)] [] (I, L, RC n, n) 0 0 Q := by
  unfold f_M_object_b80 at hF
  refine r_aload_n (i := 40) (k0 := 0) rfl rfl rfl ?_
  refine q_geti (i := 41) rfl fl_M_140 (xm_in rfl hn) rfl ?_
  refine r_bipush (v := 40) (i := 42) rfl kb_40 ?_
  refine r_icmpne (i := 43) (tgt := 92) rfl (by decide) (fun hc => ?_) (fun hc => ?_)
  · have hF := ok_if hc hF
    refine r_aload_n (i := 46) (k0 := 0) rfl rfl rfl ?_
    refine q_getr (b := 54) (i := 47) rfl fl_M_22 rfl (xm_in rfl hn) rfl rfl ?_
    refine r_aload_n (i := 48) (k0 := 0) rfl rfl rfl ?_
    refine q_geti (i := 49) rfl fl_M_140 (xm_in rfl hn) rfl ?_
    refine r_iload_n (i := 50) (k0 := 1) rfl rfl rfl ?_
    obtain ⟨hi, hF⟩ := ok_gd hF
    refine q_iastore (i := 51) rfl (xm_in rfl hn) rfl hi ?_
    refine r_aload_n (i := 52) (k0 := 0) rfl rfl rfl ?_
    refine q_getr (b := 55) (i := 53) rfl fl_M_25 rfl (xm_in rfl hn) rfl rfl ?_
    refine r_bipush (v := 12) (i := 54) rfl kb_12 ?_
    refine r_aload_n (i := 55) (k0 := 0) rfl rfl rfl ?_
    refine q_geti (i := 56) rfl fl_M_140 (xm_in rfl hn) rfl ?_
    refine r_imul (i := 57) rfl ?_
    refine r_iload_n (i := 58) (k0 := 2) rfl rfl rfl ?_
    obtain ⟨hi, hF⟩ := ok_gd hF
    refine q_iastore (i := 59) rfl (xm_in rfl hn) rfl hi ?_
    refine r_aload_n (i := 60) (k0 := 0) rfl rfl rfl ?_
    refine q_getr (b := 55) (i := 61) rfl fl_M_25 rfl (xm_in rfl hn) rfl rfl ?_
    refine r_bipush (v := 12) (i := 62) rfl kb_12 ?_
    refine r_aload_n (i := 63) (k0 := 0) rfl rfl rfl ?_
    refine q_geti (i := 64) rfl fl_M_140 (xm_in rfl hn) rfl ?_
    refine r_imul (i := 65) rfl ?_
    refine r_iconst (v := 1) (i := 66) rfl ki_1 ?_
    refine r_iadd (i := 67) rfl ?_
    refine r_iload_n (i := 68) (k0 := 3) rfl rfl rfl ?_
    obtain ⟨hi, hF⟩ := ok_gd hF
    refine q_iastore (i := 69) rfl (xm_in rfl hn) rfl hi ?_
    refine r_aload_n (i := 70) (k0 := 0) rfl rfl rfl ?_
    refine q_getr (b := 55) (i := 71) rfl fl_M_25 rfl (xm_in rfl hn) rfl rfl ?_
    refine r_bipush (v := 12) (i := 72) rfl kb_12 ?_
    refine r_aload_n (i := 73) (k0 := 0) rfl rfl rfl ?_
    refine q_geti (i := 74) rfl fl_M_140 (xm_in rfl hn) rfl ?_
    refine r_imul (i := 75) rfl ?_
    refine r_iconst (v := 2) (i := 76) rfl ki_2 ?_
    refine r_iadd (i := 77) rfl ?_
    refine r_iload (i := 78) (k0 := 4) rfl rfl ?_
    obtain ⟨hi, hF⟩ := ok_gd hF
    refine q_iastore (i := 79) rfl (xm_in rfl hn) rfl hi ?_
    refine r_aload_n (i := 80) (k0 := 0) rfl rfl rfl ?_
    refine q_getr (b := 56) (i := 81) rfl fl_M_28 rfl (xm_in rfl hn) rfl rfl ?_
    refine r_aload_n (i := 82) (k0 := 0) rfl rfl rfl ?_
    refine q_geti (i := 83) rfl fl_M_140 (xm_in rfl hn) rfl ?_
    refine r_iload (i := 84) (k0 := 5) rfl rfl ?_
    obtain ⟨hi, hF⟩ := ok_gd hF
    refine q_iastore (i := 85) rfl (xm_in rfl hn) rfl hi ?_
    refine r_aload_n (i := 86) (k0 := 0) rfl rfl rfl ?_
    refine q_getr (b := 57) (i := 87) rfl fl_M_31 rfl (xm_in rfl hn) rfl rfl ?_
    refine r_aload_n (i := 88) (k0 := 0) rfl rfl rfl ?_
    refine q_geti (i := 89) rfl fl_M_140 (xm_in rfl hn) rfl ?_
    refine r_iconst (v := 0) (i := 90) rfl ki_0 ?_
    obtain ⟨hi, hF⟩ := ok_gd hF
    refine q_iastore (i := 91) rfl (xm_in rfl hn) rfl hi ?_
    refine r_aload_n (i := 92) (k0 := 0) rfl rfl rfl ?_
    refine q_getr (b := 58) (i := 93) rfl fl_M_34 rfl (xm_in rfl hn) rfl rfl ?_
    refine r_aload_n (i := 94) (k0 := 0) rfl rfl rfl ?_
    refine q_geti (i := 95) rfl fl_M_140 (xm_in rfl hn) rfl ?_
    refine r_iload (i := 96) (k0 := 4) rfl rfl ?_
    obtain ⟨hi, hF⟩ := ok_gd hF
    refine q_iastore (i := 97) rfl (xm_in rfl hn) rfl hi ?_
    refine r_aload_n (i := 98) (k0 := 0) rfl rfl rfl ?_
    refine r_dup (i := 99) rfl rfl ?_
    refine q_geti (i := 100) rfl fl_M_140 (xm_in rfl hn) rfl ?_
    refine r_iconst (v := 1) (i := 101) rfl ki_1 ?_
    refine r_iadd (i := 102) rfl ?_
    refine q_puti (i := 103) rfl fl_M_140 (fun h => Bool.noConfusion h) (xm_in rfl hn) rfl ?_
    refine r_aload_n (i := 104) (k0 := 0) rfl rfl rfl ?_
    refine q_geti (i := 105) rfl fl_M_140 (xm_in rfl hn) rfl ?_
    refine r_iconst (v := 1) (i := 106) rfl ki_1 ?_
    refine r_isub (i := 107) rfl ?_
    have hQ := hq _ (ok_some hF)
    exact r_ireturn (i := 108) rfl rfl rfl hQ
  have hF := ok_it hc hF
  refine r_ldc (i := 44) rfl ct_M_155 ?_
  have hQ := hq _ (ok_some hF)
  exact r_ireturn (i := 45) rfl rfl rfl hQ
set_option maxHeartbeats 4000000 in
set_option maxRecDepth 100000 in
theorem t_M_object_b46 {x1 : Int32} {x2 : Int32} {x3 : Int32} {x4 : Int32} {x5 : Int32} {n : Nat} {I : xm_I} {L : xm_L} {K : Int32 × xm_I → Prop} {Q : Option Value → xm_H → Prop} (hn : 86 ≤ n) (hq : ∀ p : Int32 × xm_I, K p → Q (some (.int p.1)) (p.2, L, RC n, n)) (hF : ok (f_M_object_b46 x1 x2 x3 x4 x5 I) K) : xm_J 2 mt_M_object 46 [(0, .ref 49), (1, .int x1), (2, .int x2), (3, .int x3), (4, .int x4), (5, .int x5)] [] (I, L, RC n, n) 0 0 Q := by
  unfold f_M_object_b46 at hF
  refine r_iload_n (i := 23) (k0 := 1) rfl rfl rfl ?_
  refine r_i2l (i := 24) rfl ?_
  refine r_lconst (v := 0) (i := 25) rfl rfl ?_
  refine r_ldc2 (i := 26) rfl ct_M_175 ?_
  refine c_S3I (i := 27) rfl sm_M_in lk_M_150 (t_M_in hn (ok_bind hF)) (Nat.le_of_ble_eq_true rfl) rfl (Nat.le_of_ble_eq_true rfl) (fun p_1 hF => ?_)
  refine r_ifeq (i := 28) (tgt := 77) rfl (by decide) (fun hc => ?_) (fun hc => ?_)
  · have hF := ok_it hc hF
    refine r_ldc (i := 38) rfl ct_M_154 ?_
    have hQ := hq _ (ok_some hF)
    exact r_ireturn (i := 39) rfl rfl rfl hQ
  have hF := ok_if hc hF
  refine r_iload_n (i := 29) (k0 := 1) rfl rfl rfl ?_
  refine r_bipush (v := 6) (i := 30) rfl kb_6 ?_
  refine r_icmpne (i := 31) (tgt := 80) rfl (by decide) (fun hc => ?_) (fun hc => ?_)
  · have hF := ok_if hc hF
    exact t_M_object_b80 hn (fun p h => hq p h) hF
  have hF := ok_it hc hF
  refine r_iload (i := 32) (k0 := 4) rfl rfl ?_
  refine r_i2l (i := 33) rfl ?_
  refine r_lconst (v := 1) (i := 34) rfl rfl ?_
  refine r_ldc2 (i := 35) rfl ct_M_180 ?_
  refine c_S3I (i := 36) rfl sm_M_in lk_M_150 (t_M_in hn (ok_bind hF)) (Nat.le_of_ble_eq_true rfl) rfl (Nat.le_of_ble_eq_true rfl) (fun p_2 hF => ?_)
  refine r_ifne (i := 37) (tgt := 80) rfl (by decide) (fun hc => ?_) (fun hc => ?_)
  · have hF := ok_if hc hF
    exact t_M_object_b80 hn (fun p h => hq p h) hF
  have hF := ok_it hc hF
  refine r_ldc (i := 38) rfl ct_M_154 ?_
  have hQ := hq _ (ok_some hF)
  exact r_ireturn (i := 39) rfl rfl rfl hQ
set_option maxHeartbeats 4000000 in
set_option maxRecDepth 100000 in
theorem t_M_object_b28 {x1 : Int32} {x2 : Int32} {x3 : Int32} {x4 : Int32} {x5 : Int32} {n : Nat} {I : xm_I} {L : xm_L} {K : Int32 × xm_I → Prop} {Q : Option Value → xm_H → Prop} (hn : 86 ≤ n) (hq : ∀ p : Int32 × xm_I, K p → Q (some (.int p.1)) (p.2, L, RC n, n)) (hF : ok (f_M_object_b28 x1 x2 x3 x4 x5 I) K) : xm_J 2 mt_M_object 28 [(0, .ref 49), (1, .int x1), (2, .int x2), (3, .int x3), (4, .int x4), (5, .int x5)] [] (I, L, RC n, n) 0 0 Q := by
  unfold f_M_object_b28 at hF
  refine r_iload (i := 14) (k0 := 5) rfl rfl ?_
  refine r_iconst (v := 2) (i := 15) rfl ki_2 ?_
  refine r_icmple (i := 16) (tgt := 46) rfl (by decide) (fun hc => ?_) (fun hc => ?_)
  · have hF := ok_it hc hF
    exact t_M_object_b46 hn (fun p h => hq p h) hF
  have hF := ok_if hc hF
  refine r_aload_n (i := 17) (k0 := 0) rfl rfl rfl ?_
  refine r_iload (i := 18) (k0 := 4) rfl rfl ?_
  refine c_V1I (i := 19) rfl vm_M_isPoint lk_M_156 (t_M_isPoint hn (ok_bind hF)) (Nat.le_of_ble_eq_true rfl) (xm_in rfl hn) rfl rfl (Nat.le_of_ble_eq_true rfl) (fun p_1 hF => ?_)
  refine r_ifne (i := 20) (tgt := 46) rfl (by decide) (fun hc => ?_) (fun hc => ?_)
  · have hF := ok_if hc hF
    exact t_M_object_b46 hn (fun p h => hq p h) hF
  have hF := ok_it hc hF
  refine r_ldc (i := 21) rfl ct_M_160 ?_
  have hQ := hq _ (ok_some hF)
  exact r_ireturn (i := 22) rfl rfl rfl hQ
set_option maxHeartbeats 4000000 in
set_option maxRecDepth 100000 in
theorem t_M_object_b0 {x1 : Int32} {x2 : Int32} {x3 : Int32} {x4 : Int32} {n : Nat} {I : xm_I} {L : xm_L} {K : Int32 × xm_I → Prop} {Q : Option Value → xm_H → Prop} (hn : 86 ≤ n) (hq : ∀ p : Int32 × xm_I, K p → Q (some (.int p.1)) (p.2, L, RC n, n)) (hF : ok (f_M_object_b0 x1 x2 x3 x4 I) K) : xm_J 2 mt_M_object 0 [(0, .ref 49), (1, .int x1), (2, .int x2), (3, .int x3), (4, .int x4)] [] (I, L, RC n, n) 0 0 Q := by
  unfold f_M_object_b0 at hF
  refine r_iload_n (i := 0) (k0 := 1) rfl rfl rfl ?_
  refine c_S1I (i := 1) rfl sm_M_wanted lk_M_177 (t_M_wanted hn (ok_bind hF)) (Nat.le_of_ble_eq_true rfl) rfl (Nat.le_of_ble_eq_true rfl) (fun p_1 hF => ?_)
  refine r_istore (i := 2) (Ls' := [(5, _), (0, _), (1, _), (2, _), (3, _), (4, _)]) rfl (Nat.le_of_ble_eq_true rfl) rfl ?_
  refine r_aload_n (i := 3) (k0 := 1) rfl rfl rfl ?_
  refine r_iload_n (i := 4) (k0 := 3) rfl rfl rfl ?_
  refine c_V1I (i := 5) rfl vm_M_isPoint lk_M_156 (t_M_isPoint hn (ok_bind hF)) (Nat.le_of_ble_eq_true rfl) (xm_in rfl hn) rfl rfl (Nat.le_of_ble_eq_true rfl) (fun p_2 hF => ?_)
  refine r_ifeq (i := 6) (tgt := 43) rfl (by decide) (fun hc => ?_) (fun hc => ?_)
  · have hF := ok_it hc hF
    refine r_ldc (i := 21) rfl ct_M_160 ?_
    have hQ := hq _ (ok_some hF)
    exact r_ireturn (i := 22) rfl rfl rfl hQ
  have hF := ok_if hc hF
  refine r_iload (i := 7) (k0 := 0) rfl rfl ?_
  refine r_iconst (v := 1) (i := 8) rfl ki_1 ?_
  refine r_icmple (i := 9) (tgt := 28) rfl (by decide) (fun hc => ?_) (fun hc => ?_)
  · have hF := ok_it hc hF
    refine xm_sub (Ls' := [(0, _), (1, _), (2, _), (3, _), (4, _), (5, _)]) [1, 2, 3, 4, 5, 0] rfl ?_
    exact t_M_object_b28 hn (fun p h => hq p h) hF
  have hF := ok_if hc hF
  refine r_aload_n (i := 10) (k0 := 1) rfl rfl rfl ?_
  refine r_iload_n (i := 11) (k0 := 4) rfl rfl rfl ?_
  refine c_V1I (i := 12) rfl vm_M_isPoint lk_M_156 (t_M_isPoint hn (ok_bind hF)) (Nat.le_of_ble_eq_true rfl) (xm_in rfl hn) rfl rfl (Nat.le_of_ble_eq_true rfl) (fun p_3 hF => ?_)
  refine r_ifeq (i := 13) (tgt := 43) rfl (by decide) (fun hc => ?_) (fun hc => ?_)
  · have hF := ok_it hc hF
    refine r_ldc (i := 21) rfl ct_M_160 ?_
    have hQ := hq _ (ok_some hF)
    exact r_ireturn (i := 22) rfl rfl rfl hQ
  have hF := ok_if hc hF
  refine xm_sub (Ls' := [(0, _), (1, _), (2, _), (3, _), (4, _), (5, _)]) [1, 2, 3, 4, 5, 0] rfl ?_
  exact t_M_object_b28 hn (fun p h => hq p h) hF
set_option maxHeartbeats 4000000 in
set_option maxRecDepth 100000 in
theorem t_M_object {x1 : Int32} {x2 : Int32} {x3 : Int32} {x4 : Int32} {n : Nat} {I : xm_I} {L : xm_L} {K : Int32 × xm_I → Prop} (hn : 86 ≤ n) (hF : ok (f_M_object x1 x2 x3 x4 I) K) : xm_C 2 mt_M_object [.ref 49, .int x1, .int x2, .int x3, .int x4] (I, L, RC n, n) 0 0 (pI (fun p : Int32 × xm_I => p.1) (fun p : Int32 × xm_I => (p.2, L, RC n, n)) K) := by
  unfold f_M_object at hF
  refine xm_enter (by decide +kernel) dv_M_object (Nat.le_of_ble_eq_true rfl) ?_
  exact t_M_object_b0 hn (fun p hp => ⟨p, rfl, rfl, hp⟩) hF
