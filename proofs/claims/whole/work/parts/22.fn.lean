/-! ===== turned: So_facesSeen So_facesWith So_greaterOf So_isBehind So_lesserOf D_edge Lb_isFull Lb_add D_label Mk_numbersOf Mk_has Mk_valueAt Mk_writeOctet Mk_writeNumber Mk_write Mk_seal Lb_beginDrawing Pl_isAside Pl_addCostOfStroke Pl_addCostsOfMarks Pl_costOf Pl_meet Pl_isFree Pl_cheapestFree Pl_goRounds Pl_boundByRounds ===== -/
noncomputable def f_So_facesSeen_b27 (r0 : Nat) (x1 : Int32) (x2 : Int32) (x3 : Int32) (I : xm_I) : Option ((Int32 × Int32) ⊕ (Int32)) :=
  let x3_1 : Int32 := x3 + 1
  some (.inl (x2, x3_1))
noncomputable def f_So_facesSeen_s4 (r0 : Nat) (x1 : Int32) (I : xm_I) (s : Int32 × Int32) : Option ((Int32 × Int32) ⊕ (Int32)) :=
  if (I r0 10) ≤ s.2 then (
    some (.inr (s.1)))
  else (
  (f_So_towardsEye r0 s.2 x1 I).bind fun p_1 =>
  if p_1 ≤ 0 then (
    f_So_facesSeen_b27 r0 x1 s.1 s.2 I)
  else (
  let x2_2 : Int32 := s.1 ||| (1 <<< (s.2 &&& 31))
  f_So_facesSeen_b27 r0 x1 x2_2 s.2 I))
noncomputable def f_So_facesSeen_b4 (r0 : Nat) (x1 : Int32) (I : xm_I) (s : Int32 × Int32) : Option (Int32) := lp (f_So_facesSeen_s4 r0 x1 I) s
noncomputable def f_So_facesSeen_b0 (r0 : Nat) (x1 : Int32) (I : xm_I) : Option (Int32) :=
  f_So_facesSeen_b4 r0 x1 I (0, 0)
noncomputable def f_So_facesSeen (r0 : Nat) (x1 : Int32) (I : xm_I) : Option (Int32) := f_So_facesSeen_b0 r0 x1 I
set_option maxHeartbeats 4000000 in
set_option maxRecDepth 100000 in
theorem t_So_facesSeen_b27 {r0 : Nat} {x1 : Int32} {x2 : Int32} {x3 : Int32} {n : Nat} {I : xm_I} {L : xm_L} {K : (Int32 × Int32) ⊕ (Int32) → Prop} {Q : Option Value → xm_H → Prop} (hn : 86 ≤ n) (hsr0 : xm_sd n r0) (hq : ∀ p : Int32, K (.inr p) → Q (some (.int p)) (I, L, RC n, n)) (hg0 : ∀ s : Int32 × Int32, K (.inl s) → xm_J 1 mt_So_facesSeen 4 [(0, .ref r0), (1, .int x1), (2, .int s.1), (3, .int s.2)] [] (I, L, RC n, n) 0 0 Q) (hF : ok (f_So_facesSeen_b27 r0 x1 x2 x3 I) K) : xm_J 1 mt_So_facesSeen 27 [(0, .ref r0), (1, .int x1), (2, .int x2), (3, .int x3)] [] (I, L, RC n, n) 0 0 Q := by
  unfold f_So_facesSeen_b27 at hF
  refine q_iinc (i := 19) (k0 := 3) (Ls' := [(3, _), (0, _), (1, _), (2, _)]) rfl ki_1 rfl (Nat.le_of_ble_eq_true rfl) rfl ?_
  refine r_goto (i := 20) (tgt := 4) rfl (by decide) ?_
  refine xm_sub (Ls' := [(0, _), (1, _), (2, _), (3, _)]) [1, 2, 3, 0] rfl ?_
  have hJ := hg0 _ (ok_some hF)
  exact hJ
set_option maxHeartbeats 4000000 in
set_option maxRecDepth 100000 in
theorem t_So_facesSeen_s4 {r0 : Nat} {x1 : Int32} {s : Int32 × Int32} {n : Nat} {I : xm_I} {L : xm_L} {K : (Int32 × Int32) ⊕ (Int32) → Prop} {Q : Option Value → xm_H → Prop} (hn : 86 ≤ n) (hsr0 : xm_sd n r0) (hq : ∀ p : Int32, K (.inr p) → Q (some (.int p)) (I, L, RC n, n)) (hg0 : ∀ s : Int32 × Int32, K (.inl s) → xm_J 1 mt_So_facesSeen 4 [(0, .ref r0), (1, .int x1), (2, .int s.1), (3, .int s.2)] [] (I, L, RC n, n) 0 0 Q) (hF : ok (f_So_facesSeen_s4 r0 x1 I s) K) : xm_J 1 mt_So_facesSeen 4 [(0, .ref r0), (1, .int x1), (2, .int s.1), (3, .int s.2)] [] (I, L, RC n, n) 0 0 Q := by
  unfold f_So_facesSeen_s4 at hF
  refine r_iload_n (i := 4) (k0 := 3) rfl rfl rfl ?_
  refine r_aload_n (i := 5) (k0 := 0) rfl rfl rfl ?_
  refine q_geti (i := 6) rfl fl_So_43 (xm_sdn hsr0 0 (by decide)) (xm_sdL hsr0 0 (by decide) rfl) ?_
  refine r_icmpge (i := 7) (tgt := 33) rfl (by decide) (fun hc => ?_) (fun hc => ?_)
  · have hF := ok_it hc hF
    refine r_iload_n (i := 21) (k0 := 2) rfl rfl rfl ?_
    have hQ := hq _ (ok_some hF)
    exact r_ireturn (i := 22) rfl rfl rfl hQ
  have hF := ok_if hc hF
  refine r_aload_n (i := 8) (k0 := 0) rfl rfl rfl ?_
  refine r_iload_n (i := 9) (k0 := 3) rfl rfl rfl ?_
  refine r_iload_n (i := 10) (k0 := 1) rfl rfl rfl ?_
  refine c_V2I (i := 11) rfl vm_So_towardsEye lk_So_80 (t_So_towardsEye hn hsr0 (ok_bind hF)) (Nat.le_of_ble_eq_true rfl) (xm_sdn hsr0 0 (by decide)) (xm_sdL hsr0 0 (by decide) rfl) rfl (Nat.le_of_ble_eq_true rfl) (fun p_1 hF => ?_)
  refine r_ifle (i := 12) (tgt := 27) rfl (by decide) (fun hc => ?_) (fun hc => ?_)
  · have hF := ok_it hc hF
    exact t_So_facesSeen_b27 hn hsr0 (fun p h => hq p h) (fun z h => hg0 z h) hF
  have hF := ok_if hc hF
  refine r_iload_n (i := 13) (k0 := 2) rfl rfl rfl ?_
  refine r_iconst (v := 1) (i := 14) rfl ki_1 ?_
  refine r_iload_n (i := 15) (k0 := 3) rfl rfl rfl ?_
  refine r_ishl (i := 16) rfl ?_
  refine r_ior (i := 17) rfl ?_
  refine r_istore_n (i := 18) (Ls' := [(2, _), (0, _), (1, _), (3, _)]) rfl rfl (Nat.le_of_ble_eq_true rfl) rfl ?_
  refine xm_sub (Ls' := [(0, _), (1, _), (2, _), (3, _)]) [1, 2, 0, 3] rfl ?_
  exact t_So_facesSeen_b27 hn hsr0 (fun p h => hq p h) (fun z h => hg0 z h) hF
set_option maxHeartbeats 4000000 in
set_option maxRecDepth 100000 in
theorem t_So_facesSeen_b4 {r0 : Nat} {x1 : Int32} {s : Int32 × Int32} {n : Nat} {I : xm_I} {L : xm_L} {K : Int32 → Prop} {Q : Option Value → xm_H → Prop} (hn : 86 ≤ n) (hsr0 : xm_sd n r0) (hq : ∀ p : Int32, K p → Q (some (.int p)) (I, L, RC n, n)) (hF : ok (f_So_facesSeen_b4 r0 x1 I s) K) : xm_J 1 mt_So_facesSeen 4 [(0, .ref r0), (1, .int x1), (2, .int s.1), (3, .int s.2)] [] (I, L, RC n, n) 0 0 Q :=
  lp_J (G := fun z => xm_J 1 mt_So_facesSeen 4 [(0, .ref r0), (1, .int x1), (2, .int z.1), (3, .int z.2)] [] (I, L, RC n, n) 0 0 Q) (fun z hF => t_So_facesSeen_s4 hn hsr0 (fun p h => hq p h) (fun z h => h) hF) s hF
set_option maxHeartbeats 4000000 in
set_option maxRecDepth 100000 in
theorem t_So_facesSeen_b0 {r0 : Nat} {x1 : Int32} {n : Nat} {I : xm_I} {L : xm_L} {K : Int32 → Prop} {Q : Option Value → xm_H → Prop} (hn : 86 ≤ n) (hsr0 : xm_sd n r0) (hq : ∀ p : Int32, K p → Q (some (.int p)) (I, L, RC n, n)) (hF : ok (f_So_facesSeen_b0 r0 x1 I) K) : xm_J 1 mt_So_facesSeen 0 [(0, .ref r0), (1, .int x1)] [] (I, L, RC n, n) 0 0 Q := by
  unfold f_So_facesSeen_b0 at hF
  refine r_iconst (v := 0) (i := 0) rfl ki_0 ?_
  refine r_istore_n (i := 1) (Ls' := [(2, _), (0, _), (1, _)]) rfl rfl (Nat.le_of_ble_eq_true rfl) rfl ?_
  refine r_iconst (v := 0) (i := 2) rfl ki_0 ?_
  refine r_istore_n (i := 3) (Ls' := [(3, _), (2, _), (0, _), (1, _)]) rfl rfl (Nat.le_of_ble_eq_true rfl) rfl ?_
  refine xm_sub (Ls' := [(0, _), (1, _), (2, _), (3, _)]) [2, 3, 1, 0] rfl ?_
  exact t_So_facesSeen_b4 hn hsr0 (fun p h => hq p h) hF
set_option maxHeartbeats 4000000 in
set_option maxRecDepth 100000 in
theorem t_So_facesSeen {r0 : Nat} {x1 : Int32} {n : Nat} {I : xm_I} {L : xm_L} {K : Int32 → Prop} (hn : 86 ≤ n) (hsr0 : xm_sd n r0) (hF : ok (f_So_facesSeen r0 x1 I) K) : xm_C 1 mt_So_facesSeen [.ref r0, .int x1] (I, L, RC n, n) 0 0 (pI (fun p : Int32 => p) (fun p : Int32 => (I, L, RC n, n)) K) := by
  unfold f_So_facesSeen at hF
  refine xm_enter (by decide +kernel) dv_So_facesSeen (Nat.le_of_ble_eq_true rfl) ?_
  exact t_So_facesSeen_b0 hn hsr0 (fun p hp => ⟨p, rfl, rfl, hp⟩) hF

noncomputable def f_So_facesWith_b0 (r0 : Nat) (x1 : Int32) (I : xm_I) : Option (Int32) :=
  if x1 < 0 then (
    some (0))
  else (
  if 144 ≤ x1 then (
    some (0))
  else (
  gd (0 ≤ (x1).toInt ∧ (x1).toInt < 144) <|
  (f_Ji_bitCount_I (I (r0 + 7) (Int32.toNatClampNeg x1))).bind fun p_1 =>
  some (p_1)))
noncomputable def f_So_facesWith (r0 : Nat) (x1 : Int32) (I : xm_I) : Option (Int32) := f_So_facesWith_b0 r0 x1 I
set_option maxHeartbeats 4000000 in
set_option maxRecDepth 100000 in
theorem t_So_facesWith_b0 {r0 : Nat} {x1 : Int32} {n : Nat} {I : xm_I} {L : xm_L} {K : Int32 → Prop} {Q : Option Value → xm_H → Prop} (hn : 86 ≤ n) (hsr0 : xm_sd n r0) (hq : ∀ p : Int32, K p → Q (some (.int p)) (I, L, RC n, n)) (hF : ok (f_So_facesWith_b0 r0 x1 I) K) : xm_J 1 mt_So_facesWith 0 [(0, .ref r0), (1, .int x1)] [] (I, L, RC n, n) 0 0 Q := by
  unfold f_So_facesWith_b0 at hF
  refine r_iload_n (i := 0) (k0 := 1) rfl rfl rfl ?_
  refine r_iflt (i := 1) (tgt := 23) rfl (by decide) (fun hc => ?_) (fun hc => ?_)
  · have hF := ok_it hc hF
    refine r_iconst (v := 0) (i := 11) rfl ki_0 ?_
    have hQ := hq _ (ok_some hF)
    exact r_ireturn (i := 12) rfl rfl rfl hQ
  have hF := ok_if hc hF
  refine r_iload_n (i := 2) (k0 := 1) rfl rfl rfl ?_
  refine r_sipush (v := 144) (i := 3) rfl ks_144 ?_
  refine r_icmpge (i := 4) (tgt := 23) rfl (by decide) (fun hc => ?_) (fun hc => ?_)
  · have hF := ok_it hc hF
    refine r_iconst (v := 0) (i := 11) rfl ki_0 ?_
    have hQ := hq _ (ok_some hF)
    exact r_ireturn (i := 12) rfl rfl rfl hQ
  have hF := ok_if hc hF
  refine r_aload_n (i := 5) (k0 := 0) rfl rfl rfl ?_
  refine q_getr (b := r0 + 7) (i := 6) rfl fl_So_30 rfl (xm_sdn hsr0 0 (by decide)) (xm_sdL hsr0 0 (by decide) rfl) (xm_sr8 hsr0) ?_
  refine r_iload_n (i := 7) (k0 := 1) rfl rfl rfl ?_
  obtain ⟨hi, hF⟩ := ok_gd hF
  refine q_iaload (i := 8) rfl (xm_sdn hsr0 7 (by decide)) (xm_sdL hsr0 7 (by decide) rfl) hi ?_
  refine c_S1I (i := 9) rfl sm_Ji_bitCount_I lk_So_55 (t_Ji_bitCount_I hn (ok_bind hF)) (Nat.le_of_ble_eq_true rfl) rfl (Nat.le_of_ble_eq_true rfl) (fun p_1 hF => ?_)
  refine r_goto (i := 10) (tgt := 24) rfl (by decide) ?_
  have hQ := hq _ (ok_some hF)
  exact r_ireturn (i := 12) rfl rfl rfl hQ
set_option maxHeartbeats 4000000 in
set_option maxRecDepth 100000 in
theorem t_So_facesWith {r0 : Nat} {x1 : Int32} {n : Nat} {I : xm_I} {L : xm_L} {K : Int32 → Prop} (hn : 86 ≤ n) (hsr0 : xm_sd n r0) (hF : ok (f_So_facesWith r0 x1 I) K) : xm_C 1 mt_So_facesWith [.ref r0, .int x1] (I, L, RC n, n) 0 0 (pI (fun p : Int32 => p) (fun p : Int32 => (I, L, RC n, n)) K) := by
  unfold f_So_facesWith at hF
  refine xm_enter (by decide +kernel) dv_So_facesWith (Nat.le_of_ble_eq_true rfl) ?_
  exact t_So_facesWith_b0 hn hsr0 (fun p hp => ⟨p, rfl, rfl, hp⟩) hF

noncomputable def f_So_greaterOf_b0 (x0 : Int32) : Option (Int32) :=
  some (x0 - x0 / 12 * 12)
noncomputable def f_So_greaterOf (x0 : Int32) : Option (Int32) := f_So_greaterOf_b0 x0
set_option maxHeartbeats 4000000 in
set_option maxRecDepth 100000 in
theorem t_So_greaterOf_b0 {x0 : Int32} {n : Nat} {I : xm_I} {L : xm_L} {K : Int32 → Prop} {Q : Option Value → xm_H → Prop} (hn : 86 ≤ n) (hq : ∀ p : Int32, K p → Q (some (.int p)) (I, L, RC n, n)) (hF : ok (f_So_greaterOf_b0 x0) K) : xm_J 0 mt_So_greaterOf 0 [(0, .int x0)] [] (I, L, RC n, n) 0 0 Q := by
  unfold f_So_greaterOf_b0 at hF
  refine r_iload_n (i := 0) (k0 := 0) rfl rfl rfl ?_
  refine r_bipush (v := 12) (i := 1) rfl kb_12 ?_
  refine r_irem (i := 2) rfl (by decide) ?_
  have hQ := hq _ (ok_some hF)
  exact r_ireturn (i := 3) rfl rfl rfl hQ
set_option maxHeartbeats 4000000 in
set_option maxRecDepth 100000 in
theorem t_So_greaterOf {x0 : Int32} {n : Nat} {I : xm_I} {L : xm_L} {K : Int32 → Prop} (hn : 86 ≤ n) (hF : ok (f_So_greaterOf x0) K) : xm_C 0 mt_So_greaterOf [.int x0] (I, L, RC n, n) 0 0 (pI (fun p : Int32 => p) (fun p : Int32 => (I, L, RC n, n)) K) := by
  unfold f_So_greaterOf at hF
  refine xm_enter (by decide +kernel) dv_So_greaterOf (Nat.le_of_ble_eq_true rfl) ?_
  exact t_So_greaterOf_b0 hn (fun p hp => ⟨p, rfl, rfl, hp⟩) hF

noncomputable def f_So_isBehind_b0 (r0 : Nat) (x1 : Int32) (x2 : Int32) (I : xm_I) : Option (Int32) :=
  if x1 < 0 then (
    some (0))
  else (
  if 144 ≤ x1 then (
    some (0))
  else (
  gd (0 ≤ (x1).toInt ∧ (x1).toInt < 144) <|
  if ((I (r0 + 7) (Int32.toNatClampNeg x1)) &&& x2) = 0 then (
    some (1))
  else (
    some (0))))
noncomputable def f_So_isBehind (r0 : Nat) (x1 : Int32) (x2 : Int32) (I : xm_I) : Option (Int32) := f_So_isBehind_b0 r0 x1 x2 I
set_option maxHeartbeats 4000000 in
set_option maxRecDepth 100000 in
theorem t_So_isBehind_b0 {r0 : Nat} {x1 : Int32} {x2 : Int32} {n : Nat} {I : xm_I} {L : xm_L} {K : Int32 → Prop} {Q : Option Value → xm_H → Prop} (hn : 86 ≤ n) (hsr0 : xm_sd n r0) (hq : ∀ p : Int32, K p → Q (some (.int p)) (I, L, RC n, n)) (hF : ok (f_So_isBehind_b0 r0 x1 x2 I) K) : xm_J 0 mt_So_isBehind 0 [(0, .ref r0), (1, .int x1), (2, .int x2)] [] (I, L, RC n, n) 0 0 Q := by
  unfold f_So_isBehind_b0 at hF
  refine r_iload_n (i := 0) (k0 := 1) rfl rfl rfl ?_
  refine r_iflt (i := 1) (tgt := 26) rfl (by decide) (fun hc => ?_) (fun hc => ?_)
  · have hF := ok_it hc hF
    refine r_iconst (v := 0) (i := 14) rfl ki_0 ?_
    have hQ := hq _ (ok_some hF)
    exact r_ireturn (i := 15) rfl rfl rfl hQ
  have hF := ok_if hc hF
  refine r_iload_n (i := 2) (k0 := 1) rfl rfl rfl ?_
  refine r_sipush (v := 144) (i := 3) rfl ks_144 ?_
  refine r_icmpge (i := 4) (tgt := 26) rfl (by decide) (fun hc => ?_) (fun hc => ?_)
  · have hF := ok_it hc hF
    refine r_iconst (v := 0) (i := 14) rfl ki_0 ?_
    have hQ := hq _ (ok_some hF)
    exact r_ireturn (i := 15) rfl rfl rfl hQ
  have hF := ok_if hc hF
  refine r_aload_n (i := 5) (k0 := 0) rfl rfl rfl ?_
  refine q_getr (b := r0 + 7) (i := 6) rfl fl_So_30 rfl (xm_sdn hsr0 0 (by decide)) (xm_sdL hsr0 0 (by decide) rfl) (xm_sr8 hsr0) ?_
  refine r_iload_n (i := 7) (k0 := 1) rfl rfl rfl ?_
  obtain ⟨hi, hF⟩ := ok_gd hF
  refine q_iaload (i := 8) rfl (xm_sdn hsr0 7 (by decide)) (xm_sdL hsr0 7 (by decide) rfl) hi ?_
  refine r_iload_n (i := 9) (k0 := 2) rfl rfl rfl ?_
  refine r_iand (i := 10) rfl ?_
  refine r_ifne (i := 11) (tgt := 26) rfl (by decide) (fun hc => ?_) (fun hc => ?_)
  · have hF := ok_if hc hF
    refine r_iconst (v := 0) (i := 14) rfl ki_0 ?_
    have hQ := hq _ (ok_some hF)
    exact r_ireturn (i := 15) rfl rfl rfl hQ
  have hF := ok_it hc hF
  refine r_iconst (v := 1) (i := 12) rfl ki_1 ?_
  refine r_goto (i := 13) (tgt := 27) rfl (by decide) ?_
  have hQ := hq _ (ok_some hF)
  exact r_ireturn (i := 15) rfl rfl rfl hQ
set_option maxHeartbeats 4000000 in
set_option maxRecDepth 100000 in
theorem t_So_isBehind {r0 : Nat} {x1 : Int32} {x2 : Int32} {n : Nat} {I : xm_I} {L : xm_L} {K : Int32 → Prop} (hn : 86 ≤ n) (hsr0 : xm_sd n r0) (hF : ok (f_So_isBehind r0 x1 x2 I) K) : xm_C 0 mt_So_isBehind [.ref r0, .int x1, .int x2] (I, L, RC n, n) 0 0 (pI (fun p : Int32 => p) (fun p : Int32 => (I, L, RC n, n)) K) := by
  unfold f_So_isBehind at hF
  refine xm_enter (by decide +kernel) dv_So_isBehind (Nat.le_of_ble_eq_true rfl) ?_
  exact t_So_isBehind_b0 hn hsr0 (fun p hp => ⟨p, rfl, rfl, hp⟩) hF

noncomputable def f_So_lesserOf_b0 (x0 : Int32) : Option (Int32) :=
  some (x0 / 12)
noncomputable def f_So_lesserOf (x0 : Int32) : Option (Int32) := f_So_lesserOf_b0 x0
set_option maxHeartbeats 4000000 in
set_option maxRecDepth 100000 in
theorem t_So_lesserOf_b0 {x0 : Int32} {n : Nat} {I : xm_I} {L : xm_L} {K : Int32 → Prop} {Q : Option Value → xm_H → Prop} (hn : 86 ≤ n) (hq : ∀ p : Int32, K p → Q (some (.int p)) (I, L, RC n, n)) (hF : ok (f_So_lesserOf_b0 x0) K) : xm_J 0 mt_So_lesserOf 0 [(0, .int x0)] [] (I, L, RC n, n) 0 0 Q := by
  unfold f_So_lesserOf_b0 at hF
  refine r_iload_n (i := 0) (k0 := 0) rfl rfl rfl ?_
  refine r_bipush (v := 12) (i := 1) rfl kb_12 ?_
  refine r_idiv (i := 2) rfl (by decide) ?_
  have hQ := hq _ (ok_some hF)
  exact r_ireturn (i := 3) rfl rfl rfl hQ
set_option maxHeartbeats 4000000 in
set_option maxRecDepth 100000 in
theorem t_So_lesserOf {x0 : Int32} {n : Nat} {I : xm_I} {L : xm_L} {K : Int32 → Prop} (hn : 86 ≤ n) (hF : ok (f_So_lesserOf x0) K) : xm_C 0 mt_So_lesserOf [.int x0] (I, L, RC n, n) 0 0 (pI (fun p : Int32 => p) (fun p : Int32 => (I, L, RC n, n)) K) := by
  unfold f_So_lesserOf at hF
  refine xm_enter (by decide +kernel) dv_So_lesserOf (Nat.le_of_ble_eq_true rfl) ?_
  exact t_So_lesserOf_b0 hn (fun p hp => ⟨p, rfl, rfl, hp⟩) hF

noncomputable def f_D_edge_b0 (x1 : Int32) (x2 : Int32) (x3 : Int32) (n : Nat) (I : xm_I) : Option (Int32) :=
  (f_Ss_find x1 n I).bind fun p_1 =>
  mo p_1 (
    some ((-100001))) (fun r_2 => gd (xm_sd n r_2) (
    if x2 = ((-1)) then (
      (f_So_edgeCount r_2 I).bind fun p_10 =>
      some (p_10))
    else (
      (f_So_edgeNumbered r_2 x2 I).bind fun p_4 =>
      if p_4 = ((-1)) then (
        some ((-100001)))
      else (
        if x3 = 0 then (
          (f_So_lesserOf p_4).bind fun p_5 =>
          some (p_5))
        else (
        if x3 = 1 then (
          (f_So_greaterOf p_4).bind fun p_6 =>
          some (p_6))
        else (
        if x3 = 2 then (
          (f_So_facesSeen r_2 (I 15 2) I).bind fun p_7 =>
          (f_So_isBehind r_2 p_4 p_7 I).bind fun p_8 =>
          if p_8 = 0 then (
            some (0))
          else (
          some (1)))
        else (
        if x3 = 3 then (
          (f_So_facesWith r_2 p_4 I).bind fun p_9 =>
          some (p_9))
        else (
        some ((-100002))))))))))
noncomputable def f_D_edge (x1 : Int32) (x2 : Int32) (x3 : Int32) (n : Nat) (I : xm_I) : Option (Int32) := f_D_edge_b0 x1 x2 x3 n I
set_option maxHeartbeats 4000000 in
set_option maxRecDepth 100000 in
theorem t_D_edge_b0 {x1 : Int32} {x2 : Int32} {x3 : Int32} {n : Nat} {I : xm_I} {L : xm_L} {K : Int32 → Prop} {Q : Option Value → xm_H → Prop} (hn : 86 ≤ n) (hq : ∀ p : Int32, K p → Q (some (.int p)) (I, L, RC n, n)) (hF : ok (f_D_edge_b0 x1 x2 x3 n I) K) : xm_J 2 mt_D_edge 0 [(0, .ref 0), (1, .int x1), (2, .int x2), (3, .int x3)] [] (I, L, RC n, n) 0 0 Q := by
  unfold f_D_edge_b0 at hF
  refine r_aload_n (i := 0) (k0 := 0) rfl rfl rfl ?_
  refine q_getr (b := 15) (i := 1) rfl fl_D_35 rfl (xm_in rfl hn) rfl rfl ?_
  refine r_iload_n (i := 2) (k0 := 1) rfl rfl rfl ?_
  refine c_V1R (i := 3) rfl vm_Ss_find lk_D_242 (t_Ss_find hn (ok_bind hF)) (Nat.le_of_ble_eq_true rfl) (xm_in rfl hn) rfl rfl (Nat.le_of_ble_eq_true rfl) (fun p_1 hF => ?_)
  cases p_1 with
  | none =>
    refine r_astoreN (i := 4) (Ls' := [(4, _), (0, _), (1, _), (2, _), (3, _)]) rfl (Nat.le_of_ble_eq_true rfl) rfl ?_
    refine r_aloadN (i := 5) (k0 := 0) rfl rfl ?_
    refine r_ifnonnullN (i := 6) rfl ?_
    refine r_ldc (i := 7) rfl ct_D_100 ?_
    have hQ := hq _ (ok_some hF)
    exact r_ireturn (i := 8) rfl rfl rfl hQ
  | some r_2 =>
    obtain ⟨hs_3, hF⟩ := ok_gd hF
    refine r_astore (i := 4) (Ls' := [(4, _), (0, _), (1, _), (2, _), (3, _)]) rfl (Nat.le_of_ble_eq_true rfl) rfl ?_
    refine r_aload (i := 5) (k0 := 0) rfl rfl ?_
    refine r_ifnonnull (i := 6) (tgt := 18) rfl (by decide) ?_
    refine r_iload_n (i := 9) (k0 := 3) rfl rfl rfl ?_
    refine r_iconst (v := (-1)) (i := 10) rfl ki_m1 ?_
    refine r_icmpne (i := 11) (tgt := 29) rfl (by decide) (fun hc => ?_) (fun hc => ?_)
    · have hF := ok_if hc hF
      refine r_aload (i := 15) (k0 := 0) rfl rfl ?_
      refine r_iload_n (i := 16) (k0 := 3) rfl rfl rfl ?_
      refine c_V1I (i := 17) rfl vm_So_edgeNumbered lk_D_272 (t_So_edgeNumbered hn hs_3 (ok_bind hF)) (Nat.le_of_ble_eq_true rfl) (xm_sdn hs_3 0 (by decide)) (xm_sdL hs_3 0 (by decide) rfl) rfl (Nat.le_of_ble_eq_true rfl) (fun p_4 hF => ?_)
      refine r_istore (i := 18) (Ls' := [(5, _), (4, _), (0, _), (1, _), (2, _), (3, _)]) rfl (Nat.le_of_ble_eq_true rfl) rfl ?_
      refine r_iload (i := 19) (k0 := 0) rfl rfl ?_
      refine r_iconst (v := (-1)) (i := 20) rfl ki_m1 ?_
      refine r_icmpne (i := 21) (tgt := 46) rfl (by decide) (fun hc => ?_) (fun hc => ?_)
      · have hF := ok_if hc hF
        refine r_iload_n (i := 24) (k0 := 5) rfl rfl rfl ?_
        refine r_case 0 (fun hc0 => ?_) (fun hc0 => ?_)
        · have hF := ok_it hc0 hF
          refine r_tsIn (i := 25) (tgt := 76) rfl (by decide) (by decide) rfl (by decide) ?_
          refine r_iload (i := 26) (k0 := 0) rfl rfl ?_
          refine c_S1I (i := 27) rfl sm_So_lesserOf lk_D_275 (t_So_lesserOf hn (ok_bind hF)) (Nat.le_of_ble_eq_true rfl) rfl (Nat.le_of_ble_eq_true rfl) (fun p_5 hF => ?_)
          have hQ := hq _ (ok_some hF)
          exact r_ireturn (i := 28) rfl rfl rfl hQ
        have hF := ok_if hc0 hF
        refine r_case 1 (fun hc1 => ?_) (fun hc1 => ?_)
        · have hF := ok_it hc1 hF
          refine r_tsIn (i := 25) (tgt := 82) rfl (by decide) (by decide) rfl (by decide) ?_
          refine r_iload (i := 29) (k0 := 0) rfl rfl ?_
          refine c_S1I (i := 30) rfl sm_So_greaterOf lk_D_278 (t_So_greaterOf hn (ok_bind hF)) (Nat.le_of_ble_eq_true rfl) rfl (Nat.le_of_ble_eq_true rfl) (fun p_6 hF => ?_)
          have hQ := hq _ (ok_some hF)
          exact r_ireturn (i := 31) rfl rfl rfl hQ
        have hF := ok_if hc1 hF
        refine r_case 2 (fun hc2 => ?_) (fun hc2 => ?_)
        · have hF := ok_it hc2 hF
          refine r_tsIn (i := 25) (tgt := 88) rfl (by decide) (by decide) rfl (by decide) ?_
          refine r_aload (i := 32) (k0 := 1) rfl rfl ?_
          refine r_iload (i := 33) (k0 := 0) rfl rfl ?_
          refine r_aload (i := 34) (k0 := 1) rfl rfl ?_
          refine r_aload_n (i := 35) (k0 := 2) rfl rfl rfl ?_
          refine q_getr (b := 15) (i := 36) rfl fl_D_35 rfl (xm_in rfl hn) rfl rfl ?_
          refine q_geti (i := 37) rfl fl_D_266 (xm_in rfl hn) rfl ?_
          refine c_V1I (i := 38) rfl vm_So_facesSeen lk_D_281 (t_So_facesSeen hn hs_3 (ok_bind hF)) (Nat.le_of_ble_eq_true rfl) (xm_sdn hs_3 0 (by decide)) (xm_sdL hs_3 0 (by decide) rfl) rfl (Nat.le_of_ble_eq_true rfl) (fun p_7 hF => ?_)
          refine c_V2I (i := 39) rfl vm_So_isBehind lk_D_284 (t_So_isBehind hn hs_3 (ok_bind hF)) (Nat.le_of_ble_eq_true rfl) (xm_sdn hs_3 0 (by decide)) (xm_sdL hs_3 0 (by decide) rfl) rfl (Nat.le_of_ble_eq_true rfl) (fun p_8 hF => ?_)
          refine r_ifeq (i := 40) (tgt := 114) rfl (by decide) (fun hc => ?_) (fun hc => ?_)
          · have hF := ok_it hc hF
            refine r_iconst (v := 0) (i := 43) rfl ki_0 ?_
            have hQ := hq _ (ok_some hF)
            exact r_ireturn (i := 44) rfl rfl rfl hQ
          have hF := ok_if hc hF
          refine r_iconst (v := 1) (i := 41) rfl ki_1 ?_
          refine r_goto (i := 42) (tgt := 115) rfl (by decide) ?_
          have hQ := hq _ (ok_some hF)
          exact r_ireturn (i := 44) rfl rfl rfl hQ
        have hF := ok_if hc2 hF
        refine r_case 3 (fun hc3 => ?_) (fun hc3 => ?_)
        · have hF := ok_it hc3 hF
          refine r_tsIn (i := 25) (tgt := 116) rfl (by decide) (by decide) rfl (by decide) ?_
          refine r_aload (i := 45) (k0 := 1) rfl rfl ?_
          refine r_iload (i := 46) (k0 := 0) rfl rfl ?_
          refine c_V1I (i := 47) rfl vm_So_facesWith lk_D_287 (t_So_facesWith hn hs_3 (ok_bind hF)) (Nat.le_of_ble_eq_true rfl) (xm_sdn hs_3 0 (by decide)) (xm_sdL hs_3 0 (by decide) rfl) rfl (Nat.le_of_ble_eq_true rfl) (fun p_9 hF => ?_)
          have hQ := hq _ (ok_some hF)
          exact r_ireturn (i := 48) rfl rfl rfl hQ
        have hF := ok_if hc3 hF
        refine r_tsOut (i := 25) (tgt := 124) rfl (by have e0 := lv_neT hc0 (a := 0) (by decide); have e1 := lv_neT hc1 (a := 1) (by decide); have e2 := lv_neT hc2 (a := 2) (by decide); have e3 := lv_neT hc3 (a := 3) (by decide); omega) (by decide) ?_
        refine r_ldc (i := 49) rfl ct_D_86 ?_
        have hQ := hq _ (ok_some hF)
        exact r_ireturn (i := 50) rfl rfl rfl hQ
      have hF := ok_it hc hF
      refine r_ldc (i := 22) rfl ct_D_100 ?_
      have hQ := hq _ (ok_some hF)
      exact r_ireturn (i := 23) rfl rfl rfl hQ
    have hF := ok_it hc hF
    refine r_aload (i := 12) (k0 := 0) rfl rfl ?_
    refine c_V0I (i := 13) rfl vm_So_edgeCount lk_D_269 (t_So_edgeCount hn hs_3 (ok_bind hF)) (Nat.le_of_ble_eq_true rfl) (xm_sdn hs_3 0 (by decide)) (xm_sdL hs_3 0 (by decide) rfl) rfl (Nat.le_of_ble_eq_true rfl) (fun p_10 hF => ?_)
    have hQ := hq _ (ok_some hF)
    exact r_ireturn (i := 14) rfl rfl rfl hQ
set_option maxHeartbeats 4000000 in
set_option maxRecDepth 100000 in
theorem t_D_edge {x1 : Int32} {x2 : Int32} {x3 : Int32} {n : Nat} {I : xm_I} {L : xm_L} {K : Int32 → Prop} (hn : 86 ≤ n) (hF : ok (f_D_edge x1 x2 x3 n I) K) : xm_C 2 mt_D_edge [.ref 0, .int x1, .int x2, .int x3] (I, L, RC n, n) 0 0 (pI (fun p : Int32 => p) (fun p : Int32 => (I, L, RC n, n)) K) := by
  unfold f_D_edge at hF
  refine xm_enter (by decide +kernel) dv_D_edge (Nat.le_of_ble_eq_true rfl) ?_
  exact t_D_edge_b0 hn (fun p hp => ⟨p, rfl, rfl, hp⟩) hF

noncomputable def f_Lb_isFull_b0 (I : xm_I) : Option (Int32) :=
  if (I 21 3) < 20 then (
    some (0))
  else (
  some (1))
noncomputable def f_Lb_isFull (I : xm_I) : Option (Int32) := f_Lb_isFull_b0 I
set_option maxHeartbeats 4000000 in
set_option maxRecDepth 100000 in
theorem t_Lb_isFull_b0 {n : Nat} {I : xm_I} {L : xm_L} {K : Int32 → Prop} {Q : Option Value → xm_H → Prop} (hn : 86 ≤ n) (hq : ∀ p : Int32, K p → Q (some (.int p)) (I, L, RC n, n)) (hF : ok (f_Lb_isFull_b0 I) K) : xm_J 0 mt_Lb_isFull 0 [(0, .ref 21)] [] (I, L, RC n, n) 0 0 Q := by
  unfold f_Lb_isFull_b0 at hF
  refine r_aload_n (i := 0) (k0 := 0) rfl rfl rfl ?_
  refine q_geti (i := 1) rfl fl_Lb_21 (xm_in rfl hn) rfl ?_
  refine r_bipush (v := 20) (i := 2) rfl kb_20 ?_
  refine r_icmplt (i := 3) (tgt := 13) rfl (by decide) (fun hc => ?_) (fun hc => ?_)
  · have hF := ok_it hc hF
    refine r_iconst (v := 0) (i := 6) rfl ki_0 ?_
    have hQ := hq _ (ok_some hF)
    exact r_ireturn (i := 7) rfl rfl rfl hQ
  have hF := ok_if hc hF
  refine r_iconst (v := 1) (i := 4) rfl ki_1 ?_
  refine r_goto (i := 5) (tgt := 14) rfl (by decide) ?_
  have hQ := hq _ (ok_some hF)
  exact r_ireturn (i := 7) rfl rfl rfl hQ
set_option maxHeartbeats 4000000 in
set_option maxRecDepth 100000 in
theorem t_Lb_isFull {n : Nat} {I : xm_I} {L : xm_L} {K : Int32 → Prop} (hn : 86 ≤ n) (hF : ok (f_Lb_isFull I) K) : xm_C 0 mt_Lb_isFull [.ref 21] (I, L, RC n, n) 0 0 (pI (fun p : Int32 => p) (fun p : Int32 => (I, L, RC n, n)) K) := by
  unfold f_Lb_isFull at hF
  refine xm_enter (by decide +kernel) dv_Lb_isFull (Nat.le_of_ble_eq_true rfl) ?_
  exact t_Lb_isFull_b0 hn (fun p hp => ⟨p, rfl, rfl, hp⟩) hF

noncomputable def f_Lb_add_b0 (x1 : Int32) (x2 : Int32) (I : xm_I) : Option (Int32 × xm_I) :=
  (f_Lb_isFull I).bind fun p_1 =>
  if p_1 = 0 then (
    gd (0 ≤ (I 21 3).toInt ∧ (I 21 3).toInt < 20) <|
    let I_2 : xm_I := up2 I 22 (Int32.toNatClampNeg (I 21 3)) x1
    gd (0 ≤ (I_2 21 3).toInt ∧ (I_2 21 3).toInt < 20) <|
    let I_3 : xm_I := up2 I_2 23 (Int32.toNatClampNeg (I_2 21 3)) x2
    let I_4 : xm_I := up2 I_3 21 3 ((I_3 21 3) + 1)
    some ((I_4 21 3) - 1, I_4))
  else (
  some ((-100004), I))
noncomputable def f_Lb_add (x1 : Int32) (x2 : Int32) (I : xm_I) : Option (Int32 × xm_I) := f_Lb_add_b0 x1 x2 I
set_option maxHeartbeats 4000000 in
set_option maxRecDepth 100000 in
theorem t_Lb_add_b0 {x1 : Int32} {x2 : Int32} {n : Nat} {I : xm_I} {L : xm_L} {K : Int32 × xm_I → Prop} {Q : Option Value → xm_H → Prop} (hn : 86 ≤ n) (hq : ∀ p : Int32 × xm_I, K p → Q (some (.int p.1)) (p.2, L, RC n, n)) (hF : ok (f_Lb_add_b0 x1 x2 I) K) : xm_J 1 mt_Lb_add 0 [(0, .ref 21), (1, .int x1), (2, .int x2)] [] (I, L, RC n, n) 0 0 Q := by
  unfold f_Lb_add_b0 at hF
  refine r_aload_n (i := 0) (k0 := 0) rfl rfl rfl ?_
  refine c_V0I (i := 1) rfl vm_Lb_isFull lk_Lb_25 (t_Lb_isFull hn (ok_bind hF)) (Nat.le_of_ble_eq_true rfl) (xm_in rfl hn) rfl rfl (Nat.le_of_ble_eq_true rfl) (fun p_1 hF => ?_)
  refine r_ifeq (i := 2) (tgt := 10) rfl (by decide) (fun hc => ?_) (fun hc => ?_)
  · have hF := ok_it hc hF
    refine r_aload_n (i := 5) (k0 := 0) rfl rfl rfl ?_
    refine q_getr (b := 22) (i := 6) rfl fl_Lb_11 rfl (xm_in rfl hn) rfl rfl ?_
    refine r_aload_n (i := 7) (k0 := 0) rfl rfl rfl ?_
    refine q_geti (i := 8) rfl fl_Lb_21 (xm_in rfl hn) rfl ?_
    refine r_iload_n (i := 9) (k0 := 1) rfl rfl rfl ?_
    obtain ⟨hi, hF⟩ := ok_gd hF
    refine q_iastore (i := 10) rfl (xm_in rfl hn) rfl hi ?_
    refine r_aload_n (i := 11) (k0 := 0) rfl rfl rfl ?_
    refine q_getr (b := 23) (i := 12) rfl fl_Lb_15 rfl (xm_in rfl hn) rfl rfl ?_
    refine r_aload_n (i := 13) (k0 := 0) rfl rfl rfl ?_
    refine q_geti (i := 14) rfl fl_Lb_21 (xm_in rfl hn) rfl ?_
    refine r_iload_n (i := 15) (k0 := 2) rfl rfl rfl ?_
    obtain ⟨hi, hF⟩ := ok_gd hF
    refine q_iastore (i := 16) rfl (xm_in rfl hn) rfl hi ?_
    refine r_aload_n (i := 17) (k0 := 0) rfl rfl rfl ?_
    refine r_dup (i := 18) rfl rfl ?_
    refine q_geti (i := 19) rfl fl_Lb_21 (xm_in rfl hn) rfl ?_
    refine r_iconst (v := 1) (i := 20) rfl ki_1 ?_
    refine r_iadd (i := 21) rfl ?_
    refine q_puti (i := 22) rfl fl_Lb_21 (fun h => Bool.noConfusion h) (xm_in rfl hn) rfl ?_
    refine r_aload_n (i := 23) (k0 := 0) rfl rfl rfl ?_
    refine q_geti (i := 24) rfl fl_Lb_21 (xm_in rfl hn) rfl ?_
    refine r_iconst (v := 1) (i := 25) rfl ki_1 ?_
    refine r_isub (i := 26) rfl ?_
    have hQ := hq _ (ok_some hF)
    exact r_ireturn (i := 27) rfl rfl rfl hQ
  have hF := ok_if hc hF
  refine r_ldc (i := 3) rfl ct_Lb_29 ?_
  have hQ := hq _ (ok_some hF)
  exact r_ireturn (i := 4) rfl rfl rfl hQ
set_option maxHeartbeats 4000000 in
set_option maxRecDepth 100000 in
theorem t_Lb_add {x1 : Int32} {x2 : Int32} {n : Nat} {I : xm_I} {L : xm_L} {K : Int32 × xm_I → Prop} (hn : 86 ≤ n) (hF : ok (f_Lb_add x1 x2 I) K) : xm_C 1 mt_Lb_add [.ref 21, .int x1, .int x2] (I, L, RC n, n) 0 0 (pI (fun p : Int32 × xm_I => p.1) (fun p : Int32 × xm_I => (p.2, L, RC n, n)) K) := by
  unfold f_Lb_add at hF
  refine xm_enter (by decide +kernel) dv_Lb_add (Nat.le_of_ble_eq_true rfl) ?_
  exact t_Lb_add_b0 hn (fun p hp => ⟨p, rfl, rfl, hp⟩) hF

noncomputable def f_D_label_b0 (x1 : Int32) (x2 : Int32) (I : xm_I) : Option (Int32 × xm_I) :=
  (f_Fg_has x1 I).bind fun p_1 =>
  if p_1 = 0 then (
    some ((-100001), I))
  else (
    (f_D_isWithin x2 1 8).bind fun p_2 =>
    if p_2 = 0 then (
      some ((-100002), I))
    else (
      (f_Lb_isFull I).bind fun p_3 =>
      if p_3 = 0 then (
        (f_Lb_add x1 x2 I).bind fun p_4 =>
        some (p_4.1, p_4.2))
      else (
      some ((-100004), I))))
noncomputable def f_D_label (x1 : Int32) (x2 : Int32) (I : xm_I) : Option (Int32 × xm_I) := f_D_label_b0 x1 x2 I
set_option maxHeartbeats 4000000 in
set_option maxRecDepth 100000 in
theorem t_D_label_b0 {x1 : Int32} {x2 : Int32} {n : Nat} {I : xm_I} {L : xm_L} {K : Int32 × xm_I → Prop} {Q : Option Value → xm_H → Prop} (hn : 86 ≤ n) (hq : ∀ p : Int32 × xm_I, K p → Q (some (.int p.1)) (p.2, L, RC n, n)) (hF : ok (f_D_label_b0 x1 x2 I) K) : xm_J 2 mt_D_label 0 [(0, .ref 0), (1, .int x1), (2, .int x2)] [] (I, L, RC n, n) 0 0 Q := by
  unfold f_D_label_b0 at hF
  refine r_aload_n (i := 0) (k0 := 0) rfl rfl rfl ?_
  refine q_getr (b := 6) (i := 1) rfl fl_D_21 rfl (xm_in rfl hn) rfl rfl ?_
  refine r_iload_n (i := 2) (k0 := 1) rfl rfl rfl ?_
  refine c_V1I (i := 3) rfl vm_Fg_has lk_D_133 (t_Fg_has hn (ok_bind hF)) (Nat.le_of_ble_eq_true rfl) (xm_in rfl hn) rfl rfl (Nat.le_of_ble_eq_true rfl) (fun p_1 hF => ?_)
  refine r_ifne (i := 4) (tgt := 14) rfl (by decide) (fun hc => ?_) (fun hc => ?_)
  · have hF := ok_if hc hF
    refine r_iload_n (i := 7) (k0 := 2) rfl rfl rfl ?_
    refine r_iconst (v := 1) (i := 8) rfl ki_1 ?_
    refine r_bipush (v := 8) (i := 9) rfl kb_8 ?_
    refine c_S3I (i := 10) rfl sm_D_isWithin lk_D_82 (t_D_isWithin hn (ok_bind hF)) (Nat.le_of_ble_eq_true rfl) rfl (Nat.le_of_ble_eq_true rfl) (fun p_2 hF => ?_)
    refine r_ifne (i := 11) (tgt := 27) rfl (by decide) (fun hc => ?_) (fun hc => ?_)
    · have hF := ok_if hc hF
      refine r_aload_n (i := 14) (k0 := 0) rfl rfl rfl ?_
      refine q_getr (b := 21) (i := 15) rfl fl_D_49 rfl (xm_in rfl hn) rfl rfl ?_
      refine c_V0I (i := 16) rfl vm_Lb_isFull lk_D_290 (t_Lb_isFull hn (ok_bind hF)) (Nat.le_of_ble_eq_true rfl) (xm_in rfl hn) rfl rfl (Nat.le_of_ble_eq_true rfl) (fun p_3 hF => ?_)
      refine r_ifeq (i := 17) (tgt := 42) rfl (by decide) (fun hc => ?_) (fun hc => ?_)
      · have hF := ok_it hc hF
        refine r_aload_n (i := 20) (k0 := 0) rfl rfl rfl ?_
        refine q_getr (b := 21) (i := 21) rfl fl_D_49 rfl (xm_in rfl hn) rfl rfl ?_
        refine r_iload_n (i := 22) (k0 := 1) rfl rfl rfl ?_
        refine r_iload_n (i := 23) (k0 := 2) rfl rfl rfl ?_
        refine c_V2I (i := 24) rfl vm_Lb_add lk_D_291 (t_Lb_add hn (ok_bind hF)) (Nat.le_of_ble_eq_true rfl) (xm_in rfl hn) rfl rfl (Nat.le_of_ble_eq_true rfl) (fun p_4 hF => ?_)
        have hQ := hq _ (ok_some hF)
        exact r_ireturn (i := 25) rfl rfl rfl hQ
      have hF := ok_if hc hF
      refine r_ldc (i := 18) rfl ct_D_91 ?_
      refine r_goto (i := 19) (tgt := 51) rfl (by decide) ?_
      have hQ := hq _ (ok_some hF)
      exact r_ireturn (i := 25) rfl rfl rfl hQ
    have hF := ok_it hc hF
    refine r_ldc (i := 12) rfl ct_D_86 ?_
    have hQ := hq _ (ok_some hF)
    exact r_ireturn (i := 13) rfl rfl rfl hQ
  have hF := ok_it hc hF
  refine r_ldc (i := 5) rfl ct_D_100 ?_
  have hQ := hq _ (ok_some hF)
  exact r_ireturn (i := 6) rfl rfl rfl hQ
set_option maxHeartbeats 4000000 in
set_option maxRecDepth 100000 in
theorem t_D_label {x1 : Int32} {x2 : Int32} {n : Nat} {I : xm_I} {L : xm_L} {K : Int32 × xm_I → Prop} (hn : 86 ≤ n) (hF : ok (f_D_label x1 x2 I) K) : xm_C 2 mt_D_label [.ref 0, .int x1, .int x2] (I, L, RC n, n) 0 0 (pI (fun p : Int32 × xm_I => p.1) (fun p : Int32 × xm_I => (p.2, L, RC n, n)) K) := by
  unfold f_D_label at hF
  refine xm_enter (by decide +kernel) dv_D_label (Nat.le_of_ble_eq_true rfl) ?_
  exact t_D_label_b0 hn (fun p hp => ⟨p, rfl, rfl, hp⟩) hF

noncomputable def f_Mk_numbersOf_b0 (x0 : Int32) : Option (Int32) :=
  if x0 = 68 then (
    some (3))
  else (
  if x0 = 70 then (
    some (2))
  else (
  if x0 = 84 then (
    some (4))
  else (
  if x0 = 87 then (
    some (4))
  else (
  some (5)))))
noncomputable def f_Mk_numbersOf (x0 : Int32) : Option (Int32) := f_Mk_numbersOf_b0 x0
set_option maxHeartbeats 4000000 in
set_option maxRecDepth 100000 in
theorem t_Mk_numbersOf_b0 {x0 : Int32} {n : Nat} {I : xm_I} {L : xm_L} {K : Int32 → Prop} {Q : Option Value → xm_H → Prop} (hn : 86 ≤ n) (hq : ∀ p : Int32, K p → Q (some (.int p)) (I, L, RC n, n)) (hF : ok (f_Mk_numbersOf_b0 x0) K) : xm_J 0 mt_Mk_numbersOf 0 [(0, .int x0)] [] (I, L, RC n, n) 0 0 Q := by
  unfold f_Mk_numbersOf_b0 at hF
  refine r_iload_n (i := 0) (k0 := 0) rfl rfl rfl ?_
  refine r_case 68 (fun hc0 => ?_) (fun hc0 => ?_)
  · have hF := ok_it hc0 hF
    refine r_ls (i := 1) (tgt := 46) rfl rfl rfl (by decide) ?_
    refine r_iconst (v := 3) (i := 4) rfl ki_3 ?_
    have hQ := hq _ (ok_some hF)
    exact r_ireturn (i := 5) rfl rfl rfl hQ
  have hF := ok_if hc0 hF
  refine r_case 70 (fun hc1 => ?_) (fun hc1 => ?_)
  · have hF := ok_it hc1 hF
    refine r_ls (i := 1) (tgt := 44) rfl rfl rfl (by decide) ?_
    refine r_iconst (v := 2) (i := 2) rfl ki_2 ?_
    have hQ := hq _ (ok_some hF)
    exact r_ireturn (i := 3) rfl rfl rfl hQ
  have hF := ok_if hc1 hF
  refine r_case 84 (fun hc2 => ?_) (fun hc2 => ?_)
  · have hF := ok_it hc2 hF
    refine r_ls (i := 1) (tgt := 48) rfl rfl rfl (by decide) ?_
    refine r_iconst (v := 4) (i := 6) rfl ki_4 ?_
    have hQ := hq _ (ok_some hF)
    exact r_ireturn (i := 7) rfl rfl rfl hQ
  have hF := ok_if hc2 hF
  refine r_case 87 (fun hc3 => ?_) (fun hc3 => ?_)
  · have hF := ok_it hc3 hF
    refine r_ls (i := 1) (tgt := 50) rfl rfl rfl (by decide) ?_
    refine r_iconst (v := 4) (i := 8) rfl ki_4 ?_
    have hQ := hq _ (ok_some hF)
    exact r_ireturn (i := 9) rfl rfl rfl hQ
  have hF := ok_if hc3 hF
  refine r_ls (i := 1) (off := 51) (tgt := 52) rfl rfl (by rw [lv_osw hc0 (by decide), lv_osw hc1 (by decide), lv_osw hc2 (by decide), lv_osw hc3 (by decide)] <;> rfl) (by decide) ?_
  refine r_iconst (v := 5) (i := 10) rfl ki_5 ?_
  have hQ := hq _ (ok_some hF)
  exact r_ireturn (i := 11) rfl rfl rfl hQ
set_option maxHeartbeats 4000000 in
set_option maxRecDepth 100000 in
theorem t_Mk_numbersOf {x0 : Int32} {n : Nat} {I : xm_I} {L : xm_L} {K : Int32 → Prop} (hn : 86 ≤ n) (hF : ok (f_Mk_numbersOf x0) K) : xm_C 0 mt_Mk_numbersOf [.int x0] (I, L, RC n, n) 0 0 (pI (fun p : Int32 => p) (fun p : Int32 => (I, L, RC n, n)) K) := by
  unfold f_Mk_numbersOf at hF
  refine xm_enter (by decide +kernel) dv_Mk_numbersOf (Nat.le_of_ble_eq_true rfl) ?_
  exact t_Mk_numbersOf_b0 hn (fun p hp => ⟨p, rfl, rfl, hp⟩) hF

noncomputable def f_Mk_has_b0 (x1 : Int32) (I : xm_I) : Option (Int32) :=
  if x1 < 0 then (
    some (0))
  else (
  if (I 17 4) ≤ x1 then (
    some (0))
  else (
  if 600 ≤ x1 then (
    some (0))
  else (
  some (1))))
noncomputable def f_Mk_has (x1 : Int32) (I : xm_I) : Option (Int32) := f_Mk_has_b0 x1 I
set_option maxHeartbeats 4000000 in
set_option maxRecDepth 100000 in
theorem t_Mk_has_b0 {x1 : Int32} {n : Nat} {I : xm_I} {L : xm_L} {K : Int32 → Prop} {Q : Option Value → xm_H → Prop} (hn : 86 ≤ n) (hq : ∀ p : Int32, K p → Q (some (.int p)) (I, L, RC n, n)) (hF : ok (f_Mk_has_b0 x1 I) K) : xm_J 0 mt_Mk_has 0 [(0, .ref 17), (1, .int x1)] [] (I, L, RC n, n) 0 0 Q := by
  unfold f_Mk_has_b0 at hF
  refine r_iload_n (i := 0) (k0 := 1) rfl rfl rfl ?_
  refine r_iflt (i := 1) (tgt := 23) rfl (by decide) (fun hc => ?_) (fun hc => ?_)
  · have hF := ok_it hc hF
    refine r_iconst (v := 0) (i := 11) rfl ki_0 ?_
    have hQ := hq _ (ok_some hF)
    exact r_ireturn (i := 12) rfl rfl rfl hQ
  have hF := ok_if hc hF
  refine r_iload_n (i := 2) (k0 := 1) rfl rfl rfl ?_
  refine r_aload_n (i := 3) (k0 := 0) rfl rfl rfl ?_
  refine q_geti (i := 4) rfl fl_Mk_25 (xm_in rfl hn) rfl ?_
  refine r_icmpge (i := 5) (tgt := 23) rfl (by decide) (fun hc => ?_) (fun hc => ?_)
  · have hF := ok_it hc hF
    refine r_iconst (v := 0) (i := 11) rfl ki_0 ?_
    have hQ := hq _ (ok_some hF)
    exact r_ireturn (i := 12) rfl rfl rfl hQ
  have hF := ok_if hc hF
  refine r_iload_n (i := 6) (k0 := 1) rfl rfl rfl ?_
  refine r_sipush (v := 600) (i := 7) rfl ks_600 ?_
  refine r_icmpge (i := 8) (tgt := 23) rfl (by decide) (fun hc => ?_) (fun hc => ?_)
  · have hF := ok_it hc hF
    refine r_iconst (v := 0) (i := 11) rfl ki_0 ?_
    have hQ := hq _ (ok_some hF)
    exact r_ireturn (i := 12) rfl rfl rfl hQ
  have hF := ok_if hc hF
  refine r_iconst (v := 1) (i := 9) rfl ki_1 ?_
  refine r_goto (i := 10) (tgt := 24) rfl (by decide) ?_
  have hQ := hq _ (ok_some hF)
  exact r_ireturn (i := 12) rfl rfl rfl hQ
set_option maxHeartbeats 4000000 in
set_option maxRecDepth 100000 in
theorem t_Mk_has {x1 : Int32} {n : Nat} {I : xm_I} {L : xm_L} {K : Int32 → Prop} (hn : 86 ≤ n) (hF : ok (f_Mk_has x1 I) K) : xm_C 0 mt_Mk_has [.ref 17, .int x1] (I, L, RC n, n) 0 0 (pI (fun p : Int32 => p) (fun p : Int32 => (I, L, RC n, n)) K) := by
  unfold f_Mk_has at hF
  refine xm_enter (by decide +kernel) dv_Mk_has (Nat.le_of_ble_eq_true rfl) ?_
  exact t_Mk_has_b0 hn (fun p hp => ⟨p, rfl, rfl, hp⟩) hF

noncomputable def f_Mk_valueAt_b0 (x1 : Int32) (x2 : Int32) (I : xm_I) : Option (Int32) :=
  (f_Mk_has x1 I).bind fun p_1 =>
  if p_1 = 0 then (
    some (0))
  else (
  if x2 < 0 then (
    some (0))
  else (
  if 6 ≤ x2 then (
    some (0))
  else (
  gd (0 ≤ ((x1 * 6) + x2).toInt ∧ ((x1 * 6) + x2).toInt < 3600) <|
  some (I 18 (Int32.toNatClampNeg ((x1 * 6) + x2))))))
noncomputable def f_Mk_valueAt (x1 : Int32) (x2 : Int32) (I : xm_I) : Option (Int32) := f_Mk_valueAt_b0 x1 x2 I
set_option maxHeartbeats 4000000 in
set_option maxRecDepth 100000 in
theorem t_Mk_valueAt_b0 {x1 : Int32} {x2 : Int32} {n : Nat} {I : xm_I} {L : xm_L} {K : Int32 → Prop} {Q : Option Value → xm_H → Prop} (hn : 86 ≤ n) (hq : ∀ p : Int32, K p → Q (some (.int p)) (I, L, RC n, n)) (hF : ok (f_Mk_valueAt_b0 x1 x2 I) K) : xm_J 1 mt_Mk_valueAt 0 [(0, .ref 17), (1, .int x1), (2, .int x2)] [] (I, L, RC n, n) 0 0 Q := by
  unfold f_Mk_valueAt_b0 at hF
  refine r_aload_n (i := 0) (k0 := 0) rfl rfl rfl ?_
  refine r_iload_n (i := 1) (k0 := 1) rfl rfl rfl ?_
  refine c_V1I (i := 2) rfl vm_Mk_has lk_Mk_39 (t_Mk_has hn (ok_bind hF)) (Nat.le_of_ble_eq_true rfl) (xm_in rfl hn) rfl rfl (Nat.le_of_ble_eq_true rfl) (fun p_1 hF => ?_)
  refine r_ifeq (i := 3) (tgt := 32) rfl (by decide) (fun hc => ?_) (fun hc => ?_)
  · have hF := ok_it hc hF
    refine r_iconst (v := 0) (i := 18) rfl ki_0 ?_
    have hQ := hq _ (ok_some hF)
    exact r_ireturn (i := 19) rfl rfl rfl hQ
  have hF := ok_if hc hF
  refine r_iload_n (i := 4) (k0 := 2) rfl rfl rfl ?_
  refine r_iflt (i := 5) (tgt := 32) rfl (by decide) (fun hc => ?_) (fun hc => ?_)
  · have hF := ok_it hc hF
    refine r_iconst (v := 0) (i := 18) rfl ki_0 ?_
    have hQ := hq _ (ok_some hF)
    exact r_ireturn (i := 19) rfl rfl rfl hQ
  have hF := ok_if hc hF
  refine r_iload_n (i := 6) (k0 := 2) rfl rfl rfl ?_
  refine r_bipush (v := 6) (i := 7) rfl kb_6 ?_
  refine r_icmpge (i := 8) (tgt := 32) rfl (by decide) (fun hc => ?_) (fun hc => ?_)
  · have hF := ok_it hc hF
    refine r_iconst (v := 0) (i := 18) rfl ki_0 ?_
    have hQ := hq _ (ok_some hF)
    exact r_ireturn (i := 19) rfl rfl rfl hQ
  have hF := ok_if hc hF
  refine r_aload_n (i := 9) (k0 := 0) rfl rfl rfl ?_
  refine q_getr (b := 18) (i := 10) rfl fl_Mk_11 rfl (xm_in rfl hn) rfl rfl ?_
  refine r_iload_n (i := 11) (k0 := 1) rfl rfl rfl ?_
  refine r_bipush (v := 6) (i := 12) rfl kb_6 ?_
  refine r_imul (i := 13) rfl ?_
  refine r_iload_n (i := 14) (k0 := 2) rfl rfl rfl ?_
  refine r_iadd (i := 15) rfl ?_
  obtain ⟨hi, hF⟩ := ok_gd hF
  refine q_iaload (i := 16) rfl (xm_in rfl hn) rfl hi ?_
  refine r_goto (i := 17) (tgt := 33) rfl (by decide) ?_
  have hQ := hq _ (ok_some hF)
  exact r_ireturn (i := 19) rfl rfl rfl hQ
set_option maxHeartbeats 4000000 in
set_option maxRecDepth 100000 in
theorem t_Mk_valueAt {x1 : Int32} {x2 : Int32} {n : Nat} {I : xm_I} {L : xm_L} {K : Int32 → Prop} (hn : 86 ≤ n) (hF : ok (f_Mk_valueAt x1 x2 I) K) : xm_C 1 mt_Mk_valueAt [.ref 17, .int x1, .int x2] (I, L, RC n, n) 0 0 (pI (fun p : Int32 => p) (fun p : Int32 => (I, L, RC n, n)) K) := by
  unfold f_Mk_valueAt at hF
  refine xm_enter (by decide +kernel) dv_Mk_valueAt (Nat.le_of_ble_eq_true rfl) ?_
  exact t_Mk_valueAt_b0 hn (fun p hp => ⟨p, rfl, rfl, hp⟩) hF

noncomputable def f_Mk_writeOctet_b0 (x1 : Int32) (I : xm_I) : Option (xm_I) :=
  if 62 ≤ (I 17 3) then (
    some (I))
  else (
  gd (0 ≤ (I 17 3).toInt ∧ (I 17 3).toInt < 62) <|
  let I_1 : xm_I := up2 I 20 (Int32.toNatClampNeg (I 17 3)) x1
  let I_2 : xm_I := up2 I_1 17 3 ((I_1 17 3) + 1)
  some (I_2))
noncomputable def f_Mk_writeOctet (x1 : Int32) (I : xm_I) : Option (xm_I) := f_Mk_writeOctet_b0 x1 I
set_option maxHeartbeats 4000000 in
set_option maxRecDepth 100000 in
theorem t_Mk_writeOctet_b0 {x1 : Int32} {n : Nat} {I : xm_I} {L : xm_L} {K : xm_I → Prop} {Q : Option Value → xm_H → Prop} (hn : 86 ≤ n) (hq : ∀ p : xm_I, K p → Q none (p, L, RC n, n)) (hF : ok (f_Mk_writeOctet_b0 x1 I) K) : xm_J 0 mt_Mk_writeOctet 0 [(0, .ref 17), (1, .int x1)] [] (I, L, RC n, n) 0 0 Q := by
  unfold f_Mk_writeOctet_b0 at hF
  refine r_aload_n (i := 0) (k0 := 0) rfl rfl rfl ?_
  refine q_geti (i := 1) rfl fl_Mk_46 (xm_in rfl hn) rfl ?_
  refine r_bipush (v := 62) (i := 2) rfl kb_62 ?_
  refine r_icmpge (i := 3) (tgt := 29) rfl (by decide) (fun hc => ?_) (fun hc => ?_)
  · have hF := ok_it hc hF
    have hQ := hq _ (ok_some hF)
    exact r_return (i := 16) rfl rfl hQ
  have hF := ok_if hc hF
  refine r_aload_n (i := 4) (k0 := 0) rfl rfl rfl ?_
  refine q_getr (b := 20) (i := 5) rfl fl_Mk_18 rfl (xm_in rfl hn) rfl rfl ?_
  refine r_aload_n (i := 6) (k0 := 0) rfl rfl rfl ?_
  refine q_geti (i := 7) rfl fl_Mk_46 (xm_in rfl hn) rfl ?_
  refine r_iload_n (i := 8) (k0 := 1) rfl rfl rfl ?_
  obtain ⟨hi, hF⟩ := ok_gd hF
  refine q_iastore (i := 9) rfl (xm_in rfl hn) rfl hi ?_
  refine r_aload_n (i := 10) (k0 := 0) rfl rfl rfl ?_
  refine r_dup (i := 11) rfl rfl ?_
  refine q_geti (i := 12) rfl fl_Mk_46 (xm_in rfl hn) rfl ?_
  refine r_iconst (v := 1) (i := 13) rfl ki_1 ?_
  refine r_iadd (i := 14) rfl ?_
  refine q_puti (i := 15) rfl fl_Mk_46 (fun h => Bool.noConfusion h) (xm_in rfl hn) rfl ?_
  have hQ := hq _ (ok_some hF)
  exact r_return (i := 16) rfl rfl hQ
set_option maxHeartbeats 4000000 in
set_option maxRecDepth 100000 in
theorem t_Mk_writeOctet {x1 : Int32} {n : Nat} {I : xm_I} {L : xm_L} {K : xm_I → Prop} (hn : 86 ≤ n) (hF : ok (f_Mk_writeOctet x1 I) K) : xm_C 0 mt_Mk_writeOctet [.ref 17, .int x1] (I, L, RC n, n) 0 0 (pV (fun p : xm_I => (p, L, RC n, n)) K) := by
  unfold f_Mk_writeOctet at hF
  refine xm_enter (by decide +kernel) dv_Mk_writeOctet (Nat.le_of_ble_eq_true rfl) ?_
  exact t_Mk_writeOctet_b0 hn (fun p hp => ⟨p, rfl, rfl, hp⟩) hF

noncomputable def f_Mk_writeNumber_s57 (l2 : Int64) (s : Int64 × Int32 × xm_I) : Option ((Int64 × Int32 × xm_I) ⊕ (xm_I)) :=
  if 10 ≤ s.2.1 then (
    some (.inr (s.2.2)))
  else (
  if s.1 ≤ 0 then (
    some (.inr (s.2.2)))
  else (
  gd (¬ s.1 = 0) <|
  (f_Mk_writeOctet (48 + (Int64.toInt32 ((l2 / s.1) - (l2 / s.1) / 10 * 10))) s.2.2).bind fun p_1 =>
  let l4_2 : Int64 := s.1 / 10
  let x6_3 : Int32 := s.2.1 + 1
  some (.inl (l4_2, x6_3, p_1))))
noncomputable def f_Mk_writeNumber_b57 (l2 : Int64) (s : Int64 × Int32 × xm_I) : Option (xm_I) := lp (f_Mk_writeNumber_s57 l2) s
noncomputable def f_Mk_writeNumber_b54 (l2 : Int64) (l4 : Int64) (I : xm_I) : Option (xm_I) :=
  f_Mk_writeNumber_b57 l2 (l4, 0, I)
noncomputable def f_Mk_writeNumber_s22 (l2 : Int64) (I : xm_I) (s : Int64 × Int32) : Option ((Int64 × Int32) ⊕ (xm_I)) :=
  if 10 ≤ s.2 then (
    (f_Mk_writeNumber_b54 l2 s.1 I).map .inr)
  else (
  if l2 < (s.1 * 10) then (
    (f_Mk_writeNumber_b54 l2 s.1 I).map .inr)
  else (
  let l4_1 : Int64 := s.1 * 10
  let x6_2 : Int32 := s.2 + 1
  some (.inl (l4_1, x6_2))))
noncomputable def f_Mk_writeNumber_b22 (l2 : Int64) (I : xm_I) (s : Int64 × Int32) : Option (xm_I) := lp (f_Mk_writeNumber_s22 l2 I) s
noncomputable def f_Mk_writeNumber_b16 (l2 : Int64) (I : xm_I) : Option (xm_I) :=
  f_Mk_writeNumber_b22 l2 I (1, 1)
noncomputable def f_Mk_writeNumber_b0 (x1 : Int32) (I : xm_I) : Option (xm_I) :=
  (f_Jm_abs_J (Int32.toInt64 x1)).bind fun p_1 =>
  if 0 ≤ x1 then (
    f_Mk_writeNumber_b16 p_1 I)
  else (
  (f_Mk_writeOctet 45 I).bind fun p_2 =>
  f_Mk_writeNumber_b16 p_1 p_2)
noncomputable def f_Mk_writeNumber (x1 : Int32) (I : xm_I) : Option (xm_I) := f_Mk_writeNumber_b0 x1 I
set_option maxHeartbeats 4000000 in
set_option maxRecDepth 100000 in
theorem t_Mk_writeNumber_s57 {l2 : Int64} {s : Int64 × Int32 × xm_I} {n : Nat} {L : xm_L} {K : (Int64 × Int32 × xm_I) ⊕ (xm_I) → Prop} {Q : Option Value → xm_H → Prop} (hn : 86 ≤ n) (hq : ∀ p : xm_I, K (.inr p) → Q none (p, L, RC n, n)) (hg0 : ∀ s : Int64 × Int32 × xm_I, K (.inl s) → xm_J 1 mt_Mk_writeNumber 57 [(0, .ref 17), (2, .long l2), (4, .long s.1), (6, .int s.2.1)] [] (s.2.2, L, RC n, n) 0 0 Q) (hF : ok (f_Mk_writeNumber_s57 l2 s) K) : xm_J 1 mt_Mk_writeNumber 57 [(0, .ref 17), (2, .long l2), (4, .long s.1), (6, .int s.2.1)] [] (s.2.2, L, RC n, n) 0 0 Q := by
  unfold f_Mk_writeNumber_s57 at hF
  refine r_iload (i := 30) (k0 := 3) rfl rfl ?_
  refine r_bipush (v := 10) (i := 31) rfl kb_10 ?_
  refine r_icmpge (i := 32) (tgt := 101) rfl (by decide) (fun hc => ?_) (fun hc => ?_)
  · have hF := ok_it hc hF
    have hQ := hq _ (ok_some hF)
    exact r_return (i := 53) rfl rfl hQ
  have hF := ok_if hc hF
  refine r_lload (i := 33) (k0 := 2) rfl rfl ?_
  refine r_lconst (v := 0) (i := 34) rfl rfl ?_
  refine r_lcmple (i := 35) (j := 36) (tgt := 101) rfl rfl (by decide) (fun hc => ?_) (fun hc => ?_)
  · have hF := ok_it hc hF
    have hQ := hq _ (ok_some hF)
    exact r_return (i := 53) rfl rfl hQ
  have hF := ok_if hc hF
  refine r_aload_n (i := 37) (k0 := 0) rfl rfl rfl ?_
  refine r_bipush (v := 48) (i := 38) rfl kb_48 ?_
  refine r_lload_n (i := 39) (k0 := 1) rfl rfl rfl ?_
  refine r_lload (i := 40) (k0 := 2) rfl rfl ?_
  obtain ⟨hi, hF⟩ := ok_gd hF
  refine r_ldiv (i := 41) rfl hi ?_
  refine r_ldc2 (i := 42) rfl ct_Mk_73 ?_
  refine r_lrem (i := 43) rfl (by decide) ?_
  refine r_l2i (i := 44) rfl ?_
  refine r_iadd (i := 45) rfl ?_
  refine c_V1V (i := 46) rfl vm_Mk_writeOctet lk_Mk_61 (t_Mk_writeOctet hn (ok_bind hF)) (Nat.le_of_ble_eq_true rfl) (xm_in rfl hn) rfl rfl (Nat.le_of_ble_eq_true rfl) (fun p_1 hF => ?_)
  refine r_lload (i := 47) (k0 := 2) rfl rfl ?_
  refine r_ldc2 (i := 48) rfl ct_Mk_73 ?_
  refine r_ldiv (i := 49) rfl (by decide) ?_
  refine r_lstore (i := 50) (Ls' := [(4, _), (0, _), (2, _), (6, _)]) rfl (Nat.le_of_ble_eq_true rfl) rfl ?_
  refine q_iinc (i := 51) (k0 := 3) (Ls' := [(6, _), (4, _), (0, _), (2, _)]) rfl ki_1 rfl (Nat.le_of_ble_eq_true rfl) rfl ?_
  refine r_goto (i := 52) (tgt := 57) rfl (by decide) ?_
  refine xm_sub (Ls' := [(0, _), (2, _), (4, _), (6, _)]) [2, 3, 1, 0] rfl ?_
  have hJ := hg0 _ (ok_some hF)
  exact hJ
set_option maxHeartbeats 4000000 in
set_option maxRecDepth 100000 in
theorem t_Mk_writeNumber_b57 {l2 : Int64} {s : Int64 × Int32 × xm_I} {n : Nat} {L : xm_L} {K : xm_I → Prop} {Q : Option Value → xm_H → Prop} (hn : 86 ≤ n) (hq : ∀ p : xm_I, K p → Q none (p, L, RC n, n)) (hF : ok (f_Mk_writeNumber_b57 l2 s) K) : xm_J 1 mt_Mk_writeNumber 57 [(0, .ref 17), (2, .long l2), (4, .long s.1), (6, .int s.2.1)] [] (s.2.2, L, RC n, n) 0 0 Q :=
  lp_J (G := fun z => xm_J 1 mt_Mk_writeNumber 57 [(0, .ref 17), (2, .long l2), (4, .long z.1), (6, .int z.2.1)] [] (z.2.2, L, RC n, n) 0 0 Q) (fun z hF => t_Mk_writeNumber_s57 hn (fun p h => hq p h) (fun z h => h) hF) s hF
set_option maxHeartbeats 4000000 in
set_option maxRecDepth 100000 in
theorem t_Mk_writeNumber_b54 {l2 : Int64} {l4 : Int64} {n : Nat} {I : xm_I} {L : xm_L} {K : xm_I → Prop} {Q : Option Value → xm_H → Prop} (hn : 86 ≤ n) (hq : ∀ p : xm_I, K p → Q none (p, L, RC n, n)) (hF : ok (f_Mk_writeNumber_b54 l2 l4 I) K) : xm_J 1 mt_Mk_writeNumber 54 [(0, .ref 17), (2, .long l2), (4, .long l4)] [] (I, L, RC n, n) 0 0 Q := by
  unfold f_Mk_writeNumber_b54 at hF
  refine r_iconst (v := 0) (i := 28) rfl ki_0 ?_
  refine r_istore (i := 29) (Ls' := [(6, _), (0, _), (2, _), (4, _)]) rfl (Nat.le_of_ble_eq_true rfl) rfl ?_
  refine xm_sub (Ls' := [(0, _), (2, _), (4, _), (6, _)]) [1, 2, 3, 0] rfl ?_
  exact t_Mk_writeNumber_b57 hn (fun p h => hq p h) hF
set_option maxHeartbeats 4000000 in
set_option maxRecDepth 100000 in
theorem t_Mk_writeNumber_s22 {l2 : Int64} {s : Int64 × Int32} {n : Nat} {I : xm_I} {L : xm_L} {K : (Int64 × Int32) ⊕ (xm_I) → Prop} {Q : Option Value → xm_H → Prop} (hn : 86 ≤ n) (hq : ∀ p : xm_I, K (.inr p) → Q none (p, L, RC n, n)) (hg0 : ∀ s : Int64 × Int32, K (.inl s) → xm_J 1 mt_Mk_writeNumber 22 [(0, .ref 17), (2, .long l2), (4, .long s.1), (6, .int s.2)] [] (I, L, RC n, n) 0 0 Q) (hF : ok (f_Mk_writeNumber_s22 l2 I s) K) : xm_J 1 mt_Mk_writeNumber 22 [(0, .ref 17), (2, .long l2), (4, .long s.1), (6, .int s.2)] [] (I, L, RC n, n) 0 0 Q := by
  unfold f_Mk_writeNumber_s22 at hF
  refine r_iload (i := 13) (k0 := 3) rfl rfl ?_
  refine r_bipush (v := 10) (i := 14) rfl kb_10 ?_
  refine r_icmpge (i := 15) (tgt := 54) rfl (by decide) (fun hc => ?_) (fun hc => ?_)
  · have hF := ok_it hc hF
    refine xm_sub (Ls' := [(0, _), (2, _), (4, _)]) [0, 1, 2] rfl ?_
    exact t_Mk_writeNumber_b54 hn (fun p h => hq p h) (ok_map hF)
  have hF := ok_if hc hF
  refine r_lload (i := 16) (k0 := 2) rfl rfl ?_
  refine r_ldc2 (i := 17) rfl ct_Mk_73 ?_
  refine r_lmul (i := 18) rfl ?_
  refine r_lload_n (i := 19) (k0 := 1) rfl rfl rfl ?_
  refine r_lcmpgt (i := 20) (j := 21) (tgt := 54) rfl rfl (by decide) (fun hc => ?_) (fun hc => ?_)
  · have hF := ok_it hc hF
    refine xm_sub (Ls' := [(0, _), (2, _), (4, _)]) [0, 1, 2] rfl ?_
    exact t_Mk_writeNumber_b54 hn (fun p h => hq p h) (ok_map hF)
  have hF := ok_if hc hF
  refine r_lload (i := 22) (k0 := 2) rfl rfl ?_
  refine r_ldc2 (i := 23) rfl ct_Mk_73 ?_
  refine r_lmul (i := 24) rfl ?_
  refine r_lstore (i := 25) (Ls' := [(4, _), (0, _), (2, _), (6, _)]) rfl (Nat.le_of_ble_eq_true rfl) rfl ?_
  refine q_iinc (i := 26) (k0 := 3) (Ls' := [(6, _), (4, _), (0, _), (2, _)]) rfl ki_1 rfl (Nat.le_of_ble_eq_true rfl) rfl ?_
  refine r_goto (i := 27) (tgt := 22) rfl (by decide) ?_
  refine xm_sub (Ls' := [(0, _), (2, _), (4, _), (6, _)]) [2, 3, 1, 0] rfl ?_
  have hJ := hg0 _ (ok_some hF)
  exact hJ
set_option maxHeartbeats 4000000 in
set_option maxRecDepth 100000 in
theorem t_Mk_writeNumber_b22 {l2 : Int64} {s : Int64 × Int32} {n : Nat} {I : xm_I} {L : xm_L} {K : xm_I → Prop} {Q : Option Value → xm_H → Prop} (hn : 86 ≤ n) (hq : ∀ p : xm_I, K p → Q none (p, L, RC n, n)) (hF : ok (f_Mk_writeNumber_b22 l2 I s) K) : xm_J 1 mt_Mk_writeNumber 22 [(0, .ref 17), (2, .long l2), (4, .long s.1), (6, .int s.2)] [] (I, L, RC n, n) 0 0 Q :=
  lp_J (G := fun z => xm_J 1 mt_Mk_writeNumber 22 [(0, .ref 17), (2, .long l2), (4, .long z.1), (6, .int z.2)] [] (I, L, RC n, n) 0 0 Q) (fun z hF => t_Mk_writeNumber_s22 hn (fun p h => hq p h) (fun z h => h) hF) s hF
set_option maxHeartbeats 4000000 in
set_option maxRecDepth 100000 in
theorem t_Mk_writeNumber_b16 {l2 : Int64} {n : Nat} {I : xm_I} {L : xm_L} {K : xm_I → Prop} {Q : Option Value → xm_H → Prop} (hn : 86 ≤ n) (hq : ∀ p : xm_I, K p → Q none (p, L, RC n, n)) (hF : ok (f_Mk_writeNumber_b16 l2 I) K) : xm_J 1 mt_Mk_writeNumber 16 [(0, .ref 17), (2, .long l2)] [] (I, L, RC n, n) 0 0 Q := by
  unfold f_Mk_writeNumber_b16 at hF
  refine r_lconst (v := 1) (i := 9) rfl rfl ?_
  refine r_lstore (i := 10) (Ls' := [(4, _), (0, _), (2, _)]) rfl (Nat.le_of_ble_eq_true rfl) rfl ?_
  refine r_iconst (v := 1) (i := 11) rfl ki_1 ?_
  refine r_istore (i := 12) (Ls' := [(6, _), (4, _), (0, _), (2, _)]) rfl (Nat.le_of_ble_eq_true rfl) rfl ?_
  refine xm_sub (Ls' := [(0, _), (2, _), (4, _), (6, _)]) [2, 3, 1, 0] rfl ?_
  exact t_Mk_writeNumber_b22 hn (fun p h => hq p h) hF
set_option maxHeartbeats 4000000 in
set_option maxRecDepth 100000 in
theorem t_Mk_writeNumber_b0 {x1 : Int32} {n : Nat} {I : xm_I} {L : xm_L} {K : xm_I → Prop} {Q : Option Value → xm_H → Prop} (hn : 86 ≤ n) (hq : ∀ p : xm_I, K p → Q none (p, L, RC n, n)) (hF : ok (f_Mk_writeNumber_b0 x1 I) K) : xm_J 1 mt_Mk_writeNumber 0 [(0, .ref 17), (1, .int x1)] [] (I, L, RC n, n) 0 0 Q := by
  unfold f_Mk_writeNumber_b0 at hF
  refine r_iload_n (i := 0) (k0 := 1) rfl rfl rfl ?_
  refine r_i2l (i := 1) rfl ?_
  refine c_S1L (i := 2) rfl sm_Jm_abs_J lk_Mk_67 (t_Jm_abs_J hn (ok_bind hF)) (Nat.le_of_ble_eq_true rfl) rfl (Nat.le_of_ble_eq_true rfl) (fun p_1 hF => ?_)
  refine r_lstore_n (i := 3) (Ls' := [(2, _), (0, _), (1, _)]) rfl rfl (Nat.le_of_ble_eq_true rfl) rfl ?_
  refine r_iload_n (i := 4) (k0 := 2) rfl rfl rfl ?_
  refine r_ifge (i := 5) (tgt := 16) rfl (by decide) (fun hc => ?_) (fun hc => ?_)
  · have hF := ok_it hc hF
    refine xm_sub (Ls' := [(0, _), (2, _)]) [1, 0] rfl ?_
    exact t_Mk_writeNumber_b16 hn (fun p h => hq p h) hF
  have hF := ok_if hc hF
  refine r_aload_n (i := 6) (k0 := 1) rfl rfl rfl ?_
  refine r_bipush (v := 45) (i := 7) rfl kb_45 ?_
  refine c_V1V (i := 8) rfl vm_Mk_writeOctet lk_Mk_61 (t_Mk_writeOctet hn (ok_bind hF)) (Nat.le_of_ble_eq_true rfl) (xm_in rfl hn) rfl rfl (Nat.le_of_ble_eq_true rfl) (fun p_2 hF => ?_)
  refine xm_sub (Ls' := [(0, _), (2, _)]) [1, 0] rfl ?_
  exact t_Mk_writeNumber_b16 hn (fun p h => hq p h) hF
set_option maxHeartbeats 4000000 in
set_option maxRecDepth 100000 in
theorem t_Mk_writeNumber {x1 : Int32} {n : Nat} {I : xm_I} {L : xm_L} {K : xm_I → Prop} (hn : 86 ≤ n) (hF : ok (f_Mk_writeNumber x1 I) K) : xm_C 1 mt_Mk_writeNumber [.ref 17, .int x1] (I, L, RC n, n) 0 0 (pV (fun p : xm_I => (p, L, RC n, n)) K) := by
  unfold f_Mk_writeNumber at hF
  refine xm_enter (by decide +kernel) dv_Mk_writeNumber (Nat.le_of_ble_eq_true rfl) ?_
  exact t_Mk_writeNumber_b0 hn (fun p hp => ⟨p, rfl, rfl, hp⟩) hF

noncomputable def f_Mk_write_s25 (x1 : Int32) (x3 : Int32) (s : Int32 × xm_I) : Option ((Int32 × xm_I) ⊕ (xm_I)) :=
  if x3 < s.1 then (
    (f_Mk_writeOctet 10 s.2).bind fun p_1 =>
    some (.inr (p_1)))
  else (
  (f_Mk_writeOctet 32 s.2).bind fun p_2 =>
  (f_Mk_valueAt x1 s.1 p_2).bind fun p_3 =>
  (f_Mk_writeNumber p_3 p_2).bind fun p_4 =>
  let x4_5 : Int32 := s.1 + 1
  some (.inl (x4_5, p_4)))
noncomputable def f_Mk_write_b25 (x1 : Int32) (x3 : Int32) (s : Int32 × xm_I) : Option (xm_I) := lp (f_Mk_write_s25 x1 x3) s
noncomputable def f_Mk_write_b0 (x1 : Int32) (I : xm_I) : Option (xm_I) :=
  (f_Mk_valueAt x1 0 I).bind fun p_1 =>
  (f_Mk_numbersOf p_1).bind fun p_2 =>
  let I_3 : xm_I := up2 I 17 3 0
  (f_Mk_writeOctet p_1 I_3).bind fun p_4 =>
  f_Mk_write_b25 x1 p_2 (1, p_4)
noncomputable def f_Mk_write (x1 : Int32) (I : xm_I) : Option (xm_I) := f_Mk_write_b0 x1 I
set_option maxHeartbeats 4000000 in
set_option maxRecDepth 100000 in
theorem t_Mk_write_s25 {x1 : Int32} {x3 : Int32} {s : Int32 × xm_I} {n : Nat} {L : xm_L} {K : (Int32 × xm_I) ⊕ (xm_I) → Prop} {Q : Option Value → xm_H → Prop} (hn : 86 ≤ n) (hq : ∀ p : xm_I, K (.inr p) → Q none (p, L, RC n, n)) (hg0 : ∀ s : Int32 × xm_I, K (.inl s) → xm_J 2 mt_Mk_write 25 [(0, .ref 17), (1, .int x1), (3, .int x3), (4, .int s.1)] [] (s.2, L, RC n, n) 0 0 Q) (hF : ok (f_Mk_write_s25 x1 x3 s) K) : xm_J 2 mt_Mk_write 25 [(0, .ref 17), (1, .int x1), (3, .int x3), (4, .int s.1)] [] (s.2, L, RC n, n) 0 0 Q := by
  unfold f_Mk_write_s25 at hF
  refine r_iload (i := 16) (k0 := 3) rfl rfl ?_
  refine r_iload_n (i := 17) (k0 := 2) rfl rfl rfl ?_
  refine r_icmpgt (i := 18) (tgt := 54) rfl (by decide) (fun hc => ?_) (fun hc => ?_)
  · have hF := ok_it hc hF
    refine r_aload_n (i := 30) (k0 := 0) rfl rfl rfl ?_
    refine r_bipush (v := 10) (i := 31) rfl kb_10 ?_
    refine c_V1V (i := 32) rfl vm_Mk_writeOctet lk_Mk_61 (t_Mk_writeOctet hn (ok_bind hF)) (Nat.le_of_ble_eq_true rfl) (xm_in rfl hn) rfl rfl (Nat.le_of_ble_eq_true rfl) (fun p_1 hF => ?_)
    have hQ := hq _ (ok_some hF)
    exact r_return (i := 33) rfl rfl hQ
  have hF := ok_if hc hF
  refine r_aload_n (i := 19) (k0 := 0) rfl rfl rfl ?_
  refine r_bipush (v := 32) (i := 20) rfl kb_32 ?_
  refine c_V1V (i := 21) rfl vm_Mk_writeOctet lk_Mk_61 (t_Mk_writeOctet hn (ok_bind hF)) (Nat.le_of_ble_eq_true rfl) (xm_in rfl hn) rfl rfl (Nat.le_of_ble_eq_true rfl) (fun p_2 hF => ?_)
  refine r_aload_n (i := 22) (k0 := 0) rfl rfl rfl ?_
  refine r_aload_n (i := 23) (k0 := 0) rfl rfl rfl ?_
  refine r_iload_n (i := 24) (k0 := 1) rfl rfl rfl ?_
  refine r_iload (i := 25) (k0 := 3) rfl rfl ?_
  refine c_V2I (i := 26) rfl vm_Mk_valueAt lk_Mk_53 (t_Mk_valueAt hn (ok_bind hF)) (Nat.le_of_ble_eq_true rfl) (xm_in rfl hn) rfl rfl (Nat.le_of_ble_eq_true rfl) (fun p_3 hF => ?_)
  refine c_V1V (i := 27) rfl vm_Mk_writeNumber lk_Mk_64 (t_Mk_writeNumber hn (ok_bind hF)) (Nat.le_of_ble_eq_true rfl) (xm_in rfl hn) rfl rfl (Nat.le_of_ble_eq_true rfl) (fun p_4 hF => ?_)
  refine q_iinc (i := 28) (k0 := 3) (Ls' := [(4, _), (0, _), (1, _), (3, _)]) rfl ki_1 rfl (Nat.le_of_ble_eq_true rfl) rfl ?_
  refine r_goto (i := 29) (tgt := 25) rfl (by decide) ?_
  refine xm_sub (Ls' := [(0, _), (1, _), (3, _), (4, _)]) [1, 2, 3, 0] rfl ?_
  have hJ := hg0 _ (ok_some hF)
  exact hJ
set_option maxHeartbeats 4000000 in
set_option maxRecDepth 100000 in
theorem t_Mk_write_b25 {x1 : Int32} {x3 : Int32} {s : Int32 × xm_I} {n : Nat} {L : xm_L} {K : xm_I → Prop} {Q : Option Value → xm_H → Prop} (hn : 86 ≤ n) (hq : ∀ p : xm_I, K p → Q none (p, L, RC n, n)) (hF : ok (f_Mk_write_b25 x1 x3 s) K) : xm_J 2 mt_Mk_write 25 [(0, .ref 17), (1, .int x1), (3, .int x3), (4, .int s.1)] [] (s.2, L, RC n, n) 0 0 Q :=
  lp_J (G := fun z => xm_J 2 mt_Mk_write 25 [(0, .ref 17), (1, .int x1), (3, .int x3), (4, .int z.1)] [] (z.2, L, RC n, n) 0 0 Q) (fun z hF => t_Mk_write_s25 hn (fun p h => hq p h) (fun z h => h) hF) s hF
set_option maxHeartbeats 4000000 in
set_option maxRecDepth 100000 in
theorem t_Mk_write_b0 {x1 : Int32} {n : Nat} {I : xm_I} {L : xm_L} {K : xm_I → Prop} {Q : Option Value → xm_H → Prop} (hn : 86 ≤ n) (hq : ∀ p : xm_I, K p → Q none (p, L, RC n, n)) (hF : ok (f_Mk_write_b0 x1 I) K) : xm_J 2 mt_Mk_write 0 [(0, .ref 17), (1, .int x1)] [] (I, L, RC n, n) 0 0 Q := by
  unfold f_Mk_write_b0 at hF
  refine r_aload_n (i := 0) (k0 := 0) rfl rfl rfl ?_
  refine r_iload_n (i := 1) (k0 := 1) rfl rfl rfl ?_
  refine r_iconst (v := 0) (i := 2) rfl ki_0 ?_
  refine c_V2I (i := 3) rfl vm_Mk_valueAt lk_Mk_53 (t_Mk_valueAt hn (ok_bind hF)) (Nat.le_of_ble_eq_true rfl) (xm_in rfl hn) rfl rfl (Nat.le_of_ble_eq_true rfl) (fun p_1 hF => ?_)
  refine r_istore_n (i := 4) (Ls' := [(2, _), (0, _), (1, _)]) rfl rfl (Nat.le_of_ble_eq_true rfl) rfl ?_
  refine r_iload_n (i := 5) (k0 := 0) rfl rfl rfl ?_
  refine c_S1I (i := 6) rfl sm_Mk_numbersOf lk_Mk_57 (t_Mk_numbersOf hn (ok_bind hF)) (Nat.le_of_ble_eq_true rfl) rfl (Nat.le_of_ble_eq_true rfl) (fun p_2 hF => ?_)
  refine r_istore_n (i := 7) (Ls' := [(3, _), (2, _), (0, _), (1, _)]) rfl rfl (Nat.le_of_ble_eq_true rfl) rfl ?_
  refine r_aload_n (i := 8) (k0 := 2) rfl rfl rfl ?_
  refine r_iconst (v := 0) (i := 9) rfl ki_0 ?_
  refine q_puti (i := 10) rfl fl_Mk_46 (fun h => Bool.noConfusion h) (xm_in rfl hn) rfl ?_
  refine r_aload_n (i := 11) (k0 := 2) rfl rfl rfl ?_
  refine r_iload_n (i := 12) (k0 := 1) rfl rfl rfl ?_
  refine c_V1V (i := 13) rfl vm_Mk_writeOctet lk_Mk_61 (t_Mk_writeOctet hn (ok_bind hF)) (Nat.le_of_ble_eq_true rfl) (xm_in rfl hn) rfl rfl (Nat.le_of_ble_eq_true rfl) (fun p_4 hF => ?_)
  refine r_iconst (v := 1) (i := 14) rfl ki_1 ?_
  refine r_istore (i := 15) (Ls' := [(4, _), (3, _), (2, _), (0, _), (1, _)]) rfl (Nat.le_of_ble_eq_true rfl) rfl ?_
  refine xm_sub (Ls' := [(0, _), (1, _), (3, _), (4, _)]) [3, 4, 1, 0] rfl ?_
  exact t_Mk_write_b25 hn (fun p h => hq p h) hF
set_option maxHeartbeats 4000000 in
set_option maxRecDepth 100000 in
theorem t_Mk_write {x1 : Int32} {n : Nat} {I : xm_I} {L : xm_L} {K : xm_I → Prop} (hn : 86 ≤ n) (hF : ok (f_Mk_write x1 I) K) : xm_C 2 mt_Mk_write [.ref 17, .int x1] (I, L, RC n, n) 0 0 (pV (fun p : xm_I => (p, L, RC n, n)) K) := by
  unfold f_Mk_write at hF
  refine xm_enter (by decide +kernel) dv_Mk_write (Nat.le_of_ble_eq_true rfl) ?_
  exact t_Mk_write_b0 hn (fun p hp => ⟨p, rfl, rfl, hp⟩) hF

noncomputable def f_Mk_seal_s25 (x1 : Int32) (x2 : Int32) (s : Int32 × xm_I) : Option ((Int32 × xm_I) ⊕ ((Int32 × Int32 × xm_I) ⊕ (xm_I))) :=
  if (s.2 17 3) ≤ s.1 then (
    let x1_1 : Int32 := x1 + (s.2 17 3)
    gd (0 ≤ (x2).toInt ∧ (x2).toInt < 600) <|
    let I_2 : xm_I := up2 s.2 19 (Int32.toNatClampNeg x2) x1_1
    let x2_3 : Int32 := x2 + 1
    some (.inr (.inl (x1_1, x2_3, I_2))))
  else (
  gd (0 ≤ (s.1).toInt ∧ (s.1).toInt < 62) <|
  let I_4 : xm_I := up2 s.2 17 6 ((31 * (s.2 17 6)) + (s.2 20 (Int32.toNatClampNeg s.1)))
  let x3_5 : Int32 := s.1 + 1
  some (.inl (x3_5, I_4)))
noncomputable def f_Mk_seal_b25 (x1 : Int32) (x2 : Int32) (s : Int32 × xm_I) : Option ((Int32 × Int32 × xm_I) ⊕ (xm_I)) := lp (f_Mk_seal_s25 x1 x2) s
noncomputable def f_Mk_seal_s10 (s : Int32 × Int32 × xm_I) : Option ((Int32 × Int32 × xm_I) ⊕ (xm_I)) :=
  if (s.2.2 17 4) ≤ s.2.1 then (
    some (.inr (s.2.2)))
  else (
  (f_Mk_write s.2.1 s.2.2).bind fun p_1 =>
  f_Mk_seal_b25 s.1 s.2.1 (0, p_1))
noncomputable def f_Mk_seal_b10 (s : Int32 × Int32 × xm_I) : Option (xm_I) := lp (f_Mk_seal_s10) s
noncomputable def f_Mk_seal_b0 (I : xm_I) : Option (xm_I) :=
  let I_1 : xm_I := up2 I 17 6 17
  f_Mk_seal_b10 (0, 0, I_1)
noncomputable def f_Mk_seal (I : xm_I) : Option (xm_I) := f_Mk_seal_b0 I
set_option maxHeartbeats 4000000 in
set_option maxRecDepth 100000 in
theorem t_Mk_seal_s25 {x1 : Int32} {x2 : Int32} {s : Int32 × xm_I} {n : Nat} {L : xm_L} {K : (Int32 × xm_I) ⊕ ((Int32 × Int32 × xm_I) ⊕ (xm_I)) → Prop} {Q : Option Value → xm_H → Prop} (hn : 86 ≤ n) (hq : ∀ p : xm_I, K (.inr (.inr p)) → Q none (p, L, RC n, n)) (hg0 : ∀ s : Int32 × Int32 × xm_I, K (.inr (.inl s)) → xm_J 3 mt_Mk_seal 10 [(0, .ref 17), (1, .int s.1), (2, .int s.2.1)] [] (s.2.2, L, RC n, n) 0 0 Q) (hg1 : ∀ s : Int32 × xm_I, K (.inl s) → xm_J 3 mt_Mk_seal 25 [(0, .ref 17), (1, .int x1), (2, .int x2), (3, .int s.1)] [] (s.2, L, RC n, n) 0 0 Q) (hF : ok (f_Mk_seal_s25 x1 x2 s) K) : xm_J 3 mt_Mk_seal 25 [(0, .ref 17), (1, .int x1), (2, .int x2), (3, .int s.1)] [] (s.2, L, RC n, n) 0 0 Q := by
  unfold f_Mk_seal_s25 at hF
  refine r_iload_n (i := 16) (k0 := 3) rfl rfl rfl ?_
  refine r_aload_n (i := 17) (k0 := 0) rfl rfl rfl ?_
  refine q_geti (i := 18) rfl fl_Mk_46 (xm_in rfl hn) rfl ?_
  refine r_icmpge (i := 19) (tgt := 57) rfl (by decide) (fun hc => ?_) (fun hc => ?_)
  · have hF := ok_it hc hF
    refine r_iload_n (i := 33) (k0 := 1) rfl rfl rfl ?_
    refine r_aload_n (i := 34) (k0 := 0) rfl rfl rfl ?_
    refine q_geti (i := 35) rfl fl_Mk_46 (xm_in rfl hn) rfl ?_
    refine r_iadd (i := 36) rfl ?_
    refine r_istore_n (i := 37) (Ls' := [(1, _), (0, _), (2, _), (3, _)]) rfl rfl (Nat.le_of_ble_eq_true rfl) rfl ?_
    refine r_aload_n (i := 38) (k0 := 1) rfl rfl rfl ?_
    refine q_getr (b := 19) (i := 39) rfl fl_Mk_15 rfl (xm_in rfl hn) rfl rfl ?_
    refine r_iload_n (i := 40) (k0 := 2) rfl rfl rfl ?_
    refine r_iload_n (i := 41) (k0 := 0) rfl rfl rfl ?_
    obtain ⟨hi, hF⟩ := ok_gd hF
    refine q_iastore (i := 42) rfl (xm_in rfl hn) rfl hi ?_
    refine q_iinc (i := 43) (k0 := 2) (Ls' := [(2, _), (1, _), (0, _), (3, _)]) rfl ki_1 rfl (Nat.le_of_ble_eq_true rfl) rfl ?_
    refine r_goto (i := 44) (tgt := 10) rfl (by decide) ?_
    refine xm_sub (Ls' := [(0, _), (1, _), (2, _)]) [2, 1, 0] rfl ?_
    have hJ := hg0 _ (ok_some hF)
    exact hJ
  have hF := ok_if hc hF
  refine r_aload_n (i := 20) (k0 := 0) rfl rfl rfl ?_
  refine r_bipush (v := 31) (i := 21) rfl kb_31 ?_
  refine r_aload_n (i := 22) (k0 := 0) rfl rfl rfl ?_
  refine q_geti (i := 23) rfl fl_Mk_21 (xm_in rfl hn) rfl ?_
  refine r_imul (i := 24) rfl ?_
  refine r_aload_n (i := 25) (k0 := 0) rfl rfl rfl ?_
  refine q_getr (b := 20) (i := 26) rfl fl_Mk_18 rfl (xm_in rfl hn) rfl rfl ?_
  refine r_iload_n (i := 27) (k0 := 3) rfl rfl rfl ?_
  obtain ⟨hi, hF⟩ := ok_gd hF
  refine q_iaload (i := 28) rfl (xm_in rfl hn) rfl hi ?_
  refine r_iadd (i := 29) rfl ?_
  refine q_puti (i := 30) rfl fl_Mk_21 (fun h => Bool.noConfusion h) (xm_in rfl hn) rfl ?_
  refine q_iinc (i := 31) (k0 := 3) (Ls' := [(3, _), (0, _), (1, _), (2, _)]) rfl ki_1 rfl (Nat.le_of_ble_eq_true rfl) rfl ?_
  refine r_goto (i := 32) (tgt := 25) rfl (by decide) ?_
  refine xm_sub (Ls' := [(0, _), (1, _), (2, _), (3, _)]) [1, 2, 3, 0] rfl ?_
  have hJ := hg1 _ (ok_some hF)
  exact hJ
set_option maxHeartbeats 4000000 in
set_option maxRecDepth 100000 in
theorem t_Mk_seal_b25 {x1 : Int32} {x2 : Int32} {s : Int32 × xm_I} {n : Nat} {L : xm_L} {K : (Int32 × Int32 × xm_I) ⊕ (xm_I) → Prop} {Q : Option Value → xm_H → Prop} (hn : 86 ≤ n) (hq : ∀ p : xm_I, K (.inr p) → Q none (p, L, RC n, n)) (hg0 : ∀ s : Int32 × Int32 × xm_I, K (.inl s) → xm_J 3 mt_Mk_seal 10 [(0, .ref 17), (1, .int s.1), (2, .int s.2.1)] [] (s.2.2, L, RC n, n) 0 0 Q) (hF : ok (f_Mk_seal_b25 x1 x2 s) K) : xm_J 3 mt_Mk_seal 25 [(0, .ref 17), (1, .int x1), (2, .int x2), (3, .int s.1)] [] (s.2, L, RC n, n) 0 0 Q :=
  lp_J (G := fun z => xm_J 3 mt_Mk_seal 25 [(0, .ref 17), (1, .int x1), (2, .int x2), (3, .int z.1)] [] (z.2, L, RC n, n) 0 0 Q) (fun z hF => t_Mk_seal_s25 hn (fun p h => hq p h) (fun z h => hg0 z h) (fun z h => h) hF) s hF
set_option maxHeartbeats 4000000 in
set_option maxRecDepth 100000 in
theorem t_Mk_seal_s10 {s : Int32 × Int32 × xm_I} {n : Nat} {L : xm_L} {K : (Int32 × Int32 × xm_I) ⊕ (xm_I) → Prop} {Q : Option Value → xm_H → Prop} (hn : 86 ≤ n) (hq : ∀ p : xm_I, K (.inr p) → Q none (p, L, RC n, n)) (hg0 : ∀ s : Int32 × Int32 × xm_I, K (.inl s) → xm_J 3 mt_Mk_seal 10 [(0, .ref 17), (1, .int s.1), (2, .int s.2.1)] [] (s.2.2, L, RC n, n) 0 0 Q) (hF : ok (f_Mk_seal_s10 s) K) : xm_J 3 mt_Mk_seal 10 [(0, .ref 17), (1, .int s.1), (2, .int s.2.1)] [] (s.2.2, L, RC n, n) 0 0 Q := by
  unfold f_Mk_seal_s10 at hF
  refine r_iload_n (i := 7) (k0 := 2) rfl rfl rfl ?_
  refine r_aload_n (i := 8) (k0 := 0) rfl rfl rfl ?_
  refine q_geti (i := 9) rfl fl_Mk_25 (xm_in rfl hn) rfl ?_
  refine r_icmpge (i := 10) (tgt := 77) rfl (by decide) (fun hc => ?_) (fun hc => ?_)
  · have hF := ok_it hc hF
    have hQ := hq _ (ok_some hF)
    exact r_return (i := 45) rfl rfl hQ
  have hF := ok_if hc hF
  refine r_aload_n (i := 11) (k0 := 0) rfl rfl rfl ?_
  refine r_iload_n (i := 12) (k0 := 2) rfl rfl rfl ?_
  refine c_V1V (i := 13) rfl vm_Mk_write lk_Mk_43 (t_Mk_write hn (ok_bind hF)) (Nat.le_of_ble_eq_true rfl) (xm_in rfl hn) rfl rfl (Nat.le_of_ble_eq_true rfl) (fun p_1 hF => ?_)
  refine r_iconst (v := 0) (i := 14) rfl ki_0 ?_
  refine r_istore_n (i := 15) (Ls' := [(3, _), (0, _), (1, _), (2, _)]) rfl rfl (Nat.le_of_ble_eq_true rfl) rfl ?_
  refine xm_sub (Ls' := [(0, _), (1, _), (2, _), (3, _)]) [1, 2, 3, 0] rfl ?_
  exact t_Mk_seal_b25 hn (fun p h => hq p h) (fun z h => hg0 z h) hF
set_option maxHeartbeats 4000000 in
set_option maxRecDepth 100000 in
theorem t_Mk_seal_b10 {s : Int32 × Int32 × xm_I} {n : Nat} {L : xm_L} {K : xm_I → Prop} {Q : Option Value → xm_H → Prop} (hn : 86 ≤ n) (hq : ∀ p : xm_I, K p → Q none (p, L, RC n, n)) (hF : ok (f_Mk_seal_b10 s) K) : xm_J 3 mt_Mk_seal 10 [(0, .ref 17), (1, .int s.1), (2, .int s.2.1)] [] (s.2.2, L, RC n, n) 0 0 Q :=
  lp_J (G := fun z => xm_J 3 mt_Mk_seal 10 [(0, .ref 17), (1, .int z.1), (2, .int z.2.1)] [] (z.2.2, L, RC n, n) 0 0 Q) (fun z hF => t_Mk_seal_s10 hn (fun p h => hq p h) (fun z h => h) hF) s hF
set_option maxHeartbeats 4000000 in
set_option maxRecDepth 100000 in
theorem t_Mk_seal_b0 {n : Nat} {I : xm_I} {L : xm_L} {K : xm_I → Prop} {Q : Option Value → xm_H → Prop} (hn : 86 ≤ n) (hq : ∀ p : xm_I, K p → Q none (p, L, RC n, n)) (hF : ok (f_Mk_seal_b0 I) K) : xm_J 3 mt_Mk_seal 0 [(0, .ref 17)] [] (I, L, RC n, n) 0 0 Q := by
  unfold f_Mk_seal_b0 at hF
  refine r_iconst (v := 0) (i := 0) rfl ki_0 ?_
  refine r_istore_n (i := 1) (Ls' := [(1, _), (0, _)]) rfl rfl (Nat.le_of_ble_eq_true rfl) rfl ?_
  refine r_aload_n (i := 2) (k0 := 1) rfl rfl rfl ?_
  refine r_bipush (v := 17) (i := 3) rfl kb_17 ?_
  refine q_puti (i := 4) rfl fl_Mk_21 (fun h => Bool.noConfusion h) (xm_in rfl hn) rfl ?_
  refine r_iconst (v := 0) (i := 5) rfl ki_0 ?_
  refine r_istore_n (i := 6) (Ls' := [(2, _), (1, _), (0, _)]) rfl rfl (Nat.le_of_ble_eq_true rfl) rfl ?_
  refine xm_sub (Ls' := [(0, _), (1, _), (2, _)]) [2, 1, 0] rfl ?_
  exact t_Mk_seal_b10 hn (fun p h => hq p h) hF
set_option maxHeartbeats 4000000 in
set_option maxRecDepth 100000 in
theorem t_Mk_seal {n : Nat} {I : xm_I} {L : xm_L} {K : xm_I → Prop} (hn : 86 ≤ n) (hF : ok (f_Mk_seal I) K) : xm_C 3 mt_Mk_seal [.ref 17] (I, L, RC n, n) 0 0 (pV (fun p : xm_I => (p, L, RC n, n)) K) := by
  unfold f_Mk_seal at hF
  refine xm_enter (by decide +kernel) dv_Mk_seal (Nat.le_of_ble_eq_true rfl) ?_
  exact t_Mk_seal_b0 hn (fun p hp => ⟨p, rfl, rfl, hp⟩) hF

noncomputable def f_Lb_beginDrawing_s28 (s : Int32 × xm_I) : Option ((Int32 × xm_I) ⊕ (xm_I)) :=
  if 20 ≤ s.1 then (
    some (.inr (s.2)))
  else (
  gd (0 ≤ (s.1).toInt ∧ (s.1).toInt < 20) <|
  let I_1 : xm_I := up2 s.2 24 (Int32.toNatClampNeg s.1) 8
  let x1_2 : Int32 := s.1 + 1
  some (.inl (x1_2, I_1)))
noncomputable def f_Lb_beginDrawing_b28 (s : Int32 × xm_I) : Option (xm_I) := lp (f_Lb_beginDrawing_s28) s
noncomputable def f_Lb_beginDrawing_b0 (I : xm_I) : Option (xm_I) :=
  let I_1 : xm_I := up2 I 21 4 (I 21 3)
  let I_2 : xm_I := up2 I_1 21 5 (I_1 21 3)
  let I_3 : xm_I := up2 I_2 21 6 0
  let I_4 : xm_I := up2 I_3 21 7 0
  f_Lb_beginDrawing_b28 (0, I_4)
noncomputable def f_Lb_beginDrawing (I : xm_I) : Option (xm_I) := f_Lb_beginDrawing_b0 I
set_option maxHeartbeats 4000000 in
set_option maxRecDepth 100000 in
theorem t_Lb_beginDrawing_s28 {s : Int32 × xm_I} {n : Nat} {L : xm_L} {K : (Int32 × xm_I) ⊕ (xm_I) → Prop} {Q : Option Value → xm_H → Prop} (hn : 86 ≤ n) (hq : ∀ p : xm_I, K (.inr p) → Q none (p, L, RC n, n)) (hg0 : ∀ s : Int32 × xm_I, K (.inl s) → xm_J 0 mt_Lb_beginDrawing 28 [(0, .ref 21), (1, .int s.1)] [] (s.2, L, RC n, n) 0 0 Q) (hF : ok (f_Lb_beginDrawing_s28 s) K) : xm_J 0 mt_Lb_beginDrawing 28 [(0, .ref 21), (1, .int s.1)] [] (s.2, L, RC n, n) 0 0 Q := by
  unfold f_Lb_beginDrawing_s28 at hF
  refine r_iload_n (i := 16) (k0 := 1) rfl rfl rfl ?_
  refine r_bipush (v := 20) (i := 17) rfl kb_20 ?_
  refine r_icmpge (i := 18) (tgt := 48) rfl (by decide) (fun hc => ?_) (fun hc => ?_)
  · have hF := ok_it hc hF
    have hQ := hq _ (ok_some hF)
    exact r_return (i := 26) rfl rfl hQ
  have hF := ok_if hc hF
  refine r_aload_n (i := 19) (k0 := 0) rfl rfl rfl ?_
  refine q_getr (b := 24) (i := 20) rfl fl_Lb_18 rfl (xm_in rfl hn) rfl rfl ?_
  refine r_iload_n (i := 21) (k0 := 1) rfl rfl rfl ?_
  refine r_bipush (v := 8) (i := 22) rfl kb_8 ?_
  obtain ⟨hi, hF⟩ := ok_gd hF
  refine q_iastore (i := 23) rfl (xm_in rfl hn) rfl hi ?_
  refine q_iinc (i := 24) (k0 := 1) (Ls' := [(1, _), (0, _)]) rfl ki_1 rfl (Nat.le_of_ble_eq_true rfl) rfl ?_
  refine r_goto (i := 25) (tgt := 28) rfl (by decide) ?_
  refine xm_sub (Ls' := [(0, _), (1, _)]) [1, 0] rfl ?_
  have hJ := hg0 _ (ok_some hF)
  exact hJ
set_option maxHeartbeats 4000000 in
set_option maxRecDepth 100000 in
theorem t_Lb_beginDrawing_b28 {s : Int32 × xm_I} {n : Nat} {L : xm_L} {K : xm_I → Prop} {Q : Option Value → xm_H → Prop} (hn : 86 ≤ n) (hq : ∀ p : xm_I, K p → Q none (p, L, RC n, n)) (hF : ok (f_Lb_beginDrawing_b28 s) K) : xm_J 0 mt_Lb_beginDrawing 28 [(0, .ref 21), (1, .int s.1)] [] (s.2, L, RC n, n) 0 0 Q :=
  lp_J (G := fun z => xm_J 0 mt_Lb_beginDrawing 28 [(0, .ref 21), (1, .int z.1)] [] (z.2, L, RC n, n) 0 0 Q) (fun z hF => t_Lb_beginDrawing_s28 hn (fun p h => hq p h) (fun z h => h) hF) s hF
set_option maxHeartbeats 4000000 in
set_option maxRecDepth 100000 in
theorem t_Lb_beginDrawing_b0 {n : Nat} {I : xm_I} {L : xm_L} {K : xm_I → Prop} {Q : Option Value → xm_H → Prop} (hn : 86 ≤ n) (hq : ∀ p : xm_I, K p → Q none (p, L, RC n, n)) (hF : ok (f_Lb_beginDrawing_b0 I) K) : xm_J 0 mt_Lb_beginDrawing 0 [(0, .ref 21)] [] (I, L, RC n, n) 0 0 Q := by
  unfold f_Lb_beginDrawing_b0 at hF
  refine r_aload_n (i := 0) (k0 := 0) rfl rfl rfl ?_
  refine r_aload_n (i := 1) (k0 := 0) rfl rfl rfl ?_
  refine q_geti (i := 2) rfl fl_Lb_21 (xm_in rfl hn) rfl ?_
  refine q_puti (i := 3) rfl fl_Lb_34 (fun h => Bool.noConfusion h) (xm_in rfl hn) rfl ?_
  refine r_aload_n (i := 4) (k0 := 0) rfl rfl rfl ?_
  refine r_aload_n (i := 5) (k0 := 0) rfl rfl rfl ?_
  refine q_geti (i := 6) rfl fl_Lb_21 (xm_in rfl hn) rfl ?_
  refine q_puti (i := 7) rfl fl_Lb_37 (fun h => Bool.noConfusion h) (xm_in rfl hn) rfl ?_
  refine r_aload_n (i := 8) (k0 := 0) rfl rfl rfl ?_
  refine r_iconst (v := 0) (i := 9) rfl ki_0 ?_
  refine q_puti (i := 10) rfl fl_Lb_40 (fun h => Bool.noConfusion h) (xm_in rfl hn) rfl ?_
  refine r_aload_n (i := 11) (k0 := 0) rfl rfl rfl ?_
  refine r_iconst (v := 0) (i := 12) rfl ki_0 ?_
  refine q_puti (i := 13) rfl fl_Lb_43 (fun h => Bool.noConfusion h) (xm_in rfl hn) rfl ?_
  refine r_iconst (v := 0) (i := 14) rfl ki_0 ?_
  refine r_istore_n (i := 15) (Ls' := [(1, _), (0, _)]) rfl rfl (Nat.le_of_ble_eq_true rfl) rfl ?_
  refine xm_sub (Ls' := [(0, _), (1, _)]) [1, 0] rfl ?_
  exact t_Lb_beginDrawing_b28 hn (fun p h => hq p h) hF
set_option maxHeartbeats 4000000 in
set_option maxRecDepth 100000 in
theorem t_Lb_beginDrawing {n : Nat} {I : xm_I} {L : xm_L} {K : xm_I → Prop} (hn : 86 ≤ n) (hF : ok (f_Lb_beginDrawing I) K) : xm_C 0 mt_Lb_beginDrawing [.ref 21] (I, L, RC n, n) 0 0 (pV (fun p : xm_I => (p, L, RC n, n)) K) := by
  unfold f_Lb_beginDrawing at hF
  refine xm_enter (by decide +kernel) dv_Lb_beginDrawing (Nat.le_of_ble_eq_true rfl) ?_
  exact t_Lb_beginDrawing_b0 hn (fun p hp => ⟨p, rfl, rfl, hp⟩) hF

noncomputable def f_Pl_isAside_b146 (l12 : Int64) (l14 : Int64) (l16 : Int64) (l18 : Int64) (I : xm_I) : Option (Int32) :=
  if 0 ≤ l12 then (
    some (0))
  else (
  if 0 ≤ l14 then (
    some (0))
  else (
  if 0 ≤ l16 then (
    some (0))
  else (
  if 0 ≤ l18 then (
    some (0))
  else (
  some (1)))))
noncomputable def f_Pl_isAside_b0 (x1 : Int32) (x2 : Int32) (x3 : Int32) (l4 : Int64) (l6 : Int64) (I : xm_I) : Option (Int32) :=
  if x1 < 0 then (
    some (1))
  else (
  if x1 < 160 then (
    gd (0 ≤ (x1).toInt ∧ (x1).toInt < 160) <|
    let x8_1 : Int32 := (I 43 (Int32.toNatClampNeg x1)) - x2
    gd (0 ≤ (x1).toInt ∧ (x1).toInt < 160) <|
    let x9_2 : Int32 := (I 44 (Int32.toNatClampNeg x1)) - x3
    gd (0 ≤ (x1 / 8).toInt ∧ (x1 / 8).toInt < 20) <|
    let x10_3 : Int32 := (x8_1 + (I 41 (Int32.toNatClampNeg (x1 / 8)))) - 1
    let x11_4 : Int32 := (x9_2 + 9) - 1
    let l12_5 : Int64 := (l4 * (Int32.toInt64 x9_2)) - (l6 * (Int32.toInt64 x8_1))
    let l14_6 : Int64 := (l4 * (Int32.toInt64 x9_2)) - (l6 * (Int32.toInt64 x10_3))
    let l16_7 : Int64 := (l4 * (Int32.toInt64 x11_4)) - (l6 * (Int32.toInt64 x8_1))
    let l18_8 : Int64 := (l4 * (Int32.toInt64 x11_4)) - (l6 * (Int32.toInt64 x10_3))
    if l12_5 ≤ 0 then (
      f_Pl_isAside_b146 l12_5 l14_6 l16_7 l18_8 I)
    else (
    if l14_6 ≤ 0 then (
      f_Pl_isAside_b146 l12_5 l14_6 l16_7 l18_8 I)
    else (
    if l16_7 ≤ 0 then (
      f_Pl_isAside_b146 l12_5 l14_6 l16_7 l18_8 I)
    else (
    if 0 < l18_8 then (
      some (1))
    else (
    f_Pl_isAside_b146 l12_5 l14_6 l16_7 l18_8 I)))))
  else (
  some (1)))
noncomputable def f_Pl_isAside (x1 : Int32) (x2 : Int32) (x3 : Int32) (l4 : Int64) (l6 : Int64) (I : xm_I) : Option (Int32) := f_Pl_isAside_b0 x1 x2 x3 l4 l6 I
set_option maxHeartbeats 4000000 in
set_option maxRecDepth 100000 in
theorem t_Pl_isAside_b146 {l12 : Int64} {l14 : Int64} {l16 : Int64} {l18 : Int64} {n : Nat} {I : xm_I} {L : xm_L} {K : Int32 → Prop} {Q : Option Value → xm_H → Prop} (hn : 86 ≤ n) (hq : ∀ p : Int32, K p → Q (some (.int p)) (I, L, RC n, n)) (hF : ok (f_Pl_isAside_b146 l12 l14 l16 l18 I) K) : xm_J 0 mt_Pl_isAside 146 [(12, .long l12), (14, .long l14), (16, .long l16), (18, .long l18)] [] (I, L, RC n, n) 0 0 Q := by
  unfold f_Pl_isAside_b146 at hF
  refine r_lload (i := 94) (k0 := 0) rfl rfl ?_
  refine r_lconst (v := 0) (i := 95) rfl rfl ?_
  refine r_lcmpge (i := 96) (j := 97) (tgt := 178) rfl rfl (by decide) (fun hc => ?_) (fun hc => ?_)
  · have hF := ok_it hc hF
    refine r_iconst (v := 0) (i := 112) rfl ki_0 ?_
    have hQ := hq _ (ok_some hF)
    exact r_ireturn (i := 113) rfl rfl rfl hQ
  have hF := ok_if hc hF
  refine r_lload (i := 98) (k0 := 1) rfl rfl ?_
  refine r_lconst (v := 0) (i := 99) rfl rfl ?_
  refine r_lcmpge (i := 100) (j := 101) (tgt := 178) rfl rfl (by decide) (fun hc => ?_) (fun hc => ?_)
  · have hF := ok_it hc hF
    refine r_iconst (v := 0) (i := 112) rfl ki_0 ?_
    have hQ := hq _ (ok_some hF)
    exact r_ireturn (i := 113) rfl rfl rfl hQ
  have hF := ok_if hc hF
  refine r_lload (i := 102) (k0 := 2) rfl rfl ?_
  refine r_lconst (v := 0) (i := 103) rfl rfl ?_
  refine r_lcmpge (i := 104) (j := 105) (tgt := 178) rfl rfl (by decide) (fun hc => ?_) (fun hc => ?_)
  · have hF := ok_it hc hF
    refine r_iconst (v := 0) (i := 112) rfl ki_0 ?_
    have hQ := hq _ (ok_some hF)
    exact r_ireturn (i := 113) rfl rfl rfl hQ
  have hF := ok_if hc hF
  refine r_lload (i := 106) (k0 := 3) rfl rfl ?_
  refine r_lconst (v := 0) (i := 107) rfl rfl ?_
  refine r_lcmpge (i := 108) (j := 109) (tgt := 178) rfl rfl (by decide) (fun hc => ?_) (fun hc => ?_)
  · have hF := ok_it hc hF
    refine r_iconst (v := 0) (i := 112) rfl ki_0 ?_
    have hQ := hq _ (ok_some hF)
    exact r_ireturn (i := 113) rfl rfl rfl hQ
  have hF := ok_if hc hF
  refine r_iconst (v := 1) (i := 110) rfl ki_1 ?_
  refine r_goto (i := 111) (tgt := 179) rfl (by decide) ?_
  have hQ := hq _ (ok_some hF)
  exact r_ireturn (i := 113) rfl rfl rfl hQ
set_option maxHeartbeats 4000000 in
set_option maxRecDepth 100000 in
theorem t_Pl_isAside_b0 {x1 : Int32} {x2 : Int32} {x3 : Int32} {l4 : Int64} {l6 : Int64} {n : Nat} {I : xm_I} {L : xm_L} {K : Int32 → Prop} {Q : Option Value → xm_H → Prop} (hn : 86 ≤ n) (hq : ∀ p : Int32, K p → Q (some (.int p)) (I, L, RC n, n)) (hF : ok (f_Pl_isAside_b0 x1 x2 x3 l4 l6 I) K) : xm_J 0 mt_Pl_isAside 0 [(0, .ref 39), (1, .int x1), (2, .int x2), (3, .int x3), (4, .long l4), (6, .long l6)] [] (I, L, RC n, n) 0 0 Q := by
  unfold f_Pl_isAside_b0 at hF
  refine r_iload_n (i := 0) (k0 := 1) rfl rfl rfl ?_
  refine r_iflt (i := 1) (tgt := 11) rfl (by decide) (fun hc => ?_) (fun hc => ?_)
  · have hF := ok_it hc hF
    refine r_iconst (v := 1) (i := 5) rfl ki_1 ?_
    have hQ := hq _ (ok_some hF)
    exact r_ireturn (i := 6) rfl rfl rfl hQ
  have hF := ok_if hc hF
  refine r_iload_n (i := 2) (k0 := 1) rfl rfl rfl ?_
  refine r_sipush (v := 160) (i := 3) rfl ks_160 ?_
  refine r_icmplt (i := 4) (tgt := 13) rfl (by decide) (fun hc => ?_) (fun hc => ?_)
  · have hF := ok_it hc hF
    refine r_aload_n (i := 7) (k0 := 0) rfl rfl rfl ?_
    refine q_getr (b := 43) (i := 8) rfl fl_Pl_21 rfl (xm_in rfl hn) rfl rfl ?_
    refine r_iload_n (i := 9) (k0 := 1) rfl rfl rfl ?_
    obtain ⟨hi, hF⟩ := ok_gd hF
    refine q_iaload (i := 10) rfl (xm_in rfl hn) rfl hi ?_
    refine r_iload_n (i := 11) (k0 := 2) rfl rfl rfl ?_
    refine r_isub (i := 12) rfl ?_
    refine r_istore (i := 13) (Ls' := [(8, _), (0, _), (1, _), (2, _), (3, _), (4, _), (6, _)]) rfl (Nat.le_of_ble_eq_true rfl) rfl ?_
    refine r_aload_n (i := 14) (k0 := 1) rfl rfl rfl ?_
    refine q_getr (b := 44) (i := 15) rfl fl_Pl_24 rfl (xm_in rfl hn) rfl rfl ?_
    refine r_iload_n (i := 16) (k0 := 2) rfl rfl rfl ?_
    obtain ⟨hi, hF⟩ := ok_gd hF
    refine q_iaload (i := 17) rfl (xm_in rfl hn) rfl hi ?_
    refine r_iload_n (i := 18) (k0 := 4) rfl rfl rfl ?_
    refine r_isub (i := 19) rfl ?_
    refine r_istore (i := 20) (Ls' := [(9, _), (8, _), (0, _), (1, _), (2, _), (3, _), (4, _), (6, _)]) rfl (Nat.le_of_ble_eq_true rfl) rfl ?_
    refine r_iload (i := 21) (k0 := 1) rfl rfl ?_
    refine r_aload_n (i := 22) (k0 := 2) rfl rfl rfl ?_
    refine q_getr (b := 41) (i := 23) rfl fl_Pl_15 rfl (xm_in rfl hn) rfl rfl ?_
    refine r_iload_n (i := 24) (k0 := 3) rfl rfl rfl ?_
    refine r_bipush (v := 8) (i := 25) rfl kb_8 ?_
    refine r_idiv (i := 26) rfl (by decide) ?_
    obtain ⟨hi, hF⟩ := ok_gd hF
    refine q_iaload (i := 27) rfl (xm_in rfl hn) rfl hi ?_
    refine r_iadd (i := 28) rfl ?_
    refine r_iconst (v := 1) (i := 29) rfl ki_1 ?_
    refine r_isub (i := 30) rfl ?_
    refine r_istore (i := 31) (Ls' := [(10, _), (9, _), (8, _), (0, _), (1, _), (2, _), (3, _), (4, _), (6, _)]) rfl (Nat.le_of_ble_eq_true rfl) rfl ?_
    refine r_iload (i := 32) (k0 := 1) rfl rfl ?_
    refine r_bipush (v := 9) (i := 33) rfl kb_9 ?_
    refine r_iadd (i := 34) rfl ?_
    refine r_iconst (v := 1) (i := 35) rfl ki_1 ?_
    refine r_isub (i := 36) rfl ?_
    refine r_istore (i := 37) (Ls' := [(11, _), (10, _), (9, _), (8, _), (0, _), (1, _), (2, _), (3, _), (4, _), (6, _)]) rfl (Nat.le_of_ble_eq_true rfl) rfl ?_
    refine r_lload (i := 38) (k0 := 8) rfl rfl ?_
    refine r_iload (i := 39) (k0 := 2) rfl rfl ?_
    refine r_i2l (i := 40) rfl ?_
    refine r_lmul (i := 41) rfl ?_
    refine r_lload (i := 42) (k0 := 9) rfl rfl ?_
    refine r_iload (i := 43) (k0 := 3) rfl rfl ?_
    refine r_i2l (i := 44) rfl ?_
    refine r_lmul (i := 45) rfl ?_
    refine r_lsub (i := 46) rfl ?_
    refine r_lstore (i := 47) (Ls' := [(12, _), (11, _), (10, _), (9, _), (8, _), (0, _), (1, _), (2, _), (3, _), (4, _), (6, _)]) rfl (Nat.le_of_ble_eq_true rfl) rfl ?_
    refine r_lload (i := 48) (k0 := 9) rfl rfl ?_
    refine r_iload (i := 49) (k0 := 3) rfl rfl ?_
    refine r_i2l (i := 50) rfl ?_
    refine r_lmul (i := 51) rfl ?_
    refine r_lload (i := 52) (k0 := 10) rfl rfl ?_
    refine r_iload (i := 53) (k0 := 2) rfl rfl ?_
    refine r_i2l (i := 54) rfl ?_
    refine r_lmul (i := 55) rfl ?_
    refine r_lsub (i := 56) rfl ?_
    refine r_lstore (i := 57) (Ls' := [(14, _), (12, _), (11, _), (10, _), (9, _), (8, _), (0, _), (1, _), (2, _), (3, _), (4, _), (6, _)]) rfl (Nat.le_of_ble_eq_true rfl) rfl ?_
    refine r_lload (i := 58) (k0 := 10) rfl rfl ?_
    refine r_iload (i := 59) (k0 := 2) rfl rfl ?_
    refine r_i2l (i := 60) rfl ?_
    refine r_lmul (i := 61) rfl ?_
    refine r_lload (i := 62) (k0 := 11) rfl rfl ?_
    refine r_iload (i := 63) (k0 := 5) rfl rfl ?_
    refine r_i2l (i := 64) rfl ?_
    refine r_lmul (i := 65) rfl ?_
    refine r_lsub (i := 66) rfl ?_
    refine r_lstore (i := 67) (Ls' := [(16, _), (14, _), (12, _), (11, _), (10, _), (9, _), (8, _), (0, _), (1, _), (2, _), (3, _), (4, _), (6, _)]) rfl (Nat.le_of_ble_eq_true rfl) rfl ?_
    refine r_lload (i := 68) (k0 := 11) rfl rfl ?_
    refine r_iload (i := 69) (k0 := 3) rfl rfl ?_
    refine r_i2l (i := 70) rfl ?_
    refine r_lmul (i := 71) rfl ?_
    refine r_lload (i := 72) (k0 := 12) rfl rfl ?_
    refine r_iload (i := 73) (k0 := 4) rfl rfl ?_
    refine r_i2l (i := 74) rfl ?_
    refine r_lmul (i := 75) rfl ?_
    refine r_lsub (i := 76) rfl ?_
    refine r_lstore (i := 77) (Ls' := [(18, _), (16, _), (14, _), (12, _), (11, _), (10, _), (9, _), (8, _), (0, _), (1, _), (2, _), (3, _), (4, _), (6, _)]) rfl (Nat.le_of_ble_eq_true rfl) rfl ?_
    refine r_lload (i := 78) (k0 := 3) rfl rfl ?_
    refine r_lconst (v := 0) (i := 79) rfl rfl ?_
    refine r_lcmple (i := 80) (j := 81) (tgt := 146) rfl rfl (by decide) (fun hc => ?_) (fun hc => ?_)
    · have hF := ok_it hc hF
      refine xm_sub (Ls' := [(12, _), (14, _), (16, _), (18, _)]) [3, 2, 1, 0] rfl ?_
      exact t_Pl_isAside_b146 hn (fun p h => hq p h) hF
    have hF := ok_if hc hF
    refine r_lload (i := 82) (k0 := 2) rfl rfl ?_
    refine r_lconst (v := 0) (i := 83) rfl rfl ?_
    refine r_lcmple (i := 84) (j := 85) (tgt := 146) rfl rfl (by decide) (fun hc => ?_) (fun hc => ?_)
    · have hF := ok_it hc hF
      refine xm_sub (Ls' := [(12, _), (14, _), (16, _), (18, _)]) [3, 2, 1, 0] rfl ?_
      exact t_Pl_isAside_b146 hn (fun p h => hq p h) hF
    have hF := ok_if hc hF
    refine r_lload (i := 86) (k0 := 1) rfl rfl ?_
    refine r_lconst (v := 0) (i := 87) rfl rfl ?_
    refine r_lcmple (i := 88) (j := 89) (tgt := 146) rfl rfl (by decide) (fun hc => ?_) (fun hc => ?_)
    · have hF := ok_it hc hF
      refine xm_sub (Ls' := [(12, _), (14, _), (16, _), (18, _)]) [3, 2, 1, 0] rfl ?_
      exact t_Pl_isAside_b146 hn (fun p h => hq p h) hF
    have hF := ok_if hc hF
    refine r_lload (i := 90) (k0 := 0) rfl rfl ?_
    refine r_lconst (v := 0) (i := 91) rfl rfl ?_
    refine r_lcmpgt (i := 92) (j := 93) (tgt := 174) rfl rfl (by decide) (fun hc => ?_) (fun hc => ?_)
    · have hF := ok_it hc hF
      refine r_iconst (v := 1) (i := 110) rfl ki_1 ?_
      refine r_goto (i := 111) (tgt := 179) rfl (by decide) ?_
      have hQ := hq _ (ok_some hF)
      exact r_ireturn (i := 113) rfl rfl rfl hQ
    have hF := ok_if hc hF
    refine xm_sub (Ls' := [(12, _), (14, _), (16, _), (18, _)]) [3, 2, 1, 0] rfl ?_
    exact t_Pl_isAside_b146 hn (fun p h => hq p h) hF
  have hF := ok_if hc hF
  refine r_iconst (v := 1) (i := 5) rfl ki_1 ?_
  have hQ := hq _ (ok_some hF)
  exact r_ireturn (i := 6) rfl rfl rfl hQ
set_option maxHeartbeats 4000000 in
set_option maxRecDepth 100000 in
theorem t_Pl_isAside {x1 : Int32} {x2 : Int32} {x3 : Int32} {l4 : Int64} {l6 : Int64} {n : Nat} {I : xm_I} {L : xm_L} {K : Int32 → Prop} (hn : 86 ≤ n) (hF : ok (f_Pl_isAside x1 x2 x3 l4 l6 I) K) : xm_C 0 mt_Pl_isAside [.ref 39, .int x1, .int x2, .int x3, .long l4, .long l6] (I, L, RC n, n) 0 0 (pI (fun p : Int32 => p) (fun p : Int32 => (I, L, RC n, n)) K) := by
  unfold f_Pl_isAside at hF
  refine xm_enter (by decide +kernel) dv_Pl_isAside (Nat.le_of_ble_eq_true rfl) ?_
  exact t_Pl_isAside_b0 hn (fun p hp => ⟨p, rfl, rfl, hp⟩) hF

noncomputable def f_Pl_addCostOfStroke_b174 (x1 : Int32) (x2 : Int32) (x3 : Int32) (x4 : Int32) (x5 : Int32) (x6 : Int32) (x7 : Int32) (x8 : Int32) (x9 : Int32) (x10 : Int32) (I : xm_I) : Option ((Int32 × xm_I) ⊕ (xm_I)) :=
  let x10_1 : Int32 := x10 + 1
  some (.inl (x10_1, I))
noncomputable def f_Pl_addCostOfStroke_b135 (x1 : Int32) (x2 : Int32) (x3 : Int32) (x4 : Int32) (x5 : Int32) (x6 : Int32) (x7 : Int32) (x8 : Int32) (x9 : Int32) (x10 : Int32) (y0 : Int32) (I : xm_I) : Option ((Int32 × xm_I) ⊕ (xm_I)) :=
  if y0 = 0 then (
    f_Pl_addCostOfStroke_b174 x1 x2 x3 x4 x5 x6 x7 x8 x9 x10 I)
  else (
  (f_Pl_isAside x10 x1 x2 (Int32.toInt64 (x3 - x1)) (Int32.toInt64 (x4 - x2)) I).bind fun p_1 =>
  if p_1 = 0 then (
    gd (0 ≤ (x10).toInt ∧ (x10).toInt < 160) <|
    gd (0 ≤ (x10).toInt ∧ (x10).toInt < 160) <|
    let I_2 : xm_I := up2 I 45 (Int32.toNatClampNeg x10) ((I 45 (Int32.toNatClampNeg x10)) + x5)
    f_Pl_addCostOfStroke_b174 x1 x2 x3 x4 x5 x6 x7 x8 x9 x10 I_2)
  else (
    f_Pl_addCostOfStroke_b174 x1 x2 x3 x4 x5 x6 x7 x8 x9 x10 I))
noncomputable def f_Pl_addCostOfStroke_b134 (x1 : Int32) (x2 : Int32) (x3 : Int32) (x4 : Int32) (x5 : Int32) (x6 : Int32) (x7 : Int32) (x8 : Int32) (x9 : Int32) (x10 : Int32) (I : xm_I) : Option ((Int32 × xm_I) ⊕ (xm_I)) :=
  f_Pl_addCostOfStroke_b135 x1 x2 x3 x4 x5 x6 x7 x8 x9 x10 0 I
noncomputable def f_Pl_addCostOfStroke_s33 (x1 : Int32) (x2 : Int32) (x3 : Int32) (x4 : Int32) (x5 : Int32) (x6 : Int32) (x7 : Int32) (x8 : Int32) (x9 : Int32) (s : Int32 × xm_I) : Option ((Int32 × xm_I) ⊕ (xm_I)) :=
  if ((s.2 39 13) * 8) ≤ s.1 then (
    some (.inr (s.2)))
  else (
  gd (0 ≤ (s.1).toInt ∧ (s.1).toInt < 160) <|
  gd (0 ≤ (s.1 / 8).toInt ∧ (s.1 / 8).toInt < 20) <|
  let x11_1 : Int32 := ((s.2 43 (Int32.toNatClampNeg s.1)) + (s.2 41 (Int32.toNatClampNeg (s.1 / 8)))) - 1
  gd (0 ≤ (s.1).toInt ∧ (s.1).toInt < 160) <|
  let x12_2 : Int32 := ((s.2 44 (Int32.toNatClampNeg s.1)) + 9) - 1
  gd (0 ≤ (s.1).toInt ∧ (s.1).toInt < 160) <|
  if (s.2 45 (Int32.toNatClampNeg s.1)) = ((-1)) then (
    f_Pl_addCostOfStroke_b134 x1 x2 x3 x4 x5 x6 x7 x8 x9 s.1 s.2)
  else (
  gd (0 ≤ (s.1).toInt ∧ (s.1).toInt < 160) <|
  if x7 < (s.2 43 (Int32.toNatClampNeg s.1)) then (
    f_Pl_addCostOfStroke_b134 x1 x2 x3 x4 x5 x6 x7 x8 x9 s.1 s.2)
  else (
  if x11_1 < x6 then (
    f_Pl_addCostOfStroke_b134 x1 x2 x3 x4 x5 x6 x7 x8 x9 s.1 s.2)
  else (
  gd (0 ≤ (s.1).toInt ∧ (s.1).toInt < 160) <|
  if x9 < (s.2 44 (Int32.toNatClampNeg s.1)) then (
    f_Pl_addCostOfStroke_b134 x1 x2 x3 x4 x5 x6 x7 x8 x9 s.1 s.2)
  else (
  if x12_2 < x8 then (
    f_Pl_addCostOfStroke_b134 x1 x2 x3 x4 x5 x6 x7 x8 x9 s.1 s.2)
  else (
  f_Pl_addCostOfStroke_b135 x1 x2 x3 x4 x5 x6 x7 x8 x9 s.1 1 s.2))))))
noncomputable def f_Pl_addCostOfStroke_b33 (x1 : Int32) (x2 : Int32) (x3 : Int32) (x4 : Int32) (x5 : Int32) (x6 : Int32) (x7 : Int32) (x8 : Int32) (x9 : Int32) (s : Int32 × xm_I) : Option (xm_I) := lp (f_Pl_addCostOfStroke_s33 x1 x2 x3 x4 x5 x6 x7 x8 x9) s
noncomputable def f_Pl_addCostOfStroke_b0 (x1 : Int32) (x2 : Int32) (x3 : Int32) (x4 : Int32) (x5 : Int32) (I : xm_I) : Option (xm_I) :=
  (f_Jm_min_I x1 x3).bind fun p_1 =>
  (f_Jm_max_I x1 x3).bind fun p_2 =>
  (f_Jm_min_I x2 x4).bind fun p_3 =>
  (f_Jm_max_I x2 x4).bind fun p_4 =>
  f_Pl_addCostOfStroke_b33 x1 x2 x3 x4 x5 p_1 p_2 p_3 p_4 (0, I)
noncomputable def f_Pl_addCostOfStroke (x1 : Int32) (x2 : Int32) (x3 : Int32) (x4 : Int32) (x5 : Int32) (I : xm_I) : Option (xm_I) := f_Pl_addCostOfStroke_b0 x1 x2 x3 x4 x5 I
set_option maxHeartbeats 4000000 in
set_option maxRecDepth 100000 in
theorem t_Pl_addCostOfStroke_b174 {x1 : Int32} {x2 : Int32} {x3 : Int32} {x4 : Int32} {x5 : Int32} {x6 : Int32} {x7 : Int32} {x8 : Int32} {x9 : Int32} {x10 : Int32} {n : Nat} {I : xm_I} {L : xm_L} {K : (Int32 × xm_I) ⊕ (xm_I) → Prop} {Q : Option Value → xm_H → Prop} (hn : 86 ≤ n) (hq : ∀ p : xm_I, K (.inr p) → Q none (p, L, RC n, n)) (hg0 : ∀ s : Int32 × xm_I, K (.inl s) → xm_J 1 mt_Pl_addCostOfStroke 33 [(0, .ref 39), (1, .int x1), (2, .int x2), (3, .int x3), (4, .int x4), (5, .int x5), (6, .int x6), (7, .int x7), (8, .int x8), (9, .int x9), (10, .int s.1)] [] (s.2, L, RC n, n) 0 0 Q) (hF : ok (f_Pl_addCostOfStroke_b174 x1 x2 x3 x4 x5 x6 x7 x8 x9 x10 I) K) : xm_J 1 mt_Pl_addCostOfStroke 174 [(0, .ref 39), (1, .int x1), (2, .int x2), (3, .int x3), (4, .int x4), (5, .int x5), (6, .int x6), (7, .int x7), (8, .int x8), (9, .int x9), (10, .int x10)] [] (I, L, RC n, n) 0 0 Q := by
  unfold f_Pl_addCostOfStroke_b174 at hF
  refine q_iinc (i := 99) (k0 := 10) (Ls' := [(10, _), (0, _), (1, _), (2, _), (3, _), (4, _), (5, _), (6, _), (7, _), (8, _), (9, _)]) rfl ki_1 rfl (Nat.le_of_ble_eq_true rfl) rfl ?_
  refine r_goto (i := 100) (tgt := 33) rfl (by decide) ?_
  refine xm_sub (Ls' := [(0, _), (1, _), (2, _), (3, _), (4, _), (5, _), (6, _), (7, _), (8, _), (9, _), (10, _)]) [1, 2, 3, 4, 5, 6, 7, 8, 9, 10, 0] rfl ?_
  have hJ := hg0 _ (ok_some hF)
  exact hJ
set_option maxHeartbeats 4000000 in
set_option maxRecDepth 100000 in
theorem t_Pl_addCostOfStroke_b135 {x1 : Int32} {x2 : Int32} {x3 : Int32} {x4 : Int32} {x5 : Int32} {x6 : Int32} {x7 : Int32} {x8 : Int32} {x9 : Int32} {x10 : Int32} {y0 : Int32} {n : Nat} {I : xm_I} {L : xm_L} {K : (Int32 × xm_I) ⊕ (xm_I) → Prop} {Q : Option Value → xm_H → Prop} (hn : 86 ≤ n) (hq : ∀ p : xm_I, K (.inr p) → Q none (p, L, RC n, n)) (hg0 : ∀ s : Int32 × xm_I, K (.inl s) → xm_J 1 mt_Pl_addCostOfStroke 33 [(0, .ref 39), (1, .int x1), (2, .int x2), (3, .int x3), (4, .int x4), (5, .int x5), (6, .int x6), (7, .int x7), (8, .int x8), (9, .int x9), (10, .int s.1)] [] (s.2, L, RC n, n) 0 0 Q) (hF : ok (f_Pl_addCostOfStroke_b135 x1 x2 x3 x4 x5 x6 x7 x8 x9 x10 y0 I) K) : xm_J 1 mt_Pl_addCostOfStroke 135 [(0, .ref 39), (1, .int x1), (2, .int x2), (3, .int x3), (4, .int x4), (5, .int x5), (6, .int x6), (7, .int x7), (8, .int x8), (9, .int x9), (10, .int x10)] [.int y0] (I, L, RC n, n) 0 0 Q := by
  unfold f_Pl_addCostOfStroke_b135 at hF
  refine r_istore (i := 74) (Ls' := [(13, _), (0, _), (1, _), (2, _), (3, _), (4, _), (5, _), (6, _), (7, _), (8, _), (9, _), (10, _)]) rfl (Nat.le_of_ble_eq_true rfl) rfl ?_
  refine r_iload (i := 75) (k0 := 0) rfl rfl ?_
  refine r_ifeq (i := 76) (tgt := 174) rfl (by decide) (fun hc => ?_) (fun hc => ?_)
  · have hF := ok_it hc hF
    refine xm_sub (Ls' := [(0, _), (1, _), (2, _), (3, _), (4, _), (5, _), (6, _), (7, _), (8, _), (9, _), (10, _)]) [1, 2, 3, 4, 5, 6, 7, 8, 9, 10, 11] rfl ?_
    exact t_Pl_addCostOfStroke_b174 hn (fun p h => hq p h) (fun z h => hg0 z h) hF
  have hF := ok_if hc hF
  refine r_aload_n (i := 77) (k0 := 1) rfl rfl rfl ?_
  refine r_iload (i := 78) (k0 := 11) rfl rfl ?_
  refine r_iload_n (i := 79) (k0 := 2) rfl rfl rfl ?_
  refine r_iload_n (i := 80) (k0 := 3) rfl rfl rfl ?_
  refine r_iload_n (i := 81) (k0 := 4) rfl rfl rfl ?_
  refine r_iload_n (i := 82) (k0 := 2) rfl rfl rfl ?_
  refine r_isub (i := 83) rfl ?_
  refine r_i2l (i := 84) rfl ?_
  refine r_iload (i := 85) (k0 := 5) rfl rfl ?_
  refine r_iload_n (i := 86) (k0 := 3) rfl rfl rfl ?_
  refine r_isub (i := 87) rfl ?_
  refine r_i2l (i := 88) rfl ?_
  refine c_V5I (i := 89) rfl vm_Pl_isAside lk_Pl_137 (t_Pl_isAside hn (ok_bind hF)) (Nat.le_of_ble_eq_true rfl) (xm_in rfl hn) rfl rfl (Nat.le_of_ble_eq_true rfl) (fun p_1 hF => ?_)
  refine r_ifne (i := 90) (tgt := 174) rfl (by decide) (fun hc => ?_) (fun hc => ?_)
  · have hF := ok_if hc hF
    refine xm_sub (Ls' := [(0, _), (1, _), (2, _), (3, _), (4, _), (5, _), (6, _), (7, _), (8, _), (9, _), (10, _)]) [1, 2, 3, 4, 5, 6, 7, 8, 9, 10, 11] rfl ?_
    exact t_Pl_addCostOfStroke_b174 hn (fun p h => hq p h) (fun z h => hg0 z h) hF
  have hF := ok_it hc hF
  refine r_aload_n (i := 91) (k0 := 1) rfl rfl rfl ?_
  refine q_getr (b := 45) (i := 92) rfl fl_Pl_27 rfl (xm_in rfl hn) rfl rfl ?_
  refine r_iload (i := 93) (k0 := 11) rfl rfl ?_
  refine r_dup2 (i := 94) rfl rfl rfl ?_
  obtain ⟨hi, hF⟩ := ok_gd hF
  refine q_iaload (i := 95) rfl (xm_in rfl hn) rfl hi ?_
  refine r_iload (i := 96) (k0 := 6) rfl rfl ?_
  refine r_iadd (i := 97) rfl ?_
  obtain ⟨hi, hF⟩ := ok_gd hF
  refine q_iastore (i := 98) rfl (xm_in rfl hn) rfl hi ?_
  refine xm_sub (Ls' := [(0, _), (1, _), (2, _), (3, _), (4, _), (5, _), (6, _), (7, _), (8, _), (9, _), (10, _)]) [1, 2, 3, 4, 5, 6, 7, 8, 9, 10, 11] rfl ?_
  exact t_Pl_addCostOfStroke_b174 hn (fun p h => hq p h) (fun z h => hg0 z h) hF
set_option maxHeartbeats 4000000 in
set_option maxRecDepth 100000 in
theorem t_Pl_addCostOfStroke_b134 {x1 : Int32} {x2 : Int32} {x3 : Int32} {x4 : Int32} {x5 : Int32} {x6 : Int32} {x7 : Int32} {x8 : Int32} {x9 : Int32} {x10 : Int32} {n : Nat} {I : xm_I} {L : xm_L} {K : (Int32 × xm_I) ⊕ (xm_I) → Prop} {Q : Option Value → xm_H → Prop} (hn : 86 ≤ n) (hq : ∀ p : xm_I, K (.inr p) → Q none (p, L, RC n, n)) (hg0 : ∀ s : Int32 × xm_I, K (.inl s) → xm_J 1 mt_Pl_addCostOfStroke 33 [(0, .ref 39), (1, .int x1), (2, .int x2), (3, .int x3), (4, .int x4), (5, .int x5), (6, .int x6), (7, .int x7), (8, .int x8), (9, .int x9), (10, .int s.1)] [] (s.2, L, RC n, n) 0 0 Q) (hF : ok (f_Pl_addCostOfStroke_b134 x1 x2 x3 x4 x5 x6 x7 x8 x9 x10 I) K) : xm_J 1 mt_Pl_addCostOfStroke 134 [(0, .ref 39), (1, .int x1), (2, .int x2), (3, .int x3), (4, .int x4), (5, .int x5), (6, .int x6), (7, .int x7), (8, .int x8), (9, .int x9), (10, .int x10)] [] (I, L, RC n, n) 0 0 Q := by
  unfold f_Pl_addCostOfStroke_b134 at hF
  refine r_iconst (v := 0) (i := 73) rfl ki_0 ?_
  exact t_Pl_addCostOfStroke_b135 hn (fun p h => hq p h) (fun z h => hg0 z h) hF
set_option maxHeartbeats 4000000 in
set_option maxRecDepth 100000 in
theorem t_Pl_addCostOfStroke_s33 {x1 : Int32} {x2 : Int32} {x3 : Int32} {x4 : Int32} {x5 : Int32} {x6 : Int32} {x7 : Int32} {x8 : Int32} {x9 : Int32} {s : Int32 × xm_I} {n : Nat} {L : xm_L} {K : (Int32 × xm_I) ⊕ (xm_I) → Prop} {Q : Option Value → xm_H → Prop} (hn : 86 ≤ n) (hq : ∀ p : xm_I, K (.inr p) → Q none (p, L, RC n, n)) (hg0 : ∀ s : Int32 × xm_I, K (.inl s) → xm_J 1 mt_Pl_addCostOfStroke 33 [(0, .ref 39), (1, .int x1), (2, .int x2), (3, .int x3), (4, .int x4), (5, .int x5), (6, .int x6), (7, .int x7), (8, .int x8), (9, .int x9), (10, .int s.1)] [] (s.2, L, RC n, n) 0 0 Q) (hF : ok (f_Pl_addCostOfStroke_s33 x1 x2 x3 x4 x5 x6 x7 x8 x9 s) K) : xm_J 1 mt_Pl_addCostOfStroke 33 [(0, .ref 39), (1, .int x1), (2, .int x2), (3, .int x3), (4, .int x4), (5, .int x5), (6, .int x6), (7, .int x7), (8, .int x8), (9, .int x9), (10, .int s.1)] [] (s.2, L, RC n, n) 0 0 Q := by
  unfold f_Pl_addCostOfStroke_s33 at hF
  refine r_iload (i := 18) (k0 := 10) rfl rfl ?_
  refine r_aload_n (i := 19) (k0 := 0) rfl rfl rfl ?_
  refine q_geti (i := 20) rfl fl_Pl_61 (xm_in rfl hn) rfl ?_
  refine r_bipush (v := 8) (i := 21) rfl kb_8 ?_
  refine r_imul (i := 22) rfl ?_
  refine r_icmpge (i := 23) (tgt := 180) rfl (by decide) (fun hc => ?_) (fun hc => ?_)
  · have hF := ok_it hc hF
    have hQ := hq _ (ok_some hF)
    exact r_return (i := 101) rfl rfl hQ
  have hF := ok_if hc hF
  refine r_aload_n (i := 24) (k0 := 0) rfl rfl rfl ?_
  refine q_getr (b := 43) (i := 25) rfl fl_Pl_21 rfl (xm_in rfl hn) rfl rfl ?_
  refine r_iload (i := 26) (k0 := 10) rfl rfl ?_
  obtain ⟨hi, hF⟩ := ok_gd hF
  refine q_iaload (i := 27) rfl (xm_in rfl hn) rfl hi ?_
  refine r_aload_n (i := 28) (k0 := 0) rfl rfl rfl ?_
  refine q_getr (b := 41) (i := 29) rfl fl_Pl_15 rfl (xm_in rfl hn) rfl rfl ?_
  refine r_iload (i := 30) (k0 := 10) rfl rfl ?_
  refine r_bipush (v := 8) (i := 31) rfl kb_8 ?_
  refine r_idiv (i := 32) rfl (by decide) ?_
  obtain ⟨hi, hF⟩ := ok_gd hF
  refine q_iaload (i := 33) rfl (xm_in rfl hn) rfl hi ?_
  refine r_iadd (i := 34) rfl ?_
  refine r_iconst (v := 1) (i := 35) rfl ki_1 ?_
  refine r_isub (i := 36) rfl ?_
  refine r_istore (i := 37) (Ls' := [(11, _), (0, _), (1, _), (2, _), (3, _), (4, _), (5, _), (6, _), (7, _), (8, _), (9, _), (10, _)]) rfl (Nat.le_of_ble_eq_true rfl) rfl ?_
  refine r_aload_n (i := 38) (k0 := 1) rfl rfl rfl ?_
  refine q_getr (b := 44) (i := 39) rfl fl_Pl_24 rfl (xm_in rfl hn) rfl rfl ?_
  refine r_iload (i := 40) (k0 := 11) rfl rfl ?_
  obtain ⟨hi, hF⟩ := ok_gd hF
  refine q_iaload (i := 41) rfl (xm_in rfl hn) rfl hi ?_
  refine r_bipush (v := 9) (i := 42) rfl kb_9 ?_
  refine r_iadd (i := 43) rfl ?_
  refine r_iconst (v := 1) (i := 44) rfl ki_1 ?_
  refine r_isub (i := 45) rfl ?_
  refine r_istore (i := 46) (Ls' := [(12, _), (11, _), (0, _), (1, _), (2, _), (3, _), (4, _), (5, _), (6, _), (7, _), (8, _), (9, _), (10, _)]) rfl (Nat.le_of_ble_eq_true rfl) rfl ?_
  refine r_aload_n (i := 47) (k0 := 2) rfl rfl rfl ?_
  refine q_getr (b := 45) (i := 48) rfl fl_Pl_27 rfl (xm_in rfl hn) rfl rfl ?_
  refine r_iload (i := 49) (k0 := 12) rfl rfl ?_
  obtain ⟨hi, hF⟩ := ok_gd hF
  refine q_iaload (i := 50) rfl (xm_in rfl hn) rfl hi ?_
  refine r_iconst (v := (-1)) (i := 51) rfl ki_m1 ?_
  refine r_icmpeq (i := 52) (tgt := 134) rfl (by decide) (fun hc => ?_) (fun hc => ?_)
  · have hF := ok_it hc hF
    refine xm_sub (Ls' := [(0, _), (1, _), (2, _), (3, _), (4, _), (5, _), (6, _), (7, _), (8, _), (9, _), (10, _)]) [2, 3, 4, 5, 6, 7, 8, 9, 10, 11, 12] rfl ?_
    exact t_Pl_addCostOfStroke_b134 hn (fun p h => hq p h) (fun z h => hg0 z h) hF
  have hF := ok_if hc hF
  refine r_iload (i := 53) (k0 := 9) rfl rfl ?_
  refine r_aload_n (i := 54) (k0 := 2) rfl rfl rfl ?_
  refine q_getr (b := 43) (i := 55) rfl fl_Pl_21 rfl (xm_in rfl hn) rfl rfl ?_
  refine r_iload (i := 56) (k0 := 12) rfl rfl ?_
  obtain ⟨hi, hF⟩ := ok_gd hF
  refine q_iaload (i := 57) rfl (xm_in rfl hn) rfl hi ?_
  refine r_icmplt (i := 58) (tgt := 134) rfl (by decide) (fun hc => ?_) (fun hc => ?_)
  · have hF := ok_it hc hF
    refine xm_sub (Ls' := [(0, _), (1, _), (2, _), (3, _), (4, _), (5, _), (6, _), (7, _), (8, _), (9, _), (10, _)]) [2, 3, 4, 5, 6, 7, 8, 9, 10, 11, 12] rfl ?_
    exact t_Pl_addCostOfStroke_b134 hn (fun p h => hq p h) (fun z h => hg0 z h) hF
  have hF := ok_if hc hF
  refine r_iload (i := 59) (k0 := 8) rfl rfl ?_
  refine r_iload (i := 60) (k0 := 1) rfl rfl ?_
  refine r_icmpgt (i := 61) (tgt := 134) rfl (by decide) (fun hc => ?_) (fun hc => ?_)
  · have hF := ok_it hc hF
    refine xm_sub (Ls' := [(0, _), (1, _), (2, _), (3, _), (4, _), (5, _), (6, _), (7, _), (8, _), (9, _), (10, _)]) [2, 3, 4, 5, 6, 7, 8, 9, 10, 11, 12] rfl ?_
    exact t_Pl_addCostOfStroke_b134 hn (fun p h => hq p h) (fun z h => hg0 z h) hF
  have hF := ok_if hc hF
  refine r_iload (i := 62) (k0 := 11) rfl rfl ?_
  refine r_aload_n (i := 63) (k0 := 2) rfl rfl rfl ?_
  refine q_getr (b := 44) (i := 64) rfl fl_Pl_24 rfl (xm_in rfl hn) rfl rfl ?_
  refine r_iload (i := 65) (k0 := 12) rfl rfl ?_
  obtain ⟨hi, hF⟩ := ok_gd hF
  refine q_iaload (i := 66) rfl (xm_in rfl hn) rfl hi ?_
  refine r_icmplt (i := 67) (tgt := 134) rfl (by decide) (fun hc => ?_) (fun hc => ?_)
  · have hF := ok_it hc hF
    refine xm_sub (Ls' := [(0, _), (1, _), (2, _), (3, _), (4, _), (5, _), (6, _), (7, _), (8, _), (9, _), (10, _)]) [2, 3, 4, 5, 6, 7, 8, 9, 10, 11, 12] rfl ?_
    exact t_Pl_addCostOfStroke_b134 hn (fun p h => hq p h) (fun z h => hg0 z h) hF
  have hF := ok_if hc hF
  refine r_iload (i := 68) (k0 := 10) rfl rfl ?_
  refine r_iload (i := 69) (k0 := 0) rfl rfl ?_
  refine r_icmpgt (i := 70) (tgt := 134) rfl (by decide) (fun hc => ?_) (fun hc => ?_)
  · have hF := ok_it hc hF
    refine xm_sub (Ls' := [(0, _), (1, _), (2, _), (3, _), (4, _), (5, _), (6, _), (7, _), (8, _), (9, _), (10, _)]) [2, 3, 4, 5, 6, 7, 8, 9, 10, 11, 12] rfl ?_
    exact t_Pl_addCostOfStroke_b134 hn (fun p h => hq p h) (fun z h => hg0 z h) hF
  have hF := ok_if hc hF
  refine r_iconst (v := 1) (i := 71) rfl ki_1 ?_
  refine r_goto (i := 72) (tgt := 135) rfl (by decide) ?_
  refine xm_sub (Ls' := [(0, _), (1, _), (2, _), (3, _), (4, _), (5, _), (6, _), (7, _), (8, _), (9, _), (10, _)]) [2, 3, 4, 5, 6, 7, 8, 9, 10, 11, 12] rfl ?_
  exact t_Pl_addCostOfStroke_b135 hn (fun p h => hq p h) (fun z h => hg0 z h) hF
set_option maxHeartbeats 4000000 in
set_option maxRecDepth 100000 in
theorem t_Pl_addCostOfStroke_b33 {x1 : Int32} {x2 : Int32} {x3 : Int32} {x4 : Int32} {x5 : Int32} {x6 : Int32} {x7 : Int32} {x8 : Int32} {x9 : Int32} {s : Int32 × xm_I} {n : Nat} {L : xm_L} {K : xm_I → Prop} {Q : Option Value → xm_H → Prop} (hn : 86 ≤ n) (hq : ∀ p : xm_I, K p → Q none (p, L, RC n, n)) (hF : ok (f_Pl_addCostOfStroke_b33 x1 x2 x3 x4 x5 x6 x7 x8 x9 s) K) : xm_J 1 mt_Pl_addCostOfStroke 33 [(0, .ref 39), (1, .int x1), (2, .int x2), (3, .int x3), (4, .int x4), (5, .int x5), (6, .int x6), (7, .int x7), (8, .int x8), (9, .int x9), (10, .int s.1)] [] (s.2, L, RC n, n) 0 0 Q :=
  lp_J (G := fun z => xm_J 1 mt_Pl_addCostOfStroke 33 [(0, .ref 39), (1, .int x1), (2, .int x2), (3, .int x3), (4, .int x4), (5, .int x5), (6, .int x6), (7, .int x7), (8, .int x8), (9, .int x9), (10, .int z.1)] [] (z.2, L, RC n, n) 0 0 Q) (fun z hF => t_Pl_addCostOfStroke_s33 hn (fun p h => hq p h) (fun z h => h) hF) s hF
set_option maxHeartbeats 4000000 in
set_option maxRecDepth 100000 in
theorem t_Pl_addCostOfStroke_b0 {x1 : Int32} {x2 : Int32} {x3 : Int32} {x4 : Int32} {x5 : Int32} {n : Nat} {I : xm_I} {L : xm_L} {K : xm_I → Prop} {Q : Option Value → xm_H → Prop} (hn : 86 ≤ n) (hq : ∀ p : xm_I, K p → Q none (p, L, RC n, n)) (hF : ok (f_Pl_addCostOfStroke_b0 x1 x2 x3 x4 x5 I) K) : xm_J 1 mt_Pl_addCostOfStroke 0 [(0, .ref 39), (1, .int x1), (2, .int x2), (3, .int x3), (4, .int x4), (5, .int x5)] [] (I, L, RC n, n) 0 0 Q := by
  unfold f_Pl_addCostOfStroke_b0 at hF
  refine r_iload_n (i := 0) (k0 := 1) rfl rfl rfl ?_
  refine r_iload_n (i := 1) (k0 := 3) rfl rfl rfl ?_
  refine c_S2I (i := 2) rfl sm_Jm_min_I lk_Pl_129 (t_Jm_min_I hn (ok_bind hF)) (Nat.le_of_ble_eq_true rfl) rfl (Nat.le_of_ble_eq_true rfl) (fun p_1 hF => ?_)
  refine r_istore (i := 3) (Ls' := [(6, _), (0, _), (1, _), (2, _), (3, _), (4, _), (5, _)]) rfl (Nat.le_of_ble_eq_true rfl) rfl ?_
  refine r_iload_n (i := 4) (k0 := 2) rfl rfl rfl ?_
  refine r_iload_n (i := 5) (k0 := 4) rfl rfl rfl ?_
  refine c_S2I (i := 6) rfl sm_Jm_max_I lk_Pl_134 (t_Jm_max_I hn (ok_bind hF)) (Nat.le_of_ble_eq_true rfl) rfl (Nat.le_of_ble_eq_true rfl) (fun p_2 hF => ?_)
  refine r_istore (i := 7) (Ls' := [(7, _), (6, _), (0, _), (1, _), (2, _), (3, _), (4, _), (5, _)]) rfl (Nat.le_of_ble_eq_true rfl) rfl ?_
  refine r_iload_n (i := 8) (k0 := 4) rfl rfl rfl ?_
  refine r_iload (i := 9) (k0 := 6) rfl rfl ?_
  refine c_S2I (i := 10) rfl sm_Jm_min_I lk_Pl_129 (t_Jm_min_I hn (ok_bind hF)) (Nat.le_of_ble_eq_true rfl) rfl (Nat.le_of_ble_eq_true rfl) (fun p_3 hF => ?_)
  refine r_istore (i := 11) (Ls' := [(8, _), (7, _), (6, _), (0, _), (1, _), (2, _), (3, _), (4, _), (5, _)]) rfl (Nat.le_of_ble_eq_true rfl) rfl ?_
  refine r_iload_n (i := 12) (k0 := 5) rfl rfl rfl ?_
  refine r_iload (i := 13) (k0 := 7) rfl rfl ?_
  refine c_S2I (i := 14) rfl sm_Jm_max_I lk_Pl_134 (t_Jm_max_I hn (ok_bind hF)) (Nat.le_of_ble_eq_true rfl) rfl (Nat.le_of_ble_eq_true rfl) (fun p_4 hF => ?_)
  refine r_istore (i := 15) (Ls' := [(9, _), (8, _), (7, _), (6, _), (0, _), (1, _), (2, _), (3, _), (4, _), (5, _)]) rfl (Nat.le_of_ble_eq_true rfl) rfl ?_
  refine r_iconst (v := 0) (i := 16) rfl ki_0 ?_
  refine r_istore (i := 17) (Ls' := [(10, _), (9, _), (8, _), (7, _), (6, _), (0, _), (1, _), (2, _), (3, _), (4, _), (5, _)]) rfl (Nat.le_of_ble_eq_true rfl) rfl ?_
  refine xm_sub (Ls' := [(0, _), (1, _), (2, _), (3, _), (4, _), (5, _), (6, _), (7, _), (8, _), (9, _), (10, _)]) [5, 6, 7, 8, 9, 10, 4, 3, 2, 1, 0] rfl ?_
  exact t_Pl_addCostOfStroke_b33 hn (fun p h => hq p h) hF
set_option maxHeartbeats 4000000 in
set_option maxRecDepth 100000 in
theorem t_Pl_addCostOfStroke {x1 : Int32} {x2 : Int32} {x3 : Int32} {x4 : Int32} {x5 : Int32} {n : Nat} {I : xm_I} {L : xm_L} {K : xm_I → Prop} (hn : 86 ≤ n) (hF : ok (f_Pl_addCostOfStroke x1 x2 x3 x4 x5 I) K) : xm_C 1 mt_Pl_addCostOfStroke [.ref 39, .int x1, .int x2, .int x3, .int x4, .int x5] (I, L, RC n, n) 0 0 (pV (fun p : xm_I => (p, L, RC n, n)) K) := by
  unfold f_Pl_addCostOfStroke at hF
  refine xm_enter (by decide +kernel) dv_Pl_addCostOfStroke (Nat.le_of_ble_eq_true rfl) ?_
  exact t_Pl_addCostOfStroke_b0 hn (fun p hp => ⟨p, rfl, rfl, hp⟩) hF

noncomputable def f_Pl_addCostsOfMarks_b97 (x1 : Int32) (I : xm_I) : Option ((Int32 × xm_I) ⊕ (xm_I)) :=
  let x1_1 : Int32 := x1 + 1
  some (.inl (x1_1, I))
noncomputable def f_Pl_addCostsOfMarks_s2 (s : Int32 × xm_I) : Option ((Int32 × xm_I) ⊕ (xm_I)) :=
  if (s.2 17 4) ≤ s.1 then (
    some (.inr (s.2)))
  else (
  (f_Mk_valueAt s.1 0 s.2).bind fun p_1 =>
  (f_Mk_valueAt s.1 1 s.2).bind fun p_2 =>
  (f_Mk_valueAt s.1 2 s.2).bind fun p_3 =>
  if p_1 = 68 then (
    (f_Pl_addCostOfStroke p_2 p_3 p_2 p_3 10 s.2).bind fun p_7 =>
    f_Pl_addCostsOfMarks_b97 s.1 p_7)
  else (
    if p_1 = 83 then (
      (f_Mk_valueAt s.1 3 s.2).bind fun p_4 =>
      (f_Mk_valueAt s.1 4 s.2).bind fun p_5 =>
      (f_Pl_addCostOfStroke p_2 p_3 p_4 p_5 4 s.2).bind fun p_6 =>
      f_Pl_addCostsOfMarks_b97 s.1 p_6)
    else (
      f_Pl_addCostsOfMarks_b97 s.1 s.2)))
noncomputable def f_Pl_addCostsOfMarks_b2 (s : Int32 × xm_I) : Option (xm_I) := lp (f_Pl_addCostsOfMarks_s2) s
noncomputable def f_Pl_addCostsOfMarks_b0 (I : xm_I) : Option (xm_I) :=
  f_Pl_addCostsOfMarks_b2 (0, I)
noncomputable def f_Pl_addCostsOfMarks (I : xm_I) : Option (xm_I) := f_Pl_addCostsOfMarks_b0 I
set_option maxHeartbeats 4000000 in
set_option maxRecDepth 100000 in
theorem t_Pl_addCostsOfMarks_b97 {x1 : Int32} {n : Nat} {I : xm_I} {L : xm_L} {K : (Int32 × xm_I) ⊕ (xm_I) → Prop} {Q : Option Value → xm_H → Prop} (hn : 86 ≤ n) (hq : ∀ p : xm_I, K (.inr p) → Q none (p, L, RC n, n)) (hg0 : ∀ s : Int32 × xm_I, K (.inl s) → xm_J 2 mt_Pl_addCostsOfMarks 2 [(0, .ref 39), (1, .int s.1)] [] (s.2, L, RC n, n) 0 0 Q) (hF : ok (f_Pl_addCostsOfMarks_b97 x1 I) K) : xm_J 2 mt_Pl_addCostsOfMarks 97 [(0, .ref 39), (1, .int x1)] [] (I, L, RC n, n) 0 0 Q := by
  unfold f_Pl_addCostsOfMarks_b97 at hF
  refine q_iinc (i := 54) (k0 := 1) (Ls' := [(1, _), (0, _)]) rfl ki_1 rfl (Nat.le_of_ble_eq_true rfl) rfl ?_
  refine r_goto (i := 55) (tgt := 2) rfl (by decide) ?_
  refine xm_sub (Ls' := [(0, _), (1, _)]) [1, 0] rfl ?_
  have hJ := hg0 _ (ok_some hF)
  exact hJ
set_option maxHeartbeats 4000000 in
set_option maxRecDepth 100000 in
theorem t_Pl_addCostsOfMarks_s2 {s : Int32 × xm_I} {n : Nat} {L : xm_L} {K : (Int32 × xm_I) ⊕ (xm_I) → Prop} {Q : Option Value → xm_H → Prop} (hn : 86 ≤ n) (hq : ∀ p : xm_I, K (.inr p) → Q none (p, L, RC n, n)) (hg0 : ∀ s : Int32 × xm_I, K (.inl s) → xm_J 2 mt_Pl_addCostsOfMarks 2 [(0, .ref 39), (1, .int s.1)] [] (s.2, L, RC n, n) 0 0 Q) (hF : ok (f_Pl_addCostsOfMarks_s2 s) K) : xm_J 2 mt_Pl_addCostsOfMarks 2 [(0, .ref 39), (1, .int s.1)] [] (s.2, L, RC n, n) 0 0 Q := by
  unfold f_Pl_addCostsOfMarks_s2 at hF
  refine r_iload_n (i := 2) (k0 := 1) rfl rfl rfl ?_
  refine r_aload_n (i := 3) (k0 := 0) rfl rfl rfl ?_
  refine q_getr (b := 17) (i := 4) rfl fl_Pl_47 rfl (xm_in rfl hn) rfl rfl ?_
  refine q_geti (i := 5) rfl fl_Pl_119 (xm_in rfl hn) rfl ?_
  refine r_icmpge (i := 6) (tgt := 103) rfl (by decide) (fun hc => ?_) (fun hc => ?_)
  · have hF := ok_it hc hF
    have hQ := hq _ (ok_some hF)
    exact r_return (i := 56) rfl rfl hQ
  have hF := ok_if hc hF
  refine r_aload_n (i := 7) (k0 := 0) rfl rfl rfl ?_
  refine q_getr (b := 17) (i := 8) rfl fl_Pl_47 rfl (xm_in rfl hn) rfl rfl ?_
  refine r_iload_n (i := 9) (k0 := 1) rfl rfl rfl ?_
  refine r_iconst (v := 0) (i := 10) rfl ki_0 ?_
  refine c_V2I (i := 11) rfl vm_Mk_valueAt lk_Pl_122 (t_Mk_valueAt hn (ok_bind hF)) (Nat.le_of_ble_eq_true rfl) (xm_in rfl hn) rfl rfl (Nat.le_of_ble_eq_true rfl) (fun p_1 hF => ?_)
  refine r_istore_n (i := 12) (Ls' := [(2, _), (0, _), (1, _)]) rfl rfl (Nat.le_of_ble_eq_true rfl) rfl ?_
  refine r_aload_n (i := 13) (k0 := 1) rfl rfl rfl ?_
  refine q_getr (b := 17) (i := 14) rfl fl_Pl_47 rfl (xm_in rfl hn) rfl rfl ?_
  refine r_iload_n (i := 15) (k0 := 2) rfl rfl rfl ?_
  refine r_iconst (v := 1) (i := 16) rfl ki_1 ?_
  refine c_V2I (i := 17) rfl vm_Mk_valueAt lk_Pl_122 (t_Mk_valueAt hn (ok_bind hF)) (Nat.le_of_ble_eq_true rfl) (xm_in rfl hn) rfl rfl (Nat.le_of_ble_eq_true rfl) (fun p_2 hF => ?_)
  refine r_istore_n (i := 18) (Ls' := [(3, _), (2, _), (0, _), (1, _)]) rfl rfl (Nat.le_of_ble_eq_true rfl) rfl ?_
  refine r_aload_n (i := 19) (k0 := 2) rfl rfl rfl ?_
  refine q_getr (b := 17) (i := 20) rfl fl_Pl_47 rfl (xm_in rfl hn) rfl rfl ?_
  refine r_iload_n (i := 21) (k0 := 3) rfl rfl rfl ?_
  refine r_iconst (v := 2) (i := 22) rfl ki_2 ?_
  refine c_V2I (i := 23) rfl vm_Mk_valueAt lk_Pl_122 (t_Mk_valueAt hn (ok_bind hF)) (Nat.le_of_ble_eq_true rfl) (xm_in rfl hn) rfl rfl (Nat.le_of_ble_eq_true rfl) (fun p_3 hF => ?_)
  refine r_istore (i := 24) (Ls' := [(4, _), (3, _), (2, _), (0, _), (1, _)]) rfl (Nat.le_of_ble_eq_true rfl) rfl ?_
  refine r_iload_n (i := 25) (k0 := 2) rfl rfl rfl ?_
  refine r_bipush (v := 68) (i := 26) rfl kb_68 ?_
  refine r_icmpne (i := 27) (tgt := 65) rfl (by decide) (fun hc => ?_) (fun hc => ?_)
  · have hF := ok_if hc hF
    refine r_iload_n (i := 36) (k0 := 2) rfl rfl rfl ?_
    refine r_bipush (v := 83) (i := 37) rfl kb_83 ?_
    refine r_icmpne (i := 38) (tgt := 97) rfl (by decide) (fun hc => ?_) (fun hc => ?_)
    · have hF := ok_if hc hF
      refine xm_sub (Ls' := [(0, _), (1, _)]) [3, 4] rfl ?_
      exact t_Pl_addCostsOfMarks_b97 hn (fun p h => hq p h) (fun z h => hg0 z h) hF
    have hF := ok_it hc hF
    refine r_aload_n (i := 39) (k0 := 3) rfl rfl rfl ?_
    refine r_iload_n (i := 40) (k0 := 1) rfl rfl rfl ?_
    refine r_iload (i := 41) (k0 := 0) rfl rfl ?_
    refine r_aload_n (i := 42) (k0 := 3) rfl rfl rfl ?_
    refine q_getr (b := 17) (i := 43) rfl fl_Pl_47 rfl (xm_in rfl hn) rfl rfl ?_
    refine r_iload_n (i := 44) (k0 := 4) rfl rfl rfl ?_
    refine r_iconst (v := 3) (i := 45) rfl ki_3 ?_
    refine c_V2I (i := 46) rfl vm_Mk_valueAt lk_Pl_122 (t_Mk_valueAt hn (ok_bind hF)) (Nat.le_of_ble_eq_true rfl) (xm_in rfl hn) rfl rfl (Nat.le_of_ble_eq_true rfl) (fun p_4 hF => ?_)
    refine r_aload_n (i := 47) (k0 := 3) rfl rfl rfl ?_
    refine q_getr (b := 17) (i := 48) rfl fl_Pl_47 rfl (xm_in rfl hn) rfl rfl ?_
    refine r_iload_n (i := 49) (k0 := 4) rfl rfl rfl ?_
    refine r_iconst (v := 4) (i := 50) rfl ki_4 ?_
    refine c_V2I (i := 51) rfl vm_Mk_valueAt lk_Pl_122 (t_Mk_valueAt hn (ok_bind hF)) (Nat.le_of_ble_eq_true rfl) (xm_in rfl hn) rfl rfl (Nat.le_of_ble_eq_true rfl) (fun p_5 hF => ?_)
    refine r_iconst (v := 4) (i := 52) rfl ki_4 ?_
    refine c_V5V (i := 53) rfl vm_Pl_addCostOfStroke lk_Pl_125 (t_Pl_addCostOfStroke hn (ok_bind hF)) (Nat.le_of_ble_eq_true rfl) (xm_in rfl hn) rfl rfl (Nat.le_of_ble_eq_true rfl) (fun p_6 hF => ?_)
    refine xm_sub (Ls' := [(0, _), (1, _)]) [3, 4] rfl ?_
    exact t_Pl_addCostsOfMarks_b97 hn (fun p h => hq p h) (fun z h => hg0 z h) hF
  have hF := ok_it hc hF
  refine r_aload_n (i := 28) (k0 := 3) rfl rfl rfl ?_
  refine r_iload_n (i := 29) (k0 := 1) rfl rfl rfl ?_
  refine r_iload (i := 30) (k0 := 0) rfl rfl ?_
  refine r_iload_n (i := 31) (k0 := 1) rfl rfl rfl ?_
  refine r_iload (i := 32) (k0 := 0) rfl rfl ?_
  refine r_bipush (v := 10) (i := 33) rfl kb_10 ?_
  refine c_V5V (i := 34) rfl vm_Pl_addCostOfStroke lk_Pl_125 (t_Pl_addCostOfStroke hn (ok_bind hF)) (Nat.le_of_ble_eq_true rfl) (xm_in rfl hn) rfl rfl (Nat.le_of_ble_eq_true rfl) (fun p_7 hF => ?_)
  refine r_goto (i := 35) (tgt := 97) rfl (by decide) ?_
  refine xm_sub (Ls' := [(0, _), (1, _)]) [3, 4] rfl ?_
  exact t_Pl_addCostsOfMarks_b97 hn (fun p h => hq p h) (fun z h => hg0 z h) hF
set_option maxHeartbeats 4000000 in
set_option maxRecDepth 100000 in
theorem t_Pl_addCostsOfMarks_b2 {s : Int32 × xm_I} {n : Nat} {L : xm_L} {K : xm_I → Prop} {Q : Option Value → xm_H → Prop} (hn : 86 ≤ n) (hq : ∀ p : xm_I, K p → Q none (p, L, RC n, n)) (hF : ok (f_Pl_addCostsOfMarks_b2 s) K) : xm_J 2 mt_Pl_addCostsOfMarks 2 [(0, .ref 39), (1, .int s.1)] [] (s.2, L, RC n, n) 0 0 Q :=
  lp_J (G := fun z => xm_J 2 mt_Pl_addCostsOfMarks 2 [(0, .ref 39), (1, .int z.1)] [] (z.2, L, RC n, n) 0 0 Q) (fun z hF => t_Pl_addCostsOfMarks_s2 hn (fun p h => hq p h) (fun z h => h) hF) s hF
set_option maxHeartbeats 4000000 in
set_option maxRecDepth 100000 in
theorem t_Pl_addCostsOfMarks_b0 {n : Nat} {I : xm_I} {L : xm_L} {K : xm_I → Prop} {Q : Option Value → xm_H → Prop} (hn : 86 ≤ n) (hq : ∀ p : xm_I, K p → Q none (p, L, RC n, n)) (hF : ok (f_Pl_addCostsOfMarks_b0 I) K) : xm_J 2 mt_Pl_addCostsOfMarks 0 [(0, .ref 39)] [] (I, L, RC n, n) 0 0 Q := by
  unfold f_Pl_addCostsOfMarks_b0 at hF
  refine r_iconst (v := 0) (i := 0) rfl ki_0 ?_
  refine r_istore_n (i := 1) (Ls' := [(1, _), (0, _)]) rfl rfl (Nat.le_of_ble_eq_true rfl) rfl ?_
  refine xm_sub (Ls' := [(0, _), (1, _)]) [1, 0] rfl ?_
  exact t_Pl_addCostsOfMarks_b2 hn (fun p h => hq p h) hF
set_option maxHeartbeats 4000000 in
set_option maxRecDepth 100000 in
theorem t_Pl_addCostsOfMarks {n : Nat} {I : xm_I} {L : xm_L} {K : xm_I → Prop} (hn : 86 ≤ n) (hF : ok (f_Pl_addCostsOfMarks I) K) : xm_C 2 mt_Pl_addCostsOfMarks [.ref 39] (I, L, RC n, n) 0 0 (pV (fun p : xm_I => (p, L, RC n, n)) K) := by
  unfold f_Pl_addCostsOfMarks at hF
  refine xm_enter (by decide +kernel) dv_Pl_addCostsOfMarks (Nat.le_of_ble_eq_true rfl) ?_
  exact t_Pl_addCostsOfMarks_b0 hn (fun p hp => ⟨p, rfl, rfl, hp⟩) hF

noncomputable def f_Pl_costOf_b0 (x1 : Int32) (x2 : Int32) (I : xm_I) : Option (Int32) :=
  if x1 < 0 then (
    some ((-1)))
  else (
  if (I 39 13) ≤ x1 then (
    some ((-1)))
  else (
  if x2 < 0 then (
    some ((-1)))
  else (
  if 8 ≤ x2 then (
    some ((-1)))
  else (
  gd (0 ≤ ((x1 * 8) + x2).toInt ∧ ((x1 * 8) + x2).toInt < 160) <|
  some (I 45 (Int32.toNatClampNeg ((x1 * 8) + x2)))))))
noncomputable def f_Pl_costOf (x1 : Int32) (x2 : Int32) (I : xm_I) : Option (Int32) := f_Pl_costOf_b0 x1 x2 I
set_option maxHeartbeats 4000000 in
set_option maxRecDepth 100000 in
theorem t_Pl_costOf_b0 {x1 : Int32} {x2 : Int32} {n : Nat} {I : xm_I} {L : xm_L} {K : Int32 → Prop} {Q : Option Value → xm_H → Prop} (hn : 86 ≤ n) (hq : ∀ p : Int32, K p → Q (some (.int p)) (I, L, RC n, n)) (hF : ok (f_Pl_costOf_b0 x1 x2 I) K) : xm_J 0 mt_Pl_costOf 0 [(0, .ref 39), (1, .int x1), (2, .int x2)] [] (I, L, RC n, n) 0 0 Q := by
  unfold f_Pl_costOf_b0 at hF
  refine r_iload_n (i := 0) (k0 := 1) rfl rfl rfl ?_
  refine r_iflt (i := 1) (tgt := 36) rfl (by decide) (fun hc => ?_) (fun hc => ?_)
  · have hF := ok_it hc hF
    refine r_iconst (v := (-1)) (i := 20) rfl ki_m1 ?_
    have hQ := hq _ (ok_some hF)
    exact r_ireturn (i := 21) rfl rfl rfl hQ
  have hF := ok_if hc hF
  refine r_iload_n (i := 2) (k0 := 1) rfl rfl rfl ?_
  refine r_aload_n (i := 3) (k0 := 0) rfl rfl rfl ?_
  refine q_geti (i := 4) rfl fl_Pl_61 (xm_in rfl hn) rfl ?_
  refine r_icmpge (i := 5) (tgt := 36) rfl (by decide) (fun hc => ?_) (fun hc => ?_)
  · have hF := ok_it hc hF
    refine r_iconst (v := (-1)) (i := 20) rfl ki_m1 ?_
    have hQ := hq _ (ok_some hF)
    exact r_ireturn (i := 21) rfl rfl rfl hQ
  have hF := ok_if hc hF
  refine r_iload_n (i := 6) (k0 := 2) rfl rfl rfl ?_
  refine r_iflt (i := 7) (tgt := 36) rfl (by decide) (fun hc => ?_) (fun hc => ?_)
  · have hF := ok_it hc hF
    refine r_iconst (v := (-1)) (i := 20) rfl ki_m1 ?_
    have hQ := hq _ (ok_some hF)
    exact r_ireturn (i := 21) rfl rfl rfl hQ
  have hF := ok_if hc hF
  refine r_iload_n (i := 8) (k0 := 2) rfl rfl rfl ?_
  refine r_bipush (v := 8) (i := 9) rfl kb_8 ?_
  refine r_icmpge (i := 10) (tgt := 36) rfl (by decide) (fun hc => ?_) (fun hc => ?_)
  · have hF := ok_it hc hF
    refine r_iconst (v := (-1)) (i := 20) rfl ki_m1 ?_
    have hQ := hq _ (ok_some hF)
    exact r_ireturn (i := 21) rfl rfl rfl hQ
  have hF := ok_if hc hF
  refine r_aload_n (i := 11) (k0 := 0) rfl rfl rfl ?_
  refine q_getr (b := 45) (i := 12) rfl fl_Pl_27 rfl (xm_in rfl hn) rfl rfl ?_
  refine r_iload_n (i := 13) (k0 := 1) rfl rfl rfl ?_
  refine r_bipush (v := 8) (i := 14) rfl kb_8 ?_
  refine r_imul (i := 15) rfl ?_
  refine r_iload_n (i := 16) (k0 := 2) rfl rfl rfl ?_
  refine r_iadd (i := 17) rfl ?_
  obtain ⟨hi, hF⟩ := ok_gd hF
  refine q_iaload (i := 18) rfl (xm_in rfl hn) rfl hi ?_
  refine r_goto (i := 19) (tgt := 37) rfl (by decide) ?_
  have hQ := hq _ (ok_some hF)
  exact r_ireturn (i := 21) rfl rfl rfl hQ
set_option maxHeartbeats 4000000 in
set_option maxRecDepth 100000 in
theorem t_Pl_costOf {x1 : Int32} {x2 : Int32} {n : Nat} {I : xm_I} {L : xm_L} {K : Int32 → Prop} (hn : 86 ≤ n) (hF : ok (f_Pl_costOf x1 x2 I) K) : xm_C 0 mt_Pl_costOf [.ref 39, .int x1, .int x2] (I, L, RC n, n) 0 0 (pI (fun p : Int32 => p) (fun p : Int32 => (I, L, RC n, n)) K) := by
  unfold f_Pl_costOf at hF
  refine xm_enter (by decide +kernel) dv_Pl_costOf (Nat.le_of_ble_eq_true rfl) ?_
  exact t_Pl_costOf_b0 hn (fun p hp => ⟨p, rfl, rfl, hp⟩) hF

noncomputable def f_Pl_meet_b0 (x1 : Int32) (x2 : Int32) (x3 : Int32) (I : xm_I) : Option (Int32) :=
  let x4_1 : Int32 := (x1 * 8) + x2
  gd (0 ≤ (x3).toInt ∧ (x3).toInt < 20) <|
  let x5_2 : Int32 := (x3 * 8) + (I 42 (Int32.toNatClampNeg x3))
  gd (0 ≤ (x4_1).toInt ∧ (x4_1).toInt < 160) <|
  gd (0 ≤ (x5_2).toInt ∧ (x5_2).toInt < 160) <|
  gd (0 ≤ (x3).toInt ∧ (x3).toInt < 20) <|
  if ((I 43 (Int32.toNatClampNeg x5_2)) + (I 41 (Int32.toNatClampNeg x3))) ≤ (I 43 (Int32.toNatClampNeg x4_1)) then (
    some (0))
  else (
  gd (0 ≤ (x5_2).toInt ∧ (x5_2).toInt < 160) <|
  gd (0 ≤ (x4_1).toInt ∧ (x4_1).toInt < 160) <|
  gd (0 ≤ (x1).toInt ∧ (x1).toInt < 20) <|
  if ((I 43 (Int32.toNatClampNeg x4_1)) + (I 41 (Int32.toNatClampNeg x1))) ≤ (I 43 (Int32.toNatClampNeg x5_2)) then (
    some (0))
  else (
  gd (0 ≤ (x4_1).toInt ∧ (x4_1).toInt < 160) <|
  gd (0 ≤ (x5_2).toInt ∧ (x5_2).toInt < 160) <|
  if ((I 44 (Int32.toNatClampNeg x5_2)) + 9) ≤ (I 44 (Int32.toNatClampNeg x4_1)) then (
    some (0))
  else (
  gd (0 ≤ (x5_2).toInt ∧ (x5_2).toInt < 160) <|
  gd (0 ≤ (x4_1).toInt ∧ (x4_1).toInt < 160) <|
  if ((I 44 (Int32.toNatClampNeg x4_1)) + 9) ≤ (I 44 (Int32.toNatClampNeg x5_2)) then (
    some (0))
  else (
  some (1)))))
noncomputable def f_Pl_meet (x1 : Int32) (x2 : Int32) (x3 : Int32) (I : xm_I) : Option (Int32) := f_Pl_meet_b0 x1 x2 x3 I
set_option maxHeartbeats 4000000 in
set_option maxRecDepth 100000 in
theorem t_Pl_meet_b0 {x1 : Int32} {x2 : Int32} {x3 : Int32} {n : Nat} {I : xm_I} {L : xm_L} {K : Int32 → Prop} {Q : Option Value → xm_H → Prop} (hn : 86 ≤ n) (hq : ∀ p : Int32, K p → Q (some (.int p)) (I, L, RC n, n)) (hF : ok (f_Pl_meet_b0 x1 x2 x3 I) K) : xm_J 0 mt_Pl_meet 0 [(0, .ref 39), (1, .int x1), (2, .int x2), (3, .int x3)] [] (I, L, RC n, n) 0 0 Q := by
  unfold f_Pl_meet_b0 at hF
  refine r_iload_n (i := 0) (k0 := 1) rfl rfl rfl ?_
  refine r_bipush (v := 8) (i := 1) rfl kb_8 ?_
  refine r_imul (i := 2) rfl ?_
  refine r_iload_n (i := 3) (k0 := 2) rfl rfl rfl ?_
  refine r_iadd (i := 4) rfl ?_
  refine r_istore (i := 5) (Ls' := [(4, _), (0, _), (1, _), (2, _), (3, _)]) rfl (Nat.le_of_ble_eq_true rfl) rfl ?_
  refine r_iload_n (i := 6) (k0 := 4) rfl rfl rfl ?_
  refine r_bipush (v := 8) (i := 7) rfl kb_8 ?_
  refine r_imul (i := 8) rfl ?_
  refine r_aload_n (i := 9) (k0 := 1) rfl rfl rfl ?_
  refine q_getr (b := 42) (i := 10) rfl fl_Pl_18 rfl (xm_in rfl hn) rfl rfl ?_
  refine r_iload_n (i := 11) (k0 := 4) rfl rfl rfl ?_
  obtain ⟨hi, hF⟩ := ok_gd hF
  refine q_iaload (i := 12) rfl (xm_in rfl hn) rfl hi ?_
  refine r_iadd (i := 13) rfl ?_
  refine r_istore (i := 14) (Ls' := [(5, _), (4, _), (0, _), (1, _), (2, _), (3, _)]) rfl (Nat.le_of_ble_eq_true rfl) rfl ?_
  refine r_aload_n (i := 15) (k0 := 2) rfl rfl rfl ?_
  refine q_getr (b := 43) (i := 16) rfl fl_Pl_21 rfl (xm_in rfl hn) rfl rfl ?_
  refine r_iload (i := 17) (k0 := 1) rfl rfl ?_
  obtain ⟨hi, hF⟩ := ok_gd hF
  refine q_iaload (i := 18) rfl (xm_in rfl hn) rfl hi ?_
  refine r_aload_n (i := 19) (k0 := 2) rfl rfl rfl ?_
  refine q_getr (b := 43) (i := 20) rfl fl_Pl_21 rfl (xm_in rfl hn) rfl rfl ?_
  refine r_iload (i := 21) (k0 := 0) rfl rfl ?_
  obtain ⟨hi, hF⟩ := ok_gd hF
  refine q_iaload (i := 22) rfl (xm_in rfl hn) rfl hi ?_
  refine r_aload_n (i := 23) (k0 := 2) rfl rfl rfl ?_
  refine q_getr (b := 41) (i := 24) rfl fl_Pl_15 rfl (xm_in rfl hn) rfl rfl ?_
  refine r_iload_n (i := 25) (k0 := 5) rfl rfl rfl ?_
  obtain ⟨hi, hF⟩ := ok_gd hF
  refine q_iaload (i := 26) rfl (xm_in rfl hn) rfl hi ?_
  refine r_iadd (i := 27) rfl ?_
  refine r_icmpge (i := 28) (tgt := 113) rfl (by decide) (fun hc => ?_) (fun hc => ?_)
  · have hF := ok_it hc hF
    refine r_iconst (v := 0) (i := 67) rfl ki_0 ?_
    have hQ := hq _ (ok_some hF)
    exact r_ireturn (i := 68) rfl rfl rfl hQ
  have hF := ok_if hc hF
  refine r_aload_n (i := 29) (k0 := 2) rfl rfl rfl ?_
  refine q_getr (b := 43) (i := 30) rfl fl_Pl_21 rfl (xm_in rfl hn) rfl rfl ?_
  refine r_iload (i := 31) (k0 := 0) rfl rfl ?_
  obtain ⟨hi, hF⟩ := ok_gd hF
  refine q_iaload (i := 32) rfl (xm_in rfl hn) rfl hi ?_
  refine r_aload_n (i := 33) (k0 := 2) rfl rfl rfl ?_
  refine q_getr (b := 43) (i := 34) rfl fl_Pl_21 rfl (xm_in rfl hn) rfl rfl ?_
  refine r_iload (i := 35) (k0 := 1) rfl rfl ?_
  obtain ⟨hi, hF⟩ := ok_gd hF
  refine q_iaload (i := 36) rfl (xm_in rfl hn) rfl hi ?_
  refine r_aload_n (i := 37) (k0 := 2) rfl rfl rfl ?_
  refine q_getr (b := 41) (i := 38) rfl fl_Pl_15 rfl (xm_in rfl hn) rfl rfl ?_
  refine r_iload_n (i := 39) (k0 := 3) rfl rfl rfl ?_
  obtain ⟨hi, hF⟩ := ok_gd hF
  refine q_iaload (i := 40) rfl (xm_in rfl hn) rfl hi ?_
  refine r_iadd (i := 41) rfl ?_
  refine r_icmpge (i := 42) (tgt := 113) rfl (by decide) (fun hc => ?_) (fun hc => ?_)
  · have hF := ok_it hc hF
    refine r_iconst (v := 0) (i := 67) rfl ki_0 ?_
    have hQ := hq _ (ok_some hF)
    exact r_ireturn (i := 68) rfl rfl rfl hQ
  have hF := ok_if hc hF
  refine r_aload_n (i := 43) (k0 := 2) rfl rfl rfl ?_
  refine q_getr (b := 44) (i := 44) rfl fl_Pl_24 rfl (xm_in rfl hn) rfl rfl ?_
  refine r_iload (i := 45) (k0 := 1) rfl rfl ?_
  obtain ⟨hi, hF⟩ := ok_gd hF
  refine q_iaload (i := 46) rfl (xm_in rfl hn) rfl hi ?_
  refine r_aload_n (i := 47) (k0 := 2) rfl rfl rfl ?_
  refine q_getr (b := 44) (i := 48) rfl fl_Pl_24 rfl (xm_in rfl hn) rfl rfl ?_
  refine r_iload (i := 49) (k0 := 0) rfl rfl ?_
  obtain ⟨hi, hF⟩ := ok_gd hF
  refine q_iaload (i := 50) rfl (xm_in rfl hn) rfl hi ?_
  refine r_bipush (v := 9) (i := 51) rfl kb_9 ?_
  refine r_iadd (i := 52) rfl ?_
  refine r_icmpge (i := 53) (tgt := 113) rfl (by decide) (fun hc => ?_) (fun hc => ?_)
  · have hF := ok_it hc hF
    refine r_iconst (v := 0) (i := 67) rfl ki_0 ?_
    have hQ := hq _ (ok_some hF)
    exact r_ireturn (i := 68) rfl rfl rfl hQ
  have hF := ok_if hc hF
  refine r_aload_n (i := 54) (k0 := 2) rfl rfl rfl ?_
  refine q_getr (b := 44) (i := 55) rfl fl_Pl_24 rfl (xm_in rfl hn) rfl rfl ?_
  refine r_iload (i := 56) (k0 := 0) rfl rfl ?_
  obtain ⟨hi, hF⟩ := ok_gd hF
  refine q_iaload (i := 57) rfl (xm_in rfl hn) rfl hi ?_
  refine r_aload_n (i := 58) (k0 := 2) rfl rfl rfl ?_
  refine q_getr (b := 44) (i := 59) rfl fl_Pl_24 rfl (xm_in rfl hn) rfl rfl ?_
  refine r_iload (i := 60) (k0 := 1) rfl rfl ?_
  obtain ⟨hi, hF⟩ := ok_gd hF
  refine q_iaload (i := 61) rfl (xm_in rfl hn) rfl hi ?_
  refine r_bipush (v := 9) (i := 62) rfl kb_9 ?_
  refine r_iadd (i := 63) rfl ?_
  refine r_icmpge (i := 64) (tgt := 113) rfl (by decide) (fun hc => ?_) (fun hc => ?_)
  · have hF := ok_it hc hF
    refine r_iconst (v := 0) (i := 67) rfl ki_0 ?_
    have hQ := hq _ (ok_some hF)
    exact r_ireturn (i := 68) rfl rfl rfl hQ
  have hF := ok_if hc hF
  refine r_iconst (v := 1) (i := 65) rfl ki_1 ?_
  refine r_goto (i := 66) (tgt := 114) rfl (by decide) ?_
  have hQ := hq _ (ok_some hF)
  exact r_ireturn (i := 68) rfl rfl rfl hQ
set_option maxHeartbeats 4000000 in
set_option maxRecDepth 100000 in
theorem t_Pl_meet {x1 : Int32} {x2 : Int32} {x3 : Int32} {n : Nat} {I : xm_I} {L : xm_L} {K : Int32 → Prop} (hn : 86 ≤ n) (hF : ok (f_Pl_meet x1 x2 x3 I) K) : xm_C 0 mt_Pl_meet [.ref 39, .int x1, .int x2, .int x3] (I, L, RC n, n) 0 0 (pI (fun p : Int32 => p) (fun p : Int32 => (I, L, RC n, n)) K) := by
  unfold f_Pl_meet at hF
  refine xm_enter (by decide +kernel) dv_Pl_meet (Nat.le_of_ble_eq_true rfl) ?_
  exact t_Pl_meet_b0 hn (fun p hp => ⟨p, rfl, rfl, hp⟩) hF

noncomputable def f_Pl_isFree_b52 (x1 : Int32) (x2 : Int32) (x3 : Int32) (x4 : Int32) (I : xm_I) : Option ((Int32) ⊕ (Int32)) :=
  let x4_1 : Int32 := x4 + 1
  some (.inl (x4_1))
noncomputable def f_Pl_isFree_s15 (x1 : Int32) (x2 : Int32) (x3 : Int32) (I : xm_I) (s : Int32) : Option ((Int32) ⊕ (Int32)) :=
  if x3 ≤ s then (
    some (.inr (1)))
  else (
  if s = x1 then (
    f_Pl_isFree_b52 x1 x2 x3 s I)
  else (
  gd (0 ≤ (s).toInt ∧ (s).toInt < 20) <|
  if (I 42 (Int32.toNatClampNeg s)) = 8 then (
    f_Pl_isFree_b52 x1 x2 x3 s I)
  else (
  (f_Pl_meet x1 x2 s I).bind fun p_1 =>
  if p_1 = 0 then (
    f_Pl_isFree_b52 x1 x2 x3 s I)
  else (
  some (.inr (0))))))
noncomputable def f_Pl_isFree_b15 (x1 : Int32) (x2 : Int32) (x3 : Int32) (I : xm_I) (s : Int32) : Option (Int32) := lp (f_Pl_isFree_s15 x1 x2 x3 I) s
noncomputable def f_Pl_isFree_b0 (x1 : Int32) (x2 : Int32) (x3 : Int32) (I : xm_I) : Option (Int32) :=
  (f_Pl_costOf x1 x2 I).bind fun p_1 =>
  if p_1 = ((-1)) then (
    some (0))
  else (
    f_Pl_isFree_b15 x1 x2 x3 I (0))
noncomputable def f_Pl_isFree (x1 : Int32) (x2 : Int32) (x3 : Int32) (I : xm_I) : Option (Int32) := f_Pl_isFree_b0 x1 x2 x3 I
set_option maxHeartbeats 4000000 in
set_option maxRecDepth 100000 in
theorem t_Pl_isFree_b52 {x1 : Int32} {x2 : Int32} {x3 : Int32} {x4 : Int32} {n : Nat} {I : xm_I} {L : xm_L} {K : (Int32) ⊕ (Int32) → Prop} {Q : Option Value → xm_H → Prop} (hn : 86 ≤ n) (hq : ∀ p : Int32, K (.inr p) → Q (some (.int p)) (I, L, RC n, n)) (hg0 : ∀ s : Int32, K (.inl s) → xm_J 1 mt_Pl_isFree 15 [(0, .ref 39), (1, .int x1), (2, .int x2), (3, .int x3), (4, .int s)] [] (I, L, RC n, n) 0 0 Q) (hF : ok (f_Pl_isFree_b52 x1 x2 x3 x4 I) K) : xm_J 1 mt_Pl_isFree 52 [(0, .ref 39), (1, .int x1), (2, .int x2), (3, .int x3), (4, .int x4)] [] (I, L, RC n, n) 0 0 Q := by
  unfold f_Pl_isFree_b52 at hF
  refine q_iinc (i := 30) (k0 := 4) (Ls' := [(4, _), (0, _), (1, _), (2, _), (3, _)]) rfl ki_1 rfl (Nat.le_of_ble_eq_true rfl) rfl ?_
  refine r_goto (i := 31) (tgt := 15) rfl (by decide) ?_
  refine xm_sub (Ls' := [(0, _), (1, _), (2, _), (3, _), (4, _)]) [1, 2, 3, 4, 0] rfl ?_
  have hJ := hg0 _ (ok_some hF)
  exact hJ
set_option maxHeartbeats 4000000 in
set_option maxRecDepth 100000 in
theorem t_Pl_isFree_s15 {x1 : Int32} {x2 : Int32} {x3 : Int32} {s : Int32} {n : Nat} {I : xm_I} {L : xm_L} {K : (Int32) ⊕ (Int32) → Prop} {Q : Option Value → xm_H → Prop} (hn : 86 ≤ n) (hq : ∀ p : Int32, K (.inr p) → Q (some (.int p)) (I, L, RC n, n)) (hg0 : ∀ s : Int32, K (.inl s) → xm_J 1 mt_Pl_isFree 15 [(0, .ref 39), (1, .int x1), (2, .int x2), (3, .int x3), (4, .int s)] [] (I, L, RC n, n) 0 0 Q) (hF : ok (f_Pl_isFree_s15 x1 x2 x3 I s) K) : xm_J 1 mt_Pl_isFree 15 [(0, .ref 39), (1, .int x1), (2, .int x2), (3, .int x3), (4, .int s)] [] (I, L, RC n, n) 0 0 Q := by
  unfold f_Pl_isFree_s15 at hF
  refine r_iload (i := 10) (k0 := 4) rfl rfl ?_
  refine r_iload_n (i := 11) (k0 := 3) rfl rfl rfl ?_
  refine r_icmpge (i := 12) (tgt := 58) rfl (by decide) (fun hc => ?_) (fun hc => ?_)
  · have hF := ok_it hc hF
    refine r_iconst (v := 1) (i := 32) rfl ki_1 ?_
    have hQ := hq _ (ok_some hF)
    exact r_ireturn (i := 33) rfl rfl rfl hQ
  have hF := ok_if hc hF
  refine r_iload (i := 13) (k0 := 4) rfl rfl ?_
  refine r_iload_n (i := 14) (k0 := 1) rfl rfl rfl ?_
  refine r_icmpeq (i := 15) (tgt := 52) rfl (by decide) (fun hc => ?_) (fun hc => ?_)
  · have hF := ok_it hc hF
    exact t_Pl_isFree_b52 hn (fun p h => hq p h) (fun z h => hg0 z h) hF
  have hF := ok_if hc hF
  refine r_aload_n (i := 16) (k0 := 0) rfl rfl rfl ?_
  refine q_getr (b := 42) (i := 17) rfl fl_Pl_18 rfl (xm_in rfl hn) rfl rfl ?_
  refine r_iload (i := 18) (k0 := 4) rfl rfl ?_
  obtain ⟨hi, hF⟩ := ok_gd hF
  refine q_iaload (i := 19) rfl (xm_in rfl hn) rfl hi ?_
  refine r_bipush (v := 8) (i := 20) rfl kb_8 ?_
  refine r_icmpeq (i := 21) (tgt := 52) rfl (by decide) (fun hc => ?_) (fun hc => ?_)
  · have hF := ok_it hc hF
    exact t_Pl_isFree_b52 hn (fun p h => hq p h) (fun z h => hg0 z h) hF
  have hF := ok_if hc hF
  refine r_aload_n (i := 22) (k0 := 0) rfl rfl rfl ?_
  refine r_iload_n (i := 23) (k0 := 1) rfl rfl rfl ?_
  refine r_iload_n (i := 24) (k0 := 2) rfl rfl rfl ?_
  refine r_iload (i := 25) (k0 := 4) rfl rfl ?_
  refine c_V3I (i := 26) rfl vm_Pl_meet lk_Pl_144 (t_Pl_meet hn (ok_bind hF)) (Nat.le_of_ble_eq_true rfl) (xm_in rfl hn) rfl rfl (Nat.le_of_ble_eq_true rfl) (fun p_1 hF => ?_)
  refine r_ifeq (i := 27) (tgt := 52) rfl (by decide) (fun hc => ?_) (fun hc => ?_)
  · have hF := ok_it hc hF
    exact t_Pl_isFree_b52 hn (fun p h => hq p h) (fun z h => hg0 z h) hF
  have hF := ok_if hc hF
  refine r_iconst (v := 0) (i := 28) rfl ki_0 ?_
  have hQ := hq _ (ok_some hF)
  exact r_ireturn (i := 29) rfl rfl rfl hQ
set_option maxHeartbeats 4000000 in
set_option maxRecDepth 100000 in
theorem t_Pl_isFree_b15 {x1 : Int32} {x2 : Int32} {x3 : Int32} {s : Int32} {n : Nat} {I : xm_I} {L : xm_L} {K : Int32 → Prop} {Q : Option Value → xm_H → Prop} (hn : 86 ≤ n) (hq : ∀ p : Int32, K p → Q (some (.int p)) (I, L, RC n, n)) (hF : ok (f_Pl_isFree_b15 x1 x2 x3 I s) K) : xm_J 1 mt_Pl_isFree 15 [(0, .ref 39), (1, .int x1), (2, .int x2), (3, .int x3), (4, .int s)] [] (I, L, RC n, n) 0 0 Q :=
  lp_J (G := fun z => xm_J 1 mt_Pl_isFree 15 [(0, .ref 39), (1, .int x1), (2, .int x2), (3, .int x3), (4, .int z)] [] (I, L, RC n, n) 0 0 Q) (fun z hF => t_Pl_isFree_s15 hn (fun p h => hq p h) (fun z h => h) hF) s hF
set_option maxHeartbeats 4000000 in
set_option maxRecDepth 100000 in
theorem t_Pl_isFree_b0 {x1 : Int32} {x2 : Int32} {x3 : Int32} {n : Nat} {I : xm_I} {L : xm_L} {K : Int32 → Prop} {Q : Option Value → xm_H → Prop} (hn : 86 ≤ n) (hq : ∀ p : Int32, K p → Q (some (.int p)) (I, L, RC n, n)) (hF : ok (f_Pl_isFree_b0 x1 x2 x3 I) K) : xm_J 1 mt_Pl_isFree 0 [(0, .ref 39), (1, .int x1), (2, .int x2), (3, .int x3)] [] (I, L, RC n, n) 0 0 Q := by
  unfold f_Pl_isFree_b0 at hF
  refine r_aload_n (i := 0) (k0 := 0) rfl rfl rfl ?_
  refine r_iload_n (i := 1) (k0 := 1) rfl rfl rfl ?_
  refine r_iload_n (i := 2) (k0 := 2) rfl rfl rfl ?_
  refine c_V2I (i := 3) rfl vm_Pl_costOf lk_Pl_141 (t_Pl_costOf hn (ok_bind hF)) (Nat.le_of_ble_eq_true rfl) (xm_in rfl hn) rfl rfl (Nat.le_of_ble_eq_true rfl) (fun p_1 hF => ?_)
  refine r_iconst (v := (-1)) (i := 4) rfl ki_m1 ?_
  refine r_icmpne (i := 5) (tgt := 12) rfl (by decide) (fun hc => ?_) (fun hc => ?_)
  · have hF := ok_if hc hF
    refine r_iconst (v := 0) (i := 8) rfl ki_0 ?_
    refine r_istore (i := 9) (Ls' := [(4, _), (0, _), (1, _), (2, _), (3, _)]) rfl (Nat.le_of_ble_eq_true rfl) rfl ?_
    refine xm_sub (Ls' := [(0, _), (1, _), (2, _), (3, _), (4, _)]) [1, 2, 3, 4, 0] rfl ?_
    exact t_Pl_isFree_b15 hn (fun p h => hq p h) hF
  have hF := ok_it hc hF
  refine r_iconst (v := 0) (i := 6) rfl ki_0 ?_
  have hQ := hq _ (ok_some hF)
  exact r_ireturn (i := 7) rfl rfl rfl hQ
set_option maxHeartbeats 4000000 in
set_option maxRecDepth 100000 in
theorem t_Pl_isFree {x1 : Int32} {x2 : Int32} {x3 : Int32} {n : Nat} {I : xm_I} {L : xm_L} {K : Int32 → Prop} (hn : 86 ≤ n) (hF : ok (f_Pl_isFree x1 x2 x3 I) K) : xm_C 1 mt_Pl_isFree [.ref 39, .int x1, .int x2, .int x3] (I, L, RC n, n) 0 0 (pI (fun p : Int32 => p) (fun p : Int32 => (I, L, RC n, n)) K) := by
  unfold f_Pl_isFree at hF
  refine xm_enter (by decide +kernel) dv_Pl_isFree (Nat.le_of_ble_eq_true rfl) ?_
  exact t_Pl_isFree_b0 hn (fun p hp => ⟨p, rfl, rfl, hp⟩) hF

noncomputable def f_Pl_cheapestFree_b59 (x1 : Int32) (x2 : Int32) (x3 : Int32) (I : xm_I) : Option ((Int32 × Int32) ⊕ (Int32)) :=
  let x3_1 : Int32 := x3 + 1
  some (.inl (x2, x3_1))
noncomputable def f_Pl_cheapestFree_b37 (x1 : Int32) (x2 : Int32) (x3 : Int32) (y0 : Int32) (I : xm_I) : Option ((Int32 × Int32) ⊕ (Int32)) :=
  if y0 = 0 then (
    f_Pl_cheapestFree_b59 x1 x2 x3 I)
  else (
  (f_Pl_isFree x1 x3 (I 39 13) I).bind fun p_1 =>
  if p_1 = 0 then (
    f_Pl_cheapestFree_b59 x1 x2 x3 I)
  else (
  f_Pl_cheapestFree_b59 x1 x3 x3 I))
noncomputable def f_Pl_cheapestFree_b32 (x1 : Int32) (x2 : Int32) (x3 : Int32) (I : xm_I) : Option ((Int32 × Int32) ⊕ (Int32)) :=
  f_Pl_cheapestFree_b37 x1 x2 x3 1 I
noncomputable def f_Pl_cheapestFree_s5 (x1 : Int32) (I : xm_I) (s : Int32 × Int32) : Option ((Int32 × Int32) ⊕ (Int32)) :=
  if 8 ≤ s.2 then (
    some (.inr (s.1)))
  else (
  if s.1 = 8 then (
    f_Pl_cheapestFree_b32 x1 s.1 s.2 I)
  else (
  (f_Pl_costOf x1 s.2 I).bind fun p_1 =>
  (f_Pl_costOf x1 s.1 I).bind fun p_2 =>
  if p_2 ≤ p_1 then (
    f_Pl_cheapestFree_b37 x1 s.1 s.2 0 I)
  else (
  f_Pl_cheapestFree_b32 x1 s.1 s.2 I)))
noncomputable def f_Pl_cheapestFree_b5 (x1 : Int32) (I : xm_I) (s : Int32 × Int32) : Option (Int32) := lp (f_Pl_cheapestFree_s5 x1 I) s
noncomputable def f_Pl_cheapestFree_b0 (x1 : Int32) (I : xm_I) : Option (Int32) :=
  f_Pl_cheapestFree_b5 x1 I (8, 0)
noncomputable def f_Pl_cheapestFree (x1 : Int32) (I : xm_I) : Option (Int32) := f_Pl_cheapestFree_b0 x1 I
set_option maxHeartbeats 4000000 in
set_option maxRecDepth 100000 in
theorem t_Pl_cheapestFree_b59 {x1 : Int32} {x2 : Int32} {x3 : Int32} {n : Nat} {I : xm_I} {L : xm_L} {K : (Int32 × Int32) ⊕ (Int32) → Prop} {Q : Option Value → xm_H → Prop} (hn : 86 ≤ n) (hq : ∀ p : Int32, K (.inr p) → Q (some (.int p)) (I, L, RC n, n)) (hg0 : ∀ s : Int32 × Int32, K (.inl s) → xm_J 2 mt_Pl_cheapestFree 5 [(0, .ref 39), (1, .int x1), (2, .int s.1), (3, .int s.2)] [] (I, L, RC n, n) 0 0 Q) (hF : ok (f_Pl_cheapestFree_b59 x1 x2 x3 I) K) : xm_J 2 mt_Pl_cheapestFree 59 [(0, .ref 39), (1, .int x1), (2, .int x2), (3, .int x3)] [] (I, L, RC n, n) 0 0 Q := by
  unfold f_Pl_cheapestFree_b59 at hF
  refine q_iinc (i := 34) (k0 := 3) (Ls' := [(3, _), (0, _), (1, _), (2, _)]) rfl ki_1 rfl (Nat.le_of_ble_eq_true rfl) rfl ?_
  refine r_goto (i := 35) (tgt := 5) rfl (by decide) ?_
  refine xm_sub (Ls' := [(0, _), (1, _), (2, _), (3, _)]) [1, 2, 3, 0] rfl ?_
  have hJ := hg0 _ (ok_some hF)
  exact hJ
set_option maxHeartbeats 4000000 in
set_option maxRecDepth 100000 in
theorem t_Pl_cheapestFree_b37 {x1 : Int32} {x2 : Int32} {x3 : Int32} {y0 : Int32} {n : Nat} {I : xm_I} {L : xm_L} {K : (Int32 × Int32) ⊕ (Int32) → Prop} {Q : Option Value → xm_H → Prop} (hn : 86 ≤ n) (hq : ∀ p : Int32, K (.inr p) → Q (some (.int p)) (I, L, RC n, n)) (hg0 : ∀ s : Int32 × Int32, K (.inl s) → xm_J 2 mt_Pl_cheapestFree 5 [(0, .ref 39), (1, .int x1), (2, .int s.1), (3, .int s.2)] [] (I, L, RC n, n) 0 0 Q) (hF : ok (f_Pl_cheapestFree_b37 x1 x2 x3 y0 I) K) : xm_J 2 mt_Pl_cheapestFree 37 [(0, .ref 39), (1, .int x1), (2, .int x2), (3, .int x3)] [.int y0] (I, L, RC n, n) 0 0 Q := by
  unfold f_Pl_cheapestFree_b37 at hF
  refine r_istore (i := 22) (Ls' := [(4, _), (0, _), (1, _), (2, _), (3, _)]) rfl (Nat.le_of_ble_eq_true rfl) rfl ?_
  refine r_iload (i := 23) (k0 := 0) rfl rfl ?_
  refine r_ifeq (i := 24) (tgt := 59) rfl (by decide) (fun hc => ?_) (fun hc => ?_)
  · have hF := ok_it hc hF
    refine xm_sub (Ls' := [(0, _), (1, _), (2, _), (3, _)]) [1, 2, 3, 4] rfl ?_
    exact t_Pl_cheapestFree_b59 hn (fun p h => hq p h) (fun z h => hg0 z h) hF
  have hF := ok_if hc hF
  refine r_aload_n (i := 25) (k0 := 1) rfl rfl rfl ?_
  refine r_iload_n (i := 26) (k0 := 2) rfl rfl rfl ?_
  refine r_iload_n (i := 27) (k0 := 4) rfl rfl rfl ?_
  refine r_aload_n (i := 28) (k0 := 1) rfl rfl rfl ?_
  refine q_geti (i := 29) rfl fl_Pl_61 (xm_in rfl hn) rfl ?_
  refine c_V3I (i := 30) rfl vm_Pl_isFree lk_Pl_168 (t_Pl_isFree hn (ok_bind hF)) (Nat.le_of_ble_eq_true rfl) (xm_in rfl hn) rfl rfl (Nat.le_of_ble_eq_true rfl) (fun p_1 hF => ?_)
  refine r_ifeq (i := 31) (tgt := 59) rfl (by decide) (fun hc => ?_) (fun hc => ?_)
  · have hF := ok_it hc hF
    refine xm_sub (Ls' := [(0, _), (1, _), (2, _), (3, _)]) [1, 2, 3, 4] rfl ?_
    exact t_Pl_cheapestFree_b59 hn (fun p h => hq p h) (fun z h => hg0 z h) hF
  have hF := ok_if hc hF
  refine r_iload_n (i := 32) (k0 := 4) rfl rfl rfl ?_
  refine r_istore_n (i := 33) (Ls' := [(2, _), (4, _), (0, _), (1, _), (3, _)]) rfl rfl (Nat.le_of_ble_eq_true rfl) rfl ?_
  refine xm_sub (Ls' := [(0, _), (1, _), (2, _), (3, _)]) [2, 3, 0, 4] rfl ?_
  exact t_Pl_cheapestFree_b59 hn (fun p h => hq p h) (fun z h => hg0 z h) hF
set_option maxHeartbeats 4000000 in
set_option maxRecDepth 100000 in
theorem t_Pl_cheapestFree_b32 {x1 : Int32} {x2 : Int32} {x3 : Int32} {n : Nat} {I : xm_I} {L : xm_L} {K : (Int32 × Int32) ⊕ (Int32) → Prop} {Q : Option Value → xm_H → Prop} (hn : 86 ≤ n) (hq : ∀ p : Int32, K (.inr p) → Q (some (.int p)) (I, L, RC n, n)) (hg0 : ∀ s : Int32 × Int32, K (.inl s) → xm_J 2 mt_Pl_cheapestFree 5 [(0, .ref 39), (1, .int x1), (2, .int s.1), (3, .int s.2)] [] (I, L, RC n, n) 0 0 Q) (hF : ok (f_Pl_cheapestFree_b32 x1 x2 x3 I) K) : xm_J 2 mt_Pl_cheapestFree 32 [(0, .ref 39), (1, .int x1), (2, .int x2), (3, .int x3)] [] (I, L, RC n, n) 0 0 Q := by
  unfold f_Pl_cheapestFree_b32 at hF
  refine r_iconst (v := 1) (i := 19) rfl ki_1 ?_
  refine r_goto (i := 20) (tgt := 37) rfl (by decide) ?_
  exact t_Pl_cheapestFree_b37 hn (fun p h => hq p h) (fun z h => hg0 z h) hF
set_option maxHeartbeats 4000000 in
set_option maxRecDepth 100000 in
theorem t_Pl_cheapestFree_s5 {x1 : Int32} {s : Int32 × Int32} {n : Nat} {I : xm_I} {L : xm_L} {K : (Int32 × Int32) ⊕ (Int32) → Prop} {Q : Option Value → xm_H → Prop} (hn : 86 ≤ n) (hq : ∀ p : Int32, K (.inr p) → Q (some (.int p)) (I, L, RC n, n)) (hg0 : ∀ s : Int32 × Int32, K (.inl s) → xm_J 2 mt_Pl_cheapestFree 5 [(0, .ref 39), (1, .int x1), (2, .int s.1), (3, .int s.2)] [] (I, L, RC n, n) 0 0 Q) (hF : ok (f_Pl_cheapestFree_s5 x1 I s) K) : xm_J 2 mt_Pl_cheapestFree 5 [(0, .ref 39), (1, .int x1), (2, .int s.1), (3, .int s.2)] [] (I, L, RC n, n) 0 0 Q := by
  unfold f_Pl_cheapestFree_s5 at hF
  refine r_iload_n (i := 4) (k0 := 3) rfl rfl rfl ?_
  refine r_bipush (v := 8) (i := 5) rfl kb_8 ?_
  refine r_icmpge (i := 6) (tgt := 65) rfl (by decide) (fun hc => ?_) (fun hc => ?_)
  · have hF := ok_it hc hF
    refine r_iload_n (i := 36) (k0 := 2) rfl rfl rfl ?_
    have hQ := hq _ (ok_some hF)
    exact r_ireturn (i := 37) rfl rfl rfl hQ
  have hF := ok_if hc hF
  refine r_iload_n (i := 7) (k0 := 2) rfl rfl rfl ?_
  refine r_bipush (v := 8) (i := 8) rfl kb_8 ?_
  refine r_icmpeq (i := 9) (tgt := 32) rfl (by decide) (fun hc => ?_) (fun hc => ?_)
  · have hF := ok_it hc hF
    exact t_Pl_cheapestFree_b32 hn (fun p h => hq p h) (fun z h => hg0 z h) hF
  have hF := ok_if hc hF
  refine r_aload_n (i := 10) (k0 := 0) rfl rfl rfl ?_
  refine r_iload_n (i := 11) (k0 := 1) rfl rfl rfl ?_
  refine r_iload_n (i := 12) (k0 := 3) rfl rfl rfl ?_
  refine c_V2I (i := 13) rfl vm_Pl_costOf lk_Pl_141 (t_Pl_costOf hn (ok_bind hF)) (Nat.le_of_ble_eq_true rfl) (xm_in rfl hn) rfl rfl (Nat.le_of_ble_eq_true rfl) (fun p_1 hF => ?_)
  refine r_aload_n (i := 14) (k0 := 0) rfl rfl rfl ?_
  refine r_iload_n (i := 15) (k0 := 1) rfl rfl rfl ?_
  refine r_iload_n (i := 16) (k0 := 2) rfl rfl rfl ?_
  refine c_V2I (i := 17) rfl vm_Pl_costOf lk_Pl_141 (t_Pl_costOf hn (ok_bind hF)) (Nat.le_of_ble_eq_true rfl) (xm_in rfl hn) rfl rfl (Nat.le_of_ble_eq_true rfl) (fun p_2 hF => ?_)
  refine r_icmpge (i := 18) (tgt := 36) rfl (by decide) (fun hc => ?_) (fun hc => ?_)
  · have hF := ok_it hc hF
    refine r_iconst (v := 0) (i := 21) rfl ki_0 ?_
    exact t_Pl_cheapestFree_b37 hn (fun p h => hq p h) (fun z h => hg0 z h) hF
  have hF := ok_if hc hF
  exact t_Pl_cheapestFree_b32 hn (fun p h => hq p h) (fun z h => hg0 z h) hF
set_option maxHeartbeats 4000000 in
set_option maxRecDepth 100000 in
theorem t_Pl_cheapestFree_b5 {x1 : Int32} {s : Int32 × Int32} {n : Nat} {I : xm_I} {L : xm_L} {K : Int32 → Prop} {Q : Option Value → xm_H → Prop} (hn : 86 ≤ n) (hq : ∀ p : Int32, K p → Q (some (.int p)) (I, L, RC n, n)) (hF : ok (f_Pl_cheapestFree_b5 x1 I s) K) : xm_J 2 mt_Pl_cheapestFree 5 [(0, .ref 39), (1, .int x1), (2, .int s.1), (3, .int s.2)] [] (I, L, RC n, n) 0 0 Q :=
  lp_J (G := fun z => xm_J 2 mt_Pl_cheapestFree 5 [(0, .ref 39), (1, .int x1), (2, .int z.1), (3, .int z.2)] [] (I, L, RC n, n) 0 0 Q) (fun z hF => t_Pl_cheapestFree_s5 hn (fun p h => hq p h) (fun z h => h) hF) s hF
set_option maxHeartbeats 4000000 in
set_option maxRecDepth 100000 in
theorem t_Pl_cheapestFree_b0 {x1 : Int32} {n : Nat} {I : xm_I} {L : xm_L} {K : Int32 → Prop} {Q : Option Value → xm_H → Prop} (hn : 86 ≤ n) (hq : ∀ p : Int32, K p → Q (some (.int p)) (I, L, RC n, n)) (hF : ok (f_Pl_cheapestFree_b0 x1 I) K) : xm_J 2 mt_Pl_cheapestFree 0 [(0, .ref 39), (1, .int x1)] [] (I, L, RC n, n) 0 0 Q := by
  unfold f_Pl_cheapestFree_b0 at hF
  refine r_bipush (v := 8) (i := 0) rfl kb_8 ?_
  refine r_istore_n (i := 1) (Ls' := [(2, _), (0, _), (1, _)]) rfl rfl (Nat.le_of_ble_eq_true rfl) rfl ?_
  refine r_iconst (v := 0) (i := 2) rfl ki_0 ?_
  refine r_istore_n (i := 3) (Ls' := [(3, _), (2, _), (0, _), (1, _)]) rfl rfl (Nat.le_of_ble_eq_true rfl) rfl ?_
  refine xm_sub (Ls' := [(0, _), (1, _), (2, _), (3, _)]) [2, 3, 1, 0] rfl ?_
  exact t_Pl_cheapestFree_b5 hn (fun p h => hq p h) hF
set_option maxHeartbeats 4000000 in
set_option maxRecDepth 100000 in
theorem t_Pl_cheapestFree {x1 : Int32} {n : Nat} {I : xm_I} {L : xm_L} {K : Int32 → Prop} (hn : 86 ≤ n) (hF : ok (f_Pl_cheapestFree x1 I) K) : xm_C 2 mt_Pl_cheapestFree [.ref 39, .int x1] (I, L, RC n, n) 0 0 (pI (fun p : Int32 => p) (fun p : Int32 => (I, L, RC n, n)) K) := by
  unfold f_Pl_cheapestFree at hF
  refine xm_enter (by decide +kernel) dv_Pl_cheapestFree (Nat.le_of_ble_eq_true rfl) ?_
  exact t_Pl_cheapestFree_b0 hn (fun p hp => ⟨p, rfl, rfl, hp⟩) hF

noncomputable def f_Pl_goRounds_b50 (x1 : Int32) (x3 : Int32) (x4 : Int32) (y0 : Int32) (y1 : Int32) (I : xm_I) : Option ((Int32 × Int32 × xm_I) ⊕ ((Int32 × Int32 × xm_I) ⊕ (Int32 × xm_I))) :=
  let x2_1 : Int32 := y0 ||| y1
  gd (0 ≤ (x3).toInt ∧ (x3).toInt < 20) <|
  let I_2 : xm_I := up2 I 42 (Int32.toNatClampNeg x3) x4
  let x3_3 : Int32 := x3 + 1
  some (.inl (x2_1, x3_3, I_2))
noncomputable def f_Pl_goRounds_s18 (x1 : Int32) (s : Int32 × Int32 × xm_I) : Option ((Int32 × Int32 × xm_I) ⊕ ((Int32 × Int32 × xm_I) ⊕ (Int32 × xm_I))) :=
  if (s.2.2 39 13) ≤ s.2.1 then (
    let x1_1 : Int32 := x1 + 1
    some (.inr (.inl (x1_1, s.1, s.2.2))))
  else (
  (f_Pl_cheapestFree s.2.1 s.2.2).bind fun p_2 =>
  gd (0 ≤ (s.2.1).toInt ∧ (s.2.1).toInt < 20) <|
  if p_2 = (s.2.2 42 (Int32.toNatClampNeg s.2.1)) then (
    f_Pl_goRounds_b50 x1 s.2.1 p_2 s.1 0 s.2.2)
  else (
  f_Pl_goRounds_b50 x1 s.2.1 p_2 s.1 1 s.2.2))
noncomputable def f_Pl_goRounds_b18 (x1 : Int32) (s : Int32 × Int32 × xm_I) : Option ((Int32 × Int32 × xm_I) ⊕ (Int32 × xm_I)) := lp (f_Pl_goRounds_s18 x1) s
noncomputable def f_Pl_goRounds_s4 (s : Int32 × Int32 × xm_I) : Option ((Int32 × Int32 × xm_I) ⊕ (Int32 × xm_I)) :=
  if s.2.1 = 0 then (
    some (.inr (s.1, s.2.2)))
  else (
  if 10 ≤ s.1 then (
    some (.inr (s.1, s.2.2)))
  else (
  f_Pl_goRounds_b18 s.1 (0, 0, s.2.2)))
noncomputable def f_Pl_goRounds_b4 (s : Int32 × Int32 × xm_I) : Option (Int32 × xm_I) := lp (f_Pl_goRounds_s4) s
noncomputable def f_Pl_goRounds_b0 (I : xm_I) : Option (Int32 × xm_I) :=
  f_Pl_goRounds_b4 (0, 1, I)
noncomputable def f_Pl_goRounds (I : xm_I) : Option (Int32 × xm_I) := f_Pl_goRounds_b0 I
set_option maxHeartbeats 4000000 in
set_option maxRecDepth 100000 in
theorem t_Pl_goRounds_b50 {x1 : Int32} {x3 : Int32} {x4 : Int32} {y0 : Int32} {y1 : Int32} {n : Nat} {I : xm_I} {L : xm_L} {K : (Int32 × Int32 × xm_I) ⊕ ((Int32 × Int32 × xm_I) ⊕ (Int32 × xm_I)) → Prop} {Q : Option Value → xm_H → Prop} (hn : 86 ≤ n) (hq : ∀ p : Int32 × xm_I, K (.inr (.inr p)) → Q (some (.int p.1)) (p.2, L, RC n, n)) (hg0 : ∀ s : Int32 × Int32 × xm_I, K (.inr (.inl s)) → xm_J 3 mt_Pl_goRounds 4 [(0, .ref 39), (1, .int s.1), (2, .int s.2.1)] [] (s.2.2, L, RC n, n) 0 0 Q) (hg1 : ∀ s : Int32 × Int32 × xm_I, K (.inl s) → xm_J 3 mt_Pl_goRounds 18 [(0, .ref 39), (1, .int x1), (2, .int s.1), (3, .int s.2.1)] [] (s.2.2, L, RC n, n) 0 0 Q) (hF : ok (f_Pl_goRounds_b50 x1 x3 x4 y0 y1 I) K) : xm_J 3 mt_Pl_goRounds 50 [(0, .ref 39), (1, .int x1), (3, .int x3), (4, .int x4)] [.int y1, .int y0] (I, L, RC n, n) 0 0 Q := by
  unfold f_Pl_goRounds_b50 at hF
  refine r_ior (i := 31) rfl ?_
  refine r_istore_n (i := 32) (Ls' := [(2, _), (0, _), (1, _), (3, _), (4, _)]) rfl rfl (Nat.le_of_ble_eq_true rfl) rfl ?_
  refine r_aload_n (i := 33) (k0 := 1) rfl rfl rfl ?_
  refine q_getr (b := 42) (i := 34) rfl fl_Pl_18 rfl (xm_in rfl hn) rfl rfl ?_
  refine r_iload_n (i := 35) (k0 := 3) rfl rfl rfl ?_
  refine r_iload (i := 36) (k0 := 4) rfl rfl ?_
  obtain ⟨hi, hF⟩ := ok_gd hF
  refine q_iastore (i := 37) rfl (xm_in rfl hn) rfl hi ?_
  refine q_iinc (i := 38) (k0 := 3) (Ls' := [(3, _), (2, _), (0, _), (1, _), (4, _)]) rfl ki_1 rfl (Nat.le_of_ble_eq_true rfl) rfl ?_
  refine r_goto (i := 39) (tgt := 18) rfl (by decide) ?_
  refine xm_sub (Ls' := [(0, _), (1, _), (2, _), (3, _)]) [2, 3, 1, 0] rfl ?_
  have hJ := hg1 _ (ok_some hF)
  exact hJ
set_option maxHeartbeats 4000000 in
set_option maxRecDepth 100000 in
theorem t_Pl_goRounds_s18 {x1 : Int32} {s : Int32 × Int32 × xm_I} {n : Nat} {L : xm_L} {K : (Int32 × Int32 × xm_I) ⊕ ((Int32 × Int32 × xm_I) ⊕ (Int32 × xm_I)) → Prop} {Q : Option Value → xm_H → Prop} (hn : 86 ≤ n) (hq : ∀ p : Int32 × xm_I, K (.inr (.inr p)) → Q (some (.int p.1)) (p.2, L, RC n, n)) (hg0 : ∀ s : Int32 × Int32 × xm_I, K (.inr (.inl s)) → xm_J 3 mt_Pl_goRounds 4 [(0, .ref 39), (1, .int s.1), (2, .int s.2.1)] [] (s.2.2, L, RC n, n) 0 0 Q) (hg1 : ∀ s : Int32 × Int32 × xm_I, K (.inl s) → xm_J 3 mt_Pl_goRounds 18 [(0, .ref 39), (1, .int x1), (2, .int s.1), (3, .int s.2.1)] [] (s.2.2, L, RC n, n) 0 0 Q) (hF : ok (f_Pl_goRounds_s18 x1 s) K) : xm_J 3 mt_Pl_goRounds 18 [(0, .ref 39), (1, .int x1), (2, .int s.1), (3, .int s.2.1)] [] (s.2.2, L, RC n, n) 0 0 Q := by
  unfold f_Pl_goRounds_s18 at hF
  refine r_iload_n (i := 13) (k0 := 3) rfl rfl rfl ?_
  refine r_aload_n (i := 14) (k0 := 0) rfl rfl rfl ?_
  refine q_geti (i := 15) rfl fl_Pl_61 (xm_in rfl hn) rfl ?_
  refine r_icmpge (i := 16) (tgt := 66) rfl (by decide) (fun hc => ?_) (fun hc => ?_)
  · have hF := ok_it hc hF
    refine q_iinc (i := 40) (k0 := 1) (Ls' := [(1, _), (0, _), (2, _), (3, _)]) rfl ki_1 rfl (Nat.le_of_ble_eq_true rfl) rfl ?_
    refine r_goto (i := 41) (tgt := 4) rfl (by decide) ?_
    refine xm_sub (Ls' := [(0, _), (1, _), (2, _)]) [1, 0, 2] rfl ?_
    have hJ := hg0 _ (ok_some hF)
    exact hJ
  have hF := ok_if hc hF
  refine r_aload_n (i := 17) (k0 := 0) rfl rfl rfl ?_
  refine r_iload_n (i := 18) (k0 := 3) rfl rfl rfl ?_
  refine c_V1I (i := 19) rfl vm_Pl_cheapestFree lk_Pl_171 (t_Pl_cheapestFree hn (ok_bind hF)) (Nat.le_of_ble_eq_true rfl) (xm_in rfl hn) rfl rfl (Nat.le_of_ble_eq_true rfl) (fun p_2 hF => ?_)
  refine r_istore (i := 20) (Ls' := [(4, _), (0, _), (1, _), (2, _), (3, _)]) rfl (Nat.le_of_ble_eq_true rfl) rfl ?_
  refine r_iload_n (i := 21) (k0 := 3) rfl rfl rfl ?_
  refine r_iload (i := 22) (k0 := 0) rfl rfl ?_
  refine r_aload_n (i := 23) (k0 := 1) rfl rfl rfl ?_
  refine q_getr (b := 42) (i := 24) rfl fl_Pl_18 rfl (xm_in rfl hn) rfl rfl ?_
  refine r_iload_n (i := 25) (k0 := 4) rfl rfl rfl ?_
  obtain ⟨hi, hF⟩ := ok_gd hF
  refine q_iaload (i := 26) rfl (xm_in rfl hn) rfl hi ?_
  refine r_icmpeq (i := 27) (tgt := 49) rfl (by decide) (fun hc => ?_) (fun hc => ?_)
  · have hF := ok_it hc hF
    refine r_iconst (v := 0) (i := 30) rfl ki_0 ?_
    refine xm_sub (Ls' := [(0, _), (1, _), (3, _), (4, _)]) [1, 2, 4, 0] rfl ?_
    exact t_Pl_goRounds_b50 hn (fun p h => hq p h) (fun z h => hg0 z h) (fun z h => hg1 z h) hF
  have hF := ok_if hc hF
  refine r_iconst (v := 1) (i := 28) rfl ki_1 ?_
  refine r_goto (i := 29) (tgt := 50) rfl (by decide) ?_
  refine xm_sub (Ls' := [(0, _), (1, _), (3, _), (4, _)]) [1, 2, 4, 0] rfl ?_
  exact t_Pl_goRounds_b50 hn (fun p h => hq p h) (fun z h => hg0 z h) (fun z h => hg1 z h) hF
set_option maxHeartbeats 4000000 in
set_option maxRecDepth 100000 in
theorem t_Pl_goRounds_b18 {x1 : Int32} {s : Int32 × Int32 × xm_I} {n : Nat} {L : xm_L} {K : (Int32 × Int32 × xm_I) ⊕ (Int32 × xm_I) → Prop} {Q : Option Value → xm_H → Prop} (hn : 86 ≤ n) (hq : ∀ p : Int32 × xm_I, K (.inr p) → Q (some (.int p.1)) (p.2, L, RC n, n)) (hg0 : ∀ s : Int32 × Int32 × xm_I, K (.inl s) → xm_J 3 mt_Pl_goRounds 4 [(0, .ref 39), (1, .int s.1), (2, .int s.2.1)] [] (s.2.2, L, RC n, n) 0 0 Q) (hF : ok (f_Pl_goRounds_b18 x1 s) K) : xm_J 3 mt_Pl_goRounds 18 [(0, .ref 39), (1, .int x1), (2, .int s.1), (3, .int s.2.1)] [] (s.2.2, L, RC n, n) 0 0 Q :=
  lp_J (G := fun z => xm_J 3 mt_Pl_goRounds 18 [(0, .ref 39), (1, .int x1), (2, .int z.1), (3, .int z.2.1)] [] (z.2.2, L, RC n, n) 0 0 Q) (fun z hF => t_Pl_goRounds_s18 hn (fun p h => hq p h) (fun z h => hg0 z h) (fun z h => h) hF) s hF
set_option maxHeartbeats 4000000 in
set_option maxRecDepth 100000 in
theorem t_Pl_goRounds_s4 {s : Int32 × Int32 × xm_I} {n : Nat} {L : xm_L} {K : (Int32 × Int32 × xm_I) ⊕ (Int32 × xm_I) → Prop} {Q : Option Value → xm_H → Prop} (hn : 86 ≤ n) (hq : ∀ p : Int32 × xm_I, K (.inr p) → Q (some (.int p.1)) (p.2, L, RC n, n)) (hg0 : ∀ s : Int32 × Int32 × xm_I, K (.inl s) → xm_J 3 mt_Pl_goRounds 4 [(0, .ref 39), (1, .int s.1), (2, .int s.2.1)] [] (s.2.2, L, RC n, n) 0 0 Q) (hF : ok (f_Pl_goRounds_s4 s) K) : xm_J 3 mt_Pl_goRounds 4 [(0, .ref 39), (1, .int s.1), (2, .int s.2.1)] [] (s.2.2, L, RC n, n) 0 0 Q := by
  unfold f_Pl_goRounds_s4 at hF
  refine r_iload_n (i := 4) (k0 := 2) rfl rfl rfl ?_
  refine r_ifeq (i := 5) (tgt := 72) rfl (by decide) (fun hc => ?_) (fun hc => ?_)
  · have hF := ok_it hc hF
    refine r_iload_n (i := 42) (k0 := 1) rfl rfl rfl ?_
    have hQ := hq _ (ok_some hF)
    exact r_ireturn (i := 43) rfl rfl rfl hQ
  have hF := ok_if hc hF
  refine r_iload_n (i := 6) (k0 := 1) rfl rfl rfl ?_
  refine r_bipush (v := 10) (i := 7) rfl kb_10 ?_
  refine r_icmpge (i := 8) (tgt := 72) rfl (by decide) (fun hc => ?_) (fun hc => ?_)
  · have hF := ok_it hc hF
    refine r_iload_n (i := 42) (k0 := 1) rfl rfl rfl ?_
    have hQ := hq _ (ok_some hF)
    exact r_ireturn (i := 43) rfl rfl rfl hQ
  have hF := ok_if hc hF
  refine r_iconst (v := 0) (i := 9) rfl ki_0 ?_
  refine r_istore_n (i := 10) (Ls' := [(2, _), (0, _), (1, _)]) rfl rfl (Nat.le_of_ble_eq_true rfl) rfl ?_
  refine r_iconst (v := 0) (i := 11) rfl ki_0 ?_
  refine r_istore_n (i := 12) (Ls' := [(3, _), (2, _), (0, _), (1, _)]) rfl rfl (Nat.le_of_ble_eq_true rfl) rfl ?_
  refine xm_sub (Ls' := [(0, _), (1, _), (2, _), (3, _)]) [2, 3, 1, 0] rfl ?_
  exact t_Pl_goRounds_b18 hn (fun p h => hq p h) (fun z h => hg0 z h) hF
set_option maxHeartbeats 4000000 in
set_option maxRecDepth 100000 in
theorem t_Pl_goRounds_b4 {s : Int32 × Int32 × xm_I} {n : Nat} {L : xm_L} {K : Int32 × xm_I → Prop} {Q : Option Value → xm_H → Prop} (hn : 86 ≤ n) (hq : ∀ p : Int32 × xm_I, K p → Q (some (.int p.1)) (p.2, L, RC n, n)) (hF : ok (f_Pl_goRounds_b4 s) K) : xm_J 3 mt_Pl_goRounds 4 [(0, .ref 39), (1, .int s.1), (2, .int s.2.1)] [] (s.2.2, L, RC n, n) 0 0 Q :=
  lp_J (G := fun z => xm_J 3 mt_Pl_goRounds 4 [(0, .ref 39), (1, .int z.1), (2, .int z.2.1)] [] (z.2.2, L, RC n, n) 0 0 Q) (fun z hF => t_Pl_goRounds_s4 hn (fun p h => hq p h) (fun z h => h) hF) s hF
set_option maxHeartbeats 4000000 in
set_option maxRecDepth 100000 in
theorem t_Pl_goRounds_b0 {n : Nat} {I : xm_I} {L : xm_L} {K : Int32 × xm_I → Prop} {Q : Option Value → xm_H → Prop} (hn : 86 ≤ n) (hq : ∀ p : Int32 × xm_I, K p → Q (some (.int p.1)) (p.2, L, RC n, n)) (hF : ok (f_Pl_goRounds_b0 I) K) : xm_J 3 mt_Pl_goRounds 0 [(0, .ref 39)] [] (I, L, RC n, n) 0 0 Q := by
  unfold f_Pl_goRounds_b0 at hF
  refine r_iconst (v := 0) (i := 0) rfl ki_0 ?_
  refine r_istore_n (i := 1) (Ls' := [(1, _), (0, _)]) rfl rfl (Nat.le_of_ble_eq_true rfl) rfl ?_
  refine r_iconst (v := 1) (i := 2) rfl ki_1 ?_
  refine r_istore_n (i := 3) (Ls' := [(2, _), (1, _), (0, _)]) rfl rfl (Nat.le_of_ble_eq_true rfl) rfl ?_
  refine xm_sub (Ls' := [(0, _), (1, _), (2, _)]) [2, 1, 0] rfl ?_
  exact t_Pl_goRounds_b4 hn (fun p h => hq p h) hF
set_option maxHeartbeats 4000000 in
set_option maxRecDepth 100000 in
theorem t_Pl_goRounds {n : Nat} {I : xm_I} {L : xm_L} {K : Int32 × xm_I → Prop} (hn : 86 ≤ n) (hF : ok (f_Pl_goRounds I) K) : xm_C 3 mt_Pl_goRounds [.ref 39] (I, L, RC n, n) 0 0 (pI (fun p : Int32 × xm_I => p.1) (fun p : Int32 × xm_I => (p.2, L, RC n, n)) K) := by
  unfold f_Pl_goRounds at hF
  refine xm_enter (by decide +kernel) dv_Pl_goRounds (Nat.le_of_ble_eq_true rfl) ?_
  exact t_Pl_goRounds_b0 hn (fun p hp => ⟨p, rfl, rfl, hp⟩) hF

noncomputable def f_Pl_boundByRounds_b81 (x1 : Int32) (y1 : Int32) (y2 : Int32) (I : xm_I) : Option ((Int32 × xm_I) ⊕ (xm_I)) :=
  let I_1 : xm_I := up2 I 39 15 (y1 + y2)
  let x1_2 : Int32 := x1 + 1
  some (.inl (x1_2, I_1))
noncomputable def f_Pl_boundByRounds_b46 (x1 : Int32) (y1 : Int32) (y2 : Int32) (I : xm_I) : Option ((Int32 × xm_I) ⊕ (xm_I)) :=
  let I_1 : xm_I := up2 I 39 14 (y1 + y2)
  gd (0 ≤ (x1).toInt ∧ (x1).toInt < 20) <|
  if (I_1 42 (Int32.toNatClampNeg x1)) = 8 then (
    f_Pl_boundByRounds_b81 x1 (I_1 39 15) 0 I_1)
  else (
    gd (0 ≤ (x1).toInt ∧ (x1).toInt < 20) <|
    (f_Pl_costOf x1 (I_1 42 (Int32.toNatClampNeg x1)) I_1).bind fun p_2 =>
    f_Pl_boundByRounds_b81 x1 (I_1 39 15) p_2 I_1)
noncomputable def f_Pl_boundByRounds_s17 (s : Int32 × xm_I) : Option ((Int32 × xm_I) ⊕ (xm_I)) :=
  if (s.2 39 13) ≤ s.1 then (
    some (.inr (s.2)))
  else (
  gd (0 ≤ (s.1).toInt ∧ (s.1).toInt < 20) <|
  if (s.2 42 (Int32.toNatClampNeg s.1)) = 8 then (
    f_Pl_boundByRounds_b46 s.1 (s.2 39 14) 1 s.2)
  else (
    f_Pl_boundByRounds_b46 s.1 (s.2 39 14) 0 s.2))
noncomputable def f_Pl_boundByRounds_b17 (s : Int32 × xm_I) : Option (xm_I) := lp (f_Pl_boundByRounds_s17) s
noncomputable def f_Pl_boundByRounds_b0 (I : xm_I) : Option (xm_I) :=
  (f_Pl_goRounds I).bind fun p_1 =>
  let I_2 : xm_I := up2 p_1.2 39 14 0
  let I_3 : xm_I := up2 I_2 39 15 1
  f_Pl_boundByRounds_b17 (0, I_3)
noncomputable def f_Pl_boundByRounds (I : xm_I) : Option (xm_I) := f_Pl_boundByRounds_b0 I
set_option maxHeartbeats 4000000 in
set_option maxRecDepth 100000 in
theorem t_Pl_boundByRounds_b81 {x1 : Int32} {y1 : Int32} {y2 : Int32} {n : Nat} {I : xm_I} {L : xm_L} {K : (Int32 × xm_I) ⊕ (xm_I) → Prop} {Q : Option Value → xm_H → Prop} (hn : 86 ≤ n) (hq : ∀ p : xm_I, K (.inr p) → Q none (p, L, RC n, n)) (hg0 : ∀ s : Int32 × xm_I, K (.inl s) → xm_J 4 mt_Pl_boundByRounds 17 [(0, .ref 39), (1, .int s.1)] [] (s.2, L, RC n, n) 0 0 Q) (hF : ok (f_Pl_boundByRounds_b81 x1 y1 y2 I) K) : xm_J 4 mt_Pl_boundByRounds 81 [(0, .ref 39), (1, .int x1)] [.int y2, .int y1, .ref 39] (I, L, RC n, n) 0 0 Q := by
  unfold f_Pl_boundByRounds_b81 at hF
  refine r_iadd (i := 47) rfl ?_
  refine q_puti (i := 48) rfl fl_Pl_161 (fun h => Bool.noConfusion h) (xm_in rfl hn) rfl ?_
  refine q_iinc (i := 49) (k0 := 1) (Ls' := [(1, _), (0, _)]) rfl ki_1 rfl (Nat.le_of_ble_eq_true rfl) rfl ?_
  refine r_goto (i := 50) (tgt := 17) rfl (by decide) ?_
  refine xm_sub (Ls' := [(0, _), (1, _)]) [1, 0] rfl ?_
  have hJ := hg0 _ (ok_some hF)
  exact hJ
set_option maxHeartbeats 4000000 in
set_option maxRecDepth 100000 in
theorem t_Pl_boundByRounds_b46 {x1 : Int32} {y1 : Int32} {y2 : Int32} {n : Nat} {I : xm_I} {L : xm_L} {K : (Int32 × xm_I) ⊕ (xm_I) → Prop} {Q : Option Value → xm_H → Prop} (hn : 86 ≤ n) (hq : ∀ p : xm_I, K (.inr p) → Q none (p, L, RC n, n)) (hg0 : ∀ s : Int32 × xm_I, K (.inl s) → xm_J 4 mt_Pl_boundByRounds 17 [(0, .ref 39), (1, .int s.1)] [] (s.2, L, RC n, n) 0 0 Q) (hF : ok (f_Pl_boundByRounds_b46 x1 y1 y2 I) K) : xm_J 4 mt_Pl_boundByRounds 46 [(0, .ref 39), (1, .int x1)] [.int y2, .int y1, .ref 39] (I, L, RC n, n) 0 0 Q := by
  unfold f_Pl_boundByRounds_b46 at hF
  refine r_iadd (i := 27) rfl ?_
  refine q_puti (i := 28) rfl fl_Pl_158 (fun h => Bool.noConfusion h) (xm_in rfl hn) rfl ?_
  refine r_aload_n (i := 29) (k0 := 0) rfl rfl rfl ?_
  refine r_dup (i := 30) rfl rfl ?_
  refine q_geti (i := 31) rfl fl_Pl_161 (xm_in rfl hn) rfl ?_
  refine r_aload_n (i := 32) (k0 := 0) rfl rfl rfl ?_
  refine q_getr (b := 42) (i := 33) rfl fl_Pl_18 rfl (xm_in rfl hn) rfl rfl ?_
  refine r_iload_n (i := 34) (k0 := 1) rfl rfl rfl ?_
  obtain ⟨hi, hF⟩ := ok_gd hF
  refine q_iaload (i := 35) rfl (xm_in rfl hn) rfl hi ?_
  refine r_bipush (v := 8) (i := 36) rfl kb_8 ?_
  refine r_icmpne (i := 37) (tgt := 70) rfl (by decide) (fun hc => ?_) (fun hc => ?_)
  · have hF := ok_if hc hF
    refine r_aload_n (i := 40) (k0 := 0) rfl rfl rfl ?_
    refine r_iload_n (i := 41) (k0 := 1) rfl rfl rfl ?_
    refine r_aload_n (i := 42) (k0 := 0) rfl rfl rfl ?_
    refine q_getr (b := 42) (i := 43) rfl fl_Pl_18 rfl (xm_in rfl hn) rfl rfl ?_
    refine r_iload_n (i := 44) (k0 := 1) rfl rfl rfl ?_
    obtain ⟨hi, hF⟩ := ok_gd hF
    refine q_iaload (i := 45) rfl (xm_in rfl hn) rfl hi ?_
    refine c_V2I (i := 46) rfl vm_Pl_costOf lk_Pl_141 (t_Pl_costOf hn (ok_bind hF)) (Nat.le_of_ble_eq_true rfl) (xm_in rfl hn) rfl rfl (Nat.le_of_ble_eq_true rfl) (fun p_2 hF => ?_)
    exact t_Pl_boundByRounds_b81 hn (fun p h => hq p h) (fun z h => hg0 z h) hF
  have hF := ok_it hc hF
  refine r_iconst (v := 0) (i := 38) rfl ki_0 ?_
  refine r_goto (i := 39) (tgt := 81) rfl (by decide) ?_
  exact t_Pl_boundByRounds_b81 hn (fun p h => hq p h) (fun z h => hg0 z h) hF
set_option maxHeartbeats 4000000 in
set_option maxRecDepth 100000 in
theorem t_Pl_boundByRounds_s17 {s : Int32 × xm_I} {n : Nat} {L : xm_L} {K : (Int32 × xm_I) ⊕ (xm_I) → Prop} {Q : Option Value → xm_H → Prop} (hn : 86 ≤ n) (hq : ∀ p : xm_I, K (.inr p) → Q none (p, L, RC n, n)) (hg0 : ∀ s : Int32 × xm_I, K (.inl s) → xm_J 4 mt_Pl_boundByRounds 17 [(0, .ref 39), (1, .int s.1)] [] (s.2, L, RC n, n) 0 0 Q) (hF : ok (f_Pl_boundByRounds_s17 s) K) : xm_J 4 mt_Pl_boundByRounds 17 [(0, .ref 39), (1, .int s.1)] [] (s.2, L, RC n, n) 0 0 Q := by
  unfold f_Pl_boundByRounds_s17 at hF
  refine r_iload_n (i := 11) (k0 := 1) rfl rfl rfl ?_
  refine r_aload_n (i := 12) (k0 := 0) rfl rfl rfl ?_
  refine q_geti (i := 13) rfl fl_Pl_61 (xm_in rfl hn) rfl ?_
  refine r_icmpge (i := 14) (tgt := 91) rfl (by decide) (fun hc => ?_) (fun hc => ?_)
  · have hF := ok_it hc hF
    have hQ := hq _ (ok_some hF)
    exact r_return (i := 51) rfl rfl hQ
  have hF := ok_if hc hF
  refine r_aload_n (i := 15) (k0 := 0) rfl rfl rfl ?_
  refine r_dup (i := 16) rfl rfl ?_
  refine q_geti (i := 17) rfl fl_Pl_158 (xm_in rfl hn) rfl ?_
  refine r_aload_n (i := 18) (k0 := 0) rfl rfl rfl ?_
  refine q_getr (b := 42) (i := 19) rfl fl_Pl_18 rfl (xm_in rfl hn) rfl rfl ?_
  refine r_iload_n (i := 20) (k0 := 1) rfl rfl rfl ?_
  obtain ⟨hi, hF⟩ := ok_gd hF
  refine q_iaload (i := 21) rfl (xm_in rfl hn) rfl hi ?_
  refine r_bipush (v := 8) (i := 22) rfl kb_8 ?_
  refine r_icmpne (i := 23) (tgt := 45) rfl (by decide) (fun hc => ?_) (fun hc => ?_)
  · have hF := ok_if hc hF
    refine r_iconst (v := 0) (i := 26) rfl ki_0 ?_
    exact t_Pl_boundByRounds_b46 hn (fun p h => hq p h) (fun z h => hg0 z h) hF
  have hF := ok_it hc hF
  refine r_iconst (v := 1) (i := 24) rfl ki_1 ?_
  refine r_goto (i := 25) (tgt := 46) rfl (by decide) ?_
  exact t_Pl_boundByRounds_b46 hn (fun p h => hq p h) (fun z h => hg0 z h) hF
set_option maxHeartbeats 4000000 in
set_option maxRecDepth 100000 in
theorem t_Pl_boundByRounds_b17 {s : Int32 × xm_I} {n : Nat} {L : xm_L} {K : xm_I → Prop} {Q : Option Value → xm_H → Prop} (hn : 86 ≤ n) (hq : ∀ p : xm_I, K p → Q none (p, L, RC n, n)) (hF : ok (f_Pl_boundByRounds_b17 s) K) : xm_J 4 mt_Pl_boundByRounds 17 [(0, .ref 39), (1, .int s.1)] [] (s.2, L, RC n, n) 0 0 Q :=
  lp_J (G := fun z => xm_J 4 mt_Pl_boundByRounds 17 [(0, .ref 39), (1, .int z.1)] [] (z.2, L, RC n, n) 0 0 Q) (fun z hF => t_Pl_boundByRounds_s17 hn (fun p h => hq p h) (fun z h => h) hF) s hF
set_option maxHeartbeats 4000000 in
set_option maxRecDepth 100000 in
theorem t_Pl_boundByRounds_b0 {n : Nat} {I : xm_I} {L : xm_L} {K : xm_I → Prop} {Q : Option Value → xm_H → Prop} (hn : 86 ≤ n) (hq : ∀ p : xm_I, K p → Q none (p, L, RC n, n)) (hF : ok (f_Pl_boundByRounds_b0 I) K) : xm_J 4 mt_Pl_boundByRounds 0 [(0, .ref 39)] [] (I, L, RC n, n) 0 0 Q := by
  unfold f_Pl_boundByRounds_b0 at hF
  refine r_aload_n (i := 0) (k0 := 0) rfl rfl rfl ?_
  refine c_V0I (i := 1) rfl vm_Pl_goRounds lk_Pl_75 (t_Pl_goRounds hn (ok_bind hF)) (Nat.le_of_ble_eq_true rfl) (xm_in rfl hn) rfl rfl (Nat.le_of_ble_eq_true rfl) (fun p_1 hF => ?_)
  refine r_pop (i := 2) rfl rfl ?_
  refine r_aload_n (i := 3) (k0 := 0) rfl rfl rfl ?_
  refine r_iconst (v := 0) (i := 4) rfl ki_0 ?_
  refine q_puti (i := 5) rfl fl_Pl_158 (fun h => Bool.noConfusion h) (xm_in rfl hn) rfl ?_
  refine r_aload_n (i := 6) (k0 := 0) rfl rfl rfl ?_
  refine r_iconst (v := 1) (i := 7) rfl ki_1 ?_
  refine q_puti (i := 8) rfl fl_Pl_161 (fun h => Bool.noConfusion h) (xm_in rfl hn) rfl ?_
  refine r_iconst (v := 0) (i := 9) rfl ki_0 ?_
  refine r_istore_n (i := 10) (Ls' := [(1, _), (0, _)]) rfl rfl (Nat.le_of_ble_eq_true rfl) rfl ?_
  refine xm_sub (Ls' := [(0, _), (1, _)]) [1, 0] rfl ?_
  exact t_Pl_boundByRounds_b17 hn (fun p h => hq p h) hF
set_option maxHeartbeats 4000000 in
set_option maxRecDepth 100000 in
theorem t_Pl_boundByRounds {n : Nat} {I : xm_I} {L : xm_L} {K : xm_I → Prop} (hn : 86 ≤ n) (hF : ok (f_Pl_boundByRounds I) K) : xm_C 4 mt_Pl_boundByRounds [.ref 39] (I, L, RC n, n) 0 0 (pV (fun p : xm_I => (p, L, RC n, n)) K) := by
  unfold f_Pl_boundByRounds at hF
  refine xm_enter (by decide +kernel) dv_Pl_boundByRounds (Nat.le_of_ble_eq_true rfl) ?_
  exact t_Pl_boundByRounds_b0 hn (fun p hp => ⟨p, rfl, rfl, hp⟩) hF
