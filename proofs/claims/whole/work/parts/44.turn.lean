/-! ===== a turn, and all turns ===== -/
def xl_all (I : xm_I) (L : xm_L) (n : Nat) (i : Int32) (G : xm_I → xm_L → Nat → Prop) : Prop := sp_0 I L n i G ∧ sp_1 I L n i G ∧ sp_2 I L n i G ∧ sp_3 I L n i G ∧ sp_4 I L n i G ∧ sp_5 I L n i G ∧ sp_6 I L n i G ∧ sp_7 I L n i G ∧ sp_8 I L n i G ∧ sp_9 I L n i G ∧ sp_10 I L n i G ∧ sp_11 I L n i G ∧ sp_12 I L n i G ∧ sp_13 I L n i G ∧ sp_14 I L n i G ∧ sp_15 I L n i G ∧ sp_16 I L n i G ∧ sp_17 I L n i G ∧ sp_18 I L n i G ∧ sp_19 I L n i G ∧ sp_20 I L n i G ∧ sp_21 I L n i G ∧ sp_22 I L n i G ∧ sp_23 I L n i G ∧ sp_24 I L n i G ∧ sp_25 I L n i G ∧ sp_26 I L n i G ∧ sp_27 I L n i G ∧ sp_28 I L n i G ∧ sp_29 I L n i G ∧ sp_30 I L n i G ∧ sp_31 I L n i G ∧ sp_32 I L n i G ∧ sp_33 I L n i G ∧ sp_34 I L n i G ∧ sp_35 I L n i G ∧ sp_36 I L n i G
set_option maxHeartbeats 4000000 in
set_option maxRecDepth 100000 in
theorem law_turn {d kc ks n : Nat} {I : xm_I} {L : xm_L} {i : Int32} {Q : Option Value → xm_H → Prop} {G : xm_I → xm_L → Nat → Prop} (hd : 14 ≤ d) (hn : 86 ≤ n) (hn9 : n ≤ 900) (hz : Fz I L (RC n) n) (hin : xl_in I i) (hG : G I L n) (H : xl_all I L n i G) (kk : ∀ I' L' n', G I' L' n' → xm_J d mt_W_law 1371 (xl_L i) [] (I', L', RC n', n') kc ks Q) : xm_J d mt_W_law 26 (xl_L i) [] (I, L, RC n, n) (kc + 8) (ks + 221) Q := by
  have kk8 : ∀ I' L' n', G I' L' n' → xm_J d mt_W_law 1371 (xl_L i) [] (I', L', RC n', n') (kc + 8) (ks + 221) Q := fun I' L' n' h => xm_less (Nat.le_add_right _ _) (Nat.le_add_right _ _) (kk I' L' n' h)
  unfold xl_all at H
  refine r_aload_n (i := 16) (k0 := 3) rfl rfl rfl ?_
  refine r_iload_n (i := 17) (k0 := 0) rfl rfl rfl ?_
  refine r_ialoadS (i := 18) rfl (by have := hin 0 (by decide) (by decide); rwa [Int32.add_zero] at this) ?_
  refine r_bipush (v := 63) (i := 19) rfl (by decide) ?_
  refine r_iand (i := 20) rfl ?_
  generalize I 1000000 i.toNatClampNeg &&& 63 = x
  refine r_case 0 (fun _ => ?_) (fun hc0 => ?_)
  · refine r_tsIn (i := 21) (tgt := 196) rfl (by decide) (by decide) rfl (by decide) ?_
    exact law_0 hd hn hin H.1 kk8
  refine r_case 1 (fun _ => ?_) (fun hc1 => ?_)
  · refine r_tsIn (i := 21) (tgt := 229) rfl (by decide) (by decide) rfl (by decide) ?_
    exact law_1 hd hn hin H.2.1 kk8
  refine r_case 2 (fun _ => ?_) (fun hc2 => ?_)
  · refine r_tsIn (i := 21) (tgt := 272) rfl (by decide) (by decide) rfl (by decide) ?_
    exact law_2 hd hn hin H.2.2.1 kk8
  refine r_case 3 (fun _ => ?_) (fun hc3 => ?_)
  · refine r_tsIn (i := 21) (tgt := 295) rfl (by decide) (by decide) rfl (by decide) ?_
    exact law_3 hd hn hin H.2.2.2.1 kk8
  refine r_case 4 (fun _ => ?_) (fun hc4 => ?_)
  · refine r_tsIn (i := 21) (tgt := 328) rfl (by decide) (by decide) rfl (by decide) ?_
    exact law_4 hd hn hin H.2.2.2.2.1 kk8
  refine r_case 5 (fun _ => ?_) (fun hc5 => ?_)
  · refine r_tsIn (i := 21) (tgt := 381) rfl (by decide) (by decide) rfl (by decide) ?_
    exact law_5 hd hn hin H.2.2.2.2.2.1 kk8
  refine r_case 6 (fun _ => ?_) (fun hc6 => ?_)
  · refine r_tsIn (i := 21) (tgt := 404) rfl (by decide) (by decide) rfl (by decide) ?_
    exact law_6 hd hn hin H.2.2.2.2.2.2.1 kk8
  refine r_case 7 (fun _ => ?_) (fun hc7 => ?_)
  · refine r_tsIn (i := 21) (tgt := 417) rfl (by decide) (by decide) rfl (by decide) ?_
    exact law_7 hd hn hin H.2.2.2.2.2.2.2.1 kk8
  refine r_case 8 (fun _ => ?_) (fun hc8 => ?_)
  · refine r_tsIn (i := 21) (tgt := 450) rfl (by decide) (by decide) rfl (by decide) ?_
    exact law_8 hd hn hin H.2.2.2.2.2.2.2.2.1 kk8
  refine r_case 9 (fun _ => ?_) (fun hc9 => ?_)
  · refine r_tsIn (i := 21) (tgt := 499) rfl (by decide) (by decide) rfl (by decide) ?_
    exact law_9 hd hn hin H.2.2.2.2.2.2.2.2.2.1 kk8
  refine r_case 10 (fun _ => ?_) (fun hc10 => ?_)
  · refine r_tsIn (i := 21) (tgt := 522) rfl (by decide) (by decide) rfl (by decide) ?_
    exact law_10 hd hn hin H.2.2.2.2.2.2.2.2.2.2.1 kk8
  refine r_case 11 (fun _ => ?_) (fun hc11 => ?_)
  · refine r_tsIn (i := 21) (tgt := 546) rfl (by decide) (by decide) rfl (by decide) ?_
    exact law_11 hd hn hin H.2.2.2.2.2.2.2.2.2.2.2.1 kk8
  refine r_case 12 (fun _ => ?_) (fun hc12 => ?_)
  · refine r_tsIn (i := 21) (tgt := 599) rfl (by decide) (by decide) rfl (by decide) ?_
    exact law_12 hd hn hin H.2.2.2.2.2.2.2.2.2.2.2.2.1 kk8
  refine r_case 13 (fun _ => ?_) (fun hc13 => ?_)
  · refine r_tsIn (i := 21) (tgt := 612) rfl (by decide) (by decide) rfl (by decide) ?_
    exact law_13 hd hn hin H.2.2.2.2.2.2.2.2.2.2.2.2.2.1 kk8
  refine r_case 14 (fun _ => ?_) (fun hc14 => ?_)
  · refine r_tsIn (i := 21) (tgt := 635) rfl (by decide) (by decide) rfl (by decide) ?_
    exact law_14 hd hn hin H.2.2.2.2.2.2.2.2.2.2.2.2.2.2.1 kk8
  refine r_case 15 (fun _ => ?_) (fun hc15 => ?_)
  · refine r_tsIn (i := 21) (tgt := 678) rfl (by decide) (by decide) rfl (by decide) ?_
    exact law_15 hd hn hin H.2.2.2.2.2.2.2.2.2.2.2.2.2.2.2.1 kk8
  refine r_case 16 (fun _ => ?_) (fun hc16 => ?_)
  · refine r_tsIn (i := 21) (tgt := 701) rfl (by decide) (by decide) rfl (by decide) ?_
    exact law_16 hd hn hin H.2.2.2.2.2.2.2.2.2.2.2.2.2.2.2.2.1 kk8
  refine r_case 17 (fun _ => ?_) (fun hc17 => ?_)
  · refine r_tsIn (i := 21) (tgt := 724) rfl (by decide) (by decide) rfl (by decide) ?_
    exact law_17 hd hn hin H.2.2.2.2.2.2.2.2.2.2.2.2.2.2.2.2.2.1 kk8
  refine r_case 18 (fun _ => ?_) (fun hc18 => ?_)
  · refine r_tsIn (i := 21) (tgt := 763) rfl (by decide) (by decide) rfl (by decide) ?_
    exact law_18 hd hn hin H.2.2.2.2.2.2.2.2.2.2.2.2.2.2.2.2.2.2.1 kk8
  refine r_case 19 (fun _ => ?_) (fun hc19 => ?_)
  · refine r_tsIn (i := 21) (tgt := 826) rfl (by decide) (by decide) rfl (by decide) ?_
    exact law_19 hd hn hn9 hz hin H.2.2.2.2.2.2.2.2.2.2.2.2.2.2.2.2.2.2.2.1 kk
  refine r_case 20 (fun _ => ?_) (fun hc20 => ?_)
  · refine r_tsIn (i := 21) (tgt := 859) rfl (by decide) (by decide) rfl (by decide) ?_
    exact law_20 hd hn hin H.2.2.2.2.2.2.2.2.2.2.2.2.2.2.2.2.2.2.2.2.1 kk8
  refine r_case 21 (fun _ => ?_) (fun hc21 => ?_)
  · refine r_tsIn (i := 21) (tgt := 912) rfl (by decide) (by decide) rfl (by decide) ?_
    exact law_21 hd hn hin H.2.2.2.2.2.2.2.2.2.2.2.2.2.2.2.2.2.2.2.2.2.1 kk8
  refine r_case 22 (fun _ => ?_) (fun hc22 => ?_)
  · refine r_tsIn (i := 21) (tgt := 955) rfl (by decide) (by decide) rfl (by decide) ?_
    exact law_22 hd hn hin H.2.2.2.2.2.2.2.2.2.2.2.2.2.2.2.2.2.2.2.2.2.2.1 kk8
  refine r_case 23 (fun _ => ?_) (fun hc23 => ?_)
  · refine r_tsIn (i := 21) (tgt := 978) rfl (by decide) (by decide) rfl (by decide) ?_
    exact law_23 hd hn hin H.2.2.2.2.2.2.2.2.2.2.2.2.2.2.2.2.2.2.2.2.2.2.2.1 kk8
  refine r_case 24 (fun _ => ?_) (fun hc24 => ?_)
  · refine r_tsIn (i := 21) (tgt := 1021) rfl (by decide) (by decide) rfl (by decide) ?_
    exact law_24 hd hn hin H.2.2.2.2.2.2.2.2.2.2.2.2.2.2.2.2.2.2.2.2.2.2.2.2.1 kk8
  refine r_case 25 (fun _ => ?_) (fun hc25 => ?_)
  · refine r_tsIn (i := 21) (tgt := 1054) rfl (by decide) (by decide) rfl (by decide) ?_
    exact law_25 hd hn hin H.2.2.2.2.2.2.2.2.2.2.2.2.2.2.2.2.2.2.2.2.2.2.2.2.2.1 kk8
  refine r_case 26 (fun _ => ?_) (fun hc26 => ?_)
  · refine r_tsIn (i := 21) (tgt := 1067) rfl (by decide) (by decide) rfl (by decide) ?_
    exact law_26 hd hn hin H.2.2.2.2.2.2.2.2.2.2.2.2.2.2.2.2.2.2.2.2.2.2.2.2.2.2.1 kk8
  refine r_case 27 (fun _ => ?_) (fun hc27 => ?_)
  · refine r_tsIn (i := 21) (tgt := 1100) rfl (by decide) (by decide) rfl (by decide) ?_
    exact law_27 hd hn hin H.2.2.2.2.2.2.2.2.2.2.2.2.2.2.2.2.2.2.2.2.2.2.2.2.2.2.2.1 kk8
  refine r_case 28 (fun _ => ?_) (fun hc28 => ?_)
  · refine r_tsIn (i := 21) (tgt := 1123) rfl (by decide) (by decide) rfl (by decide) ?_
    exact law_28 hd hn hin H.2.2.2.2.2.2.2.2.2.2.2.2.2.2.2.2.2.2.2.2.2.2.2.2.2.2.2.2.1 kk8
  refine r_case 29 (fun _ => ?_) (fun hc29 => ?_)
  · refine r_tsIn (i := 21) (tgt := 1146) rfl (by decide) (by decide) rfl (by decide) ?_
    exact law_29 hd hn hin H.2.2.2.2.2.2.2.2.2.2.2.2.2.2.2.2.2.2.2.2.2.2.2.2.2.2.2.2.2.1 kk8
  refine r_case 30 (fun _ => ?_) (fun hc30 => ?_)
  · refine r_tsIn (i := 21) (tgt := 1159) rfl (by decide) (by decide) rfl (by decide) ?_
    exact law_30 hd hn hin H.2.2.2.2.2.2.2.2.2.2.2.2.2.2.2.2.2.2.2.2.2.2.2.2.2.2.2.2.2.2.1 kk8
  refine r_case 31 (fun _ => ?_) (fun hc31 => ?_)
  · refine r_tsIn (i := 21) (tgt := 1182) rfl (by decide) (by decide) rfl (by decide) ?_
    exact law_31 hd hn hin H.2.2.2.2.2.2.2.2.2.2.2.2.2.2.2.2.2.2.2.2.2.2.2.2.2.2.2.2.2.2.2.1 kk8
  refine r_case 32 (fun _ => ?_) (fun hc32 => ?_)
  · refine r_tsIn (i := 21) (tgt := 1195) rfl (by decide) (by decide) rfl (by decide) ?_
    exact law_32 hd hn hin H.2.2.2.2.2.2.2.2.2.2.2.2.2.2.2.2.2.2.2.2.2.2.2.2.2.2.2.2.2.2.2.2.1 kk8
  refine r_case 33 (fun _ => ?_) (fun hc33 => ?_)
  · refine r_tsIn (i := 21) (tgt := 1238) rfl (by decide) (by decide) rfl (by decide) ?_
    exact law_33 hd hn hin H.2.2.2.2.2.2.2.2.2.2.2.2.2.2.2.2.2.2.2.2.2.2.2.2.2.2.2.2.2.2.2.2.2.1 kk8
  refine r_case 34 (fun _ => ?_) (fun hc34 => ?_)
  · refine r_tsIn (i := 21) (tgt := 1281) rfl (by decide) (by decide) rfl (by decide) ?_
    exact law_34 hd hn hin H.2.2.2.2.2.2.2.2.2.2.2.2.2.2.2.2.2.2.2.2.2.2.2.2.2.2.2.2.2.2.2.2.2.2.1 kk8
  refine r_case 35 (fun _ => ?_) (fun hc35 => ?_)
  · refine r_tsIn (i := 21) (tgt := 1314) rfl (by decide) (by decide) rfl (by decide) ?_
    exact law_35 hd hn hin H.2.2.2.2.2.2.2.2.2.2.2.2.2.2.2.2.2.2.2.2.2.2.2.2.2.2.2.2.2.2.2.2.2.2.2.1 kk8
  refine r_case 36 (fun _ => ?_) (fun hc36 => ?_)
  · refine r_tsIn (i := 21) (tgt := 1347) rfl (by decide) (by decide) rfl (by decide) ?_
    exact law_36 hd hn hin H.2.2.2.2.2.2.2.2.2.2.2.2.2.2.2.2.2.2.2.2.2.2.2.2.2.2.2.2.2.2.2.2.2.2.2.2 kk8
  refine r_tsOut (i := 21) (tgt := 1371) rfl (by have e0 := lv_neT hc0 (a := 0) (by decide); have e1 := lv_neT hc1 (a := 1) (by decide); have e2 := lv_neT hc2 (a := 2) (by decide); have e3 := lv_neT hc3 (a := 3) (by decide); have e4 := lv_neT hc4 (a := 4) (by decide); have e5 := lv_neT hc5 (a := 5) (by decide); have e6 := lv_neT hc6 (a := 6) (by decide); have e7 := lv_neT hc7 (a := 7) (by decide); have e8 := lv_neT hc8 (a := 8) (by decide); have e9 := lv_neT hc9 (a := 9) (by decide); have e10 := lv_neT hc10 (a := 10) (by decide); have e11 := lv_neT hc11 (a := 11) (by decide); have e12 := lv_neT hc12 (a := 12) (by decide); have e13 := lv_neT hc13 (a := 13) (by decide); have e14 := lv_neT hc14 (a := 14) (by decide); have e15 := lv_neT hc15 (a := 15) (by decide); have e16 := lv_neT hc16 (a := 16) (by decide); have e17 := lv_neT hc17 (a := 17) (by decide); have e18 := lv_neT hc18 (a := 18) (by decide); have e19 := lv_neT hc19 (a := 19) (by decide); have e20 := lv_neT hc20 (a := 20) (by decide); have e21 := lv_neT hc21 (a := 21) (by decide); have e22 := lv_neT hc22 (a := 22) (by decide); have e23 := lv_neT hc23 (a := 23) (by decide); have e24 := lv_neT hc24 (a := 24) (by decide); have e25 := lv_neT hc25 (a := 25) (by decide); have e26 := lv_neT hc26 (a := 26) (by decide); have e27 := lv_neT hc27 (a := 27) (by decide); have e28 := lv_neT hc28 (a := 28) (by decide); have e29 := lv_neT hc29 (a := 29) (by decide); have e30 := lv_neT hc30 (a := 30) (by decide); have e31 := lv_neT hc31 (a := 31) (by decide); have e32 := lv_neT hc32 (a := 32) (by decide); have e33 := lv_neT hc33 (a := 33) (by decide); have e34 := lv_neT hc34 (a := 34) (by decide); have e35 := lv_neT hc35 (a := 35) (by decide); have e36 := lv_neT hc36 (a := 36) (by decide); omega) (by decide) ?_
  exact kk8 _ _ _ hG
theorem xl_up {i : Int32} (h0 : 0 ≤ i.toInt) (h1 : i.toInt ≤ 3000) (j : Int32) (hj0 : 0 ≤ j.toInt) (hj : j.toInt ≤ 5) : (i + j).toInt = i.toInt + j.toInt := by
  rw [Int32.toInt_add]
  exact Int.bmod_eq_of_le (by omega) (by omega)
set_option maxHeartbeats 4000000 in
set_option maxRecDepth 100000 in
theorem law_loop {d : Nat} {len : Int32} {G : xm_I → xm_L → Nat → Prop} (hd : 14 ≤ d) (hl0 : 0 ≤ len.toInt) (hl1 : len.toInt ≤ 2560) (hG : ∀ I L n, G I L n → 86 ≤ n ∧ n ≤ 900 ∧ Fz I L (RC n) n ∧ I 1000001 0 = len) (hA : ∀ I L n i, G I L n → xl_in I i → xl_all I L n i G) :
    ∀ (t : Nat) (i : Int32) (I : xm_I) (L : xm_L) (n : Nat), G I L n → 0 ≤ i.toInt → i.toInt ≤ 2600 → len.toInt ≤ i.toInt + 5 * (t : Int) + 4 → xm_J d mt_W_law 18 (xl_L i) [] (I, L, RC n, n) (8 * t) (221 * t) (fun v _ => v = some (.int 1)) := by
  intro t
  induction t with
  | zero =>
    intro i I L n g h0 h1 h2
    obtain ⟨g1, g2, g3, g4⟩ := hG _ _ _ g
    refine r_iload_n (i := 10) (k0 := 0) rfl rfl rfl ?_
    refine r_aload_n (i := 11) (k0 := 3) rfl rfl rfl ?_
    refine r_lenS (i := 12) rfl ?_
    refine r_iconst (v := 5) (i := 13) rfl ki_5 ?_
    refine r_isub (i := 14) rfl ?_
    refine r_icmpgt (i := 15) (tgt := 1377) rfl (by decide) (fun _ => ?_) (fun hc => ?_)
    · refine r_iconst (v := 1) (i := 947) rfl ki_1 ?_
      exact r_ireturn (i := 948) rfl rfl rfl rfl
    · exfalso
      apply hc
      have e : (I 1000001 0 - 5).toInt = len.toInt - 5 := by
        rw [g4, Int32.toInt_sub]
        exact Int.bmod_eq_of_le (by have : (5 : Int32).toInt = 5 := by decide
                                    omega) (by have : (5 : Int32).toInt = 5 := by decide
                                               omega)
      rw [Int32.lt_iff_toInt_lt]
      show (I 1000001 0 - 5).toInt < i.toInt
      omega
  | succ t ih =>
    intro i I L n g h0 h1 h2
    obtain ⟨g1, g2, g3, g4⟩ := hG _ _ _ g
    have e : (I 1000001 0 - 5).toInt = len.toInt - 5 := by
      rw [g4, Int32.toInt_sub]
      exact Int.bmod_eq_of_le (by have : (5 : Int32).toInt = 5 := by decide
                                  omega) (by have : (5 : Int32).toInt = 5 := by decide
                                             omega)
    refine r_iload_n (i := 10) (k0 := 0) rfl rfl rfl ?_
    refine r_aload_n (i := 11) (k0 := 3) rfl rfl rfl ?_
    refine r_lenS (i := 12) rfl ?_
    refine r_iconst (v := 5) (i := 13) rfl ki_5 ?_
    refine r_isub (i := 14) rfl ?_
    refine r_icmpgt (i := 15) (tgt := 1377) rfl (by decide) (fun _ => ?_) (fun hc => ?_)
    · refine r_iconst (v := 1) (i := 947) rfl ki_1 ?_
      exact r_ireturn (i := 948) rfl rfl rfl rfl
    · have hle : i.toInt ≤ len.toInt - 5 := by
        rw [Int32.lt_iff_toInt_lt] at hc
        have : ¬ ((I 1000001 0 - 5).toInt < i.toInt) := hc
        omega
      have hin : xl_in I i := by
        intro j hj0 hj
        rw [xl_up h0 (by omega) j hj0 (by omega), g4]
        omega
      refine law_turn (kc := 8 * t) (ks := 221 * t) hd g1 g2 g3 hin g (hA _ _ _ _ g hin) (fun I' L' n' g' => ?_)
      refine r_iinc (i := 945) (k0 := 0) (v := i + 5) (Ls' := xl_L (i + 5)) rfl rfl (by rfl) (Nat.le_of_ble_eq_true rfl) rfl ?_
      refine r_goto (i := 946) (tgt := 18) rfl (by decide) ?_
      have e5 := xl_up h0 (by omega) 5 (by decide) (by decide)
      have k5 : (5 : Int32).toInt = 5 := by decide
      exact ih (i + 5) I' L' n' g' (by omega) (by omega) (by omega)
