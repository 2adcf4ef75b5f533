/-! ===== the reference's grid ===== -/
def WS : List Nat := [71, 50049, 50050, 50061, 50062, 50063, 50064]
set_option maxRecDepth 100000 in
theorem dWS : ∀ x ∈ STC, x ∉ WS := by decide
theorem g64_s {lo hi g : Int} {k : Nat} {G : Int64} (hg : 0 < g) (hg4 : g ≤ 40000) (hG : G.toInt = g) (hlo : -40000 ≤ lo ∧ lo ≤ 40000) (hhi : hi ≤ 40000) (hk : k < mulN lo hi g) : g64 lo g k + G = g64 lo g (k + 1) := by
  have hb := (mulN_lt (a := lo) (b := hi) hg k).mp hk
  have hm := mulF_b (a := lo) hg
  have hp : 0 ≤ (k : Int) * g := Int.mul_nonneg (by omega) (by omega)
  have e : ((k + 1 : Nat) : Int) * g = k * g + g := by
    have : ((k + 1 : Nat) : Int) = (k : Int) + 1 := by omega
    rw [this, Int.add_mul, Int.one_mul]
  have i1 := g64_i (lo := lo) (g := g) (k := k) (by omega)
  have i2 := g64_i (lo := lo) (g := g) (k := k + 1) (by rw [e]; omega)
  rw [eq64, i2, i64a (by omega), i1, hG, e]
  omega
set_option maxRecDepth 100000 in
theorem mgrid_h {n : Nat} {I0 I : xm_I} {L : xm_L} {s : MS} {c : Int64} (hst : Sta n I0 I) (hL : HL I0 L) (hs : 0 < (I0 14 10).toInt) (hg : 0 < (I0 14 7).toInt) (hc : c = g64 (I0 14 2).toInt (I0 14 7).toInt 0) (hM : MM I s) : ok (lp (f_M_drawGrid_s90 L) (c, I)) (fun J => Fr WS I J ∧ MM J (ems s (ghs I0))) := by
  have hW := hst.1.2.2.1
  have b0 : I 49 15 = I0 14 0 := by rw [hW.1.1]; exact hst.2 14 0 (by decide)
  have b1 : I 49 16 = I0 14 1 := by rw [hW.1.2.1]; exact hst.2 14 1 (by decide)
  have b3 : I 49 18 = I0 14 3 := by rw [hW.1.2.2.2.1]; exact hst.2 14 3 (by decide)
  have b7 : I 49 22 = I0 14 7 := by rw [hW.1.2.2.2.2.2.2.2.1]; exact hst.2 14 7 (by decide)
  have wb : WB I0 := by
    have := hW.2.1
    unfold WB at this ⊢
    rw [hst.2 14 0 (by decide), hst.2 14 1 (by decide), hst.2 14 2 (by decide), hst.2 14 3 (by decide), hst.2 14 4 (by decide), hst.2 14 5 (by decide), hst.2 14 6 (by decide)] at this
    exact this
  obtain ⟨w1, w2, _⟩ := wb
  have hg4 : (I0 14 7).toInt ≤ 40000 := by
    have := hW.2.2.1.1.2
    rw [hst.2 14 7 (by decide)] at this
    exact this
  subst hc
  have gl : (ghs I0).length = mulN (I0 14 2).toInt (I0 14 3).toInt (I0 14 7).toInt := by unfold ghs; rw [List.length_map, List.length_range]
  refine lp_inv (fun st => ∃ k : Nat, k ≤ mulN (I0 14 2).toInt (I0 14 3).toInt (I0 14 7).toInt ∧ st.1 = g64 (I0 14 2).toInt (I0 14 7).toInt k ∧ Fr WS I st.2 ∧ MM st.2 (ems s ((ghs I0).take k))) (fun st => (100000 - st.1.toInt).toNat) _ ?_ _ ⟨0, by omega, rfl, Fr.refl _ _, hM⟩
  rintro ⟨x, J⟩ ⟨k, hk, e1, e2, e3⟩
  simp only at e1 e2 e3
  subst e1
  have hm := mulF_b (a := (I0 14 2).toInt) hg
  have hlt := mulN_lt (a := (I0 14 2).toInt) (b := (I0 14 3).toInt) hg k
  have hp : 0 ≤ (k : Int) * (I0 14 7).toInt := Int.mul_nonneg (by omega) (by omega)
  have hkb : mulF (I0 14 2).toInt (I0 14 7).toInt + k * (I0 14 7).toInt ≤ 200000 := by
    by_cases hk0 : k = 0
    · subst hk0
      have : ((0 : Nat) : Int) * (I0 14 7).toInt = 0 := Int.zero_mul _
      omega
    · have h2 := (mulN_lt (a := (I0 14 2).toInt) (b := (I0 14 3).toInt) hg (k - 1)).mp (by omega)
      have e : (k : Int) * (I0 14 7).toInt = ((k - 1 : Nat) : Int) * (I0 14 7).toInt + (I0 14 7).toInt := by
        have : (k : Int) = ((k - 1 : Nat) : Int) + 1 := by omega
        rw [this, Int.add_mul, Int.one_mul]
      omega
  have xi := g64_i (lo := (I0 14 2).toInt) (g := (I0 14 7).toInt) (k := k) (by omega)
  have c18 : J 49 18 = I0 14 3 := by rw [e2 49 18 (by decide), b3]
  have c15 : J 49 15 = I0 14 0 := by rw [e2 49 15 (by decide), b0]
  have c16 : J 49 16 = I0 14 1 := by rw [e2 49 16 (by decide), b1]
  unfold f_M_drawGrid_s90
  dsimp only
  refine ok_lt6 (fun hc => ok_s ⟨e2, ?_⟩) (fun hc => ?_)
  · rw [c18, i64of, xi] at hc
    have e : k = mulN (I0 14 2).toInt (I0 14 3).toInt (I0 14 7).toInt := by omega
    rw [e, ← gl, List.take_length] at e3
    exact e3
  · rw [c18, i64of, xi] at hc
    have hk' : k < mulN (I0 14 2).toInt (I0 14 3).toInt (I0 14 7).toInt := hlt.mpr hc
    have hJs : Sta n I0 J := hst.of e2 dWS
    refine ok_b (ok_mono (m_stroke hJs hL hs gd1 gd1 gd1 gd1 e3) (fun K hK => ok_s ⟨⟨k + 1, by omega, ?_, e2.trans hK.1, ?_⟩, ?_⟩))
    · show g64 _ _ k + (K 49 22).toInt64 = _
      refine g64_s (hi := (I0 14 3).toInt) hg hg4 ?_ (by omega) (by omega) hk'
      rw [hK.1 49 22 (by decide), e2 49 22 (by decide), b7, i64of]
    · have hK2 := hK.2.1
      rw [c15, c16] at hK2
      have ht : (ghs I0).take (k + 1) = (ghs I0).take k ++ [ghm I0 (g64 (I0 14 2).toInt (I0 14 7).toInt k)] := by
        unfold ghs
        exact rg_take _ _ _ hk'
      rw [ht, ems_app]
      exact hK2
    · show (100000 - (g64 _ _ k + (K 49 22).toInt64).toInt).toNat < (100000 - (g64 _ _ k).toInt).toNat
      have hG : (K 49 22).toInt64.toInt = (I0 14 7).toInt := by rw [hK.1 49 22 (by decide), e2 49 22 (by decide), b7, i64of]
      rw [i64a (by omega), hG, xi]
      omega
set_option maxRecDepth 100000 in
theorem m_drawGrid {n : Nat} {I0 I : xm_I} {L : xm_L} {s : MS} (hst : Sta n I0 I) (hL : HL I0 L) (hs : 0 < (I0 14 10).toInt) (hM : MM I s) : ok (f_M_drawGrid I L) (fun J => Fr WS I J ∧ MM J (ems s (gridL I0))) := by
  have hW := hst.1.2.2.1
  have b0 : I 49 15 = I0 14 0 := by rw [hW.1.1]; exact hst.2 14 0 (by decide)
  have b1 : I 49 16 = I0 14 1 := by rw [hW.1.2.1]; exact hst.2 14 1 (by decide)
  have b2 : I 49 17 = I0 14 2 := by rw [hW.1.2.2.1]; exact hst.2 14 2 (by decide)
  have b3 : I 49 18 = I0 14 3 := by rw [hW.1.2.2.2.1]; exact hst.2 14 3 (by decide)
  have b7 : I 49 22 = I0 14 7 := by rw [hW.1.2.2.2.2.2.2.2.1]; exact hst.2 14 7 (by decide)
  have wb : WB I0 := by
    have := hW.2.1
    unfold WB at this ⊢
    rw [hst.2 14 0 (by decide), hst.2 14 1 (by decide), hst.2 14 2 (by decide), hst.2 14 3 (by decide), hst.2 14 4 (by decide), hst.2 14 5 (by decide), hst.2 14 6 (by decide)] at this
    exact this
  obtain ⟨w1, w2, _⟩ := wb
  have hg4 : 0 ≤ (I0 14 7).toInt ∧ (I0 14 7).toInt ≤ 40000 := by
    have := hW.2.2.1.1
    rw [hst.2 14 7 (by decide)] at this
    exact this
  unfold f_M_drawGrid f_M_drawGrid_b0 f_M_drawGrid_b28 gridL
  refine ok_iq (fun hc => ?_) (fun hc => ?_)
  · rw [b7, z0] at hc
    rw [if_neg (by omega)]
    exact ok_s ⟨Fr.refl _ _, hM⟩
  · rw [b7, z0] at hc
    have hg : 0 < (I0 14 7).toInt := by omega
    rw [if_pos hg, ems_app]
    obtain ⟨r, hr1, hr2⟩ := e_M_ceiling (a := (I 49 15).toInt64) (g := (I 49 22).toInt64) (by rw [b0, i64of]; omega) (by rw [b7, i64of]; omega)
    refine ok_e hr1 ?_
    dsimp only
    rw [b0, b7, i64of, i64of] at hr2
    have m0 := mulF_b (a := (I0 14 0).toInt) hg
    have m2 := mulF_b (a := (I0 14 2).toInt) hg
    have zk : ((0 : Nat) : Int) * (I0 14 7).toInt = 0 := Int.zero_mul _
    have start : (I 49 22).toInt64 * r = g64 (I0 14 0).toInt (I0 14 7).toInt 0 := by
      rw [b7, eq64, hr2, g64_i (by omega)]
      omega
    rw [start]
    have gl : (gvs I0).length = mulN (I0 14 0).toInt (I0 14 1).toInt (I0 14 7).toInt := by unfold gvs; rw [List.length_map, List.length_range]
    refine lp_inv (fun st => ∃ k : Nat, k ≤ mulN (I0 14 0).toInt (I0 14 1).toInt (I0 14 7).toInt ∧ st.1 = g64 (I0 14 0).toInt (I0 14 7).toInt k ∧ Fr WS I st.2 ∧ MM st.2 (ems s ((gvs I0).take k))) (fun st => (100000 - st.1.toInt).toNat) _ ?_ _ ⟨0, by omega, rfl, Fr.refl _ _, hM⟩
    rintro ⟨x, J⟩ ⟨k, hk, e1, e2, e3⟩
    simp only at e1 e2 e3
    subst e1
    have hlt := mulN_lt (a := (I0 14 0).toInt) (b := (I0 14 1).toInt) hg k
    have hp : 0 ≤ (k : Int) * (I0 14 7).toInt := Int.mul_nonneg (by omega) (by omega)
    have hkb : mulF (I0 14 0).toInt (I0 14 7).toInt + k * (I0 14 7).toInt ≤ 200000 := by
      by_cases hk0 : k = 0
      · subst hk0
        omega
      · have h2 := (mulN_lt (a := (I0 14 0).toInt) (b := (I0 14 1).toInt) hg (k - 1)).mp (by omega)
        have e : (k : Int) * (I0 14 7).toInt = ((k - 1 : Nat) : Int) * (I0 14 7).toInt + (I0 14 7).toInt := by
          have : (k : Int) = ((k - 1 : Nat) : Int) + 1 := by omega
          rw [this, Int.add_mul, Int.one_mul]
        omega
    have xi := g64_i (lo := (I0 14 0).toInt) (g := (I0 14 7).toInt) (k := k) (by omega)
    have c16 : J 49 16 = I0 14 1 := by rw [e2 49 16 (by decide), b1]
    have c17 : J 49 17 = I0 14 2 := by rw [e2 49 17 (by decide), b2]
    have c18 : J 49 18 = I0 14 3 := by rw [e2 49 18 (by decide), b3]
    have c22 : J 49 22 = I0 14 7 := by rw [e2 49 22 (by decide), b7]
    have hJs : Sta n I0 J := hst.of e2 dWS
    unfold f_M_drawGrid_s28 f_M_drawGrid_b90
    dsimp only
    refine ok_lt6 (fun hc => ?_) (fun hc => ?_)
    · rw [c16, i64of, xi] at hc
      have e : k = mulN (I0 14 0).toInt (I0 14 1).toInt (I0 14 7).toInt := by omega
      rw [e, ← gl, List.take_length] at e3
      obtain ⟨r2, hq1, hq2⟩ := e_M_ceiling (a := (J 49 17).toInt64) (g := (J 49 22).toInt64) (by rw [c17, i64of]; omega) (by rw [c22, i64of]; omega)
      refine ok_e hq1 ?_
      rw [c17, c22, i64of, i64of] at hq2
      have start2 : (J 49 22).toInt64 * r2 = g64 (I0 14 2).toInt (I0 14 7).toInt 0 := by
        rw [c22, eq64, hq2, g64_i (by omega)]
        omega
      exact ok_m (ok_mono (mgrid_h hJs hL hs hg start2 e3) fun K hK => ⟨e2.trans hK.1, hK.2⟩)
    · rw [c16, i64of, xi] at hc
      have hk' : k < mulN (I0 14 0).toInt (I0 14 1).toInt (I0 14 7).toInt := hlt.mpr hc
      refine ok_b (ok_mono (m_stroke hJs hL hs gd1 gd1 gd1 gd1 e3) (fun K hK => ok_s ⟨⟨k + 1, by omega, ?_, e2.trans hK.1, ?_⟩, ?_⟩))
      · show g64 _ _ k + (K 49 22).toInt64 = _
        refine g64_s (hi := (I0 14 1).toInt) hg hg4.2 ?_ (by omega) (by omega) hk'
        rw [hK.1 49 22 (by decide), c22, i64of]
      · have hK2 := hK.2.1
        rw [c17, c18] at hK2
        have ht : (gvs I0).take (k + 1) = (gvs I0).take k ++ [gvm I0 (g64 (I0 14 0).toInt (I0 14 7).toInt k)] := by
          unfold gvs
          exact rg_take _ _ _ hk'
        rw [ht, ems_app]
        exact hK2
      · show (100000 - (g64 _ _ k + (K 49 22).toInt64).toInt).toNat < (100000 - (g64 _ _ k).toInt).toNat
        have hG : (K 49 22).toInt64.toInt = (I0 14 7).toInt := by rw [hK.1 49 22 (by decide), c22, i64of]
        rw [i64a (by omega), hG, xi]
        omega
