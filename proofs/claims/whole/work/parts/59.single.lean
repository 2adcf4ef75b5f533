/-! ===== places on the sheet; single ===== -/
def tX (I : xm_I) (n d : Int64) : Int64 := (((I 14 4).toInt64 * d) * (I 14 10).toInt64) + (((2 * n) - ((I 14 0 + I 14 1).toInt64 * d)) * (I 14 9).toInt64)
def tY (I : xm_I) (n d : Int64) : Int64 := (((I 14 5).toInt64 * d) * (I 14 10).toInt64) - (((2 * n) - ((I 14 2 + I 14 3).toInt64 * d)) * (I 14 9).toInt64)
def tB (I : xm_I) (d : Int64) : Int64 := (2 * d) * (I 14 10).toInt64
def HL (I : xm_I) (L : xm_L) : Prop := L 49 39 = (I 14 9).toInt64 ∧ L 49 40 = (I 14 10).toInt64
theorem e_Fr_aboveX (I : xm_I) (n d : Int64) : f_Fr_aboveX n d I = some (tX I n d) := rfl
theorem e_Fr_aboveY (I : xm_I) (n d : Int64) : f_Fr_aboveY n d I = some (tY I n d) := rfl
theorem e_Fr_below (I : xm_I) (d : Int64) : f_Fr_below d I = some (tB I d) := rfl
theorem i64p {x y : Int32} (h : -2147483648 ≤ x.toInt + y.toInt ∧ x.toInt + y.toInt ≤ 2147483647) : (x + y).toInt64 = x.toInt64 + y.toInt64 := by
  rw [eq64, i64of, i32a h, i64a (by rw [i64of, i64of]; omega), i64of, i64of]
theorem i64d {x y : Int32} (h : -2147483648 ≤ x.toInt - y.toInt ∧ x.toInt - y.toInt ≤ 2147483647) : (x - y).toInt64 = x.toInt64 - y.toInt64 := by
  rw [eq64, i64of, i32s h, i64s (by rw [i64of, i64of]; omega), i64of, i64of]
theorem e_M_topX {I : xm_I} {L : xm_L} (h : IvW I) (hl : HL I L) (n d : Int64) : f_M_topOn n d 1 I L = some (tX I n d) := by
  obtain ⟨⟨e15, e16, e17, e18, e19, e20, e21, e22, e23⟩, ⟨b1, b2, _⟩, _⟩ := h
  unfold f_M_topOn f_M_topOn_b0 f_M_topOn_b30
  rw [if_neg (by decide), if_neg (by decide), hl.1, hl.2, e15, e16, e19]
  unfold tX
  rw [i64p (by omega)]
theorem e_M_topY {I : xm_I} {L : xm_L} (h : IvW I) (hl : HL I L) (n d : Int64) : f_M_topOn n d 0 I L = some (tY I n d) := by
  obtain ⟨⟨e15, e16, e17, e18, e19, e20, e21, e22, e23⟩, ⟨b1, b2, _⟩, _⟩ := h
  unfold f_M_topOn f_M_topOn_b0 f_M_topOn_b30
  rw [if_pos rfl, if_pos rfl, hl.1, hl.2, e17, e18, e20]
  unfold tY
  rw [i64p (by omega)]
/-- floors -/
def fl (x y : Int64) : Int64 := Int64.ofInt (x.toInt / y.toInt)
theorem fl_eq {r x y : Int64} (h : r.toInt = x.toInt / y.toInt) : r = fl x y := by
  unfold fl
  rw [← h, Int64.ofInt_toInt]
theorem e_Jm_floorDiv_J {x y : Int64} (hy : 0 < y.toInt) : f_Jm_floorDiv_J x y = some (fl x y) := by
  obtain ⟨r, h1, h2⟩ := fd64 (x := x) hy
  rw [h1, fl_eq h2]
theorem e_M_floor {x y : Int64} (hy : 0 < y.toInt) : f_M_floor x y = some (fl x y) := by
  obtain ⟨r, h1, h2⟩ := mf64 (x := x) hy
  rw [h1, fl_eq h2]
theorem fl_i {x y : Int64} (hy : 0 < y.toInt) : (fl x y).toInt = x.toInt / y.toInt := by
  obtain ⟨r, h1, h2⟩ := fd64 (x := x) hy
  rw [← fl_eq h2, h2]
def SX (I : xm_I) (n d : Int64) : Int32 := (fl ((2 * tX I n d) + tB I d) (2 * tB I d)).toInt32
def SY (I : xm_I) (n d : Int64) : Int32 := (fl ((2 * tY I n d) + tB I d) (2 * tB I d)).toInt32
def gdn (d : Int64) : Prop := 1 ≤ d.toInt ∧ d.toInt ≤ 1000000
theorem tB_i {I : xm_I} {d : Int64} (h : IvW I) (hs : 0 < (I 14 10).toInt) (hd : gdn d) : (tB I d).toInt = 2 * d.toInt * (I 14 10).toInt ∧ 0 < (tB I d).toInt ∧ (tB I d).toInt ≤ 160000000000 ∧ (2 * tB I d).toInt = 2 * (tB I d).toInt := by
  have hp := h.2.2.2.pos h.2.1
  have k2 : (2 : Int64).toInt = 2 := by decide
  unfold gdn at hd
  have e1 : (2 * d).toInt = 2 * d.toInt := by rw [i64m (by rw [k2]; omega), k2]
  have hm := mul_bd (a := 2 * d.toInt) (b := (I 14 10).toInt) (m := 2000000) (n := 80000) (by omega) (by omega) (by omega) (by omega)
  have hpos : 0 < 2 * d.toInt * (I 14 10).toInt := Int.mul_pos (by omega) hs
  have e2 : (tB I d).toInt = 2 * d.toInt * (I 14 10).toInt := by
    unfold tB
    rw [i64m (by rw [e1, i64of]; omega), e1, i64of]
  refine ⟨e2, by omega, by omega, ?_⟩
  rw [i64m (by rw [k2]; omega), k2]
theorem e_D_rounded {x y : Int64} (hy : 0 < y.toInt) (h2 : (2 * y).toInt = 2 * y.toInt) : f_D_rounded x y = some (fl ((2 * x) + y) (2 * y)).toInt32 := by
  unfold f_D_rounded f_D_rounded_b0
  rw [if_pos (by rw [lt64]; exact hy), e_Jm_floorDiv_J (by omega)]
  rfl
theorem e_Fr_sheetX {I : xm_I} {d : Int64} (h : IvW I) (hs : 0 < (I 14 10).toInt) (hd : gdn d) (n : Int64) : f_Fr_sheetX n d I = some (SX I n d) := by
  obtain ⟨_, t2, _, t4⟩ := tB_i h hs hd
  unfold f_Fr_sheetX f_Fr_sheetX_b0
  rw [e_Fr_aboveX, e_Fr_below]
  simp only [Option.bind_some]
  rw [e_D_rounded t2 t4]
  rfl
theorem e_Fr_sheetY {I : xm_I} {d : Int64} (h : IvW I) (hs : 0 < (I 14 10).toInt) (hd : gdn d) (n : Int64) : f_Fr_sheetY n d I = some (SY I n d) := by
  obtain ⟨_, t2, _, t4⟩ := tB_i h hs hd
  unfold f_Fr_sheetY f_Fr_sheetY_b0
  rw [e_Fr_aboveY, e_Fr_below]
  simp only [Option.bind_some]
  rw [e_D_rounded t2 t4]
  rfl
theorem e_M_onX {I : xm_I} {L : xm_L} {d : Int64} (h : IvW I) (hl : HL I L) (hs : 0 < (I 14 10).toInt) (hd : gdn d) (n : Int64) : f_M_on n d 1 I L = some (SX I n d) := by
  obtain ⟨_, t2, _, t4⟩ := tB_i h hs hd
  unfold f_M_on f_M_on_b0
  rw [e_M_topX h hl, hl.2]
  simp only [Option.bind_some]
  have e := e_M_floor (x := (2 * tX I n d) + tB I d) (y := 2 * tB I d) (by omega)
  unfold tB at e
  rw [e]
  rfl
theorem e_M_onY {I : xm_I} {L : xm_L} {d : Int64} (h : IvW I) (hl : HL I L) (hs : 0 < (I 14 10).toInt) (hd : gdn d) (n : Int64) : f_M_on n d 0 I L = some (SY I n d) := by
  obtain ⟨_, t2, _, t4⟩ := tB_i h hs hd
  unfold f_M_on f_M_on_b0
  rw [e_M_topY h hl, hl.2]
  simp only [Option.bind_some]
  have e := e_M_floor (x := (2 * tY I n d) + tB I d) (y := 2 * tB I d) (by omega)
  unfold tB at e
  rw [e]
  rfl
theorem e_Pt_xNow_no {I : xm_I} {x : Int32} (h1 : x.toInt < 0) : f_Pt_xNow x I = some 0 := by
  unfold f_Pt_xNow f_Pt_xNow_b0
  rw [e_Pt_has, bi_f (by omega)]
  rfl
theorem e_Pt_yNow_no {I : xm_I} {x : Int32} (h1 : x.toInt < 0) : f_Pt_yNow x I = some 0 := by
  unfold f_Pt_yNow f_Pt_yNow_b0
  rw [e_Pt_has, bi_f (by omega)]
  rfl
/-- a long that is not too far -/
theorem mul_ab {a b m n : Int} (h1 : -m ≤ a) (h2 : a ≤ m) (h3 : -n ≤ b) (h4 : b ≤ n) : -(m * n) ≤ a * b ∧ a * b ≤ m * n := by
  by_cases ha : 0 ≤ a
  · exact mul_bd ha h2 h3 h4
  · have := mul_bd (a := -a) (b := b) (m := m) (n := n) (by omega) (by omega) h3 h4
    have e : -a * b = -(a * b) := Int.neg_mul a b
    omega
theorem tX1_i {I : xm_I} {x : Int32} (h : IvW I) (hx : -30000 ≤ x.toInt ∧ x.toInt ≤ 30000) : -1000000000 ≤ (tX I x.toInt64 1).toInt ∧ (tX I x.toInt64 1).toInt ≤ 1000000000 := by
  have hp := h.2.2.2.pos h.2.1
  obtain ⟨_, ⟨b1, b2, b3, b4, b5⟩, _⟩ := h
  have k2 : (2 : Int64).toInt = 2 := by decide
  unfold tX
  rw [Int64.mul_one, Int64.mul_one]
  have e1 : (2 * x.toInt64).toInt = 2 * x.toInt := by rw [i64m (by rw [k2, i64of]; omega), k2, i64of]
  have e2 : (I 14 0 + I 14 1).toInt64.toInt = (I 14 0).toInt + (I 14 1).toInt := by rw [i64of, i32a (by omega)]
  have e3 : (2 * x.toInt64 - (I 14 0 + I 14 1).toInt64).toInt = 2 * x.toInt - ((I 14 0).toInt + (I 14 1).toInt) := by rw [i64s (by omega), e1, e2]
  have m1 := mul_ab (a := (I 14 4).toInt) (b := (I 14 10).toInt) (m := 400) (n := 80000) (by omega) (by omega) (by omega) (by omega)
  have m2 := mul_ab (a := 2 * x.toInt - ((I 14 0).toInt + (I 14 1).toInt)) (b := (I 14 9).toInt) (m := 140000) (n := 400) (by omega) (by omega) (by omega) (by omega)
  have e4 : ((I 14 4).toInt64 * (I 14 10).toInt64).toInt = (I 14 4).toInt * (I 14 10).toInt := by rw [i64m (by rw [i64of, i64of]; omega), i64of, i64of]
  have e5 : ((2 * x.toInt64 - (I 14 0 + I 14 1).toInt64) * (I 14 9).toInt64).toInt = (2 * x.toInt - ((I 14 0).toInt + (I 14 1).toInt)) * (I 14 9).toInt := by rw [i64m (by rw [e3, i64of]; omega), e3, i64of]
  rw [i64a (by rw [e4, e5]; omega), e4, e5]
  omega
theorem tY1_i {I : xm_I} {x : Int32} (h : IvW I) (hx : -30000 ≤ x.toInt ∧ x.toInt ≤ 30000) : -1000000000 ≤ (tY I x.toInt64 1).toInt ∧ (tY I x.toInt64 1).toInt ≤ 1000000000 := by
  have hp := h.2.2.2.pos h.2.1
  obtain ⟨_, ⟨b1, b2, b3, b4, b5⟩, _⟩ := h
  have k2 : (2 : Int64).toInt = 2 := by decide
  unfold tY
  rw [Int64.mul_one, Int64.mul_one]
  have e1 : (2 * x.toInt64).toInt = 2 * x.toInt := by rw [i64m (by rw [k2, i64of]; omega), k2, i64of]
  have e2 : (I 14 2 + I 14 3).toInt64.toInt = (I 14 2).toInt + (I 14 3).toInt := by rw [i64of, i32a (by omega)]
  have e3 : (2 * x.toInt64 - (I 14 2 + I 14 3).toInt64).toInt = 2 * x.toInt - ((I 14 2).toInt + (I 14 3).toInt) := by rw [i64s (by omega), e1, e2]
  have m1 := mul_ab (a := (I 14 5).toInt) (b := (I 14 10).toInt) (m := 400) (n := 80000) (by omega) (by omega) (by omega) (by omega)
  have m2 := mul_ab (a := 2 * x.toInt - ((I 14 2).toInt + (I 14 3).toInt)) (b := (I 14 9).toInt) (m := 140000) (n := 400) (by omega) (by omega) (by omega) (by omega)
  have e4 : ((I 14 5).toInt64 * (I 14 10).toInt64).toInt = (I 14 5).toInt * (I 14 10).toInt := by rw [i64m (by rw [i64of, i64of]; omega), i64of, i64of]
  have e5 : ((2 * x.toInt64 - (I 14 2 + I 14 3).toInt64) * (I 14 9).toInt64).toInt = (2 * x.toInt - ((I 14 2).toInt + (I 14 3).toInt)) * (I 14 9).toInt := by rw [i64m (by rw [e3, i64of]; omega), e3, i64of]
  rw [i64s (by rw [e4, e5]; omega), e4, e5]
  omega
theorem fl_zero : FP.i2f 0 = FP.fconst0 := by decide +kernel
/-- the two common divisors are one -/
theorem cd_same {x y : Int64} (hx : -1000000000 ≤ x.toInt ∧ x.toInt ≤ 1000000000) (hy : 0 < y.toInt ∧ y.toInt ≤ 160000000000) : ∃ g : Int64, f_D_commonDivisor x y = some g ∧ f_M_common x y = some g ∧ 0 < g.toInt := by
  have hm : x.toInt.natAbs * y.toInt.natAbs < 2 ^ 97 := Nat.lt_of_le_of_lt (Nat.mul_le_mul (show x.toInt.natAbs ≤ 1000000000 by omega) (show y.toInt.natAbs ≤ 160000000000 by omega)) (by decide)
  obtain ⟨g, h1, h2⟩ := e_D_commonDivisor (x := x) (y := y) (by omega) (by omega) hm
  obtain ⟨g', h3, h4⟩ := e_M_common (x := x) (y := y) (by omega) (by omega)
  have e : g' = g := by rw [eq64, h2, h4]
  rw [e] at h3
  refine ⟨g, h1, h3, ?_⟩
  rw [h2]
  have := Nat.gcd_pos_of_pos_right x.toInt.natAbs (show 0 < y.toInt.natAbs by omega)
  omega
theorem si_fin {I J : xm_I} {L : xm_L} {v : Int64} (h : IvW I) (hs : 0 < (I 14 10).toInt) (hv : -1000000000 ≤ v.toInt ∧ v.toInt ≤ 1000000000) (hl : L 49 40 = (I 14 10).toInt64) (eJ : J 14 10 = I 14 10) : ∃ r : UInt32, f_D_single_b110 v J = some (r, J) ∧ (∀ (w c : Int64) (k : Int32) (J' : xm_I), f_M_topOn w c k J' L = some v → f_M_single_b141 w c k J' L = some (r, J', L)) := by
  have g1 : gdn 1 := ⟨by decide, by decide⟩
  obtain ⟨t1, t2, t3, t4⟩ := tB_i (d := 1) h hs g1
  obtain ⟨g, c1, c2, c3⟩ := cd_same (x := v) (y := tB I 1) hv ⟨t2, t3⟩
  have hne : ¬ g = 0 := by
    rw [eq64]
    simp only [Int64.reduceToInt]
    omega
  have eB : tB J 1 = tB I 1 := by unfold tB; rw [eJ]
  refine ⟨FP.fdiv (FP.l2f (v / g)) (FP.l2f (tB I 1 / g)), ?_, ?_⟩
  · unfold f_D_single_b110
    rw [e_Fr_below, eB]
    simp only [Option.bind_some]
    rw [c1]
    simp only [Option.bind_some]
    rw [if_neg (by rw [le64]; simp only [Int64.reduceToInt]; omega), if_pos (by rw [lt64]; simp only [Int64.reduceToInt]; omega), gd_p _ hne, gd_p _ hne]
  · intro w c k J' ht
    unfold f_M_single_b141
    rw [ht, hl]
    simp only [Option.bind_some]
    have e1 : (2 : Int64) * (I 14 10).toInt64 = tB I 1 := rfl
    rw [e1, c2]
    simp only [Option.bind_some]
    rw [gd_p _ hne, gd_p _ hne]
theorem c_single {x y : Int32} {I : xm_I} {L : xm_L} (hP : IvP I) (h : IvW I) : ok (f_D_single x y I) (fun p => xl_sc I p.2 ∧ ok (f_M_single x y p.2 L) (fun q => p.1 = q.1 ∧ (I 0 9 = I 49 38 → q.2.1 0 9 = q.2.1 49 38) ∧ Fr [1009, 50038] I q.2.1 ∧ Fr [50039, 50040] L q.2.2)) := by
  have h4' : (I 49 4).toInt = (I 1 4).toInt := by rw [hP.2.2.1.1]
  have h60 := hP.1
  have k0 := z0
  have k1 := z1
  have k2 := z2
  unfold f_D_single f_D_single_b0 f_M_single f_M_single_b0
  refine ok_e (e_Pt_has _ _) (ok_ib (fun hc => ok_s ⟨⟨rfl, rfl⟩, ok_e (e_M_isPoint _ _) (ok_t ?_ (ok_s ⟨rfl, fun k => k, Fr.refl _ _, Fr.refl _ _⟩))⟩) (fun hc => ?_))
  · rw [bi0]
    show ¬ (0 ≤ x.toInt ∧ x.toInt < (I 49 4).toInt)
    omega
  have hpt : ∀ J : xm_I, J 49 4 = I 49 4 → f_M_isPoint x J = some 1 := fun J eJ => by rw [e_M_isPoint, eJ, bi_t (by omega)]
  refine ok_e (e_D_isWithin _ _ _) (ok_ib (fun hd => ok_s ⟨⟨rfl, rfl⟩, ok_e (hpt I rfl) (ok_f (by decide) (ok_e (e_M_in _ _ _) (ok_t ?_ (ok_s ⟨rfl, fun k => k, Fr.refl _ _, Fr.refl _ _⟩))))⟩) (fun hd => ?_))
  · rw [bi0]
    simp only [Int64.reduceToInt, i64of]
    rw [k0, k2] at hd
    exact hd
  rw [k0, k2] at hd
  have hin : f_M_in y.toInt64 0 2 = some 1 := by
    rw [e_M_in]
    simp only [Int64.reduceToInt, i64of]
    rw [bi_t hd]
  have f2 : Fr [1009, 50038] I (up2 (up2 I 0 9 0) 49 38 0) := Fr.up (Fr.up (Fr.refl _ _) (by decide)) (by decide)
  have hPJ : ∀ c d : Int32, IvP (up2 (up2 I 0 9 c) 49 38 d) := fun c d => hP
  have hWJ : ∀ c d : Int32, IvW (up2 (up2 I 0 9 c) 49 38 d) := fun c d => h
  by_cases h2 : y = 2
  · refine ok_t h2 ?_
    unfold f_D_single_b49
    refine ok_t h2 ?_
    unfold f_Pt_squareFromBefore f_Pt_squareFromBefore_b0
    by_cases hx : 0 < x.toInt
    · have ex : (x - 1).toInt = x.toInt - 1 := by rw [i32s (by omega), k1]
      refine ok_b (ok_e (e_Pt_xNow hc.1 hc.2.1 h60.2) (ok_e (e_Pt_xNow (by omega) (show (x - 1).toInt < (I 1 4).toInt by omega) h60.2) (ok_e (e_Pt_yNow hc.1 hc.2.1 h60.2) (ok_e (e_Pt_yNow (by omega) (show (x - 1).toInt < (I 1 4).toInt by omega) h60.2) (ok_s (ok_s ⟨⟨rfl, rfl⟩, ?_⟩))))))
      unfold f_M_single_b58 f_M_single_b81
      refine ok_e (hpt _ rfl) (ok_f (by decide) (ok_e hin (ok_f (by decide) (ok_t h2 (ok_e (e_M_nowX (hPJ 0 0) hc.1 hc.2.2) (ok_f (by rw [le32]; omega) (ok_e (e_M_nowX (hPJ 0 0) (by omega) (by omega)) (ok_e (e_M_nowY (hPJ 0 0) hc.1 hc.2.2) (ok_f (by rw [le32]; omega) (ok_e (e_M_nowY (hPJ 0 0) (by omega) (by omega)) (ok_s ⟨rfl, fun _ => rfl, f2, Fr.refl _ _⟩)))))))))))
    · have ex : (x - 1).toInt = x.toInt - 1 := by rw [i32s (by omega), k1]
      refine ok_b (ok_e (e_Pt_xNow hc.1 hc.2.1 h60.2) (ok_e (e_Pt_xNow_no (by omega)) (ok_e (e_Pt_yNow hc.1 hc.2.1 h60.2) (ok_e (e_Pt_yNow_no (by omega)) (ok_s (ok_s ⟨⟨rfl, rfl⟩, ?_⟩))))))
      unfold f_M_single_b58 f_M_single_b81
      refine ok_e (hpt _ rfl) (ok_f (by decide) (ok_e hin (ok_f (by decide) (ok_t h2 (ok_e (e_M_nowX (hPJ 0 0) hc.1 hc.2.2) (ok_t (by rw [le32]; omega) (ok_e (e_M_nowY (hPJ 0 0) hc.1 hc.2.2) (ok_t (by rw [le32]; omega) (ok_s ⟨rfl, fun _ => rfl, f2, Fr.refl _ _⟩)))))))))
  · refine ok_f h2 (ok_e (e_Fr_hasScale I) (ok_ib (fun hs => ?_) (fun hs => ?_)))
    · have eM : f_M_hasScale (up2 (up2 I 0 9 6) 49 38 0) L = some (0, L) := by rw [e_M_hasScale (hWJ 6 0) L]; exact if_neg hs
      unfold f_D_endWith f_D_endWith_b0
      refine ok_b (ok_s (ok_s ⟨⟨rfl, rfl⟩, ok_e (hpt _ rfl) (ok_f (by decide) (ok_e hin (ok_f (by decide) (ok_f h2 (ok_e eM (ok_t rfl (ok_s ⟨fl_zero, fun _ => rfl, ?_, Fr.refl _ _⟩)))))))⟩))
      exact Fr.up (Fr.up (Fr.up (Fr.refl _ _) (by decide)) (by decide)) (by decide)
    · have eM : f_M_hasScale (up2 (up2 I 0 9 0) 49 38 0) L = some (1, LSc (up2 (up2 I 0 9 0) 49 38 0) L) := by rw [e_M_hasScale (hWJ 0 0) L]; exact if_pos hs
      have hLf : Fr [50039, 50040] L (LSc (up2 (up2 I 0 9 0) 49 38 0) L) := Fr.up (Fr.up (Fr.refl _ _) (by decide)) (by decide)
      have hHL : HL (up2 (up2 I 0 9 0) 49 38 0) (LSc (up2 (up2 I 0 9 0) 49 38 0) L) := ⟨rfl, rfl⟩
      have t1 := tX1_i (I := I) (x := PX I (Int32.toNatClampNeg x)) h (PX_i hP _).2
      have t2 := tY1_i (I := I) (x := PY I (Int32.toNatClampNeg x)) h (PY_i hP _).2
      unfold f_D_single_b49
      refine ok_f h2 ?_
      unfold f_M_single_b131
      by_cases h0 : y = 0
      · obtain ⟨r, r1, r2⟩ := si_fin (J := up2 I 0 9 0) (L := LSc (up2 (up2 I 0 9 0) 49 38 0) L) h hs t1 rfl rfl
        refine ok_t h0 (ok_e (e_Pt_xNow hc.1 hc.2.1 h60.2) (ok_e (e_Fr_aboveX _ _ _) ⟨_, r1, ⟨rfl, rfl⟩, ?_⟩))
        refine ok_e (hpt _ rfl) (ok_f (by decide) (ok_e hin (ok_f (by decide) (ok_f h2 (ok_e eM (ok_f (by show ¬ (1 : Int32) = 0; decide) (ok_t h0 (ok_e (e_M_nowX (hPJ 0 0) hc.1 hc.2.2) (ok_t h0 ⟨_, r2 _ _ _ _ (e_M_topX (hWJ 0 0) hHL _ _), rfl, fun _ => rfl, f2, hLf⟩)))))))))
      · obtain ⟨r, r1, r2⟩ := si_fin (J := up2 I 0 9 0) (L := LSc (up2 (up2 I 0 9 0) 49 38 0) L) h hs t2 rfl rfl
        refine ok_f h0 (ok_e (e_Pt_yNow hc.1 hc.2.1 h60.2) (ok_e (e_Fr_aboveY _ _ _) ⟨_, r1, ⟨rfl, rfl⟩, ?_⟩))
        refine ok_e (hpt _ rfl) (ok_f (by decide) (ok_e hin (ok_f (by decide) (ok_f h2 (ok_e eM (ok_f (by show ¬ (1 : Int32) = 0; decide) (ok_f h0 (ok_e (e_M_nowY (hPJ 0 0) hc.1 hc.2.2) (ok_f h0 ⟨_, r2 _ _ _ _ (e_M_topY (hWJ 0 0) hHL _ _), rfl, fun _ => rfl, f2, hLf⟩)))))))))
