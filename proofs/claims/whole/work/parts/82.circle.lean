/-! ===== circles ===== -/
def SQ (I : xm_I) (o : Nat) : Int64 := ((CX I o 1 - CX I o 0).toInt64 * (CX I o 1 - CX I o 0).toInt64) + ((CY I o 1 - CY I o 0).toInt64 * (CY I o 1 - CY I o 0).toInt64)
theorem SQ_b {I : xm_I} (hp : IvP I) (o : Nat) : 0 ≤ (SQ I o).toInt ∧ (SQ I o).toInt ≤ 7200000000 := by
  have b0 := CX_b hp o 0
  have b1 := CX_b hp o 1
  have d1 : (CX I o 1 - CX I o 0).toInt64.toInt = (CX I o 1).toInt - (CX I o 0).toInt := by rw [i64of, i32s (by omega)]
  have d2 : (CY I o 1 - CY I o 0).toInt64.toInt = (CY I o 1).toInt - (CY I o 0).toInt := by rw [i64of, i32s (by omega)]
  have m1 := mul_ab (a := (CX I o 1).toInt - (CX I o 0).toInt) (b := (CX I o 1).toInt - (CX I o 0).toInt) (m := 60000) (n := 60000) (by omega) (by omega) (by omega) (by omega)
  have m2 := mul_ab (a := (CY I o 1).toInt - (CY I o 0).toInt) (b := (CY I o 1).toInt - (CY I o 0).toInt) (m := 60000) (n := 60000) (by omega) (by omega) (by omega) (by omega)
  have s1 : 0 ≤ ((CX I o 1).toInt - (CX I o 0).toInt) * ((CX I o 1).toInt - (CX I o 0).toInt) := by
    rcases Int.le_total 0 ((CX I o 1).toInt - (CX I o 0).toInt) with h | h
    · exact Int.mul_nonneg h h
    · exact Int.mul_nonneg_of_nonpos_of_nonpos h h
  have s2 : 0 ≤ ((CY I o 1).toInt - (CY I o 0).toInt) * ((CY I o 1).toInt - (CY I o 0).toInt) := by
    rcases Int.le_total 0 ((CY I o 1).toInt - (CY I o 0).toInt) with h | h
    · exact Int.mul_nonneg h h
    · exact Int.mul_nonneg_of_nonpos_of_nonpos h h
  unfold SQ
  have e1 : ((CX I o 1 - CX I o 0).toInt64 * (CX I o 1 - CX I o 0).toInt64).toInt = ((CX I o 1).toInt - (CX I o 0).toInt) * ((CX I o 1).toInt - (CX I o 0).toInt) := by rw [m64 (by omega) (by omega), d1]
  have e2 : ((CY I o 1 - CY I o 0).toInt64 * (CY I o 1 - CY I o 0).toInt64).toInt = ((CY I o 1).toInt - (CY I o 0).toInt) * ((CY I o 1).toInt - (CY I o 0).toInt) := by rw [m64 (by omega) (by omega), d2]
  rw [i64a (by rw [e1, e2]; omega), e1, e2]
  omega
def nearI (x l r : Int) : Int := if x < l then l - x else if r < x then x - r else 0
def farI (x l r : Int) : Int := if x - l ≤ r - x then r - x else x - l
def roomI (x y l r b t : Int) : Int := min (min (x - l) (r - x)) (min (y - b) (t - y))
def meetI (I : xm_I) (x y S : Int) : Prop := nearI x (I 14 0).toInt (I 14 1).toInt * nearI x (I 14 0).toInt (I 14 1).toInt + nearI y (I 14 2).toInt (I 14 3).toInt * nearI y (I 14 2).toInt (I 14 3).toInt ≤ S ∧ S ≤ farI x (I 14 0).toInt (I 14 1).toInt * farI x (I 14 0).toInt (I 14 1).toInt + farI y (I 14 2).toInt (I 14 3).toInt * farI y (I 14 2).toInt (I 14 3).toInt
def holdI (I : xm_I) (x y S : Int) : Prop := 0 ≤ roomI x y (I 14 0).toInt (I 14 1).toInt (I 14 2).toInt (I 14 3).toInt ∧ S ≤ roomI x y (I 14 0).toInt (I 14 1).toInt (I 14 2).toInt (I 14 3).toInt * roomI x y (I 14 0).toInt (I 14 1).toInt (I 14 2).toInt (I 14 3).toInt
theorem nearI_b {x l r : Int} (hx : -30000 ≤ x ∧ x ≤ 30000) (hl : -40000 ≤ l ∧ l ≤ r ∧ r ≤ 40000) : 0 ≤ nearI x l r ∧ nearI x l r ≤ 100000 := by
  unfold nearI
  split
  · omega
  · split <;> omega
theorem farI_b {x l r : Int} (hx : -30000 ≤ x ∧ x ≤ 30000) (hl : -40000 ≤ l ∧ l ≤ r ∧ r ≤ 40000) : 0 ≤ farI x l r ∧ farI x l r ≤ 100000 := by
  unfold farI
  split <;> omega
theorem sq64 {u v : Int64} {a b : Int} (hu : u.toInt = a) (hv : v.toInt = b) (ha : -100000 ≤ a ∧ a ≤ 100000) (hb : -100000 ≤ b ∧ b ≤ 100000) : ((u * u) + (v * v)).toInt = a * a + b * b := by
  have m1 := mul_ab (a := a) (b := a) (m := 100000) (n := 100000) (by omega) (by omega) (by omega) (by omega)
  have m2 := mul_ab (a := b) (b := b) (m := 100000) (n := 100000) (by omega) (by omega) (by omega) (by omega)
  have e1 : (u * u).toInt = a * a := by rw [m64 (by omega) (by omega), hu]
  have e2 : (v * v).toInt = b * b := by rw [m64 (by omega) (by omega), hv]
  rw [i64a (by rw [e1, e2]; omega), e1, e2]
theorem e_near {x l r : Int32} (hx : -30000 ≤ x.toInt ∧ x.toInt ≤ 30000) (hl : -40000 ≤ l.toInt ∧ l.toInt ≤ r.toInt ∧ r.toInt ≤ 40000) : (mxI 0 (mxI (l - x) (x - r))).toInt = nearI x.toInt l.toInt r.toInt ∧ ∃ v : Int64, f_M_near x.toInt64 l.toInt64 r.toInt64 = some v ∧ v.toInt = nearI x.toInt l.toInt r.toInt := by
  have d1 : (l - x).toInt = l.toInt - x.toInt := i32s (by omega)
  have d2 : (x - r).toInt = x.toInt - r.toInt := i32s (by omega)
  have a1 := mxI_i (l - x) (x - r)
  have a2 := mxI_i 0 (mxI (l - x) (x - r))
  rw [z0] at a2
  have x6 := i64of x
  have l6 := i64of l
  have r6 := i64of r
  constructor
  · unfold nearI
    split
    · omega
    · split <;> omega
  · unfold f_M_near f_M_near_b0 nearI
    simp only [le64, x6, l6, r6]
    (repeat' split)
    all_goals first | (exfalso; omega) | skip
    · exact ⟨0, rfl, by decide⟩
    · exact ⟨x.toInt64 - r.toInt64, rfl, by rw [i64s (by omega), x6, r6]⟩
    · exact ⟨l.toInt64 - x.toInt64, rfl, by rw [i64s (by omega), x6, l6]⟩
theorem e_Jm_abs_I {x : Int32} (h : x.toInt ≠ -2147483648) : ∃ v : Int32, f_Jm_abs_I x = some v ∧ v.toInt = (x.toInt.natAbs : Int) := by
  unfold f_Jm_abs_I f_Jm_abs_I_b0
  by_cases hx : 0 ≤ x
  · rw [if_pos hx]
    rw [le32, z0] at hx
    exact ⟨x, rfl, by omega⟩
  · rw [if_neg hx]
    rw [le32, z0] at hx
    exact ⟨-x, rfl, by rw [i32n h]; omega⟩
theorem e_far {x l r : Int32} (hx : -30000 ≤ x.toInt ∧ x.toInt ≤ 30000) (hl : -40000 ≤ l.toInt ∧ l.toInt ≤ r.toInt ∧ r.toInt ≤ 40000) : (∃ u v : Int32, f_Jm_abs_I (x - l) = some u ∧ f_Jm_abs_I (r - x) = some v ∧ (mxI u v).toInt = farI x.toInt l.toInt r.toInt) ∧ ∃ v : Int64, f_M_far x.toInt64 l.toInt64 r.toInt64 = some v ∧ v.toInt = farI x.toInt l.toInt r.toInt := by
  have d1 : (x - l).toInt = x.toInt - l.toInt := i32s (by omega)
  have d2 : (r - x).toInt = r.toInt - x.toInt := i32s (by omega)
  have x6 := i64of x
  have l6 := i64of l
  have r6 := i64of r
  have s1 : (x.toInt64 - l.toInt64).toInt = x.toInt - l.toInt := by rw [i64s (by omega), x6, l6]
  have s2 : (r.toInt64 - x.toInt64).toInt = r.toInt - x.toInt := by rw [i64s (by omega), x6, r6]
  constructor
  · obtain ⟨u, hu1, hu2⟩ := e_Jm_abs_I (x := x - l) (by omega)
    obtain ⟨v, hv1, hv2⟩ := e_Jm_abs_I (x := r - x) (by omega)
    have a1 := mxI_i u v
    refine ⟨u, v, hu1, hv1, ?_⟩
    unfold farI
    split <;> omega
  · unfold f_M_far f_M_far_b0 farI
    simp only [le64, s1, s2]
    split
    · exact ⟨_, rfl, s2⟩
    · exact ⟨_, rfl, s1⟩
theorem e_meets {I : xm_I} {x y : Int32} {S : Int64} (hW : WB I) (hx : -30000 ≤ x.toInt ∧ x.toInt ≤ 30000) (hy : -30000 ≤ y.toInt ∧ y.toInt ≤ 30000) : ∃ v : Int32, f_Fr_meetsCircle x y S I = some v ∧ ((v = 1 ∧ meetI I x.toInt y.toInt S.toInt) ∨ (v = 0 ∧ ¬ meetI I x.toInt y.toInt S.toInt)) := by
  obtain ⟨w1, w2, _⟩ := hW
  have n1 := (e_near hx w1).1
  have n2 := (e_near hy w2).1
  obtain ⟨⟨u1, v1, f1, f2, f3⟩, _⟩ := e_far hx w1
  obtain ⟨⟨u2, v2, g1, g2, g3⟩, _⟩ := e_far hy w2
  have b1 := nearI_b hx w1
  have b2 := nearI_b hy w2
  have b3 := farI_b hx w1
  have b4 := farI_b hy w2
  unfold f_Fr_meetsCircle f_Fr_meetsCircle_b0
  rw [e_Jm_max_I, f1, f2, g1, g2]
  simp only [Option.bind_some, e_Jm_max_I]
  have q1 := sq64 (a := nearI x.toInt (I 14 0).toInt (I 14 1).toInt) (b := nearI y.toInt (I 14 2).toInt (I 14 3).toInt) (u := (mxI 0 (mxI (I 14 0 - x) (x - I 14 1))).toInt64) (v := (mxI 0 (mxI (I 14 2 - y) (y - I 14 3))).toInt64) (by rw [i64of]; exact n1) (by rw [i64of]; exact n2) (by omega) (by omega)
  have q2 := sq64 (a := farI x.toInt (I 14 0).toInt (I 14 1).toInt) (b := farI y.toInt (I 14 2).toInt (I 14 3).toInt) (u := (mxI u1 v1).toInt64) (v := (mxI u2 v2).toInt64) (by rw [i64of]; exact f3) (by rw [i64of]; exact g3) (by omega) (by omega)
  simp only [lt64, q1, q2]
  unfold meetI
  (repeat' split)
  · exact ⟨0, rfl, Or.inr ⟨rfl, fun h => by have := h.1; omega⟩⟩
  · exact ⟨0, rfl, Or.inr ⟨rfl, fun h => by have := h.2; omega⟩⟩
  · exact ⟨1, rfl, Or.inl ⟨rfl, by omega, by omega⟩⟩
theorem roomI_b {x y l r b t : Int} (hx : -30000 ≤ x ∧ x ≤ 30000) (hy : -30000 ≤ y ∧ y ≤ 30000) (hl : -40000 ≤ l ∧ l ≤ r ∧ r ≤ 40000) (hb : -40000 ≤ b ∧ b ≤ t ∧ t ≤ 40000) : -100000 ≤ roomI x y l r b t ∧ roomI x y l r b t ≤ 100000 := by
  unfold roomI
  omega
theorem e_holdsC {I : xm_I} {x y : Int32} {S : Int64} (hW : WB I) (hx : -30000 ≤ x.toInt ∧ x.toInt ≤ 30000) (hy : -30000 ≤ y.toInt ∧ y.toInt ≤ 30000) : ∃ v : Int32, f_Fr_holdsCircle x y S I = some v ∧ ((v = 1 ∧ holdI I x.toInt y.toInt S.toInt) ∨ (v = 0 ∧ ¬ holdI I x.toInt y.toInt S.toInt)) := by
  obtain ⟨w1, w2, _⟩ := hW
  have d1 : (x - I 14 0).toInt = x.toInt - (I 14 0).toInt := i32s (by omega)
  have d2 : (I 14 1 - x).toInt = (I 14 1).toInt - x.toInt := i32s (by omega)
  have d3 : (y - I 14 2).toInt = y.toInt - (I 14 2).toInt := i32s (by omega)
  have d4 : (I 14 3 - y).toInt = (I 14 3).toInt - y.toInt := i32s (by omega)
  have a1 := mnI_i (x - I 14 0) (I 14 1 - x)
  have a2 := mnI_i (y - I 14 2) (I 14 3 - y)
  have a3 := mnI_i (mnI (x - I 14 0) (I 14 1 - x)) (mnI (y - I 14 2) (I 14 3 - y))
  have rb := roomI_b hx hy w1 w2
  have er : (mnI (mnI (x - I 14 0) (I 14 1 - x)) (mnI (y - I 14 2) (I 14 3 - y))).toInt64.toInt = roomI x.toInt y.toInt (I 14 0).toInt (I 14 1).toInt (I 14 2).toInt (I 14 3).toInt := by
    rw [i64of]
    unfold roomI
    omega
  unfold f_Fr_holdsCircle f_Fr_holdsCircle_b0
  simp only [e_Jm_min_I, Option.bind_some]
  have em : ((mnI (mnI (x - I 14 0) (I 14 1 - x)) (mnI (y - I 14 2) (I 14 3 - y))).toInt64 * (mnI (mnI (x - I 14 0) (I 14 1 - x)) (mnI (y - I 14 2) (I 14 3 - y))).toInt64).toInt = roomI x.toInt y.toInt (I 14 0).toInt (I 14 1).toInt (I 14 2).toInt (I 14 3).toInt * roomI x.toInt y.toInt (I 14 0).toInt (I 14 1).toInt (I 14 2).toInt (I 14 3).toInt := by rw [m64 (by omega) (by omega), er]
  have k0 : (0 : Int64).toInt = 0 := by decide
  simp only [lt64, em, er, k0]
  unfold holdI
  (repeat' split)
  · exact ⟨0, rfl, Or.inr ⟨rfl, fun h => by have := h.1; omega⟩⟩
  · exact ⟨0, rfl, Or.inr ⟨rfl, fun h => by have := h.2; omega⟩⟩
  · exact ⟨1, rfl, Or.inl ⟨rfl, by omega, by omega⟩⟩
/-- the radius on the sheet -/
def radA (I : xm_I) (S : Int64) : Int64 := (((4 * (I 14 9).toInt64) * (I 14 9).toInt64) * S) / ((I 14 10).toInt64 * (I 14 10).toInt64)
noncomputable def RAD (I : xm_I) (S : Int64) : Int32 := Int64.toInt32 (((f_D_squareRoot (radA I S)).getD 0 + 1) / 2)
theorem rad_ok {I : xm_I} {S : Int64} (h : IvW I) (hs : 0 < (I 14 10).toInt) (hS : 0 ≤ S.toInt ∧ S.toInt ≤ 7200000000) : ¬ ((I 14 10).toInt64 * (I 14 10).toInt64) = 0 ∧ ∃ r : Int64, f_D_squareRoot (radA I S) = some r ∧ f_M_root (radA I S) = some r := by
  have hp := h.2.2.2.pos h.2.1
  have k4 : (4 : Int64).toInt = 4 := by decide
  have k0 : (0 : Int64).toInt = 0 := by decide
  have m0 := mul_bd (a := (I 14 10).toInt) (b := (I 14 10).toInt) (m := 80000) (n := 80000) (by omega) (by omega) (by omega) (by omega)
  have dd : ((I 14 10).toInt64 * (I 14 10).toInt64).toInt = (I 14 10).toInt * (I 14 10).toInt := by rw [m64 (by rw [i64of]; omega) (by rw [i64of]; omega), i64of]
  have dpos : 0 < (I 14 10).toInt * (I 14 10).toInt := Int.mul_pos hs hs
  have u1 : (4 * (I 14 9).toInt64).toInt = 4 * (I 14 9).toInt := by rw [m64 (by rw [k4]; omega) (by rw [i64of]; omega), k4, i64of]
  have m1 := mul_bd (a := 4 * (I 14 9).toInt) (b := (I 14 9).toInt) (m := 1600) (n := 400) (by omega) (by omega) (by omega) (by omega)
  have u2 : ((4 * (I 14 9).toInt64) * (I 14 9).toInt64).toInt = 4 * (I 14 9).toInt * (I 14 9).toInt := by rw [m64 (by rw [u1]; omega) (by rw [i64of]; omega), u1, i64of]
  have p1 : 0 ≤ 4 * (I 14 9).toInt * (I 14 9).toInt := Int.mul_nonneg (by omega) (by omega)
  have m2 := mul_bd (a := 4 * (I 14 9).toInt * (I 14 9).toInt) (b := S.toInt) (m := 640000) (n := 7200000000) p1 (by omega) (by omega) (by omega)
  have u3 : (((4 * (I 14 9).toInt64) * (I 14 9).toInt64) * S).toInt = 4 * (I 14 9).toInt * (I 14 9).toInt * S.toInt := by rw [i64m (by rw [u2]; omega), u2]
  have p2 : 0 ≤ 4 * (I 14 9).toInt * (I 14 9).toInt * S.toInt := Int.mul_nonneg p1 hS.1
  refine ⟨by rw [eq64, dd, k0]; omega, ?_⟩
  obtain ⟨N, hN⟩ := Int.eq_ofNat_of_zero_le p2
  obtain ⟨D, hD⟩ := Int.eq_ofNat_of_zero_le (Int.le_of_lt dpos)
  have hq : (radA I S).toInt = ((N / D : Nat) : Int) := q64 (by rw [u3, hN]) (by rw [dd, hD])
  have hle : N / D ≤ N := Nat.div_le_self _ _
  obtain ⟨r, h1, h2, _⟩ := root_same hq (by omega)
  exact ⟨r, h1, h2⟩
noncomputable def resCir (I : xm_I) (o : Nat) : Res := @ite _ (meetI I (CX I o 0).toInt (CY I o 0).toInt (SQ I o).toInt) (Classical.propDecidable _) (some ((67, SX I (CX I o 0).toInt64 1, SY I (CY I o 0).toInt64 1, RAD I (SQ I o), @ite _ (holdI I (CX I o 0).toInt (CY I o 0).toInt (SQ I o).toInt) (Classical.propDecidable _) 0 1, I 8 o), SX I (CX I o 0).toInt64 1, SY I (CY I o 0).toInt64 1 - RAD I (SQ I o))) none
theorem paintCircle {I : xm_I} {s : MS} {d : Anc} {o : Nat} (hp : IvP I) (g : IvF I) (hW : IvW I) (hs : 0 < (I 14 10).toInt) (ho : (o : Int) < (I 6 9).toInt) (h3 : 2 ≤ (I 10 o).toInt) (hC : CM I s) (hD : DA I d) : ok (f_Pn_paintCircle (n32 o) I) (fun J => RC1 I J s d o (resCir I o)) := by
  have g40 := g.1
  have ot : Int32.toNatClampNeg (n32 o) = o := n32n (by omega)
  have hx := vo_n g ho
  obtain ⟨x0, y0, _, _⟩ := xy_n (k := 0) hp g ho (by omega) (by omega)
  obtain ⟨x1, y1, _, _⟩ := xy_n (k := 1) hp g ho (by omega) (by omega)
  have b0 := CX_b hp o 0
  have hst := e_Fg_styleOf hx
  rw [ot] at hst
  have oi : 0 ≤ (n32 o).toInt ∧ (n32 o).toInt < 40 := by rw [n32i (by omega)]; omega
  have sq : f_Fg_squareOfSpan (n32 o) I = some (SQ I o) := by
    unfold f_Fg_squareOfSpan f_Fg_squareOfSpan_b0
    have a0 : f_Fg_xOf (n32 o) 0 I = some (CX I o 0) := x0
    have a1 : f_Fg_xOf (n32 o) 1 I = some (CX I o 1) := x1
    have c0 : f_Fg_yOf (n32 o) 0 I = some (CY I o 0) := y0
    have c1 : f_Fg_yOf (n32 o) 1 I = some (CY I o 1) := y1
    rw [a0, a1, c0, c1]
    rfl
  obtain ⟨v, hv1, hv2⟩ := e_meets (x := CX I o 0) (y := CY I o 0) (S := SQ I o) hW.2.1 b0.1 b0.2
  obtain ⟨w, hw1, hw2⟩ := e_holdsC (x := CX I o 0) (y := CY I o 0) (S := SQ I o) hW.2.1 b0.1 b0.2
  obtain ⟨hne, r, r1, r2⟩ := rad_ok (S := SQ I o) hW hs (SQ_b hp o)
  have len : f_Fr_sheetLength (SQ I o) I = some (RAD I (SQ I o)) := by
    unfold f_Fr_sheetLength f_Fr_sheetLength_b0
    rw [if_pos (by rw [lt32, z0]; exact hs), gd_p _ hne]
    have r1' := r1
    unfold radA at r1'
    rw [r1']
    unfold RAD
    rw [r1]
    rfl
  unfold f_Pn_paintCircle f_Pn_paintCircle_b0 f_Pn_paintCircle_b99 resCir
  refine ok_e x0 (ok_e y0 (ok_e sq (ok_e hv1 ?_)))
  rcases hv2 with ⟨h1, h2⟩ | ⟨h1, h2⟩
  · rw [@if_pos _ (Classical.propDecidable _) h2]
    refine ok_f (by rw [h1]; decide) (ok_e (e_Fr_sheetX hW hs gd1 _) (ok_e (e_Fr_sheetY hW hs gd1 _) (ok_e len (ok_e hw1 ?_))))
    rcases hw2 with ⟨q1, q2⟩ | ⟨q1, q2⟩
    · rw [@if_pos _ (Classical.propDecidable _) q2]
      refine ok_f (by rw [q1]; decide) (ok_e hst ?_)
      have := emitC (x := n32 o) (a := 67) (b := SX I (CX I o 0).toInt64 1) (c := SY I (CY I o 0).toInt64 1) (e := RAD I (SQ I o)) (f := 0) (g := I 8 o) (u := SX I (CX I o 0).toInt64 1) (v := SY I (CY I o 0).toInt64 1 - RAD I (SQ I o)) oi hC hD
      rw [ot] at this
      exact this
    · rw [@if_neg _ (Classical.propDecidable _) q2]
      refine ok_t q1 (ok_e hst ?_)
      have := emitC (x := n32 o) (a := 67) (b := SX I (CX I o 0).toInt64 1) (c := SY I (CY I o 0).toInt64 1) (e := RAD I (SQ I o)) (f := 1) (g := I 8 o) (u := SX I (CX I o 0).toInt64 1) (v := SY I (CY I o 0).toInt64 1 - RAD I (SQ I o)) oi hC hD
      rw [ot] at this
      exact this
  · rw [@if_neg _ (Classical.propDecidable _) h2]
    exact ok_t h1 (ok_s ⟨Fr.refl _ _, hC, hD⟩)
theorem m_circle {I : xm_I} {L : xm_L} {s : MS} {m : Nat} {d : Anc} {o : Nat} (hp : IvP I) (g : IvF I) (hW : IvW I) (hL : HL I L) (hs : 0 < (I 14 10).toInt) (ho : (o : Int) < (I 6 9).toInt) (h3 : 2 ≤ (I 10 o).toInt) (hC : MM I s) (hD : DM I m d) : ok (f_M_drawCircle (n32 o) I L) (fun J => RM1 I J m s d o (resCir I o)) := by
  have g40 := g.1
  have ot : Int32.toNatClampNeg (n32 o) = o := n32n (by omega)
  obtain ⟨_, _, x0, y0⟩ := xy_n (k := 0) hp g ho (by omega) (by omega)
  obtain ⟨_, _, x1, y1⟩ := xy_n (k := 1) hp g ho (by omega) (by omega)
  have b0 := CX_b hp o 0
  have d57 : I 57 = I 8 := g.2.2.1.2.2.2.1
  have oi : 0 ≤ (n32 o).toInt ∧ (n32 o).toInt < 40 := by rw [n32i (by omega)]; omega
  have sq : f_M_squareOf (n32 o) I = some (SQ I o) := by
    unfold f_M_squareOf f_M_squareOf_b0
    have a0 : f_M_cornerX (n32 o) 0 I = some (CX I o 0) := x0
    have a1 : f_M_cornerX (n32 o) 1 I = some (CX I o 1) := x1
    have c0 : f_M_cornerY (n32 o) 0 I = some (CY I o 0) := y0
    have c1 : f_M_cornerY (n32 o) 1 I = some (CY I o 1) := y1
    rw [a0, a1, c0, c1]
    rfl
  obtain ⟨w1, w2, _⟩ := hW.2.1
  obtain ⟨q15, q16, q17, q18, _⟩ := hW.1
  obtain ⟨_, nx, hn1, hn2⟩ := e_near b0.1 w1
  obtain ⟨_, ny, hn3, hn4⟩ := e_near b0.2 w2
  obtain ⟨_, fx, hf1, hf2⟩ := e_far b0.1 w1
  obtain ⟨_, fy, hf3, hf4⟩ := e_far b0.2 w2
  have c1 := nearI_b b0.1 w1
  have c2 := nearI_b b0.2 w2
  have c3 := farI_b b0.1 w1
  have c4 := farI_b b0.2 w2
  have s1 := sq64 hn2 hn4 (by omega) (by omega)
  have s2 := sq64 hf2 hf4 (by omega) (by omega)
  obtain ⟨hne, r, r1, r2⟩ := rad_ok (S := SQ I o) hW hs (SQ_b hp o)
  have eA : ((((4 * SQ I o) * (I 14 9).toInt64) * (I 14 9).toInt64) / ((I 14 10).toInt64 * (I 14 10).toInt64)) = radA I (SQ I o) := by
    unfold radA
    have e : ∀ S u : Int64, ((4 * S) * u) * u = ((4 * u) * u) * S := fun S u => by
      rw [Int64.mul_assoc (4 * S) u u, Int64.mul_assoc 4 S (u * u), Int64.mul_comm S (u * u), ← Int64.mul_assoc 4 (u * u) S, ← Int64.mul_assoc 4 u u]
    rw [e]
  have rb := roomI_b b0.1 b0.2 w1 w2
  have x6 := i64of (CX I o 0)
  have y6 := i64of (CY I o 0)
  have l6 := i64of (I 14 0)
  have r6 := i64of (I 14 1)
  have b6 := i64of (I 14 2)
  have t6 := i64of (I 14 3)
  have e1 : ((CX I o 0).toInt64 - (I 14 0).toInt64).toInt = (CX I o 0).toInt - (I 14 0).toInt := by rw [i64s (by omega), x6, l6]
  have e2 : ((I 14 1).toInt64 - (CX I o 0).toInt64).toInt = (I 14 1).toInt - (CX I o 0).toInt := by rw [i64s (by omega), x6, r6]
  have e3 : ((CY I o 0).toInt64 - (I 14 2).toInt64).toInt = (CY I o 0).toInt - (I 14 2).toInt := by rw [i64s (by omega), y6, b6]
  have e4 : ((I 14 3).toInt64 - (CY I o 0).toInt64).toInt = (I 14 3).toInt - (CY I o 0).toInt := by rw [i64s (by omega), y6, t6]
  have k0 : (0 : Int64).toInt = 0 := by decide
  have last : ∀ p : Int32, meetI I (CX I o 0).toInt (CY I o 0).toInt (SQ I o).toInt → p = @ite _ (holdI I (CX I o 0).toInt (CY I o 0).toInt (SQ I o).toInt) (Classical.propDecidable _) 0 1 → ok (f_M_drawCircle_b242 (n32 o) (CX I o 0).toInt64 (CY I o 0).toInt64 (SQ I o) p I L) (fun J => RM1 I J m s d o (resCir I o)) := by
    intro p hm hpv
    unfold f_M_drawCircle_b242 resCir
    rw [@if_pos _ (Classical.propDecidable _) hm, ← hpv, hL.1, hL.2, eA]
    have eR : RAD I (SQ I o) = Int64.toInt32 ((r + 1) / 2) := by unfold RAD; rw [r1]; rfl
    refine ok_g hne (ok_e r2 (ok_e (e_M_onX hW hL hs gd1 _) (ok_e (e_M_onY hW hL hs gd1 _) (ok_g oi ?_))))
    rw [ot, d57, eR]
    have := emitM (m := m) (x := n32 o) (a := 67) (b := SX I (CX I o 0).toInt64 1) (c := SY I (CY I o 0).toInt64 1) (e := Int64.toInt32 ((r + 1) / 2)) (f := p) (g := I 8 o) (u := SX I (CX I o 0).toInt64 1) (v := SY I (CY I o 0).toInt64 1 - Int64.toInt32 ((r + 1) / 2)) oi hC hD
    rw [ot] at this
    exact this
  have part : ∀ y0' : Int64, y0'.toInt = roomI (CX I o 0).toInt (CY I o 0).toInt (I 14 0).toInt (I 14 1).toInt (I 14 2).toInt (I 14 3).toInt → meetI I (CX I o 0).toInt (CY I o 0).toInt (SQ I o).toInt → ok (f_M_drawCircle_b217 (n32 o) (CX I o 0).toInt64 (CY I o 0).toInt64 (SQ I o) y0' I L) (fun J => RM1 I J m s d o (resCir I o)) := by
    intro z hz hm
    unfold f_M_drawCircle_b217 f_M_drawCircle_b241
    have em : (z * z).toInt = roomI (CX I o 0).toInt (CY I o 0).toInt (I 14 0).toInt (I 14 1).toInt (I 14 2).toInt (I 14 3).toInt * roomI (CX I o 0).toInt (CY I o 0).toInt (I 14 0).toInt (I 14 1).toInt (I 14 2).toInt (I 14 3).toInt := by rw [m64 (by omega) (by omega), hz]
    refine ok_lt6 (fun c => last 1 hm ?_) (fun c => ok_lt6 (fun c' => last 1 hm ?_) (fun c' => last 0 hm ?_))
    · rw [@if_neg _ (Classical.propDecidable _)]
      intro hh
      have := hh.1
      omega
    · rw [@if_neg _ (Classical.propDecidable _)]
      intro hh
      have := hh.2
      omega
    · rw [@if_pos _ (Classical.propDecidable _)]
      exact ⟨by omega, by omega⟩
  have no : ¬ meetI I (CX I o 0).toInt (CY I o 0).toInt (SQ I o).toInt → RM1 I I m s d o (resCir I o) := by
    intro hn
    unfold resCir
    rw [@if_neg _ (Classical.propDecidable _) hn]
    exact ⟨Fr.refl _ _, hC, hD⟩
  unfold f_M_drawCircle f_M_drawCircle_b0 f_M_drawCircle_b159 f_M_drawCircle_b188
  rw [q15, q16, q17, q18]
  refine ok_e x0 (ok_e y0 (ok_e sq (ok_e hn1 (ok_e hn3 (ok_e hf1 (ok_e hf3 ?_))))))
  refine ok_lt6 (fun c => ok_s (no ?_)) (fun ca => ok_le6 (fun cb => ?_) (fun c => ok_s (no ?_)))
  · rw [s1] at c
    intro hh
    have := hh.1
    omega
  · rw [s1] at ca
    rw [s2] at cb
    have hm : meetI I (CX I o 0).toInt (CY I o 0).toInt (SQ I o).toInt := ⟨ca, cb⟩
    refine ok_le6 (fun p1 => ok_le6 (fun p2 => ok_le6 (fun p3 => part _ ?_ hm) (fun p3 => part _ ?_ hm)) (fun p2 => ok_le6 (fun p3 => part _ ?_ hm) (fun p3 => part _ ?_ hm))) (fun p1 => ok_le6 (fun p2 => ok_le6 (fun p3 => part _ ?_ hm) (fun p3 => part _ ?_ hm)) (fun p2 => ok_le6 (fun p3 => part _ ?_ hm) (fun p3 => part _ ?_ hm))) <;> (unfold roomI; omega)
  · rw [s2] at c
    intro hh
    have := hh.2
    omega
