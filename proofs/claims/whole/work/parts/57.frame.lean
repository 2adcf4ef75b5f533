/-! ===== the window, the sheet, the scale ===== -/
def SC (I : xm_I) : Prop :=
  ((I 14 0).toInt < (I 14 1).toInt ∧ (I 14 2).toInt < (I 14 3).toInt ∧ ∃ n m : Nat, (((((I 14 4).toInt - 2 * (I 14 6).toInt) * ((I 14 3).toInt - (I 14 2).toInt) ≤ ((I 14 5).toInt - 2 * (I 14 6).toInt) * ((I 14 1).toInt - (I 14 0).toInt)) ∧ (n : Int) = (I 14 4).toInt - 2 * (I 14 6).toInt ∧ (m : Int) = (I 14 1).toInt - (I 14 0).toInt) ∨ (¬ (((I 14 4).toInt - 2 * (I 14 6).toInt) * ((I 14 3).toInt - (I 14 2).toInt) ≤ ((I 14 5).toInt - 2 * (I 14 6).toInt) * ((I 14 1).toInt - (I 14 0).toInt)) ∧ (n : Int) = (I 14 5).toInt - 2 * (I 14 6).toInt ∧ (m : Int) = (I 14 3).toInt - (I 14 2).toInt)) ∧ (I 14 9).toInt = ((n / Nat.gcd n m : Nat) : Int) ∧ (I 14 10).toInt = ((m / Nat.gcd n m : Nat) : Int)) ∨
  (¬ ((I 14 0).toInt < (I 14 1).toInt ∧ (I 14 2).toInt < (I 14 3).toInt) ∧ I 14 9 = 0 ∧ I 14 10 = 0)
def WB (I : xm_I) : Prop := (-40000 ≤ (I 14 0).toInt ∧ (I 14 0).toInt ≤ (I 14 1).toInt ∧ (I 14 1).toInt ≤ 40000) ∧ (-40000 ≤ (I 14 2).toInt ∧ (I 14 2).toInt ≤ (I 14 3).toInt ∧ (I 14 3).toInt ≤ 40000) ∧ (16 ≤ (I 14 4).toInt ∧ (I 14 4).toInt ≤ 400) ∧ (16 ≤ (I 14 5).toInt ∧ (I 14 5).toInt ≤ 400) ∧ (0 ≤ (I 14 6).toInt ∧ (I 14 6).toInt ≤ 7)
def IvW (I : xm_I) : Prop :=
  (I 49 15 = I 14 0 ∧ I 49 16 = I 14 1 ∧ I 49 17 = I 14 2 ∧ I 49 18 = I 14 3 ∧ I 49 19 = I 14 4 ∧ I 49 20 = I 14 5 ∧ I 49 21 = I 14 6 ∧ I 49 22 = I 14 7 ∧ I 49 23 = I 14 8) ∧ WB I ∧ ((0 ≤ (I 14 7).toInt ∧ (I 14 7).toInt ≤ 40000) ∧ (10 ≤ (I 14 8).toInt ∧ (I 14 8).toInt ≤ 1000)) ∧ SC I
theorem IvW.ag {I I' : xm_I} (h : IvW I) (g : Ag [15000, 15001, 15002, 15003, 15004, 15005, 15006, 15007, 15008, 15009, 15010, 50015, 50016, 50017, 50018, 50019, 50020, 50021, 50022, 50023] I I') : IvW I' := by
  have a0 := g 14 0 (by decide)
  have a1 := g 14 1 (by decide)
  have a2 := g 14 2 (by decide)
  have a3 := g 14 3 (by decide)
  have a4 := g 14 4 (by decide)
  have a5 := g 14 5 (by decide)
  have a6 := g 14 6 (by decide)
  have a7 := g 14 7 (by decide)
  have a8 := g 14 8 (by decide)
  have a9 := g 14 9 (by decide)
  have a10 := g 14 10 (by decide)
  have b15 := g 49 15 (by decide)
  have b16 := g 49 16 (by decide)
  have b17 := g 49 17 (by decide)
  have b18 := g 49 18 (by decide)
  have b19 := g 49 19 (by decide)
  have b20 := g 49 20 (by decide)
  have b21 := g 49 21 (by decide)
  have b22 := g 49 22 (by decide)
  have b23 := g 49 23 (by decide)
  unfold IvW WB SC
  rw [a0, a1, a2, a3, a4, a5, a6, a7, a8, a9, a10, b15, b16, b17, b18, b19, b20, b21, b22, b23]
  exact h
theorem dvn {x y : Int32} {a b : Nat} (hx : x.toInt = (a : Int)) (hy : y.toInt = (b : Int)) : (x / y).toInt = ((a / b : Nat) : Int) := by
  rw [Int32.toInt_div, hx, hy, ← Int.ofNat_tdiv]
  have h1 := i32r x
  have h2 : a / b ≤ a := Nat.div_le_self a b
  generalize a / b = z at *
  exact Int.bmod_eq_of_le (by omega) (by omega)
theorem rescale_ok {J : xm_I} (hb : WB J) : ok (f_Fr_rescale J) (fun J' => Fr [15009, 15010] J J' ∧ SC J') := by
  obtain ⟨b1, b2, b3, b4, b5⟩ := hb
  have k0 := z0
  have k2 := z2
  have e2m : (2 * J 14 6).toInt = 2 * (J 14 6).toInt := by rw [i32m (by rw [k2]; omega), k2]
  have x1 : (J 14 4 - 2 * J 14 6).toInt = (J 14 4).toInt - 2 * (J 14 6).toInt := by rw [i32s (by omega), e2m]
  have x2 : (J 14 1 - J 14 0).toInt = (J 14 1).toInt - (J 14 0).toInt := i32s (by omega)
  have x3 : (J 14 5 - 2 * J 14 6).toInt = (J 14 5).toInt - 2 * (J 14 6).toInt := by rw [i32s (by omega), e2m]
  have x4 : (J 14 3 - J 14 2).toInt = (J 14 3).toInt - (J 14 2).toInt := i32s (by omega)
  have deg : ¬ ((J 14 0).toInt < (J 14 1).toInt ∧ (J 14 2).toInt < (J 14 3).toInt) → Fr [15009, 15010] J (up2 (up2 J 14 9 0) 14 10 0) ∧ SC (up2 (up2 J 14 9 0) 14 10 0) := by
    intro hn
    refine ⟨Fr.up (Fr.up (Fr.refl _ _) (by decide)) (by decide), Or.inr ⟨hn, rfl, rfl⟩⟩
  have fin : ∀ (xn xd : Int32) (n m : Nat), xn.toInt = (n : Int) → xd.toInt = (m : Int) → 0 < n → n ≤ 400 → 0 < m → m ≤ 80000 → (J 14 0).toInt < (J 14 1).toInt → (J 14 2).toInt < (J 14 3).toInt → (((((J 14 4).toInt - 2 * (J 14 6).toInt) * ((J 14 3).toInt - (J 14 2).toInt) ≤ ((J 14 5).toInt - 2 * (J 14 6).toInt) * ((J 14 1).toInt - (J 14 0).toInt)) ∧ (n : Int) = (J 14 4).toInt - 2 * (J 14 6).toInt ∧ (m : Int) = (J 14 1).toInt - (J 14 0).toInt) ∨ (¬ (((J 14 4).toInt - 2 * (J 14 6).toInt) * ((J 14 3).toInt - (J 14 2).toInt) ≤ ((J 14 5).toInt - 2 * (J 14 6).toInt) * ((J 14 1).toInt - (J 14 0).toInt)) ∧ (n : Int) = (J 14 5).toInt - 2 * (J 14 6).toInt ∧ (m : Int) = (J 14 3).toInt - (J 14 2).toInt)) → ok (f_Fr_rescale_b110 xn xd (up2 (up2 J 14 9 0) 14 10 0)) (fun J' => Fr [15009, 15010] J J' ∧ SC J') := by
    intro xn xd n m hn hm n0 n4 m0 m8 hl hb' hc
    unfold f_Fr_rescale_b110
    have n6 : xn.toInt64.toInt = (n : Int) := by rw [i64of, hn]
    have m6 : xd.toInt64.toInt = (m : Int) := by rw [i64of, hm]
    have gp : 0 < Nat.gcd n m := Nat.gcd_pos_of_pos_left m n0
    have gl : Nat.gcd n m ≤ n := Nat.gcd_le_left m n0
    have bound : xn.toInt64.toInt.natAbs * xd.toInt64.toInt.natAbs < 2 ^ 97 := by
      rw [n6, m6, Int.natAbs_natCast, Int.natAbs_natCast]
      exact Nat.lt_of_le_of_lt (Nat.mul_le_mul n4 m8) (by decide)
    refine ok_b (ok_mono (e_D_commonDivisor (by omega) (by omega) bound) (fun p hp => ?_))
    rw [n6, m6, Int.natAbs_natCast, Int.natAbs_natCast] at hp
    have p3 : p.toInt32.toInt = ((Nat.gcd n m : Nat) : Int) := by rw [i32of (by omega), hp]
    have hne : ¬ p.toInt32 = 0 := by rw [eq32, p3, k0]; omega
    refine ok_le (fun hh => ?_) (fun _ => ok_g hne (ok_g hne (ok_s ?_)))
    · exfalso
      rw [p3, k0] at hh
      omega
    · refine ⟨Fr.up (Fr.up (Fr.up (Fr.up (Fr.refl _ _) (by decide)) (by decide)) (by decide)) (by decide), Or.inl ⟨hl, hb', n, m, hc, ?_, ?_⟩⟩
      · exact dvn hn p3
      · exact dvn hm p3
  unfold f_Fr_rescale f_Fr_rescale_b0
  dsimp only
  refine ok_le (fun h1 => ?_) (fun h1 => ?_)
  · rw [x2, k0] at h1
    exact ok_s (deg (by omega))
  · rw [x2, k0] at h1
    refine ok_lt (fun h2 => ?_) (fun h2 => ?_)
    · rw [x4, k0] at h2
      have y1 := i64of (J 14 4 - 2 * J 14 6)
      have y2 := i64of (J 14 1 - J 14 0)
      have y3 := i64of (J 14 5 - 2 * J 14 6)
      have y4 := i64of (J 14 3 - J 14 2)
      have w1 := mul_bd (a := (J 14 5).toInt - 2 * (J 14 6).toInt) (b := (J 14 1).toInt - (J 14 0).toInt) (m := 400) (n := 80000) (by omega) (by omega) (by omega) (by omega)
      have w2 := mul_bd (a := (J 14 4).toInt - 2 * (J 14 6).toInt) (b := (J 14 3).toInt - (J 14 2).toInt) (m := 400) (n := 80000) (by omega) (by omega) (by omega) (by omega)
      have m1 : ((J 14 5 - 2 * J 14 6).toInt64 * (J 14 1 - J 14 0).toInt64).toInt = ((J 14 5).toInt - 2 * (J 14 6).toInt) * ((J 14 1).toInt - (J 14 0).toInt) := by rw [i64m (by rw [y3, y2, x3, x2]; omega), y3, y2, x3, x2]
      have m2 : ((J 14 4 - 2 * J 14 6).toInt64 * (J 14 3 - J 14 2).toInt64).toInt = ((J 14 4).toInt - 2 * (J 14 6).toInt) * ((J 14 3).toInt - (J 14 2).toInt) := by rw [i64m (by rw [y1, y4, x1, x4]; omega), y1, y4, x1, x4]
      refine ok_lt6 (fun h3 => ?_) (fun h3 => ?_)
      · rw [m1, m2] at h3
        unfold f_Fr_rescale_b85 f_Fr_rescale_b97
        refine ok_t rfl (ok_t rfl (fin _ _ ((J 14 5).toInt - 2 * (J 14 6).toInt).toNat ((J 14 3).toInt - (J 14 2).toInt).toNat (by rw [x3]; omega) (by rw [x4]; omega) (by omega) (by omega) (by omega) (by omega) (by omega) (by omega) (Or.inr ⟨by omega, by omega, by omega⟩)))
      · rw [m1, m2] at h3
        unfold f_Fr_rescale_b85 f_Fr_rescale_b97
        refine ok_f (by decide) (ok_f (by decide) (fin _ _ ((J 14 4).toInt - 2 * (J 14 6).toInt).toNat ((J 14 1).toInt - (J 14 0).toInt).toNat (by rw [x1]; omega) (by rw [x2]; omega) (by omega) (by omega) (by omega) (by omega) (by omega) (by omega) (Or.inl ⟨by omega, by omega, by omega⟩)))
    · rw [x4, k0] at h2
      exact ok_s (deg (by omega))
/-- what the scale is -/
theorem SC.pos {I : xm_I} (h : SC I) (hb : WB I) : ((I 14 0).toInt < (I 14 1).toInt ∧ (I 14 2).toInt < (I 14 3).toInt ∧ (1 ≤ (I 14 9).toInt ∧ (I 14 9).toInt ≤ 400) ∧ (1 ≤ (I 14 10).toInt ∧ (I 14 10).toInt ≤ 80000)) ∨ (¬ ((I 14 0).toInt < (I 14 1).toInt ∧ (I 14 2).toInt < (I 14 3).toInt) ∧ (I 14 9).toInt = 0 ∧ (I 14 10).toInt = 0) := by
  obtain ⟨b1, b2, b3, b4, b5⟩ := hb
  rcases h with ⟨h1, h2, n, m, h3, h4, h5⟩ | ⟨h1, h2, h3⟩
  · left
    have n0 : 0 < n := by omega
    have m0 : 0 < m := by omega
    have q1 : 0 < n / Nat.gcd n m := Nat.div_pos (Nat.gcd_le_left m n0) (Nat.gcd_pos_of_pos_left m n0)
    have q2 : 0 < m / Nat.gcd n m := Nat.div_pos (Nat.gcd_le_right n m0) (Nat.gcd_pos_of_pos_left m n0)
    have q3 := Nat.div_le_self n (Nat.gcd n m)
    have q4 := Nat.div_le_self m (Nat.gcd n m)
    rw [h4, h5]
    generalize n / Nat.gcd n m = u at *
    generalize m / Nat.gcd n m = v at *
    refine ⟨h1, h2, ?_, ?_⟩ <;> omega
  · right
    rw [h2, h3]
    exact ⟨h1, rfl, rfl⟩
theorem e_Fr_hasScale (I : xm_I) : f_Fr_hasScale I = some (bi (0 < (I 14 10).toInt)) := by
  unfold f_Fr_hasScale f_Fr_hasScale_b0
  simp only [lt32, le32, Int32.reduceToInt]
  (repeat' split) <;> first | rw [bi_t (by omega)] | rw [bi_f (by omega)]
/-- the reference's longs of the scale -/
def LSc (I : xm_I) (L : xm_L) : xm_L := up2 (up2 L 49 39 (I 14 9).toInt64) 49 40 (I 14 10).toInt64
theorem e_M_hasScale {I : xm_I} (h : IvW I) (L : xm_L) : f_M_hasScale I L = if 0 < (I 14 10).toInt then some (1, LSc I L) else some (0, L) := by
  obtain ⟨⟨e15, e16, e17, e18, e19, e20, e21, e22, e23⟩, hb, _, hs⟩ := h
  have hp := hs.pos hb
  obtain ⟨b1, b2, b3, b4, b5⟩ := hb
  have k2 := z2
  unfold f_M_hasScale f_M_hasScale_b0
  rw [e15, e16, e17, e18, e19, e20, e21]
  dsimp only
  rcases hs with ⟨h1, h2, n, m, h3, h4, h5⟩ | ⟨h1, h2, h3⟩
  · have hd : 0 < (I 14 10).toInt := by omega
    rw [if_pos hd, if_neg (by rw [eq32]; omega), if_neg (by rw [eq32]; omega)]
    have e2m : (2 * I 14 6).toInt = 2 * (I 14 6).toInt := by rw [i32m (by rw [k2]; omega), k2]
    have x1 : (I 14 4 - 2 * I 14 6).toInt = (I 14 4).toInt - 2 * (I 14 6).toInt := by rw [i32s (by omega), e2m]
    have x2 : (I 14 1 - I 14 0).toInt = (I 14 1).toInt - (I 14 0).toInt := i32s (by omega)
    have x3 : (I 14 5 - 2 * I 14 6).toInt = (I 14 5).toInt - 2 * (I 14 6).toInt := by rw [i32s (by omega), e2m]
    have x4 : (I 14 3 - I 14 2).toInt = (I 14 3).toInt - (I 14 2).toInt := i32s (by omega)
    have y1 := i64of (I 14 4 - 2 * I 14 6)
    have y2 := i64of (I 14 1 - I 14 0)
    have y3 := i64of (I 14 5 - 2 * I 14 6)
    have y4 := i64of (I 14 3 - I 14 2)
    have w1 := mul_bd (a := (I 14 5).toInt - 2 * (I 14 6).toInt) (b := (I 14 1).toInt - (I 14 0).toInt) (m := 400) (n := 80000) (by omega) (by omega) (by omega) (by omega)
    have w2 := mul_bd (a := (I 14 4).toInt - 2 * (I 14 6).toInt) (b := (I 14 3).toInt - (I 14 2).toInt) (m := 400) (n := 80000) (by omega) (by omega) (by omega) (by omega)
    have m1 : ((I 14 5 - 2 * I 14 6).toInt64 * (I 14 1 - I 14 0).toInt64).toInt = ((I 14 5).toInt - 2 * (I 14 6).toInt) * ((I 14 1).toInt - (I 14 0).toInt) := by rw [i64m (by rw [y3, y2, x3, x2]; omega), y3, y2, x3, x2]
    have m2 : ((I 14 4 - 2 * I 14 6).toInt64 * (I 14 3 - I 14 2).toInt64).toInt = ((I 14 4).toInt - 2 * (I 14 6).toInt) * ((I 14 3).toInt - (I 14 2).toInt) := by rw [i64m (by rw [y1, y4, x1, x4]; omega), y1, y4, x1, x4]
    have fin : ∀ xn xd : Int64, xn.toInt = (n : Int) → xd.toInt = (m : Int) → f_M_hasScale_b117 xn xd I L = some (1, LSc I L) := by
      intro xn xd hn hm
      unfold f_M_hasScale_b117
      have n0 : 0 < n := by omega
      have gp : 0 < Nat.gcd n m := Nat.gcd_pos_of_pos_left m n0
      obtain ⟨p, hp1, hp2⟩ := e_M_common (x := xn) (y := xd) (by omega) (by omega)
      rw [hn, hm, Int.natAbs_natCast, Int.natAbs_natCast] at hp2
      have hne : ¬ p = 0 := by
        rw [eq64, hp2]
        simp only [Int64.reduceToInt]
        omega
      rw [hp1]
      simp only [Option.bind_some]
      rw [gd_p _ hne, gd_p _ hne]
      have q1 : xn / p = (I 14 9).toInt64 := by rw [eq64, i64of, h4]; exact q64 hn hp2
      have q2 : xd / p = (I 14 10).toInt64 := by rw [eq64, i64of, h5]; exact q64 hm hp2
      rw [q1, q2]
      rfl
    by_cases hc : (I 14 5 - 2 * I 14 6).toInt64 * (I 14 1 - I 14 0).toInt64 < (I 14 4 - 2 * I 14 6).toInt64 * (I 14 3 - I 14 2).toInt64
    · rw [if_pos hc]
      rw [lt64, m1, m2] at hc
      unfold f_M_hasScale_b91 f_M_hasScale_b104
      rw [if_pos rfl, if_pos rfl]
      exact fin _ _ (by rw [y3, x3]; omega) (by rw [y4, x4]; omega)
    · rw [if_neg hc]
      rw [lt64, m1, m2] at hc
      unfold f_M_hasScale_b91 f_M_hasScale_b104
      rw [if_neg (by decide), if_neg (by decide)]
      exact fin _ _ (by rw [y1, x1]; omega) (by rw [y2, x2]; omega)
  · have hd : ¬ 0 < (I 14 10).toInt := by omega
    rw [if_neg hd]
    by_cases h4 : I 14 0 = I 14 1
    · rw [if_pos h4]
    · rw [if_neg h4, if_pos]
      rw [eq32] at h4 ⊢
      omega
