/-! ===== quotients; common divisors ===== -/
theorem q64 {x y : Int64} {a b : Nat} (hx : x.toInt = (a : Int)) (hy : y.toInt = (b : Int)) : (x / y).toInt = ((a / b : Nat) : Int) := by
  rw [Int64.toInt_div, hx, hy, ← Int.ofNat_tdiv]
  have h1 := i64r x
  have h2 : a / b ≤ a := Nat.div_le_self a b
  generalize a / b = z at *
  exact Int.bmod_eq_of_le (by omega) (by omega)
theorem r64 {x y : Int64} {a b : Nat} (hx : x.toInt = (a : Int)) (hy : y.toInt = (b : Int)) : (x - x / y * y).toInt = ((a % b : Nat) : Int) := by
  have hq := q64 hx hy
  have h1 := i64r x
  have h2 := Nat.div_add_mod' a b
  have hm : (x / y * y).toInt = ((a / b * b : Nat) : Int) := by
    have e : (x / y).toInt * y.toInt = ((a / b * b : Nat) : Int) := by
      rw [hq, hy]
      exact (Int.natCast_mul _ _).symm
    rw [i64m, e]
    rw [e]
    generalize a / b * b = z at *
    omega
  generalize a / b * b = z at *
  generalize a % b = w at *
  rw [i64s (by omega), hx, hm]
  omega
theorem gcd_st (a b : Nat) : Nat.gcd b (a % b) = Nat.gcd a b := by
  rw [Nat.gcd_comm b, ← Nat.gcd_rec, Nat.gcd_comm]
theorem cm_loop {g : Nat} (s : Int64 × Int64) (h : ∃ a b : Nat, s.1.toInt = (a : Int) ∧ s.2.toInt = (b : Int) ∧ Nat.gcd a b = g) : ok (lp f_M_common_s28 s) (fun r => r.toInt = (g : Int)) := by
  refine lp_inv (fun s => ∃ a b : Nat, s.1.toInt = (a : Int) ∧ s.2.toInt = (b : Int) ∧ Nat.gcd a b = g) (fun s => s.2.toInt.toNat) _ ?_ s h
  intro s ⟨a, b, h1, h2, h3⟩
  unfold f_M_common_s28
  refine ok_i (fun hc => ?_) (fun hc => ?_)
  · refine ok_s ?_
    show s.1.toInt = (g : Int)
    have hb : b = 0 := by
      rw [hc] at h2
      simp at h2
      omega
    rw [h1, ← h3, hb, Nat.gcd_zero_right]
  · have hb : b ≠ 0 := by
      intro hb
      rw [eq64] at hc
      apply hc
      rw [h2, hb]
      rfl
    refine ok_g hc (ok_s ⟨⟨b, a % b, h2, r64 h1 h2, ?_⟩, ?_⟩)
    · rw [gcd_st, h3]
    · show (s.1 - s.1 / s.2 * s.2).toInt.toNat < s.2.toInt.toNat
      rw [r64 h1 h2, h2]
      exact Nat.mod_lt _ (Nat.pos_of_ne_zero hb)
theorem abs64 {x : Int64} (h : x.toInt ≠ -9223372036854775808) : (if 0 ≤ x then x else -x).toInt = (x.toInt.natAbs : Int) := by
  by_cases hx : 0 ≤ x
  · rw [if_pos hx]
    rw [le64] at hx
    simp at hx
    omega
  · rw [if_neg hx, i64n h]
    rw [le64] at hx
    simp at hx
    omega
theorem e_Jm_abs_J (x : Int64) : f_Jm_abs_J x = some (if 0 ≤ x then x else -x) := by
  unfold f_Jm_abs_J f_Jm_abs_J_b0
  split <;> rfl
theorem e_M_common {x y : Int64} (hx : x.toInt ≠ -9223372036854775808) (hy : y.toInt ≠ -9223372036854775808) : ok (f_M_common x y) (fun r => r.toInt = ((Nat.gcd x.toInt.natAbs y.toInt.natAbs : Nat) : Int)) := by
  have e : f_M_common x y = lp f_M_common_s28 ((if 0 ≤ x then x else -x), (if 0 ≤ y then y else -y)) := by
    unfold f_M_common f_M_common_b0 f_M_common_b12 f_M_common_b26 f_M_common_b28
    by_cases h1 : 0 ≤ x <;> by_cases h2 : 0 ≤ y <;> simp [h1, h2]
  rw [e]
  exact cm_loop _ ⟨_, _, abs64 hx, abs64 hy, rfl⟩
/-- the halving of Euclid's steps -/
theorem eu_half {a b : Nat} (h : b ≤ a) (hb : 0 < b) : 2 * (b * (a % b)) < a * b := by
  have h1 := Nat.div_add_mod' a b
  have h2 := Nat.mod_lt a hb
  have h3 : 1 ≤ a / b := (Nat.one_le_div_iff hb).mpr h
  have h4 : 1 * b ≤ a / b * b := Nat.mul_le_mul_right b h3
  have h5 : 2 * (a % b) < a := by
    generalize a / b * b = z at *
    omega
  calc 2 * (b * (a % b)) = (2 * (a % b)) * b := by rw [Nat.mul_comm b (a % b), Nat.mul_assoc]
    _ < a * b := Nat.mul_lt_mul_of_pos_right h5 hb
theorem cd_loop {g : Nat} (s : Int64 × Int64 × Int32) (h : ∃ a b t : Nat, s.1.toInt = (a : Int) ∧ s.2.1.toInt = (b : Int) ∧ s.2.2.toInt = (t : Int) ∧ Nat.gcd a b = g ∧ t ≤ 98 ∧ a * b < 2 ^ (98 - t) ∧ (t = 0 → a * b < 2 ^ 97) ∧ (t ≠ 0 → b ≤ a)) : ok (lp f_D_commonDivisor_s15 s) (fun r => r.toInt = (g : Int)) := by
  refine lp_inv (fun s => ∃ a b t : Nat, s.1.toInt = (a : Int) ∧ s.2.1.toInt = (b : Int) ∧ s.2.2.toInt = (t : Int) ∧ Nat.gcd a b = g ∧ t ≤ 98 ∧ a * b < 2 ^ (98 - t) ∧ (t = 0 → a * b < 2 ^ 97) ∧ (t ≠ 0 → b ≤ a)) (fun s => s.2.1.toInt.toNat) _ ?_ s h
  intro s ⟨a, b, t, h1, h2, h3, h4, h5, h6, h7, h8⟩
  unfold f_D_commonDivisor_s15
  refine ok_f (by rw [le32, h3]; simp; omega) ?_
  refine ok_i (fun hc => ?_) (fun hc => ?_)
  · refine ok_s ?_
    show s.1.toInt = (g : Int)
    have hb : b = 0 := by
      rw [hc] at h2
      simp at h2
      omega
    rw [h1, ← h4, hb, Nat.gcd_zero_right]
  · have hb : b ≠ 0 := by
      intro hb
      rw [eq64] at hc
      apply hc
      rw [h2, hb]
      rfl
    have hbp := Nat.pos_of_ne_zero hb
    have hm := Nat.mod_lt a hbp
    have k1 : (1 : Int32).toInt = 1 := by decide
    have key : t + 1 ≤ 98 ∧ b * (a % b) < 2 ^ (98 - (t + 1)) := by
      by_cases ht : t = 0
      · subst ht
        refine ⟨by omega, ?_⟩
        have : b * (a % b) ≤ b * a := Nat.mul_le_mul_left b (Nat.mod_le a b)
        have h9 := h7 rfl
        rw [Nat.mul_comm a b] at h9
        exact Nat.lt_of_le_of_lt this h9
      · have hba := h8 ht
        have h10 := eu_half hba hbp
        have h11 : 1 ≤ a * b := Nat.mul_pos (Nat.lt_of_lt_of_le hbp hba) hbp
        have h12 : t ≤ 97 := by
          refine Nat.not_lt.mp fun h => ?_
          have : 98 - t = 0 := by omega
          rw [this] at h6
          omega
        refine ⟨by omega, ?_⟩
        have e : 98 - t = 98 - (t + 1) + 1 := by omega
        rw [e, Nat.pow_succ] at h6
        omega
    refine ok_g hc (ok_s ⟨⟨b, a % b, t + 1, h2, r64 h1 h2, ?_, ?_, key.1, key.2, fun h => absurd h (by omega), fun _ => Nat.le_of_lt hm⟩, ?_⟩)
    · show (s.2.2 + 1).toInt = _
      rw [i32a (by rw [h3, k1]; omega), h3, k1]
      omega
    · rw [gcd_st, h4]
    · show (s.1 - s.1 / s.2.1 * s.2.1).toInt.toNat < s.2.1.toInt.toNat
      rw [r64 h1 h2, h2]
      exact hm
theorem e_D_commonDivisor {x y : Int64} (hx : x.toInt ≠ -9223372036854775808) (hy : y.toInt ≠ -9223372036854775808) (hb : x.toInt.natAbs * y.toInt.natAbs < 2 ^ 97) : ok (f_D_commonDivisor x y) (fun r => r.toInt = ((Nat.gcd x.toInt.natAbs y.toInt.natAbs : Nat) : Int)) := by
  unfold f_D_commonDivisor f_D_commonDivisor_b0
  refine ok_e (e_Jm_abs_J x) (ok_e (e_Jm_abs_J y) ?_)
  unfold f_D_commonDivisor_b15
  exact cd_loop _ ⟨_, _, 0, abs64 hx, abs64 hy, show (0 : Int32).toInt = ((0 : Nat) : Int) from by decide, rfl, by omega, Nat.lt_of_lt_of_le hb (by decide), fun _ => hb, fun h => absurd rfl h⟩
/-! floors -/
theorem tq (a b : Int) (hb : 0 < b) : ((0 ≤ a ∨ a % b = 0) → a.tdiv b = a / b) ∧ (¬ (0 ≤ a ∨ a % b = 0) → a.tdiv b = a / b + 1) := by
  rw [Int.tdiv_eq_ediv]
  simp only [Int.dvd_iff_emod_eq_zero, Int.sign_eq_one_of_pos hb]
  constructor
  · intro h
    rw [if_pos h, Int.add_zero]
  · intro h
    rw [if_neg h]
theorem dv64 {x y : Int64} (hy : 0 < y.toInt) : ∃ q m : Int, x.toInt = q * y.toInt + m ∧ 0 ≤ m ∧ m < y.toInt ∧ x.toInt / y.toInt = q ∧ ((0 ≤ x.toInt ∨ m = 0) → (x / y).toInt = q) ∧ (¬ (0 ≤ x.toInt ∨ m = 0) → (x / y).toInt = q + 1) ∧ (x / y * y).toInt = (x / y).toInt * y.toInt := by
  have hne : y ≠ -1 := by
    intro h
    rw [h] at hy
    exact absurd hy (by decide)
  have hd := Int64.toInt_div_of_ne_right x y hne
  have h1 := Int.mul_ediv_add_emod x.toInt y.toInt
  have h2 := Int.emod_nonneg x.toInt (show y.toInt ≠ 0 by omega)
  have h3 := Int.emod_lt_of_pos x.toInt hy
  obtain ⟨t1, t2⟩ := tq x.toInt y.toInt hy
  have rx := i64r x
  rw [← hd] at t1 t2
  rw [Int.mul_comm] at h1
  refine ⟨x.toInt / y.toInt, x.toInt % y.toInt, by omega, h2, h3, rfl, t1, t2, ?_⟩
  refine i64m ?_
  generalize hq : x.toInt / y.toInt = q at *
  generalize hm : x.toInt % y.toInt = m at *
  by_cases hc : 0 ≤ x.toInt ∨ m = 0
  · rw [t1 hc]
    by_cases h0 : 0 ≤ x.toInt
    · have hq0 : 0 ≤ q := by
        rw [← hq]
        exact Int.ediv_nonneg h0 (by omega)
      have : 0 ≤ q * y.toInt := Int.mul_nonneg hq0 (by omega)
      omega
    · have : m = 0 := by omega
      omega
  · rw [t2 hc]
    have hq1 : q + 1 ≤ 0 := by
      refine Int.not_lt.mp fun h => ?_
      have : 0 ≤ q * y.toInt := Int.mul_nonneg (by omega) (by omega)
      omega
    have : (q + 1) * y.toInt ≤ 0 := Int.mul_nonpos_of_nonpos_of_nonneg hq1 (by omega)
    have e : (q + 1) * y.toInt = q * y.toInt + y.toInt := by rw [Int.add_mul, Int.one_mul]
    omega
theorem xor_sg (x y : Int64) : (x ^^^ y).toInt < 0 ↔ ¬ (x.toInt < 0 ↔ y.toInt < 0) := by
  have h : (x.toBitVec ^^^ y.toBitVec).msb = (x.toBitVec.msb ^^ y.toBitVec.msb) := BitVec.msb_xor
  rw [BitVec.msb_eq_toInt, BitVec.msb_eq_toInt, BitVec.msb_eq_toInt] at h
  have e : (x ^^^ y).toInt = (x.toBitVec ^^^ y.toBitVec).toInt := rfl
  rw [e]
  simp only [Int64.toInt_toBitVec] at h
  by_cases h1 : x.toInt < 0 <;> by_cases h2 : y.toInt < 0 <;> simp [h1, h2] at h ⊢ <;> omega
theorem fd64 {x y : Int64} (hy : 0 < y.toInt) : ok (f_Jm_floorDiv_J x y) (fun r => r.toInt = x.toInt / y.toInt) := by
  obtain ⟨q, m, h1, h2, h3, h4, h5, h6, h7⟩ := dv64 (x := x) hy
  have hne : ¬ y = 0 := by
    rw [eq64]
    simp
    omega
  have hs := xor_sg x y
  have rx := i64r x
  rw [h4]
  unfold f_Jm_floorDiv_J f_Jm_floorDiv_J_b0
  refine ok_g hne ?_
  by_cases h0 : 0 ≤ x.toInt
  · refine ok_t ?_ (ok_s (h5 (Or.inl h0)))
    rw [le64]
    simp
    omega
  · refine ok_f ?_ ?_
    · rw [le64]
      simp
      omega
    · have hq1 : q + 1 ≤ 0 := by
        refine Int.not_lt.mp fun h => ?_
        have : 0 ≤ q * y.toInt := Int.mul_nonneg (by omega) (by omega)
        omega
      by_cases hm : m = 0
      · have h8 := h5 (Or.inr hm)
        refine ok_t ?_ (ok_s h8)
        rw [eq64, h7, h8]
        omega
      · have h8 := h6 (by omega)
        have e : (q + 1) * y.toInt = q * y.toInt + y.toInt := by rw [Int.add_mul, Int.one_mul]
        refine ok_f ?_ (ok_s ?_)
        · rw [eq64, h7, h8, e]
          omega
        · show (x / y - 1).toInt = q
          have k1 : (1 : Int64).toInt = 1 := by decide
          have hl : -9223372036854775808 ≤ q := by
            have : (q + 1) * y.toInt ≤ (q + 1) * 1 := Int.mul_le_mul_of_nonpos_left (by omega) (by omega)
            omega
          rw [i64s (by rw [h8, k1]; omega), h8, k1]
          omega
theorem mf64 {x y : Int64} (hy : 0 < y.toInt) : ok (f_M_floor x y) (fun r => r.toInt = x.toInt / y.toInt) := by
  obtain ⟨q, m, h1, h2, h3, h4, h5, h6, h7⟩ := dv64 (x := x) hy
  have hne : ¬ y = 0 := by
    rw [eq64]
    simp
    omega
  have rx := i64r x
  rw [h4]
  unfold f_M_floor f_M_floor_b0
  refine ok_g hne (ok_g hne ?_)
  by_cases hc : 0 ≤ x.toInt ∨ m = 0
  · have h8 := h5 hc
    refine ok_i (fun _ => ok_s h8) (fun hr => ?_)
    refine ok_t ?_ (ok_s h8)
    rw [le64]
    simp
    rcases hc with hc | hc
    · exact hc
    · exfalso
      apply hr
      rw [eq64, i64s (by rw [h7, h8]; omega), h7, h8]
      simp
      omega
  · have h8 := h6 hc
    have e : (q + 1) * y.toInt = q * y.toInt + y.toInt := by rw [Int.add_mul, Int.one_mul]
    have hq1 : q + 1 ≤ 0 := by
      refine Int.not_lt.mp fun h => ?_
      have : 0 ≤ q * y.toInt := Int.mul_nonneg (by omega) (by omega)
      omega
    have hp : (q + 1) * y.toInt ≤ 0 := Int.mul_nonpos_of_nonpos_of_nonneg hq1 (by omega)
    have k1 : (1 : Int64).toInt = 1 := by decide
    have hl : -9223372036854775808 ≤ q := by
      have : (q + 1) * y.toInt ≤ (q + 1) * 1 := Int.mul_le_mul_of_nonpos_left (by omega) (by omega)
      omega
    refine ok_f ?_ (ok_f ?_ (ok_s ?_))
    · rw [eq64, i64s (by rw [h7, h8, e]; omega), h7, h8, e]
      simp
      omega
    · rw [le64]
      simp
      omega
    · show (x / y - 1).toInt = q
      rw [i64s (by rw [h8, k1]; omega), h8, k1]
      omega
