/-! ===== what stays while a drawing is made; the grid ===== -/
def STC : List Nat := [2004, 2005, 2, 3, 4, 5, 50004, 50005, 50, 51, 52, 53, 7008, 7009, 50011, 50013, 7, 8, 9, 10, 11, 12, 13, 54, 55, 56, 57, 58, 59, 60, 15000, 15001, 15002, 15003, 15004, 15005, 15006, 15007, 15008, 15009, 15010, 50015, 50016, 50017, 50018, 50019, 50020, 50021, 50022, 50023, 16001, 16002, 50031, 50032, 61, 62, 63, 64, 65, 66, 67, 86, 87, 88, 89, 90, 91, 92, 93, 94, 95, 96, 97, 98, 99, 100, 101, 102, 103, 104, 105, 106, 107, 108, 109, 110, 111, 112, 113, 114, 115, 116, 117, 22003, 50037, 22, 23, 69, 70]
def WP : List Nat := [18, 18004, 18005, 31, 32, 33, 34, 35, 31012, 31013, 39001, 39002, 39003, 39004]
def WM : List Nat := [71, 72, 73, 74, 75, 76, 79, 80, 81, 82, 68, 50034, 50038, 50041, 50042, 50047, 50049, 50050, 50052, 50056, 50058, 50059, 50060, 50061, 50062, 50063, 50064, 50067, 50070, 50073, 50074]
theorem Ag.sub {S S' : List Nat} {I J : xm_I} (h : Ag S I J) (hs : ∀ x ∈ S', x ∈ S) : Ag S' I J := fun a k hk => h a k (hs _ hk)
theorem Ag.trans {S : List Nat} {I J K : xm_I} (h : Ag S I J) (h' : Ag S J K) : Ag S I K := fun a k hk => (h' a k hk).trans (h a k hk)
def Sta (n : Nat) (I0 I : xm_I) : Prop := (IvP I ∧ IvF I ∧ IvW I ∧ IvS I n ∧ IvL I) ∧ Ag STC I0 I
set_option maxRecDepth 100000 in
theorem Sta.of {n : Nat} {I0 I J : xm_I} {W : List Nat} (h : Sta n I0 I) (f : Fr W I J) (hd : ∀ x ∈ STC, x ∉ W) : Sta n I0 J := by
  obtain ⟨⟨h1, h2, h3, h4, h5⟩, h6⟩ := h
  have g : Ag STC I J := f.ag STC hd
  have e14 : J 1 4 = I 1 4 := g 1 4 (by decide)
  have e69 : J 6 9 = I 6 9 := g 6 9 (by decide)
  exact ⟨⟨h1.ag (g.sub (by decide)), h2.ag (by rw [e14]; exact Int.le_refl _) (g.sub (by decide)), h3.ag (g.sub (by decide)), h4.ag (by rw [e14]; exact Int.le_refl _) (g.sub (by decide)), h5.ag (by rw [e69]; exact Int.le_refl _) (g.sub (by decide))⟩, h6.trans g⟩
set_option maxRecDepth 100000 in
theorem dWP : ∀ x ∈ STC, x ∉ WP := by decide
set_option maxRecDepth 100000 in
theorem dWM : ∀ x ∈ STC, x ∉ WM := by decide
theorem SX_ag {I J : xm_I} (g : Ag [15000, 15001, 15002, 15003, 15004, 15005, 15006, 15007, 15008, 15009, 15010] I J) : SX J = SX I ∧ SY J = SY I := by
  have e0 := g 14 0 (by decide)
  have e1 := g 14 1 (by decide)
  have e2 := g 14 2 (by decide)
  have e3 := g 14 3 (by decide)
  have e4 := g 14 4 (by decide)
  have e5 := g 14 5 (by decide)
  have e9 := g 14 9 (by decide)
  have e10 := g 14 10 (by decide)
  constructor
  · funext n d
    unfold SX tX tB
    rw [e0, e1, e4, e9, e10]
  · funext n d
    unfold SY tY tB
    rw [e2, e3, e5, e9, e10]
set_option maxRecDepth 100000 in
theorem Sta.sx {n : Nat} {I0 I : xm_I} (h : Sta n I0 I) : SX I = SX I0 ∧ SY I = SY I0 := SX_ag (h.2.sub (by decide))
set_option maxRecDepth 100000 in
theorem Sta.cx {n : Nat} {I0 I : xm_I} (h : Sta n I0 I) : CX I = CX I0 ∧ CY I = CY I0 := ⟨CX_ag (h.2.sub (by decide)), CY_ag (h.2.sub (by decide))⟩
theorem dv32 {x y : Int32} (hy : 0 < y.toInt) : ∃ q m : Int, x.toInt = q * y.toInt + m ∧ 0 ≤ m ∧ m < y.toInt ∧ x.toInt / y.toInt = q ∧ ((0 ≤ x.toInt ∨ m = 0) → (x / y).toInt = q) ∧ (¬ (0 ≤ x.toInt ∨ m = 0) → (x / y).toInt = q + 1) ∧ (x / y * y).toInt = (x / y).toInt * y.toInt := by
  have hne : y ≠ -1 := by
    intro h
    rw [h] at hy
    exact absurd hy (by decide)
  have hd := Int32.toInt_div_of_ne_right x y hne
  have h1 := Int.mul_ediv_add_emod x.toInt y.toInt
  have h2 := Int.emod_nonneg x.toInt (show y.toInt ≠ 0 by omega)
  have h3 := Int.emod_lt_of_pos x.toInt hy
  obtain ⟨t1, t2⟩ := tq x.toInt y.toInt hy
  have rx := i32r x
  rw [← hd] at t1 t2
  rw [Int.mul_comm] at h1
  refine ⟨x.toInt / y.toInt, x.toInt % y.toInt, by omega, h2, h3, rfl, t1, t2, ?_⟩
  refine i32m ?_
  generalize hq : x.toInt / y.toInt = q at *
  generalize hm : x.toInt % y.toInt = m at *
  by_cases hc : 0 ≤ x.toInt ∨ m = 0
  · rw [t1 hc]
    by_cases h0 : 0 ≤ x.toInt
    · have hq0 : 0 ≤ q := by
        rw [← hq]
        exact Int.ediv_nonneg h0 (by omega)
      have : 0 ≤ q * y.toInt := Int.mul_nonneg hq0 (by omega)
      omega
    · have : m = 0 := by omega
      omega
  · rw [t2 hc]
    have hq1 : q + 1 ≤ 0 := by
      refine Int.not_lt.mp fun h => ?_
      have : 0 ≤ q * y.toInt := Int.mul_nonneg (by omega) (by omega)
      omega
    have : (q + 1) * y.toInt ≤ 0 := Int.mul_nonpos_of_nonpos_of_nonneg hq1 (by omega)
    have e : (q + 1) * y.toInt = q * y.toInt + y.toInt := by rw [Int.add_mul, Int.one_mul]
    omega
theorem xor_sg32 (x y : Int32) : (x ^^^ y).toInt < 0 ↔ ¬ (x.toInt < 0 ↔ y.toInt < 0) := by
  have h : (x.toBitVec ^^^ y.toBitVec).msb = (x.toBitVec.msb ^^ y.toBitVec.msb) := BitVec.msb_xor
  rw [BitVec.msb_eq_toInt, BitVec.msb_eq_toInt, BitVec.msb_eq_toInt] at h
  have e : (x ^^^ y).toInt = (x.toBitVec ^^^ y.toBitVec).toInt := rfl
  rw [e]
  simp only [Int32.toInt_toBitVec] at h
  by_cases h1 : x.toInt < 0 <;> by_cases h2 : y.toInt < 0 <;> simp [h1, h2] at h ⊢ <;> omega
theorem fd32 {x y : Int32} (hy : 0 < y.toInt) : ok (f_Jm_floorDiv_I x y) (fun r => r.toInt = x.toInt / y.toInt) := by
  obtain ⟨q, m, h1, h2, h3, h4, h5, h6, h7⟩ := dv32 (x := x) hy
  have hne : ¬ y = 0 := by
    rw [eq32]
    simp
    omega
  have hs := xor_sg32 x y
  have rx := i32r x
  rw [h4]
  unfold f_Jm_floorDiv_I f_Jm_floorDiv_I_b0
  refine ok_g hne ?_
  by_cases h0 : 0 ≤ x.toInt
  · refine ok_t ?_ (ok_s (h5 (Or.inl h0)))
    rw [le32]
    simp
    omega
  · refine ok_f ?_ ?_
    · rw [le32]
      simp
      omega
    · have hq1 : q + 1 ≤ 0 := by
        refine Int.not_lt.mp fun h => ?_
        have : 0 ≤ q * y.toInt := Int.mul_nonneg (by omega) (by omega)
        omega
      by_cases hm : m = 0
      · have h8 := h5 (Or.inr hm)
        refine ok_t ?_ (ok_s h8)
        rw [eq32, h7, h8]
        omega
      · have h8 := h6 (by omega)
        have e : (q + 1) * y.toInt = q * y.toInt + y.toInt := by rw [Int.add_mul, Int.one_mul]
        refine ok_f ?_ (ok_s ?_)
        · rw [eq32, h7, h8, e]
          omega
        · show (x / y - 1).toInt = q
          have k1 : (1 : Int32).toInt = 1 := by decide
          have hl : -2147483648 ≤ q := by
            have : (q + 1) * y.toInt ≤ (q + 1) * 1 := Int.mul_le_mul_of_nonpos_left (by omega) (by omega)
            omega
          rw [i32s (by rw [h8, k1]; omega), h8, k1]
          omega
theorem e_Jm_floorDiv_I {x y : Int32} (hy : 0 < y.toInt) : ∃ r : Int32, f_Jm_floorDiv_I x y = some r ∧ r.toInt = x.toInt / y.toInt := fd32 hy
/-- the least multiple of g not below a -/
def mulF (a g : Int) : Int := -((-a) / g) * g
theorem mulF_b {a g : Int} (hg : 0 < g) : a ≤ mulF a g ∧ mulF a g < a + g ∧ g ∣ mulF a g := by
  have h1 := Int.mul_ediv_add_emod (-a) g
  have h2 := Int.emod_nonneg (-a) (show g ≠ 0 by omega)
  have h3 := Int.emod_lt_of_pos (-a) hg
  unfold mulF
  have e : -((-a) / g) * g = -(g * ((-a) / g)) := by rw [Int.neg_mul, Int.mul_comm]
  rw [e]
  refine ⟨by omega, by omega, ?_⟩
  exact Int.dvd_neg.mpr (Int.dvd_mul_right g _)
theorem e_multipleFrom {a g : Int32} (ha : -100000 ≤ a.toInt ∧ a.toInt ≤ 100000) (hg : 0 < g.toInt ∧ g.toInt ≤ 40000) : ∃ r : Int32, f_D_multipleFrom a g = some r ∧ r.toInt = mulF a.toInt g.toInt := by
  have hb := mulF_b (a := a.toInt) hg.1
  have hn : (-a).toInt = -a.toInt := i32n (by omega)
  obtain ⟨r, h1, h2⟩ := e_Jm_floorDiv_I (x := -a) hg.1
  rw [hn] at h2
  unfold f_D_multipleFrom f_D_multipleFrom_b0
  rw [if_pos (by rw [lt32, z0]; exact hg.1), h1]
  refine ⟨-r * g, rfl, ?_⟩
  have q1 := Int.mul_ediv_add_emod (-a.toInt) g.toInt
  have q2 := Int.emod_nonneg (-a.toInt) (show g.toInt ≠ 0 by omega)
  have q3 := Int.emod_lt_of_pos (-a.toInt) hg.1
  have rb : -100000 ≤ r.toInt ∧ r.toInt ≤ 100000 := by
    rw [h2]
    constructor
    · exact (Int.le_ediv_iff_mul_le hg.1).mpr (by
        have : (-100000 : Int) * g.toInt ≤ -100000 * 1 := Int.mul_le_mul_of_nonpos_left (by omega) (by omega)
        omega)
    · refine Int.not_lt.mp fun hh => ?_
      have := (Int.le_ediv_iff_mul_le (a := 100001) (b := -a.toInt) hg.1).mp (by omega)
      have h4 : (100001 : Int) * 1 ≤ 100001 * g.toInt := Int.mul_le_mul_of_nonneg_left (by omega) (by omega)
      omega
  have nr : (-r).toInt = -r.toInt := i32n (by omega)
  have hm : (-r).toInt * g.toInt = mulF a.toInt g.toInt := by rw [nr, h2]; rfl
  rw [i32m (by rw [hm]; omega), hm]
def mulN (a b g : Int) : Nat := if mulF a g ≤ b then ((b - mulF a g) / g + 1).toNat else 0
theorem mulN_lt {a b g : Int} (hg : 0 < g) (k : Nat) : k < mulN a b g ↔ mulF a g + k * g ≤ b := by
  unfold mulN
  by_cases h : mulF a g ≤ b
  · rw [if_pos h]
    have h0 : 0 ≤ (b - mulF a g) / g := Int.ediv_nonneg (by omega) (by omega)
    have := Int.le_ediv_iff_mul_le (a := (k : Int)) (b := b - mulF a g) hg
    omega
  · rw [if_neg h]
    have : 0 ≤ (k : Int) * g := Int.mul_nonneg (by omega) (by omega)
    omega
theorem mulN_le {a b g : Int} (hg : 0 < g) (hb : b - a ≤ 100000) : mulN a b g ≤ 100001 := by
  refine Nat.not_lt.mp fun hh => ?_
  have h1 := (mulN_lt (a := a) (b := b) hg 100001).mp hh
  have h2 := (mulF_b (a := a) hg).1
  have h3 : (100001 : Int) * 1 ≤ 100001 * g := Int.mul_le_mul_of_nonneg_left (by omega) (by omega)
  omega
theorem e_multiplesWithin {a b g : Int32} (ha : -100000 ≤ a.toInt ∧ a.toInt ≤ 100000) (hb : -100000 ≤ b.toInt ∧ b.toInt ≤ 100000) (hg : 0 < g.toInt ∧ g.toInt ≤ 40000) : ∃ r : Int32, f_D_multiplesWithin a b g = some r ∧ r.toInt = mulN a.toInt b.toInt g.toInt := by
  obtain ⟨m, h1, h2⟩ := e_multipleFrom ha hg
  have hm := mulF_b (a := a.toInt) hg.1
  unfold f_D_multiplesWithin f_D_multiplesWithin_b0
  rw [h1]
  simp only [Option.bind_some]
  rw [if_neg (by rw [le32, z0]; omega)]
  by_cases hc : m.toInt ≤ b.toInt
  · rw [if_pos (by rw [le32]; exact hc), gd_p _ (by rw [eq32, z0]; omega)]
    have hs : (b - m).toInt = b.toInt - m.toInt := i32s (by omega)
    have hd : ((b - m) / g).toInt = (b.toInt - m.toInt) / g.toInt := by
      have hne : g ≠ -1 := by
        intro hh
        have := hg.1
        rw [hh] at this
        exact absurd this (by decide)
      rw [Int32.toInt_div_of_ne_right _ _ hne, hs, Int.tdiv_eq_ediv_of_nonneg (by omega)]
    have hq : 0 ≤ (b.toInt - m.toInt) / g.toInt := Int.ediv_nonneg (by omega) (by omega)
    have hq2 : (b.toInt - m.toInt) / g.toInt ≤ b.toInt - m.toInt := Int.ediv_le_self _ (by omega)
    refine ⟨(b - m) / g + 1, rfl, ?_⟩
    rw [i32p (by omega) (by omega), hd]
    unfold mulN
    rw [← h2, if_pos hc]
    omega
  · rw [if_neg (by rw [le32]; exact hc)]
    refine ⟨0, rfl, ?_⟩
    unfold mulN
    rw [← h2, if_neg hc]
    rfl
