/-! ===== objects: what holds between calls; what is read of them ===== -/
def vp (I : xm_I) (x : Int32) : Prop := 0 ≤ x.toInt ∧ x.toInt < (I 1 4).toInt
def IvO (I : xm_I) (o : Nat) : Prop :=
  (0 ≤ (I 7 o).toInt ∧ (I 7 o).toInt ≤ 7) ∧
  (((I 7 o).toInt = 0 ∧ (I 10 o).toInt = 1) ∨ ((I 7 o).toInt = 5 ∧ (I 10 o).toInt = 3) ∨ ((I 7 o).toInt = 7 ∧ 3 ≤ (I 10 o).toInt ∧ (I 10 o).toInt ≤ 12) ∨ ((I 7 o).toInt ≠ 0 ∧ (I 7 o).toInt ≠ 5 ∧ (I 7 o).toInt ≠ 7 ∧ (I 10 o).toInt = 2)) ∧
  ((I 7 o).toInt = 6 → I 58 o = I 9 o) ∧
  (∀ k : Nat, (k : Int) < (I 10 o).toInt → I 55 (12 * o + k) = I 11 (12 * o + k) ∧ vp I (I 11 (12 * o + k)))
def IvF (I : xm_I) : Prop :=
  (0 ≤ (I 6 9).toInt ∧ (I 6 9).toInt ≤ 40) ∧ (0 ≤ (I 6 8).toInt ∧ (I 6 8).toInt ≤ 12) ∧
  (I 49 11 = I 6 9 ∧ I 49 13 = I 6 8 ∧ I 54 = I 7 ∧ I 57 = I 8 ∧ I 56 = I 10 ∧ I 60 = I 12 ∧ I 59 = I 13) ∧
  (∀ k : Nat, I 12 k = 0 ∨ I 12 k = 1) ∧ (∀ k : Nat, 0 ≤ (I 8 k).toInt ∧ (I 8 k).toInt ≤ 2) ∧ (∀ k : Nat, (I 6 9).toInt ≤ (k : Int) → I 8 k = 0) ∧
  (∀ k : Nat, (k : Int) < (I 6 8).toInt → vp I (I 13 k)) ∧
  (∀ o : Nat, (o : Int) < (I 6 9).toInt → IvO I o)
theorem e_Fg_has (x : Int32) (I : xm_I) : f_Fg_has x I = some (bi (0 ≤ x.toInt ∧ x.toInt < (I 6 9).toInt ∧ x.toInt < 40)) := by
  unfold f_Fg_has f_Fg_has_b0
  simp only [lt32, le32, Int32.reduceToInt]
  (repeat' split) <;> first | rw [bi_t (by omega)] | rw [bi_f (by omega)]
theorem e_M_isObject (x : Int32) (I : xm_I) : f_M_isObject x I = some (bi (0 ≤ x.toInt ∧ x.toInt < (I 49 11).toInt)) := by
  unfold f_M_isObject f_M_isObject_b0
  simp only [lt32, le32, Int32.reduceToInt]
  (repeat' split) <;> first | rw [bi_t (by omega)] | rw [bi_f (by omega)]
theorem e_Fg_isFull (I : xm_I) : f_Fg_isFull I = some (bi (40 ≤ (I 6 9).toInt)) := by
  unfold f_Fg_isFull f_Fg_isFull_b0
  simp only [lt32, le32, Int32.reduceToInt]
  (repeat' split) <;> first | rw [bi_t (by omega)] | rw [bi_f (by omega)]
theorem e_Fg_chainIsFull (I : xm_I) : f_Fg_chainIsFull I = some (bi (12 ≤ (I 6 8).toInt)) := by
  unfold f_Fg_chainIsFull f_Fg_chainIsFull_b0
  simp only [lt32, le32, Int32.reduceToInt]
  (repeat' split) <;> first | rw [bi_t (by omega)] | rw [bi_f (by omega)]
def vo (I : xm_I) (x : Int32) : Prop := 0 ≤ x.toInt ∧ x.toInt < (I 6 9).toInt ∧ (I 6 9).toInt ≤ 40
theorem e_Fg_kindOf {I : xm_I} {x : Int32} (h : vo I x) : f_Fg_kindOf x I = some (I 7 (Int32.toNatClampNeg x)) := by
  obtain ⟨h1, h2, h3⟩ := h
  unfold f_Fg_kindOf f_Fg_kindOf_b0
  rw [e_Fg_has, bi_t (by omega)]
  simp only [Option.bind_some]
  rw [if_neg (by decide), gd_p _ (by omega)]
theorem e_Fg_styleOf {I : xm_I} {x : Int32} (h : vo I x) : f_Fg_styleOf x I = some (I 8 (Int32.toNatClampNeg x)) := by
  obtain ⟨h1, h2, h3⟩ := h
  unfold f_Fg_styleOf f_Fg_styleOf_b0
  rw [e_Fg_has, bi_t (by omega)]
  simp only [Option.bind_some]
  rw [if_neg (by decide), gd_p _ (by omega)]
theorem e_Fg_strokesOf {I : xm_I} {x : Int32} (h : vo I x) : f_Fg_strokesOf x I = some (I 9 (Int32.toNatClampNeg x)) := by
  obtain ⟨h1, h2, h3⟩ := h
  unfold f_Fg_strokesOf f_Fg_strokesOf_b0
  rw [e_Fg_has, bi_t (by omega)]
  simp only [Option.bind_some]
  rw [if_neg (by decide), gd_p _ (by omega)]
theorem e_Fg_cornersOf {I : xm_I} {x : Int32} (h : vo I x) : f_Fg_cornersOf x I = some (I 10 (Int32.toNatClampNeg x)) := by
  obtain ⟨h1, h2, h3⟩ := h
  unfold f_Fg_cornersOf f_Fg_cornersOf_b0
  rw [e_Fg_has, bi_t (by omega)]
  simp only [Option.bind_some]
  rw [if_neg (by decide), gd_p _ (by omega)]
theorem e_Fg_setStyle {I : xm_I} {x y : Int32} (h : vo I x) : f_Fg_setStyle x y I = some (up2 I 8 (Int32.toNatClampNeg x) y) := by
  obtain ⟨h1, h2, h3⟩ := h
  unfold f_Fg_setStyle f_Fg_setStyle_b0
  rw [e_Fg_has, bi_t (by omega)]
  simp only [Option.bind_some]
  rw [if_neg (by decide), gd_p _ (by omega)]
theorem e_Fg_isHidden {I : xm_I} {x : Int32} (h1 : 0 ≤ x.toInt) (h2 : x.toInt ≤ 9) : f_Fg_isHidden x I = some (bi (¬ I 12 (Int32.toNatClampNeg x) = 0)) := by
  unfold f_Fg_isHidden f_Fg_isHidden_b0
  rw [if_neg (by rw [lt32]; simp only [Int32.reduceToInt]; omega), if_neg (by rw [lt32]; simp only [Int32.reduceToInt]; omega), gd_p _ (by omega)]
  by_cases h : I 12 (Int32.toNatClampNeg x) = 0
  · rw [if_pos h, bi_f (by exact fun k => k h)]
  · rw [if_neg h, bi_t h]
theorem e_Fg_setHidden {I : xm_I} {x y : Int32} (h1 : 0 ≤ x.toInt) (h2 : x.toInt ≤ 9) : f_Fg_setHidden x y I = some (up2 I 12 (Int32.toNatClampNeg x) (y &&& 1)) := by
  unfold f_Fg_setHidden f_Fg_setHidden_b0
  rw [if_neg (by rw [lt32]; simp only [Int32.reduceToInt]; omega), if_neg (by rw [lt32]; simp only [Int32.reduceToInt]; omega), gd_p _ (by omega)]
/-- corner k of object o: its point, and where it is now -/
def CR (I : xm_I) (o k : Nat) : Int32 := I 11 (12 * o + k)
def CX (I : xm_I) (o k : Nat) : Int32 := PX I (Int32.toNatClampNeg (CR I o k))
def CY (I : xm_I) (o k : Nat) : Int32 := PY I (Int32.toNatClampNeg (CR I o k))
theorem ix12 {x y : Int32} (h1 : 0 ≤ x.toInt) (h2 : x.toInt < 40) (h3 : 0 ≤ y.toInt) (h4 : y.toInt < 12) : (x * 12 + y).toInt = 12 * x.toInt + y.toInt ∧ (12 * x + y).toInt = 12 * x.toInt + y.toInt ∧ Int32.toNatClampNeg (x * 12 + y) = 12 * Int32.toNatClampNeg x + Int32.toNatClampNeg y ∧ Int32.toNatClampNeg (12 * x + y) = 12 * Int32.toNatClampNeg x + Int32.toNatClampNeg y := by
  have k : (12 : Int32).toInt = 12 := by decide
  have e1 : (x * 12).toInt = 12 * x.toInt := by rw [i32m (by rw [k]; omega), k]; omega
  have e2 : (12 * x).toInt = 12 * x.toInt := by rw [i32m (by rw [k]; omega), k]
  have e3 : (x * 12 + y).toInt = 12 * x.toInt + y.toInt := by rw [i32a (by omega), e1]
  have e4 : (12 * x + y).toInt = 12 * x.toInt + y.toInt := by rw [i32a (by omega), e2]
  refine ⟨e3, e4, ?_, ?_⟩
  · show (x * 12 + y).toInt.toNat = 12 * x.toInt.toNat + y.toInt.toNat
    omega
  · show (12 * x + y).toInt.toNat = 12 * x.toInt.toNat + y.toInt.toNat
    omega
theorem tnI {x : Int32} (h : 0 ≤ x.toInt) : ((Int32.toNatClampNeg x : Nat) : Int) = x.toInt := tn32 h
/-- a corner that is there -/
def vc (I : xm_I) (x y : Int32) : Prop := vo I x ∧ 0 ≤ y.toInt ∧ y.toInt < (I 10 (Int32.toNatClampNeg x)).toInt
theorem IvF.obj {I : xm_I} (h : IvF I) {x : Int32} (hx : vo I x) : IvO I (Int32.toNatClampNeg x) := by
  obtain ⟨_, _, _, _, _, _, _, h8⟩ := h
  exact h8 _ (by rw [tnI hx.1]; exact hx.2.1)
theorem IvF.cor {I : xm_I} (h : IvF I) {x y : Int32} (hv : vc I x y) : y.toInt < 12 ∧ x.toInt < 40 ∧ I 55 (12 * Int32.toNatClampNeg x + Int32.toNatClampNeg y) = CR I (Int32.toNatClampNeg x) (Int32.toNatClampNeg y) ∧ vp I (CR I (Int32.toNatClampNeg x) (Int32.toNatClampNeg y)) := by
  obtain ⟨hx, h1, h2⟩ := hv
  obtain ⟨a1, a2, a3, a4⟩ := h.obj hx
  obtain ⟨b1, b2⟩ := a4 (Int32.toNatClampNeg y) (by rw [tnI h1]; exact h2)
  have := hx.2
  exact ⟨by omega, by omega, b1, b2⟩
theorem e_Fg_xOf {I : xm_I} {x y : Int32} (hp : IvP I) (h : IvF I) (hv : vc I x y) : f_Fg_xOf x y I = some (CX I (Int32.toNatClampNeg x) (Int32.toNatClampNeg y)) := by
  obtain ⟨c1, c2, c3, c4⟩ := h.cor hv
  obtain ⟨hx, h1, h2⟩ := hv
  obtain ⟨d1, d2, d3, d4⟩ := ix12 hx.1 c2 h1 c1
  have := hx.1
  unfold f_Fg_xOf f_Fg_xOf_b0
  rw [if_neg (by rw [lt32]; simp only [Int32.reduceToInt]; omega), e_Fg_cornersOf hx]
  simp only [Option.bind_some]
  rw [if_neg (by rw [le32]; omega), gd_p _ (by omega), d3]
  have e := e_Pt_xNow (I := I) (x := I 11 (12 * Int32.toNatClampNeg x + Int32.toNatClampNeg y)) c4.1 c4.2 hp.1.2
  rw [e]
  rfl
theorem e_Fg_yOf {I : xm_I} {x y : Int32} (hp : IvP I) (h : IvF I) (hv : vc I x y) : f_Fg_yOf x y I = some (CY I (Int32.toNatClampNeg x) (Int32.toNatClampNeg y)) := by
  obtain ⟨c1, c2, c3, c4⟩ := h.cor hv
  obtain ⟨hx, h1, h2⟩ := hv
  obtain ⟨d1, d2, d3, d4⟩ := ix12 hx.1 c2 h1 c1
  have := hx.1
  unfold f_Fg_yOf f_Fg_yOf_b0
  rw [if_neg (by rw [lt32]; simp only [Int32.reduceToInt]; omega), e_Fg_cornersOf hx]
  simp only [Option.bind_some]
  rw [if_neg (by rw [le32]; omega), gd_p _ (by omega), d3]
  have e := e_Pt_yNow (I := I) (x := I 11 (12 * Int32.toNatClampNeg x + Int32.toNatClampNeg y)) c4.1 c4.2 hp.1.2
  rw [e]
  rfl
theorem e_M_cornerX {I : xm_I} {x y : Int32} (hp : IvP I) (h : IvF I) (hv : vc I x y) : f_M_cornerX x y I = some (CX I (Int32.toNatClampNeg x) (Int32.toNatClampNeg y)) := by
  obtain ⟨c1, c2, c3, c4⟩ := h.cor hv
  obtain ⟨hx, h1, h2⟩ := hv
  obtain ⟨d1, d2, d3, d4⟩ := ix12 hx.1 c2 h1 c1
  have := hx.1
  have h60 := hp.1.2
  unfold f_M_cornerX f_M_cornerX_b0
  rw [gd_p _ (by omega), d4, c3, e_M_nowX hp c4.1 (by have := c4.2; omega)]
  rfl
theorem e_M_cornerY {I : xm_I} {x y : Int32} (hp : IvP I) (h : IvF I) (hv : vc I x y) : f_M_cornerY x y I = some (CY I (Int32.toNatClampNeg x) (Int32.toNatClampNeg y)) := by
  obtain ⟨c1, c2, c3, c4⟩ := h.cor hv
  obtain ⟨hx, h1, h2⟩ := hv
  obtain ⟨d1, d2, d3, d4⟩ := ix12 hx.1 c2 h1 c1
  have := hx.1
  have h60 := hp.1.2
  unfold f_M_cornerY f_M_cornerY_b0
  rw [gd_p _ (by omega), d4, c3, e_M_nowY hp c4.1 (by have := c4.2; omega)]
  rfl
theorem e_Fg_isAtOnePlace {I : xm_I} {x y z : Int32} (hp : IvP I) (h : IvF I) (h1 : vc I x y) (h2 : vc I x z) : f_Fg_isAtOnePlace x y z I = some (bi (CX I (Int32.toNatClampNeg x) (Int32.toNatClampNeg y) = CX I (Int32.toNatClampNeg x) (Int32.toNatClampNeg z) ∧ CY I (Int32.toNatClampNeg x) (Int32.toNatClampNeg y) = CY I (Int32.toNatClampNeg x) (Int32.toNatClampNeg z))) := by
  unfold f_Fg_isAtOnePlace f_Fg_isAtOnePlace_b0
  rw [e_Fg_xOf hp h h1, e_Fg_xOf hp h h2, e_Fg_yOf hp h h1, e_Fg_yOf hp h h2]
  simp only [Option.bind_some]
  by_cases k1 : CX I (Int32.toNatClampNeg x) (Int32.toNatClampNeg y) = CX I (Int32.toNatClampNeg x) (Int32.toNatClampNeg z)
  · rw [if_pos k1]
    by_cases k2 : CY I (Int32.toNatClampNeg x) (Int32.toNatClampNeg y) = CY I (Int32.toNatClampNeg x) (Int32.toNatClampNeg z)
    · rw [if_pos k2, bi_t ⟨k1, k2⟩]
    · rw [if_neg k2, bi_f fun k => k2 k.2]
  · rw [if_neg k1, bi_f fun k => k1 k.1]
theorem e_M_isSame {I : xm_I} {x y z : Int32} (hp : IvP I) (h : IvF I) (h1 : vc I x y) (h2 : vc I x z) : f_M_isSame x y z I = some (bi (CX I (Int32.toNatClampNeg x) (Int32.toNatClampNeg y) = CX I (Int32.toNatClampNeg x) (Int32.toNatClampNeg z) ∧ CY I (Int32.toNatClampNeg x) (Int32.toNatClampNeg y) = CY I (Int32.toNatClampNeg x) (Int32.toNatClampNeg z))) := by
  unfold f_M_isSame f_M_isSame_b0
  rw [e_M_cornerX hp h h1, e_M_cornerX hp h h2, e_M_cornerY hp h h1, e_M_cornerY hp h h2]
  simp only [Option.bind_some]
  by_cases k1 : CX I (Int32.toNatClampNeg x) (Int32.toNatClampNeg y) = CX I (Int32.toNatClampNeg x) (Int32.toNatClampNeg z)
  · rw [if_pos k1]
    by_cases k2 : CY I (Int32.toNatClampNeg x) (Int32.toNatClampNeg y) = CY I (Int32.toNatClampNeg x) (Int32.toNatClampNeg z)
    · rw [if_pos k2, bi_t ⟨k1, k2⟩]
    · rw [if_neg k2, bi_f fun k => k2 k.2]
  · rw [if_neg k1, bi_f fun k => k1 k.1]
/-- the next corner, round and round -/
theorem nxt_mod {k n : Int32} (h1 : 0 ≤ k.toInt) (h2 : k.toInt < n.toInt) (h3 : n.toInt ≤ 12) : (k + 1) - (k + 1) / n * n = if n ≤ k + 1 then 0 else k + 1 := by
  have k1 : (1 : Int32).toInt = 1 := by decide
  have e1 : (k + 1).toInt = k.toInt + 1 := by rw [i32a (by rw [k1]; omega), k1]
  have hne : n ≠ -1 := by
    intro h
    rw [h] at h2 h3
    have kk : (-1 : Int32).toInt = -1 := by decide
    omega
  have hd := Int32.toInt_div_of_ne_right (k + 1) n hne
  by_cases hc : n ≤ k + 1
  · rw [if_pos hc]
    rw [le32, e1] at hc
    have e : n = k + 1 := by rw [eq32]; omega
    rw [e] at hd ⊢
    rw [Int.tdiv_self (by omega)] at hd
    have e3 : (k + 1) / (k + 1) = 1 := by rw [eq32, hd, k1]
    rw [e3, Int32.one_mul, Int32.sub_self]
  · rw [if_neg hc]
    rw [le32, e1] at hc
    rw [e1, Int.tdiv_eq_zero_of_lt (by omega) (by omega)] at hd
    have e3 : (k + 1) / n = 0 := by rw [eq32, hd]; rfl
    rw [e3, Int32.zero_mul, Int32.sub_zero]
theorem m_turn {I : xm_I} {x : Int32} (hp : IvP I) (h : IvF I) (hx : vo I x) : ok (f_Fg_turnOf x I) (fun r => f_M_measured x I = some r) := by
  unfold f_Fg_turnOf f_Fg_turnOf_b0 f_Fg_turnOf_b11 f_M_measured f_M_measured_b0 f_M_measured_b5
  have hx' := hx
  obtain ⟨x1, x2, x3⟩ := hx'
  obtain ⟨a1, a2, a3, a4⟩ := h.obj hx
  have h' := h
  obtain ⟨_, _, ⟨_, _, _, _, e56, _, _⟩, _⟩ := h'
  have hn12 : (I 10 (Int32.toNatClampNeg x)).toInt ≤ 12 := by omega
  refine ok_e (e_Fg_cornersOf hx) ?_
  have k1 : (1 : Int32).toInt = 1 := by decide
  have k0 : (0 : Int32).toInt = 0 := by decide
  have key := lp_two (f := f_Fg_turnOf_s11 x (I 10 (Int32.toNatClampNeg x)) I) (g := f_M_measured_s5 x I) (fun s t => s = t ∧ 0 ≤ s.2.toInt ∧ s.2.toInt ≤ (I 10 (Int32.toNatClampNeg x)).toInt) (fun s => (13 - s.2.toInt).toNat) (fun r q => q = r) ?_ (0, 0) (0, 0) ⟨rfl, by simp only [k0]; omega, by simp only [k0]; omega⟩
  · exact ok_mono key fun r hr => ok_eq hr
  · intro s t ⟨hst, s1, s2⟩
    subst hst
    unfold f_Fg_turnOf_s11 f_M_measured_s5
    refine ok_i (fun hc => ?_) (fun hc => ?_)
    · refine ok_s (ok_g (by omega) (ok_t ?_ (ok_s rfl)))
      rw [e56]
      exact hc
    · rw [le32] at hc
      have es : (s.2 + 1).toInt = s.2.toInt + 1 := by rw [i32a (by rw [k1]; omega), k1]
      have v1 : vc I x s.2 := ⟨hx, s1, by omega⟩
      have hnx := nxt_mod (k := s.2) (n := I 10 (Int32.toNatClampNeg x)) s1 (by omega) hn12
      have v0 : vc I x 0 := ⟨hx, by rw [k0]; omega, by rw [k0]; omega⟩
      have hc' : ¬ I 56 (Int32.toNatClampNeg x) ≤ s.2 := by rw [e56, le32]; exact hc
      have hz : ¬ I 56 (Int32.toNatClampNeg x) = 0 := by rw [e56, eq32]; simp only [k0]; omega
      have fin : ∀ y : Int32, vc I x y → (s.2 + 1) - (s.2 + 1) / I 10 (Int32.toNatClampNeg x) * I 10 (Int32.toNatClampNeg x) = y → ok (f_Fg_turnOf_b33 x (I 10 (Int32.toNatClampNeg x)) s.1 s.2 y I) (fun x_1 => ok (gd (0 ≤ x.toInt ∧ x.toInt < 40) (if I 56 (Int32.toNatClampNeg x) ≤ s.2 then some (Sum.inr s.1) else gd (0 ≤ x.toInt ∧ x.toInt < 40) (gd (¬ I 56 (Int32.toNatClampNeg x) = 0) ((f_M_cornerX x s.2 I).bind fun p_2 => (f_M_cornerY x ((s.2 + 1) - (s.2 + 1) / I 56 (Int32.toNatClampNeg x) * I 56 (Int32.toNatClampNeg x)) I).bind fun p_3 => (f_M_cornerX x ((s.2 + 1) - (s.2 + 1) / I 56 (Int32.toNatClampNeg x) * I 56 (Int32.toNatClampNeg x)) I).bind fun p_4 => (f_M_cornerY x s.2 I).bind fun p_5 => some (.inl (s.1 + (((Int32.toInt64 p_2) * (Int32.toInt64 p_3)) - ((Int32.toInt64 p_4) * (Int32.toInt64 p_5))), s.2 + 1)))))) (fun y => Sum.elim (fun s' => Sum.elim (fun t' => (s' = t' ∧ 0 ≤ s'.2.toInt ∧ s'.2.toInt ≤ (I 10 (Int32.toNatClampNeg x)).toInt) ∧ (13 - s'.2.toInt).toNat < (13 - s.2.toInt).toNat) (fun _ => False) y) (fun r => Sum.elim (fun _ => False) (fun q => q = r) y) x_1)) := by
        intro y vy hy
        unfold f_Fg_turnOf_b33
        refine ok_e (e_Fg_xOf hp h v1) (ok_e (e_Fg_yOf hp h vy) (ok_e (e_Fg_xOf hp h vy) (ok_e (e_Fg_yOf hp h v1) (ok_s ?_))))
        refine ok_g (by omega) (ok_f hc' (ok_g (by omega) (ok_g hz ?_)))
        rw [e56, hy]
        refine ok_e (e_M_cornerX hp h v1) (ok_e (e_M_cornerY hp h vy) (ok_e (e_M_cornerX hp h vy) (ok_e (e_M_cornerY hp h v1) (ok_s ?_))))
        refine ⟨⟨rfl, ?_, ?_⟩, ?_⟩
        · show 0 ≤ (s.2 + 1).toInt
          omega
        · show (s.2 + 1).toInt ≤ _
          omega
        · show (13 - (s.2 + 1).toInt).toNat < _
          omega
      refine ok_i (fun hd => ?_) (fun hd => ?_)
      · exact fin 0 v0 (by rw [hnx, if_pos hd])
      · exact fin (s.2 + 1) ⟨hx, by omega, by rw [le32, es] at hd; omega⟩ (by rw [hnx, if_neg hd])
/-- kinds, and how many corners: what is enough -/
theorem IvF.ct {I : xm_I} (h : IvF I) {x : Int32} (hx : vo I x) : (0 ≤ (I 7 (Int32.toNatClampNeg x)).toInt ∧ (I 7 (Int32.toNatClampNeg x)).toInt ≤ 7) ∧ 1 ≤ (I 10 (Int32.toNatClampNeg x)).toInt ∧ (I 10 (Int32.toNatClampNeg x)).toInt ≤ 12 ∧ ((I 7 (Int32.toNatClampNeg x)).toInt ≠ 0 → 2 ≤ (I 10 (Int32.toNatClampNeg x)).toInt) ∧ ((I 7 (Int32.toNatClampNeg x)).toInt = 5 → 3 ≤ (I 10 (Int32.toNatClampNeg x)).toInt) ∧ ((I 7 (Int32.toNatClampNeg x)).toInt = 7 → 3 ≤ (I 10 (Int32.toNatClampNeg x)).toInt) := by
  obtain ⟨a1, a2, a3, a4⟩ := h.obj hx
  omega
theorem bi_and {c : Prop} [Decidable c] : bi c &&& 1 = bi c := by
  by_cases h : c
  · rw [bi_t h]; decide
  · rw [bi_f h]; decide
theorem m_fallen {I : xm_I} {x : Int32} (hp : IvP I) (h : IvF I) (hx : vo I x) : ∃ c : Bool, f_Fg_hasFallen x I = some (bi (c = true)) ∧ f_M_isFallen x I = some (bi (c = true)) ∧ ((I 7 (Int32.toNatClampNeg x)).toInt = 0 → c = false) ∧ ((I 7 (Int32.toNatClampNeg x)).toInt ≠ 0 → (I 7 (Int32.toNatClampNeg x)).toInt ≠ 5 → (I 7 (Int32.toNatClampNeg x)).toInt ≠ 7 → (c = true ↔ (CX I (Int32.toNatClampNeg x) 0 = CX I (Int32.toNatClampNeg x) 1 ∧ CY I (Int32.toNatClampNeg x) 0 = CY I (Int32.toNatClampNeg x) 1))) := by
  obtain ⟨⟨a1, a2⟩, a3, a4, a5, a6, a7⟩ := h.ct hx
  have h' := h
  obtain ⟨_, _, ⟨_, _, e54, _, e56, _, _⟩, _⟩ := h'
  have k0 : (0 : Int32).toInt = 0 := by decide
  have k1 : (1 : Int32).toInt = 1 := by decide
  have k2 : (2 : Int32).toInt = 2 := by decide
  have k5 : (5 : Int32).toInt = 5 := by decide
  have k7 : (7 : Int32).toInt = 7 := by decide
  have t0 : Int32.toNatClampNeg 0 = 0 := by decide
  have t1 : Int32.toNatClampNeg 1 = 1 := by decide
  have hk := e_Fg_kindOf hx
  have hg : 0 ≤ x.toInt ∧ x.toInt < 40 := by have := hx; unfold vo at this; omega
  unfold f_Fg_hasFallen f_Fg_hasFallen_b0 f_M_isFallen f_M_isFallen_b0
  rw [hk, gd_p _ hg, e54]
  simp only [Option.bind_some]
  by_cases c0 : I 7 (Int32.toNatClampNeg x) = 0
  · refine ⟨false, ?_, ?_, ?_, ?_⟩
    · rw [if_pos c0, bi_f (by decide)]
    · rw [if_pos c0, bi_f (by decide)]
    · intro _; rfl
    · intro k; exact absurd (by rw [c0, k0]) k
  · have c0' : (I 7 (Int32.toNatClampNeg x)).toInt ≠ 0 := fun k => c0 (by rw [eq32, k, k0])
    have v0 : vc I x 0 := ⟨hx, by omega, by omega⟩
    have v1 : vc I x 1 := ⟨hx, by omega, by have := a5 c0'; omega⟩
    have p01 := e_Fg_isAtOnePlace hp h v0 v1
    have q01 := e_M_isSame hp h v0 v1
    rw [if_neg c0, if_neg c0]
    by_cases c5 : I 7 (Int32.toNatClampNeg x) = 5
    · have c5' : (I 7 (Int32.toNatClampNeg x)).toInt = 5 := by rw [c5, k5]
      have v2 : vc I x 2 := ⟨hx, by omega, by have := a6 c5'; omega⟩
      have p21 := e_Fg_isAtOnePlace hp h v2 v1
      have q21 := e_M_isSame hp h v2 v1
      rw [if_pos c5, if_pos c5, p01, q01, p21, q21]
      simp only [Option.bind_some, bi0]
      by_cases kA : CX I (Int32.toNatClampNeg x) (Int32.toNatClampNeg 0) = CX I (Int32.toNatClampNeg x) (Int32.toNatClampNeg 1) ∧ CY I (Int32.toNatClampNeg x) (Int32.toNatClampNeg 0) = CY I (Int32.toNatClampNeg x) (Int32.toNatClampNeg 1)
      · refine ⟨true, ?_, ?_, fun k => absurd k c0', fun _ k => absurd c5' k⟩ <;> rw [if_neg (fun k => k kA), bi_t rfl]
      · by_cases kB : CX I (Int32.toNatClampNeg x) (Int32.toNatClampNeg 2) = CX I (Int32.toNatClampNeg x) (Int32.toNatClampNeg 1) ∧ CY I (Int32.toNatClampNeg x) (Int32.toNatClampNeg 2) = CY I (Int32.toNatClampNeg x) (Int32.toNatClampNeg 1)
        · refine ⟨true, ?_, ?_, fun k => absurd k c0', fun _ k => absurd c5' k⟩ <;> rw [if_pos kA, if_neg (fun k => k kB), bi_t rfl]
        · refine ⟨false, ?_, ?_, fun k => absurd k c0', fun _ k => absurd c5' k⟩ <;> rw [if_pos kA, if_pos kB, bi_f (by decide)]
    · rw [if_neg c5, if_neg c5]
      by_cases c7 : I 7 (Int32.toNatClampNeg x) = 7
      · have c7' : (I 7 (Int32.toNatClampNeg x)).toInt = 7 := by rw [c7, k7]
        obtain ⟨r, hr1, hr2⟩ := m_turn hp h hx
        rw [if_pos c7, if_pos c7, hr1, hr2]
        simp only [Option.bind_some]
        by_cases kr : r = 0
        · refine ⟨true, ?_, ?_, fun k => absurd k c0', fun _ _ k => absurd c7' k⟩ <;> rw [if_pos kr, bi_t rfl]
        · refine ⟨false, ?_, ?_, fun k => absurd k c0', fun _ _ k => absurd c7' k⟩ <;> rw [if_neg kr, bi_f (by decide)]
      · rw [if_neg c7, if_neg c7, p01, q01]
        simp only [Option.bind_some]
        rw [gd_p _ bi_and, t0, t1]
        refine ⟨decide (CX I (Int32.toNatClampNeg x) 0 = CX I (Int32.toNatClampNeg x) 1 ∧ CY I (Int32.toNatClampNeg x) 0 = CY I (Int32.toNatClampNeg x) 1), ?_, ?_, fun k => absurd k c0', fun _ _ _ => decide_eq_true_iff⟩
        · exact congrArg some (bi_iff decide_eq_true_iff.symm)
        · exact congrArg some (bi_iff decide_eq_true_iff.symm)
