/-! ===== points: what holds between calls, and their calls ===== -/
theorem e_D_isWithin (x a b : Int32) : f_D_isWithin x a b = some (bi (a.toInt ≤ x.toInt ∧ x.toInt ≤ b.toInt)) := by
  unfold f_D_isWithin f_D_isWithin_b0
  simp only [lt32]
  (repeat' split) <;> first | rw [bi_t (by omega)] | rw [bi_f (by omega)]
theorem e_M_in (x a b : Int64) : f_M_in x a b = some (bi (a.toInt ≤ x.toInt ∧ x.toInt ≤ b.toInt)) := by
  unfold f_M_in f_M_in_b0
  simp only [lt64]
  (repeat' split) <;> first | rw [bi_t (by omega)] | rw [bi_f (by omega)]
theorem e_Pt_isFull (I : xm_I) : f_Pt_isFull I = some (bi (60 ≤ (I 1 4).toInt)) := by
  unfold f_Pt_isFull f_Pt_isFull_b0
  simp only [lt32, Int32.reduceToInt]
  (repeat' split) <;> first | rw [bi_t (by omega)] | rw [bi_f (by omega)]
theorem e_Pt_has (x : Int32) (I : xm_I) : f_Pt_has x I = some (bi (0 ≤ x.toInt ∧ x.toInt < (I 1 4).toInt ∧ x.toInt < 60)) := by
  unfold f_Pt_has f_Pt_has_b0
  simp only [lt32, le32, Int32.reduceToInt]
  (repeat' split) <;> first | rw [bi_t (by omega)] | rw [bi_f (by omega)]
theorem e_M_isPoint (x : Int32) (I : xm_I) : f_M_isPoint x I = some (bi (0 ≤ x.toInt ∧ x.toInt < (I 49 4).toInt)) := by
  unfold f_M_isPoint f_M_isPoint_b0
  simp only [lt32, le32, Int32.reduceToInt]
  (repeat' split) <;> first | rw [bi_t (by omega)] | rw [bi_f (by omega)]
def IvP (I : xm_I) : Prop :=
  (0 ≤ (I 1 4).toInt ∧ (I 1 4).toInt ≤ 60) ∧ (0 ≤ (I 1 5).toInt ∧ (I 1 5).toInt ≤ 100) ∧ (I 49 4 = I 1 4 ∧ I 49 5 = I 1 5 ∧ I 50 = I 2 ∧ I 51 = I 3 ∧ I 52 = I 4 ∧ I 53 = I 5) ∧
  (∀ k, (-20000 ≤ (I 2 k).toInt ∧ (I 2 k).toInt ≤ 20000) ∧ (-20000 ≤ (I 3 k).toInt ∧ (I 3 k).toInt ≤ 20000) ∧ (-100 ≤ (I 4 k).toInt ∧ (I 4 k).toInt ≤ 100) ∧ (-100 ≤ (I 5 k).toInt ∧ (I 5 k).toInt ≤ 100)) ∧
  (∀ k : Nat, (I 1 4).toInt ≤ (k : Int) → I 4 k = 0 ∧ I 5 k = 0)
def PX (I : xm_I) (p : Nat) : Int32 := I 2 p + I 1 5 * I 4 p
def PY (I : xm_I) (p : Nat) : Int32 := I 3 p + I 1 5 * I 5 p
theorem mul_bd {a b m n : Int} (h1 : 0 ≤ a) (h2 : a ≤ m) (h3 : -n ≤ b) (h4 : b ≤ n) : -(m * n) ≤ a * b ∧ a * b ≤ m * n := by
  have hn : 0 ≤ n := by omega
  have e1 : a * b ≤ a * n := Int.mul_le_mul_of_nonneg_left h4 h1
  have e2 : a * n ≤ m * n := Int.mul_le_mul_of_nonneg_right h2 hn
  have e3 : a * (-n) ≤ a * b := Int.mul_le_mul_of_nonneg_left h3 h1
  have e4 : a * (-n) = -(a * n) := Int.mul_neg a n
  constructor <;> omega
theorem PX_i {I : xm_I} (h : IvP I) (p : Nat) : (PX I p).toInt = (I 2 p).toInt + (I 1 5).toInt * (I 4 p).toInt ∧ -30000 ≤ (PX I p).toInt ∧ (PX I p).toInt ≤ 30000 := by
  obtain ⟨h1, h2, h0, h3, h4⟩ := h
  obtain ⟨a1, a2, a3, a4⟩ := h3 p
  have hm := mul_bd h2.1 h2.2 a3.1 a3.2
  have e : (I 1 5 * I 4 p).toInt = (I 1 5).toInt * (I 4 p).toInt := i32m (by omega)
  have e2 : (PX I p).toInt = (I 2 p).toInt + (I 1 5).toInt * (I 4 p).toInt := by
    unfold PX
    rw [i32a (by rw [e]; omega), e]
  refine ⟨e2, ?_⟩
  rw [e2]
  constructor <;> omega
theorem PY_i {I : xm_I} (h : IvP I) (p : Nat) : (PY I p).toInt = (I 3 p).toInt + (I 1 5).toInt * (I 5 p).toInt ∧ -30000 ≤ (PY I p).toInt ∧ (PY I p).toInt ≤ 30000 := by
  obtain ⟨h1, h2, h0, h3, h4⟩ := h
  obtain ⟨a1, a2, a3, a4⟩ := h3 p
  have hm := mul_bd h2.1 h2.2 a4.1 a4.2
  have e : (I 1 5 * I 5 p).toInt = (I 1 5).toInt * (I 5 p).toInt := i32m (by omega)
  have e2 : (PY I p).toInt = (I 3 p).toInt + (I 1 5).toInt * (I 5 p).toInt := by
    unfold PY
    rw [i32a (by rw [e]; omega), e]
  refine ⟨e2, ?_⟩
  rw [e2]
  constructor <;> omega
theorem e_Pt_xNow {I : xm_I} {x : Int32} (h1 : 0 ≤ x.toInt) (h2 : x.toInt < (I 1 4).toInt) (h3 : (I 1 4).toInt ≤ 60) : f_Pt_xNow x I = some (PX I (Int32.toNatClampNeg x)) := by
  unfold f_Pt_xNow f_Pt_xNow_b0
  rw [e_Pt_has, bi_t (by omega)]
  simp only [Option.bind_some]
  rw [if_neg (by decide), gd_p _ (by omega), gd_p _ (by omega)]
  rfl
theorem e_Pt_yNow {I : xm_I} {x : Int32} (h1 : 0 ≤ x.toInt) (h2 : x.toInt < (I 1 4).toInt) (h3 : (I 1 4).toInt ≤ 60) : f_Pt_yNow x I = some (PY I (Int32.toNatClampNeg x)) := by
  unfold f_Pt_yNow f_Pt_yNow_b0
  rw [e_Pt_has, bi_t (by omega)]
  simp only [Option.bind_some]
  rw [if_neg (by decide), gd_p _ (by omega), gd_p _ (by omega)]
  rfl
theorem e_M_nowX {I : xm_I} {x : Int32} (h : IvP I) (h1 : 0 ≤ x.toInt) (h2 : x.toInt < 60) : f_M_nowX x I = some (PX I (Int32.toNatClampNeg x)) := by
  obtain ⟨_, _, ⟨e1, e2, e3, e4, e5, e6⟩, _, _⟩ := h
  unfold f_M_nowX f_M_nowX_b0
  rw [gd_p _ (by omega), gd_p _ (by omega), e2, e3, e5]
  rfl
theorem e_M_nowY {I : xm_I} {x : Int32} (h : IvP I) (h1 : 0 ≤ x.toInt) (h2 : x.toInt < 60) : f_M_nowY x I = some (PY I (Int32.toNatClampNeg x)) := by
  obtain ⟨_, _, ⟨e1, e2, e3, e4, e5, e6⟩, _, _⟩ := h
  unfold f_M_nowY f_M_nowY_b0
  rw [gd_p _ (by omega), gd_p _ (by omega), e2, e4, e6]
  rfl
