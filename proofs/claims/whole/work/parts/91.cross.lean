/-! ===== a line's crossings with the sides of an area ===== -/
abbrev crB (Y : Nat → Int32) (n k : Nat) (y : Int) : Prop := ¬ (y < (Y k).toInt ↔ y < (Y (nxk n k)).toInt)
def crN (X Y : Nat → Int32) (n k : Nat) (y : Int) : Int := (X k).toInt * ((Y (nxk n k)).toInt - (Y k).toInt) + (y - (Y k).toInt) * ((X (nxk n k)).toInt - (X k).toInt)
def crP (X Y : Nat → Int32) (n k : Nat) (y : Int) : Cr := if 0 ≤ (Y (nxk n k)).toInt - (Y k).toInt then (i6 (crN X Y n k y), i6 ((Y (nxk n k)).toInt - (Y k).toInt)) else (i6 (-(crN X Y n k y)), i6 (-((Y (nxk n k)).toInt - (Y k).toInt)))
def crs (X Y : Nat → Int32) (n : Nat) (y : Int) : Nat → List Cr
  | 0 => []
  | k + 1 => if crB Y n k y then ins (crs X Y n y k) (crP X Y n k y) else crs X Y n y k
def crC (Y : Nat → Int32) (n : Nat) (y : Int) : Nat → Nat
  | 0 => 0
  | k + 1 => crC Y n y k + (if crB Y n k y then 1 else 0)
theorem crs_len (X Y : Nat → Int32) (n : Nat) (y : Int) (k : Nat) : (crs X Y n y k).length = crC Y n y k := by
  induction k with
  | zero => rfl
  | succ k ih =>
    unfold crs crC
    by_cases h : crB Y n k y
    · rw [if_pos h, if_pos h, ins_len, ih]
    · rw [if_neg h, if_neg h, ih]
      rfl
theorem crC_le (Y : Nat → Int32) (n : Nat) (y : Int) (k : Nat) : crC Y n y k ≤ k := by
  induction k with
  | zero => exact Nat.le_refl _
  | succ k ih =>
    unfold crC
    split <;> omega
/-- going round, one crosses an even number of times -/
theorem crC_par (Y : Nat → Int32) (n : Nat) (y : Int) (k : Nat) (hk : k < n) : (crC Y n y k) % 2 = if (y < (Y 0).toInt ↔ y < (Y k).toInt) then 0 else 1 := by
  induction k with
  | zero => rw [if_pos Iff.rfl]; rfl
  | succ k ih =>
    have i := ih (by omega)
    have e : nxk n k = k + 1 := by unfold nxk; rw [if_pos hk]
    have ec : crB Y n k y ↔ ¬ (y < (Y k).toInt ↔ y < (Y (k + 1)).toInt) := by unfold crB; rw [e]
    have hu : crC Y n y (k + 1) = crC Y n y k + (if crB Y n k y then 1 else 0) := rfl
    rw [hu]
    by_cases d : crB Y n k y
    · rw [if_pos d]
      rw [ec] at d
      by_cases a : y < (Y 0).toInt <;> by_cases b : y < (Y k).toInt <;> by_cases c : y < (Y (k + 1)).toInt <;> simp [a, b, c] at i d ⊢ <;> omega
    · rw [if_neg d]
      rw [ec] at d
      by_cases a : y < (Y 0).toInt <;> by_cases b : y < (Y k).toInt <;> by_cases c : y < (Y (k + 1)).toInt <;> simp [a, b, c] at i d ⊢ <;> omega
theorem crC_even {Y : Nat → Int32} {n : Nat} (y : Int) (hn : 0 < n) : (crC Y n y n) % 2 = 0 := by
  obtain ⟨k, rfl⟩ : ∃ k, n = k + 1 := ⟨n - 1, by omega⟩
  have i := crC_par Y (k + 1) y k (by omega)
  have e : nxk (k + 1) k = 0 := by unfold nxk; rw [if_neg (by omega)]
  have ec : crB Y (k + 1) k y ↔ ¬ (y < (Y k).toInt ↔ y < (Y 0).toInt) := by unfold crB; rw [e]
  have hu : crC Y (k + 1) y (k + 1) = crC Y (k + 1) y k + (if crB Y (k + 1) k y then 1 else 0) := rfl
  rw [hu]
  by_cases d : crB Y (k + 1) k y
  · rw [if_pos d]
    rw [ec] at d
    by_cases a : y < (Y 0).toInt <;> by_cases b : y < (Y k).toInt <;> simp [a, b] at i d ⊢ <;> omega
  · rw [if_neg d]
    rw [ec] at d
    by_cases a : y < (Y 0).toInt <;> by_cases b : y < (Y k).toInt <;> simp [a, b] at i d ⊢ <;> omega
theorem mem_ins {l : List Cr} {p q : Cr} (h : q ∈ ins l p) : q = p ∨ q ∈ l := by
  unfold ins at h
  rw [List.mem_append, List.mem_cons] at h
  rcases h with h | h | h
  · exact Or.inr (List.mem_of_mem_take h)
  · exact Or.inl h
  · exact Or.inr (List.mem_of_mem_drop h)
theorem crs_all {X Y : Nat → Int32} {n : Nat} {y : Int} {P : Cr → Prop} (h : ∀ k, k < n → crB Y n k y → P (crP X Y n k y)) (k : Nat) (hk : k ≤ n) : ∀ q ∈ crs X Y n y k, P q := by
  induction k with
  | zero => intro q hq; cases hq
  | succ k ih =>
    intro q hq
    unfold crs at hq
    by_cases c : crB Y n k y
    · rw [if_pos c] at hq
      rcases mem_ins hq with rfl | hq
      · exact h k (by omega) c
      · exact ih (by omega) q hq
    · rw [if_neg c] at hq
      exact ih (by omega) q hq
/-- neighbours lie in order -/
def chn (l : List Cr) : Prop := ∀ i a b, l[i]? = some a → l[i + 1]? = some b → a.1 * b.2 ≤ b.1 * a.2
theorem pos_at (l : List Cr) (p : Cr) (n : Nat) : (∀ i q, i + 1 = pos l p n → l[i]? = some q → q.1 * p.2 ≤ p.1 * q.2) ∧ (∀ q, pos l p n < n → l[pos l p n]? = some q → p.1 * q.2 ≤ q.1 * p.2) := by
  induction n with
  | zero =>
    refine ⟨fun i q h => ?_, fun q h => ?_⟩
    · have : pos l p 0 = 0 := rfl
      omega
    · omega
  | succ n ih =>
    have hu : pos l p (n + 1) = if ((l[n]?).getD (0, 0)).1 * p.2 ≤ p.1 * ((l[n]?).getD (0, 0)).2 then n + 1 else pos l p n := rfl
    by_cases c : ((l[n]?).getD (0, 0)).1 * p.2 ≤ p.1 * ((l[n]?).getD (0, 0)).2
    · rw [hu, if_pos c]
      refine ⟨fun i q h hq => ?_, fun q h => by omega⟩
      have e : i = n := by omega
      rw [e] at hq
      rw [hq] at c
      exact c
    · rw [hu, if_neg c]
      refine ⟨ih.1, fun q h hq => ?_⟩
      by_cases d : pos l p n < n
      · exact ih.2 q d hq
      · have e : pos l p n = n := by have := pos_le l p n; omega
        rw [e] at hq
        rw [hq] at c
        have c' : ¬ q.1 * p.2 ≤ p.1 * q.2 := c
        rw [le64] at c' ⊢
        omega
theorem chn_ins {l : List Cr} {p : Cr} (h : chn l) : chn (ins l p) := by
  intro i a b ha hb
  have hj := pos_le l p l.length
  obtain ⟨p1, p2⟩ := pos_at l p l.length
  unfold ins at ha hb
  rw [ins_get hj] at ha hb
  generalize pos l p l.length = j at *
  by_cases c1 : i + 1 < j
  · rw [if_pos (by omega)] at ha
    rw [if_pos c1] at hb
    exact h i a b ha hb
  · rw [if_neg c1] at hb
    by_cases c2 : i + 1 = j
    · rw [if_pos c2] at hb
      rw [if_pos (by omega)] at ha
      cases hb
      exact p1 i a c2 ha
    · rw [if_neg c2] at hb
      rw [if_neg (by omega)] at ha
      have e : i + 1 - 1 = i := by omega
      rw [e] at hb
      by_cases c3 : i = j
      · rw [if_pos c3] at ha
        cases ha
        have hi : i < l.length := by
          have := (List.getElem?_eq_some_iff.mp hb).1
          exact this
        exact p2 b (by omega) (by rw [← c3]; exact hb)
      · rw [if_neg c3] at ha
        have e2 : i = i - 1 + 1 := by omega
        rw [e2] at hb
        exact h (i - 1) a b ha hb
theorem crs_chn (X Y : Nat → Int32) (n : Nat) (y : Int) (k : Nat) : chn (crs X Y n y k) := by
  induction k with
  | zero => intro i a b ha; cases ha
  | succ k ih =>
    unfold crs
    by_cases c : crB Y n k y
    · rw [if_pos c]; exact chn_ins ih
    · rw [if_neg c]; exact ih
/-! strokes between crossings -/
def cutL (I : xm_I) (a : Cr) : Cr := if (I 14 0).toInt64 * a.2 ≤ a.1 then a else ((I 14 0).toInt64, 1)
def cutR (I : xm_I) (b : Cr) : Cr := if b.1 ≤ (I 14 1).toInt64 * b.2 then b else ((I 14 1).toInt64, 1)
def strk (I : xm_I) (y : Int) (st : Int32) (a b : Cr) : List M6 := if (cutL I a).1 * (cutR I b).2 ≤ (cutR I b).1 * (cutL I a).2 then [(83, SX I (cutL I a).1 (cutL I a).2, SY I (i6 y) 1, SX I (cutR I b).1 (cutR I b).2, SY I (i6 y) 1, st)] else []
def strN (I : xm_I) (y : Int) (st : Int32) (l : List Cr) : Nat → List M6
  | 0 => []
  | j + 1 => strN I y st l j ++ strk I y st ((l[2 * j]?).getD (0, 0)) ((l[2 * j + 1]?).getD (0, 0))
/-- the strokes of one line -/
def hsA (I : xm_I) (o : Nat) (y : Int) : List M6 := strN I y (I 8 o) (crs (CX I o) (CY I o) (Int32.toNatClampNeg (I 10 o)) y (Int32.toNatClampNeg (I 10 o))) (crC (CY I o) (Int32.toNatClampNeg (I 10 o)) y (Int32.toNatClampNeg (I 10 o)) / 2)
def sml (q : Cr) : Prop := 1 ≤ q.2.toInt ∧ q.2.toInt ≤ 60000
def XY (X Y : Nat → Int32) : Prop := (∀ k, -30000 ≤ (X k).toInt ∧ (X k).toInt ≤ 30000) ∧ ∀ k, -30000 ≤ (Y k).toInt ∧ (Y k).toInt ≤ 30000
theorem crN_b {X Y : Nat → Int32} {n k : Nat} {y : Int} (h : XY X Y) (hy : -40000 ≤ y ∧ y ≤ 40000) : -6000000000 ≤ crN X Y n k y ∧ crN X Y n k y ≤ 6000000000 := by
  have x0 := h.1 k
  have x1 := h.1 (nxk n k)
  have y0 := h.2 k
  have y1 := h.2 (nxk n k)
  have m1 := mul_ab (a := (X k).toInt) (b := (Y (nxk n k)).toInt - (Y k).toInt) (m := 30000) (n := 60000) (by omega) (by omega) (by omega) (by omega)
  have m2 := mul_ab (a := y - (Y k).toInt) (b := (X (nxk n k)).toInt - (X k).toInt) (m := 70000) (n := 60000) (by omega) (by omega) (by omega) (by omega)
  unfold crN
  omega
theorem crP_sml {X Y : Nat → Int32} {n k : Nat} {y : Int} (h : XY X Y) (hc : crB Y n k y) : sml (crP X Y n k y) := by
  have y0 := h.2 k
  have y1 := h.2 (nxk n k)
  unfold sml crP
  split
  · rw [i6_i (by omega)]
    omega
  · rw [i6_i (by omega)]
    omega
theorem cut_sml {I : xm_I} {q : Cr} (h : sml q) : gdn (cutL I q).2 ∧ gdn (cutR I q).2 := by
  have g : gdn q.2 := ⟨h.1, by have := h.2; omega⟩
  constructor
  · unfold cutL
    split
    · exact g
    · exact gd1
  · unfold cutR
    split
    · exact g
    · exact gd1
/-- where no corner lies beside the window, each pair makes a stroke -/
theorem uncut {I : xm_I} {X Y : Nat → Int32} {n k : Nat} {y : Int} (hW : WB I) (h : XY X Y) (hy : -40000 ≤ y ∧ y ≤ 40000) (hin : ∀ k, k < n → (I 14 0).toInt ≤ (X k).toInt ∧ (X k).toInt ≤ (I 14 1).toInt) (hk : k < n) (hc : crB Y n k y) : (I 14 0).toInt64 * (crP X Y n k y).2 ≤ (crP X Y n k y).1 ∧ (crP X Y n k y).1 ≤ (I 14 1).toInt64 * (crP X Y n k y).2 := by
  have hs := crP_sml (X := X) h hc
  have hb := crN_b (n := n) (k := k) h hy
  obtain ⟨b1, b2, _⟩ := hW
  have hn : nxk n k < n := by unfold nxk; split <;> omega
  have i0 := hin k hk
  have i1 := hin _ hn
  have y0 := h.2 k
  have y1 := h.2 (nxk n k)
  have m : ∀ a : Int32, -40000 ≤ a.toInt ∧ a.toInt ≤ 40000 → (a.toInt64 * (crP X Y n k y).2).toInt = a.toInt * (crP X Y n k y).2.toInt := fun a ha => by
    have hs1 := hs.1
    have hs2 := hs.2
    rw [m64 (by rw [i64of]; omega) (by omega), i64of]
  rw [le64, le64, m _ (by omega), m _ (by omega)]
  unfold crP crN
  unfold crN at hb
  unfold crB at hc
  clear hs m
  generalize (X k).toInt = x0 at *
  generalize (X (nxk n k)).toInt = x1 at *
  generalize (Y k).toInt = v0 at *
  generalize (Y (nxk n k)).toInt = v1 at *
  generalize (I 14 0).toInt = l at *
  generalize (I 14 1).toInt = r at *
  have key : ∀ s t : Int, 0 ≤ s → 0 ≤ t → l * (s + t) ≤ x0 * s + x1 * t ∧ x0 * s + x1 * t ≤ r * (s + t) := by
    intro s t hs ht
    have a1 := Int.mul_le_mul_of_nonneg_right i0.1 hs
    have a2 := Int.mul_le_mul_of_nonneg_right i1.1 ht
    have a3 := Int.mul_le_mul_of_nonneg_right i0.2 hs
    have a4 := Int.mul_le_mul_of_nonneg_right i1.2 ht
    rw [Int.mul_add, Int.mul_add]
    omega
  split
  · rename_i hd
    dsimp only
    rw [i6_i (by omega), i6_i (by omega)]
    have := key (v1 - y) (y - v0) (by omega) (by omega)
    have e1 : v1 - y + (y - v0) = v1 - v0 := by omega
    have e2 : x0 * (v1 - y) + x1 * (y - v0) = x0 * (v1 - v0) + (y - v0) * (x1 - x0) := by grind
    rw [e1, e2] at this
    exact this
  · rename_i hd
    dsimp only
    rw [i6_i (by omega), i6_i (by omega)]
    have := key (y - v1) (v0 - y) (by omega) (by omega)
    have e1 : y - v1 + (v0 - y) = -(v1 - v0) := by omega
    have e2 : x0 * (y - v1) + x1 * (v0 - y) = -(x0 * (v1 - v0) + (y - v0) * (x1 - x0)) := by grind
    rw [e1, e2] at this
    exact this
