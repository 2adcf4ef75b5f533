/-! ===== marks: a row each, six ints; what is added when all 600 rows are taken is lost ===== -/
abbrev M6 : Type := Int32 × Int32 × Int32 × Int32 × Int32 × Int32
abbrev MS : Type := List M6 × Int32
def em (s : MS) (x : M6) : MS := if s.1.length < 600 then (s.1 ++ [x], s.2) else (s.1, s.2 + 1)
def ems (s : MS) (xs : List M6) : MS := xs.foldl em s
theorem ems_app (s : MS) (xs ys : List M6) : ems s (xs ++ ys) = ems (ems s xs) ys := List.foldl_append
theorem ems_nil (s : MS) : ems s [] = s := rfl
theorem ems_one (s : MS) (x : M6) : ems s [x] = em s x := rfl
theorem ems_cons (s : MS) (x : M6) (xs : List M6) : ems s (x :: xs) = ems (em s x) xs := rfl
theorem em_le {s : MS} {x : M6} (h : s.1.length ≤ 600) : (em s x).1.length ≤ 600 := by
  unfold em
  by_cases hc : s.1.length < 600
  · rw [if_pos hc]
    simp
    omega
  · rw [if_neg hc]
    exact h
theorem ems_le {s : MS} {xs : List M6} (h : s.1.length ≤ 600) : (ems s xs).1.length ≤ 600 := by
  induction xs generalizing s with
  | nil => exact h
  | cons x xs ih => exact ih (em_le h)
/-- all is lost when the rows are taken -/
theorem ems_full {s : MS} {xs : List M6} (h : s.1.length = 600) : ems s xs = (s.1, s.2 + n32 xs.length) := by
  induction xs generalizing s with
  | nil =>
    show s = (s.1, s.2 + 0)
    rw [Int32.add_zero]
  | cons x xs ih =>
    rw [ems_cons]
    have e : em s x = (s.1, s.2 + 1) := if_neg (by omega)
    rw [e, ih (s := (s.1, s.2 + 1)) h]
    congr 1
    show s.2 + 1 + n32 xs.length = s.2 + n32 (xs.length + 1)
    have : n32 (xs.length + 1) = n32 xs.length + 1 := Int32.ofNat_add xs.length 1
    rw [this]
    grind
def rowC (I : xm_I) (i : Nat) (m : M6) : Prop := I 18 (6 * i) = m.1 ∧ I 18 (6 * i + 1) = m.2.1 ∧ I 18 (6 * i + 2) = m.2.2.1 ∧ I 18 (6 * i + 3) = m.2.2.2.1 ∧ I 18 (6 * i + 4) = m.2.2.2.2.1 ∧ I 18 (6 * i + 5) = m.2.2.2.2.2
def rowM (I : xm_I) (i : Nat) (m : M6) : Prop := I 71 (7 * i) = m.1 ∧ I 71 (7 * i + 1) = m.2.1 ∧ I 71 (7 * i + 2) = m.2.2.1 ∧ I 71 (7 * i + 3) = m.2.2.2.1 ∧ I 71 (7 * i + 4) = m.2.2.2.2.1 ∧ I 71 (7 * i + 5) = m.2.2.2.2.2 ∧ I 71 (7 * i + 6) = 0
def CM (I : xm_I) (s : MS) : Prop := s.1.length ≤ 600 ∧ I 17 4 = n32 s.1.length ∧ I 17 5 = s.2 ∧ ∀ i m, s.1[i]? = some m → rowC I i m
def MM (I : xm_I) (s : MS) : Prop := s.1.length ≤ 600 ∧ I 49 49 = n32 s.1.length ∧ I 49 50 = s.2 ∧ ∀ i m, s.1[i]? = some m → rowM I i m
theorem CM.kept {I I' : xm_I} {s : MS} (h : CM I s) (e1 : I' 17 4 = I 17 4) (e2 : I' 17 5 = I 17 5) (e3 : I' 18 = I 18) : CM I' s := by
  obtain ⟨h1, h2, h3, h4⟩ := h
  refine ⟨h1, e1.trans h2, e2.trans h3, fun i m hm => ?_⟩
  have := h4 i m hm
  unfold rowC at this ⊢
  rw [e3]
  exact this
theorem MM.kept {I I' : xm_I} {s : MS} (h : MM I s) (e1 : I' 49 49 = I 49 49) (e2 : I' 49 50 = I 49 50) (e3 : I' 71 = I 71) : MM I' s := by
  obtain ⟨h1, h2, h3, h4⟩ := h
  refine ⟨h1, e1.trans h2, e2.trans h3, fun i m hm => ?_⟩
  have := h4 i m hm
  unfold rowM at this ⊢
  rw [e3]
  exact this
theorem e_Mk_isFull (I : xm_I) : f_Mk_isFull I = some (bi (600 ≤ (I 17 4).toInt)) := by
  unfold f_Mk_isFull f_Mk_isFull_b0
  simp only [lt32, le32, Int32.reduceToInt]
  (repeat' split) <;> first | rw [bi_t (by omega)] | rw [bi_f (by omega)]
theorem at_six {l : List M6} {x m : M6} {i : Nat} (h : (l ++ [x])[i]? = some m) : (l[i]? = some m ∧ i < l.length) ∨ (i = l.length ∧ m = x) := by
  by_cases hi : i < l.length
  · rw [List.getElem?_append_left hi] at h
    exact Or.inl ⟨h, hi⟩
  · rw [List.getElem?_append_right (by omega)] at h
    have h2 := List.getElem?_eq_some_iff.mp h
    obtain ⟨h3, h4⟩ := h2
    simp at h3
    have e : i = l.length := by omega
    subst e
    simp at h4
    exact Or.inr ⟨rfl, h4.symm⟩
theorem mk_add {a b c d e f : Int32} {I : xm_I} {s : MS} (h : CM I s) : ok (f_Mk_add a b c d e f I) (fun I' => Fr [18, 18004, 18005] I I' ∧ CM I' (em s (a, b, c, d, e, f))) := by
  obtain ⟨h1, h2, h3, h4⟩ := h
  have hk : (I 17 4).toInt = (s.1.length : Int) := by
    rw [h2]
    exact n32i (by omega)
  unfold f_Mk_add f_Mk_add_b0
  refine ok_e (e_Mk_isFull I) ?_
  by_cases hf : s.1.length < 600
  · refine ok_t (by rw [bi0]; omega) ?_
    have k6 : (6 : Int32).toInt = 6 := by decide
    have hx : (I 17 4 * 6).toInt = 6 * (s.1.length : Int) := by
      rw [i32m (by rw [hk, k6]; omega), hk, k6]
      omega
    have hj : ∀ j : Int32, 0 ≤ j.toInt → j.toInt ≤ 5 → (I 17 4 * 6 + j).toInt = 6 * (s.1.length : Int) + j.toInt := fun j _ _ => by rw [i32a (by omega), hx]
    have g1 := hj 1 (by decide) (by decide)
    have g2 := hj 2 (by decide) (by decide)
    have g3 := hj 3 (by decide) (by decide)
    have g4 := hj 4 (by decide) (by decide)
    have g5 := hj 5 (by decide) (by decide)
    simp only [Int32.reduceToInt] at g1 g2 g3 g4 g5
    have n0 : (I 17 4 * 6).toNatClampNeg = 6 * s.1.length := by show (I 17 4 * 6).toInt.toNat = _; omega
    have n1 : (I 17 4 * 6 + 1).toNatClampNeg = 6 * s.1.length + 1 := by show (I 17 4 * 6 + 1).toInt.toNat = _; omega
    have n2 : (I 17 4 * 6 + 2).toNatClampNeg = 6 * s.1.length + 2 := by show (I 17 4 * 6 + 2).toInt.toNat = _; omega
    have n3 : (I 17 4 * 6 + 3).toNatClampNeg = 6 * s.1.length + 3 := by show (I 17 4 * 6 + 3).toInt.toNat = _; omega
    have n4 : (I 17 4 * 6 + 4).toNatClampNeg = 6 * s.1.length + 4 := by show (I 17 4 * 6 + 4).toInt.toNat = _; omega
    have n5 : (I 17 4 * 6 + 5).toNatClampNeg = 6 * s.1.length + 5 := by show (I 17 4 * 6 + 5).toInt.toNat = _; omega
    refine ok_g (by constructor <;> omega) (ok_g (by constructor <;> omega) (ok_g (by constructor <;> omega) (ok_g (by constructor <;> omega) (ok_g (by constructor <;> omega) (ok_g (by constructor <;> omega) (ok_s ?_))))))
    rw [n0, n1, n2, n3, n4, n5]
    have em1 : em s (a, b, c, d, e, f) = (s.1 ++ [(a, b, c, d, e, f)], s.2) := if_pos hf
    rw [em1]
    refine ⟨by (repeat first | exact Fr.refl _ _ | refine Fr.upA ?_ (by decide) (by decide) | refine Fr.up ?_ (by decide)), by simp; omega, ?_, ?_, fun i m hm => ?_⟩
    · simp (disch := omega) only [up2_self, up2_ne, up2_nk]
      rw [h2, n32s (by omega)]
      simp
    · simp (disch := omega) only [up2_self, up2_ne, up2_nk]
      exact h3
    · rcases at_six hm with ⟨hm, hi⟩ | ⟨rfl, rfl⟩
      · have := h4 i m hm
        unfold rowC at this ⊢
        simp (disch := omega) only [up2_self, up2_ne, up2_nk]
        exact this
      · unfold rowC
        simp (disch := omega) only [up2_self, up2_ne, up2_nk]
        exact ⟨trivial, trivial, trivial, trivial, trivial, trivial⟩
  · refine ok_f (by rw [bi0]; omega) ?_
    unfold f_Mk_lose f_Mk_lose_b0
    refine ok_b (ok_s (ok_s ?_))
    have em1 : em s (a, b, c, d, e, f) = (s.1, s.2 + 1) := if_neg hf
    rw [em1]
    refine ⟨Fr.up (Fr.refl _ _) (by decide), ?_⟩
    refine CM.kept (I := up2 I 17 5 (s.2 + 1)) ⟨h1, ?_, ?_, fun i m hm => ?_⟩ ?_ ?_ ?_
    · simp (disch := omega) only [up2_self, up2_ne, up2_nk]
      exact h2
    · simp (disch := omega) only [up2_self, up2_ne, up2_nk]
    · exact h4 i m hm
    · simp (disch := omega) only [up2_self, up2_ne, up2_nk]
    · simp (disch := omega) only [up2_self, up2_ne, up2_nk]
      rw [h3]
    · rfl
/-- some are lost at once -/
theorem mk_lose {I : xm_I} {s : MS} {x : Int32} (h : CM I s) : ok (f_Mk_lose x I) (fun I' => Fr [18, 18004, 18005] I I' ∧ CM I' (s.1, s.2 + x)) := by
  obtain ⟨h1, h2, h3, h4⟩ := h
  unfold f_Mk_lose f_Mk_lose_b0
  refine ok_s ⟨Fr.up (Fr.refl _ _) (by decide), h1, ?_, ?_, fun i m hm => ?_⟩
  · simp (disch := decide) only [up2_self, up2_ne, up2_nk]
    exact h2
  · simp (disch := decide) only [up2_self, up2_ne, up2_nk]
    rw [h3]
  · exact h4 i m hm
theorem mm_add {a b c d e f : Int32} {I : xm_I} {s : MS} (h : MM I s) : ok (f_M_add a b c d e f I) (fun I' => Fr [71, 50049, 50050] I I' ∧ MM I' (em s (a, b, c, d, e, f))) := by
  obtain ⟨h1, h2, h3, h4⟩ := h
  have hk : (I 49 49).toInt = (s.1.length : Int) := by
    rw [h2]
    exact n32i (by omega)
  have k600 : (600 : Int32).toInt = 600 := by decide
  unfold f_M_add f_M_add_b0
  by_cases hf : s.1.length < 600
  · refine ok_f (by rw [eq32]; omega) ?_
    have k7 := z7
    have hx : (7 * I 49 49).toInt = 7 * (s.1.length : Int) := by rw [i32m (by rw [hk, k7]; omega), hk, k7]
    have hj : ∀ j : Int32, 0 ≤ j.toInt → j.toInt ≤ 6 → (7 * I 49 49 + j).toInt = 7 * (s.1.length : Int) + j.toInt := fun j _ _ => by rw [i32a (by omega), hx]
    have g1 := hj 1 (by decide) (by decide)
    have g2 := hj 2 (by decide) (by decide)
    have g3 := hj 3 (by decide) (by decide)
    have g4 := hj 4 (by decide) (by decide)
    have g5 := hj 5 (by decide) (by decide)
    have g6 := hj 6 (by decide) (by decide)
    simp only [Int32.reduceToInt] at g1 g2 g3 g4 g5 g6
    have n0 : (7 * I 49 49).toNatClampNeg = 7 * s.1.length := by have := tn32 (x := 7 * I 49 49) (by omega); omega
    have n1 : (7 * I 49 49 + 1).toNatClampNeg = 7 * s.1.length + 1 := by have := tn32 (x := 7 * I 49 49 + 1) (by omega); omega
    have n2 : (7 * I 49 49 + 2).toNatClampNeg = 7 * s.1.length + 2 := by have := tn32 (x := 7 * I 49 49 + 2) (by omega); omega
    have n3 : (7 * I 49 49 + 3).toNatClampNeg = 7 * s.1.length + 3 := by have := tn32 (x := 7 * I 49 49 + 3) (by omega); omega
    have n4 : (7 * I 49 49 + 4).toNatClampNeg = 7 * s.1.length + 4 := by have := tn32 (x := 7 * I 49 49 + 4) (by omega); omega
    have n5 : (7 * I 49 49 + 5).toNatClampNeg = 7 * s.1.length + 5 := by have := tn32 (x := 7 * I 49 49 + 5) (by omega); omega
    have n6 : (7 * I 49 49 + 6).toNatClampNeg = 7 * s.1.length + 6 := by have := tn32 (x := 7 * I 49 49 + 6) (by omega); omega
    simp (disch := decide) only [up2_ne]
    refine ok_g (by omega) (ok_g (by omega) (ok_g (by omega) (ok_g (by omega) (ok_g (by omega) (ok_g (by omega) (ok_g (by omega) (ok_s ?_)))))))
    rw [n0, n1, n2, n3, n4, n5, n6]
    have em1 : em s (a, b, c, d, e, f) = (s.1 ++ [(a, b, c, d, e, f)], s.2) := if_pos hf
    rw [em1]
    refine ⟨by (repeat first | exact Fr.refl _ _ | refine Fr.upA ?_ (by decide) (by decide) | refine Fr.up ?_ (by decide)), by simp; omega, ?_, ?_, fun i m hm => ?_⟩
    · simp (disch := omega) only [up2_self, up2_ne, up2_nk]
      rw [h2, n32s (by omega)]
      simp
    · simp (disch := omega) only [up2_self, up2_ne, up2_nk]
      exact h3
    · rcases at_six hm with ⟨hm, hi⟩ | ⟨rfl, rfl⟩
      · have := h4 i m hm
        unfold rowM at this ⊢
        simp (disch := omega) only [up2_self, up2_ne, up2_nk]
        exact this
      · unfold rowM
        simp (disch := omega) only [up2_self, up2_ne, up2_nk]
        exact ⟨trivial, trivial, trivial, trivial, trivial, trivial, trivial⟩
  · refine ok_t (by rw [eq32]; omega) (ok_s ?_)
    have em1 : em s (a, b, c, d, e, f) = (s.1, s.2 + 1) := if_neg hf
    rw [em1]
    refine ⟨Fr.up (Fr.refl _ _) (by decide), h1, ?_, ?_, fun i m hm => ?_⟩
    · simp (disch := decide) only [up2_self, up2_ne, up2_nk]
      exact h2
    · simp (disch := decide) only [up2_self, up2_ne, up2_nk]
      rw [h3]
    · exact h4 i m hm
/-! ===== a mark's line of octets ===== -/
/-- the digits of v from the unit 10^j down -/
def dgs (v : Nat) : Nat → List Int32
  | 0 => [n32 (48 + v % 10)]
  | j + 1 => n32 (48 + v / 10 ^ (j + 1) % 10) :: dgs v j
/-- how many digits beyond the first -/
def dgl (v : Nat) : Nat → Nat
  | 0 => 0
  | j + 1 => if 10 ^ (j + 1) ≤ v then j + 1 else dgl v j
def num8 (x : Int32) : List Int32 := (if x.toInt < 0 then [45] else []) ++ dgs x.toInt.natAbs (dgl x.toInt.natAbs 9)
def nOf (l : Int32) : Nat := if l.toInt = 70 then 2 else if l.toInt = 68 then 3 else if l.toInt = 84 then 4 else if l.toInt = 87 then 4 else 5
def nums (m : M6) : List Int32 := [m.2.1, m.2.2.1, m.2.2.2.1, m.2.2.2.2.1, m.2.2.2.2.2]
def flatL {α β : Type} (f : α → List β) : List α → List β
  | [] => []
  | x :: xs => f x ++ flatL f xs
def lineOf (m : M6) : List Int32 := m.1 :: (flatL (fun x => 32 :: num8 x) ((nums m).take (nOf m.1)) ++ [10])
def octs (l : List M6) : List Int32 := flatL lineOf l
theorem flatL_app {α β : Type} (f : α → List β) (a b : List α) : flatL f (a ++ b) = flatL f a ++ flatL f b := by
  induction a with
  | nil => rfl
  | cons x a ih =>
    show f x ++ flatL f (a ++ b) = (f x ++ flatL f a) ++ flatL f b
    rw [ih, List.append_assoc]
theorem dgs_len (v j : Nat) : (dgs v j).length = j + 1 := by
  induction j with
  | zero => rfl
  | succ j ih => show (dgs v j).length + 1 = _; rw [ih]
theorem dgl_le (v j : Nat) : dgl v j ≤ j := by
  induction j with
  | zero => exact Nat.le_refl _
  | succ j ih =>
    unfold dgl
    split <;> omega
theorem num8_len (x : Int32) : 1 ≤ (num8 x).length ∧ (num8 x).length ≤ 11 := by
  unfold num8
  rw [List.length_append, dgs_len]
  have := dgl_le x.toInt.natAbs 9
  split <;> simp <;> omega
