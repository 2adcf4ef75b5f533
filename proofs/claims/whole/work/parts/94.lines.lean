/-! ===== many lines ===== -/
def UU {β : Type} (G : Int → List β) (A : Int) : Nat → List β
  | 0 => []
  | k + 1 => UU G A k ++ G (A + k)
theorem UU_add {β : Type} (G : Int → List β) (A : Int) (j k : Nat) : UU G A (j + k) = UU G A j ++ UU G (A + j) k := by
  induction k with
  | zero => exact (List.append_nil _).symm
  | succ k ih =>
    show UU G A (j + k) ++ G (A + ((j + k : Nat) : Int)) = UU G A j ++ (UU G (A + j) k ++ G (A + j + k))
    rw [ih, List.append_assoc]
    have e : A + ((j + k : Nat) : Int) = A + j + k := by omega
    rw [e]
theorem UU_nil {β : Type} {G : Int → List β} {A : Int} {k : Nat} (h : ∀ i : Nat, i < k → G (A + i) = []) : UU G A k = [] := by
  induction k with
  | zero => rfl
  | succ k ih =>
    show UU G A k ++ G (A + k) = []
    rw [ih fun i hi => h i (by omega), h k (by omega)]
    rfl
theorem UU_congr {β : Type} {G G' : Int → List β} {A : Int} {k : Nat} (h : ∀ i : Nat, i < k → G (A + i) = G' (A + i)) : UU G A k = UU G' A k := by
  induction k with
  | zero => rfl
  | succ k ih =>
    show UU G A k ++ G (A + k) = UU G' A k ++ G' (A + k)
    rw [ih fun i hi => h i (by omega), h k (by omega)]
def gl {β : Type} (hs : Int → List β) (g lo hi : Int) (z : Int) : List β := if z % g = 0 ∧ lo ≤ z ∧ z ≤ hi then hs z else []
theorem mult_gap {g y z : Int} (hg : 0 < g) (hy : y % g = 0) (hz : z % g = 0) (h : y < z) : y + g ≤ z := by
  have h1 := Int.mul_ediv_add_emod y g
  have h2 := Int.mul_ediv_add_emod z g
  rw [hy] at h1
  rw [hz] at h2
  have : y / g < z / g := by
    refine Int.not_le.mp fun hh => ?_
    have := Int.mul_le_mul_of_nonneg_left hh (show 0 ≤ g by omega)
    omega
  have h3 : g * (y / g + 1) ≤ g * (z / g) := Int.mul_le_mul_of_nonneg_left (by omega) (by omega)
  rw [Int.mul_add, Int.mul_one] at h3
  omega
theorem mulF_m {a g : Int} (hg : 0 < g) : mulF a g % g = 0 := Int.emod_eq_zero_of_dvd (mulF_b hg).2.2
theorem add_m {y g : Int} (h : y % g = 0) : (y + g) % g = 0 := by
  rw [Int.add_emod_right]
  exact h
theorem line_start {β : Type} {hs : Int → List β} {g lo hi A : Int} (hg : 0 < g) (hA : A ≤ lo) : UU (gl hs g lo hi) A (mulF lo g - A).toNat = [] := by
  have hb := mulF_b (a := lo) hg
  refine UU_nil fun i hi' => ?_
  unfold gl
  refine if_neg ?_
  rintro ⟨h1, h2, h3⟩
  have := mult_gap hg h1 (mulF_m (a := lo) hg) (by omega)
  omega
theorem line_step {β : Type} {hs : Int → List β} {g lo hi A y : Int} (hg : 0 < g) (hA : A ≤ y) (hy : y % g = 0) (h1 : lo ≤ y) (h2 : y ≤ hi) : UU (gl hs g lo hi) A (y + g - A).toNat = UU (gl hs g lo hi) A (y - A).toNat ++ hs y := by
  have e : (y + g - A).toNat = (y - A).toNat + (1 + (g - 1).toNat) := by omega
  rw [e, UU_add, UU_add]
  have e1 : A + ((y - A).toNat : Int) = y := by omega
  have n1 : UU (gl hs g lo hi) (y + ((1 : Nat) : Int)) (g - 1).toNat = [] := by
    refine UU_nil fun i hi' => ?_
    unfold gl
    refine if_neg ?_
    rintro ⟨c1, _, _⟩
    have := mult_gap hg hy c1 (by omega)
    omega
  rw [e1, n1, List.append_nil]
  congr 1
  show [] ++ gl hs g lo hi (y + ((0 : Nat) : Int)) = hs y
  have e2 : y + ((0 : Nat) : Int) = y := by omega
  rw [e2, List.nil_append]
  exact if_pos ⟨hy, h1, h2⟩
theorem line_end {β : Type} {hs : Int → List β} {g lo hi A y : Int} {T : Nat} (hA : A ≤ y) (hy : hi < y) (hT : y - A ≤ T) : UU (gl hs g lo hi) A T = UU (gl hs g lo hi) A (y - A).toNat := by
  have e : T = (y - A).toNat + (T - (y - A).toNat) := by omega
  rw [e, UU_add]
  have n1 : UU (gl hs g lo hi) (A + ((y - A).toNat : Int)) (T - (y - A).toNat) = [] := by
    refine UU_nil fun i hi' => ?_
    unfold gl
    exact if_neg (by omega)
  rw [n1, List.append_nil]
/-- all hatches of an area -/
def hatL (I : xm_I) (o : Nat) : List M6 := UU (gl (hsA I o) (I 14 8).toInt (I 14 2).toInt (I 14 3).toInt) (-50000) 100001
/-! counting -/
def SS (f : Int → Nat) (A : Int) : Nat → Nat
  | 0 => 0
  | k + 1 => SS f A k + f (A + k)
theorem SS_add (f g : Int → Nat) (A : Int) (k : Nat) : SS (fun z => f z + g z) A k = SS f A k + SS g A k := by
  induction k with
  | zero => rfl
  | succ k ih =>
    show SS (fun z => f z + g z) A k + (f (A + k) + g (A + k)) = (SS f A k + f (A + k)) + (SS g A k + g (A + k))
    omega
theorem SS_congr {f g : Int → Nat} {A : Int} {k : Nat} (h : ∀ i : Nat, i < k → f (A + i) = g (A + i)) : SS f A k = SS g A k := by
  induction k with
  | zero => rfl
  | succ k ih =>
    show SS f A k + f (A + k) = SS g A k + g (A + k)
    rw [ih fun i hi => h i (by omega), h k (by omega)]
theorem SS_zero (A : Int) (k : Nat) : SS (fun _ => 0) A k = 0 := by
  induction k with
  | zero => rfl
  | succ k ih => show SS (fun _ => 0) A k + 0 = 0; rw [ih]
theorem SS_len {β : Type} (G : Int → List β) (A : Int) (k : Nat) : (UU G A k).length = SS (fun z => (G z).length) A k := by
  induction k with
  | zero => rfl
  | succ k ih =>
    show (UU G A k ++ G (A + k)).length = SS (fun z => (G z).length) A k + (G (A + k)).length
    rw [List.length_append, ih]
theorem mulN_step {lo z g : Int} (hg : 0 < g) : mulN lo z g = mulN lo (z - 1) g + (if z % g = 0 ∧ lo ≤ z then 1 else 0) := by
  have hF := mulF_b (a := lo) hg
  have hm := mulF_m (a := lo) hg
  have l1 := fun k : Nat => mulN_lt (a := lo) (b := z) hg k
  have l2 := fun k : Nat => mulN_lt (a := lo) (b := z - 1) hg k
  generalize mulF lo g = F at *
  generalize mulN lo z g = m1 at *
  generalize mulN lo (z - 1) g = m2 at *
  have a1 : z ≤ F + m2 * g := by
    have := l2 m2
    omega
  have mono : ∀ a b : Int, a ≤ b → a * g ≤ b * g := fun a b h => Int.mul_le_mul_of_nonneg_right h (by omega)
  by_cases c : F + m2 * g = z
  · have c1 : z % g = 0 := by
      rw [← c, Int.add_mul_emod_self_right]
      exact hm
    have c2 : lo ≤ z := by
      have := Int.mul_nonneg (show (0 : Int) ≤ m2 by omega) (show 0 ≤ g by omega)
      omega
    rw [if_pos ⟨c1, c2⟩]
    have u1 := (l1 m2).mpr (by omega)
    have u2 := l1 (m2 + 1)
    have e : ((m2 + 1 : Nat) : Int) * g = m2 * g + g := by
      have : ((m2 + 1 : Nat) : Int) = (m2 : Int) + 1 := by omega
      rw [this, Int.add_mul, Int.one_mul]
    rw [e] at u2
    omega
  · have u1 := l1 m2
    have u3 : m2 ≤ m1 := by
      refine Nat.not_lt.mp fun hh => ?_
      have v1 := (l2 m1).mp hh
      have v2 := l1 m1
      omega
    rw [if_neg]
    · omega
    · rintro ⟨d1, d2⟩
      have hFz : F ≤ z := by
        refine Int.not_lt.mp fun hh => ?_
        have := mult_gap hg d1 hm hh
        omega
      have h1 := Int.mul_ediv_add_emod z g
      have h2 := Int.mul_ediv_add_emod F g
      rw [d1] at h1
      rw [hm] at h2
      have e1 : z = F + (z / g - F / g) * g := by
        rw [Int.sub_mul, Int.mul_comm (z / g), Int.mul_comm (F / g)]
        omega
      have hq : 0 ≤ z / g - F / g := by
        have := Int.ediv_le_ediv hg hFz
        omega
      generalize z / g - F / g = q at *
      by_cases w : q < m2
      · have := (l2 q.toNat).mp (by omega)
        have e2 : ((q.toNat : Nat) : Int) = q := by omega
        rw [e2] at this
        omega
      · have := mono m2 q (by omega)
        omega
theorem SS_mul {g lo hi A : Int} (hg : 0 < g) (hA : A ≤ lo) (T : Nat) : SS (fun z => if z % g = 0 ∧ lo ≤ z ∧ z ≤ hi then 1 else 0) A T = mulN lo (min hi (A + T - 1)) g := by
  have z0' : ∀ h : Int, h < lo → mulN lo h g = 0 := by
    intro h hh
    have := (mulF_b (a := lo) hg).1
    unfold mulN
    exact if_neg (by omega)
  induction T with
  | zero => exact (z0' _ (by omega)).symm
  | succ T ih =>
    show SS _ A T + (if (A + (T : Int)) % g = 0 ∧ lo ≤ A + (T : Int) ∧ A + (T : Int) ≤ hi then 1 else 0) = _
    rw [ih]
    have e : A + ((T + 1 : Nat) : Int) - 1 = A + T := by omega
    rw [e]
    by_cases c : A + (T : Int) ≤ hi
    · have m1 : min hi (A + (T : Int)) = A + T := by omega
      have m2 : min hi (A + (T : Int) - 1) = A + T - 1 := by omega
      rw [m1, m2, mulN_step hg (z := A + T)]
      congr 1
      by_cases d : (A + (T : Int)) % g = 0 ∧ lo ≤ A + (T : Int)
      · rw [if_pos ⟨d.1, d.2, c⟩, if_pos d]
      · rw [if_neg (fun k => d ⟨k.1, k.2.1⟩), if_neg d]
    · have m1 : min hi (A + (T : Int)) = hi := by omega
      have m2 : min hi (A + (T : Int) - 1) = hi := by omega
      rw [m1, m2, if_neg (fun k => c k.2.2)]
      rfl
