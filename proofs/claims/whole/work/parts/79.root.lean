/-! ===== square roots; octants; openings ===== -/
def isRt (n r : Nat) : Prop := r * r ≤ n ∧ n < (r + 1) * (r + 1)
theorem isRt_one {n r r' : Nat} (h : isRt n r) (h' : isRt n r') : r = r' := by
  obtain ⟨a1, a2⟩ := h
  obtain ⟨b1, b2⟩ := h'
  rcases Nat.lt_trichotomy r r' with c | c | c
  · have : (r + 1) * (r + 1) ≤ r' * r' := Nat.mul_le_mul c c
    omega
  · exact c
  · have : (r' + 1) * (r' + 1) ≤ r * r := Nat.mul_le_mul c c
    omega
theorem shl63 {b : Nat} (hb : b < 31) : ((1 : Int64) <<< (Int32.toInt64 (n32 b) &&& 63)).toInt = ((2 ^ b : Nat) : Int) := by
  have : ∀ b : Fin 31, ((1 : Int64) <<< (Int32.toInt64 (n32 b.val) &&& 63)).toInt = ((2 ^ b.val : Nat) : Int) := by decide
  exact this ⟨b, hb⟩
theorem dec_lem {bb : Int32} {c : Nat} (dm : (bb + (-1)).toInt = (c : Int) - 1) (hbb : bb.toInt = ((c + 1 : Nat) : Int) - 1) : ((bb + (-1)).toInt + 1).toNat < (bb.toInt + 1).toNat := by
  rw [dm, hbb]
  clear dm hbb
  omega
theorem sq_ok {x : Int64} {n : Nat} (hx : x.toInt = (n : Int)) (hn : n < 2 ^ 62) : ∃ r : Int64, f_D_squareRoot x = some r ∧ ∃ k : Nat, r.toInt = (k : Int) ∧ isRt n k ∧ k < 2147483648 := by
  have key : ok (f_D_squareRoot x) (fun r => ∃ k : Nat, r.toInt = (k : Int) ∧ isRt n k ∧ k < 2147483648) := by
    unfold f_D_squareRoot f_D_squareRoot_b0 f_D_squareRoot_b6
    refine lp_inv (fun s => ∃ (k : Nat) (b : Nat), b ≤ 31 ∧ s.1.toInt = (k : Int) ∧ s.2.toInt = (b : Int) - 1 ∧ k * k ≤ n ∧ n < (k + 2 ^ b) * (k + 2 ^ b) ∧ k + 2 ^ b ≤ 2147483648) (fun s => (s.2.toInt + 1).toNat) _ ?_ (0, 30) ⟨0, 31, by omega, by decide, by decide, by omega, by rw [Nat.zero_add]; exact Nat.lt_of_lt_of_le hn (by decide), by decide⟩
    rintro ⟨r, bb⟩ ⟨k, b, hb, hr, hbb, h1, h2, h3⟩
    simp only at hr hbb
    unfold f_D_squareRoot_s6 f_D_squareRoot_b32
    dsimp only
    refine ok_lt (fun hc => ok_s ⟨k, hr, ?_, ?_⟩) (fun hc => ?_)
    · rw [z0, hbb] at hc
      have : b = 0 := by omega
      subst this
      exact ⟨h1, by simpa using h2⟩
    · rw [z0, hbb] at hc
      have : b = 0 := by omega
      subst this
      simp at h3
      omega
    · rw [z0, hbb] at hc
      have hb1 : 1 ≤ b := by omega
      obtain ⟨c, rfl⟩ : ∃ c, b = c + 1 := ⟨b - 1, by omega⟩
      have ebb : bb = n32 c := by rw [eq32, hbb, n32i (by omega)]; omega
      have hsh : ((1 : Int64) <<< (Int32.toInt64 bb &&& 63)).toInt = ((2 ^ c : Nat) : Int) := by rw [ebb]; exact shl63 (by omega)
      have e2 : 2 ^ (c + 1) = 2 ^ c * 2 := Nat.pow_succ ..
      have hp : 1 ≤ 2 ^ c := Nat.one_le_two_pow
      rw [e2] at h2 h3
      have dm : (bb + (-1)).toInt = (c : Int) - 1 := by
        have km : (-1 : Int32).toInt = -1 := by decide
        rw [i32a (by omega), km, hbb]
        omega
      generalize hsv : (1 : Int64) <<< (Int32.toInt64 bb &&& 63) = sh at *
      generalize hpc : 2 ^ c = p at *
      clear hsv e2 ebb
      have hs : (r + sh).toInt = ((k + p : Nat) : Int) := by
        rw [i64a (by rw [hr, hsh]; omega), hr, hsh]
        omega
      have hm : ((r + sh) * (r + sh)).toInt = (((k + p) * (k + p) : Nat) : Int) := by
        have hb2 : (k + p) * (k + p) ≤ 2147483648 * 2147483648 := Nat.mul_le_mul (by omega) (by omega)
        have e : ((k + p : Nat) : Int) * ((k + p : Nat) : Int) = (((k + p) * (k + p) : Nat) : Int) := (Int.natCast_mul _ _).symm
        rw [i64m (by rw [hs, e]; omega), hs, e]
      have dec := dec_lem dm hbb
      refine ok_lt6 (fun hd => ok_s ⟨⟨k, c, by clear hpc; omega, hr, dm, h1, ?_, ?_⟩, dec⟩) (fun hd => ok_s ⟨⟨k + p, c, by clear hpc; omega, hs, dm, ?_, ?_, ?_⟩, dec⟩)
      · rw [hx, hm] at hd
        rw [hpc]
        clear hpc
        omega
      · rw [hpc]
        clear hpc
        omega
      · rw [hx, hm] at hd
        clear hpc
        omega
      · rw [hpc]
        clear hpc
        have : k + p + p = k + p * 2 := by omega
        rw [this]
        exact h2
      · rw [hpc]
        clear hpc
        omega
  exact key
theorem rt_ok {x : Int64} {n : Nat} (hx : x.toInt = (n : Int)) (hn : n < 10000000000000000) : ∃ r : Int64, f_M_root x = some r ∧ ∃ k : Nat, r.toInt = (k : Int) ∧ isRt n k := by
  have key : ok (f_M_root x) (fun r => ∃ k : Nat, r.toInt = (k : Int) ∧ isRt n k) := by
    unfold f_M_root f_M_root_b0 f_M_root_b7
    refine lp_inv (fun s => ∃ (a b : Nat), s.1.toInt = (a : Int) ∧ s.2.toInt = (b : Int) ∧ a ≤ b ∧ b ≤ 100000000 ∧ a * a ≤ n ∧ n < (b + 1) * (b + 1)) (fun s => (s.2.toInt - s.1.toInt).toNat) _ ?_ (0, 100000000) ⟨0, 100000000, by decide, by decide, by omega, by omega, by omega, Nat.lt_of_lt_of_le hn (by decide)⟩
    rintro ⟨u, v⟩ ⟨a, b, ha, hb, hab, hb8, h1, h2⟩
    simp only at ha hb
    have k1 : (1 : Int64).toInt = 1 := by decide
    unfold f_M_root_s7 f_M_root_b48
    dsimp only
    refine ok_le6 (fun hc => ok_s ⟨a, ha, h1, ?_⟩) (fun hc => ?_)
    · have : a = b := by omega
      subst this
      exact h2
    · have hs : (u + v + 1).toInt = ((a + b + 1 : Nat) : Int) := by
        rw [i64a (by rw [i64a (by omega), k1]; omega), i64a (by omega), k1, ha, hb]
        omega
      have hm : ((u + v + 1) / 2).toInt = (((a + b + 1) / 2 : Nat) : Int) := q64 hs (by decide)
      generalize hmid : (a + b + 1) / 2 = m at *
      have hlt : a < m ∧ m ≤ b := by omega
      have hmm : ((u + v + 1) / 2 * ((u + v + 1) / 2)).toInt = ((m * m : Nat) : Int) := by
        have hb2 : m * m ≤ 100000000 * 100000000 := Nat.mul_le_mul (by omega) (by omega)
        have e : (m : Int) * (m : Int) = ((m * m : Nat) : Int) := (Int.natCast_mul _ _).symm
        rw [i64m (by rw [hm, e]; omega), hm, e]
      have hd1 : ((u + v + 1) / 2 - 1).toInt = ((m - 1 : Nat) : Int) := by
        rw [i64s (by rw [hm, k1]; omega), hm, k1]
        omega
      refine ok_lt6 (fun hd => ok_s ⟨⟨a, m - 1, ha, hd1, by omega, by omega, h1, ?_⟩, ?_⟩) (fun hd => ok_s ⟨⟨m, b, hm, hb, by omega, hb8, ?_, h2⟩, ?_⟩)
      · rw [hx, hmm] at hd
        have : m - 1 + 1 = m := by omega
        rw [this]
        omega
      · show (((u + v + 1) / 2 - 1).toInt - u.toInt).toNat < (v.toInt - u.toInt).toNat
        omega
      · rw [hx, hmm] at hd
        omega
      · show (v.toInt - ((u + v + 1) / 2).toInt).toNat < (v.toInt - u.toInt).toNat
        omega
  exact key
theorem root_same {x : Int64} {n : Nat} (hx : x.toInt = (n : Int)) (hn : n < 10000000000000000) : ∃ r : Int64, f_D_squareRoot x = some r ∧ f_M_root x = some r ∧ 0 ≤ r.toInt ∧ r.toInt ≤ 100000000 := by
  obtain ⟨r, h1, k, h2, h3, _⟩ := sq_ok hx (by omega)
  obtain ⟨q, g1, j, g2, g3⟩ := rt_ok hx hn
  have e := isRt_one h3 g3
  have : q = r := by rw [eq64, h2, g2, e]
  rw [this] at g1
  refine ⟨r, h1, g1, by omega, ?_⟩
  refine Int.not_lt.mp fun hh => ?_
  have hk : 100000001 ≤ k := by omega
  have := Nat.mul_le_mul hk hk
  have := h3.1
  omega
/-! octants -/
noncomputable def OCT (x y : Int32) : Int32 := (f_D_octant x y).getD 0
theorem e_octant {x y : Int32} (hx : -1000000 ≤ x.toInt ∧ x.toInt ≤ 1000000) (hy : -1000000 ≤ y.toInt ∧ y.toInt ≤ 1000000) : f_D_octant x y = some (OCT x y) ∧ f_M_octant x y = some (OCT x y) := by
  have nx : (-x).toInt = -x.toInt := i32n (by omega)
  have ny : (-y).toInt = -y.toInt := i32n (by omega)
  have k0 := z0
  unfold OCT f_D_octant f_D_octant_b0 f_D_octant_b19 f_M_octant f_M_octant_b0 f_M_octant_b19 f_M_octant_b39
  simp only [lt32, le32, nx, ny, k0]
  constructor <;> (repeat' split) <;> first | rfl | (exfalso; omega)
/-! openings -/
noncomputable def OPN (a b c d : Int64) : Int32 := (f_Pn_openingOf a b c d).getD 0
theorem e_opening (a b c d : Int64) : f_Pn_openingOf a b c d = some (OPN a b c d) := by
  unfold OPN f_Pn_openingOf f_Pn_openingOf_b0
  dsimp only
  (repeat' split) <;> rfl
