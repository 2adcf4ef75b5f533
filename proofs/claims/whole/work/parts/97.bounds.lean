/-! ===== marks and anchors are not far ===== -/
theorem far_c {w dn u d n lo hi T B : Int} (hw : 0 ≤ w ∧ w ≤ 400) (hdn : 1 ≤ dn) (hu : 0 ≤ u ∧ u ≤ 400) (hd : 1 ≤ d) (hlh : -40000 ≤ lo ∧ lo ≤ hi ∧ hi ≤ 40000) (h1 : -40000 * d ≤ n) (h2 : n ≤ 40000 * d) (hT : T = w * d * dn + (2 * n - (lo + hi) * d) * u ∨ T = w * d * dn - (2 * n - (lo + hi) * d) * u) (hB : B = 2 * d * dn) : -100000000 * (2 * B) ≤ 2 * T + B ∧ 2 * T + B ≤ 100000000 * (2 * B) := by
  have q : 0 ≤ d * dn - d := by
    have : d * 1 ≤ d * dn := Int.mul_le_mul_of_nonneg_left hdn (by omega)
    omega
  have e1 : w * d * dn = w * (d * dn) := Int.mul_assoc ..
  have e2 : 2 * d * dn = 2 * (d * dn) := Int.mul_assoc ..
  have e3 : (lo + hi) * d = lo * d + hi * d := Int.add_mul ..
  have m1 : 0 ≤ w * (d * dn) := Int.mul_nonneg hw.1 (by omega)
  have m2 : w * (d * dn) ≤ 400 * (d * dn) := Int.mul_le_mul_of_nonneg_right hw.2 (by omega)
  have l1 : -40000 * d ≤ lo * d := Int.mul_le_mul_of_nonneg_right hlh.1 (by omega)
  have l2 : hi * d ≤ 40000 * d := Int.mul_le_mul_of_nonneg_right hlh.2.2 (by omega)
  have l3 : lo * d ≤ hi * d := Int.mul_le_mul_of_nonneg_right hlh.2.1 (by omega)
  have b1 : -(160000 * d) ≤ 2 * n - (lo + hi) * d := by omega
  have b2 : 2 * n - (lo + hi) * d ≤ 160000 * d := by omega
  have m3 := mul_ab (a := 2 * n - (lo + hi) * d) (b := u) (m := 160000 * d) (n := 400) b1 b2 (by omega) (by omega)
  rw [e1] at hT
  rw [e2] at hB
  generalize d * dn = Q at *
  generalize w * Q = W at *
  generalize (2 * n - (lo + hi) * d) * u = V at *
  omega
theorem SX_c {I : xm_I} {n d : Int} (h : IvW I) (hs : 0 < (I 14 10).toInt) (hd : 1 ≤ d ∧ d ≤ 1000000) (h1 : -40000 * d ≤ n) (h2 : n ≤ 40000 * d) : -100000000 ≤ (SX I (i6 n) (i6 d)).toInt ∧ (SX I (i6 n) (i6 d)).toInt ≤ 100000000 := by
  have hp := h.2.2.2.pos h.2.1
  obtain ⟨_, ⟨b1, b2, b3, b4, b5⟩, _⟩ := id h
  have di : (i6 d).toInt = d := i6_i (by omega)
  have l1 : -40000 * d ≤ (I 14 0).toInt * d := Int.mul_le_mul_of_nonneg_right b1.1 (by omega)
  have l2 : (I 14 1).toInt * d ≤ 40000 * d := Int.mul_le_mul_of_nonneg_right b1.2.2 (by omega)
  have ni : (i6 n).toInt = n := i6_i (by omega)
  obtain ⟨t1, t2, t3, t4⟩ := tB_i (d := i6 d) h hs ⟨by omega, by omega⟩
  rw [di] at t1
  have k2 : (2 : Int64).toInt = 2 := by decide
  have e1 : (2 * i6 n).toInt = 2 * n := by rw [i64m (by rw [k2, ni]; omega), k2, ni]
  have e2 : (I 14 0 + I 14 1).toInt64.toInt = (I 14 0).toInt + (I 14 1).toInt := by rw [i64of, i32a (by omega)]
  have m1 := mul_ab (a := (I 14 0).toInt + (I 14 1).toInt) (b := d) (m := 80000) (n := 1000000) (by omega) (by omega) (by omega) (by omega)
  have e3 : ((I 14 0 + I 14 1).toInt64 * i6 d).toInt = ((I 14 0).toInt + (I 14 1).toInt) * d := by rw [i64m (by rw [e2, di]; omega), e2, di]
  have e4 : (2 * i6 n - (I 14 0 + I 14 1).toInt64 * i6 d).toInt = 2 * n - ((I 14 0).toInt + (I 14 1).toInt) * d := by rw [i64s (by rw [e1, e3]; omega), e1, e3]
  have m2 := mul_ab (a := 2 * n - ((I 14 0).toInt + (I 14 1).toInt) * d) (b := (I 14 9).toInt) (m := 200000000000) (n := 400) (by omega) (by omega) (by omega) (by omega)
  have e5 : ((2 * i6 n - (I 14 0 + I 14 1).toInt64 * i6 d) * (I 14 9).toInt64).toInt = (2 * n - ((I 14 0).toInt + (I 14 1).toInt) * d) * (I 14 9).toInt := by rw [i64m (by rw [e4, i64of]; omega), e4, i64of]
  have m3 := mul_ab (a := (I 14 4).toInt) (b := d) (m := 400) (n := 1000000) (by omega) (by omega) (by omega) (by omega)
  have e6 : ((I 14 4).toInt64 * i6 d).toInt = (I 14 4).toInt * d := by rw [i64m (by rw [i64of, di]; omega), i64of, di]
  have m4 := mul_ab (a := (I 14 4).toInt * d) (b := (I 14 10).toInt) (m := 400000000) (n := 80000) (by omega) (by omega) (by omega) (by omega)
  have e7 : (((I 14 4).toInt64 * i6 d) * (I 14 10).toInt64).toInt = (I 14 4).toInt * d * (I 14 10).toInt := by rw [i64m (by rw [e6, i64of]; omega), e6, i64of]
  have eT : (tX I (i6 n) (i6 d)).toInt = (I 14 4).toInt * d * (I 14 10).toInt + (2 * n - ((I 14 0).toInt + (I 14 1).toInt) * d) * (I 14 9).toInt := by
    unfold tX
    rw [i64a (by rw [e7, e5]; omega), e7, e5]
  have e8 : (2 * tX I (i6 n) (i6 d)).toInt = 2 * (tX I (i6 n) (i6 d)).toInt := by rw [i64m (by rw [k2]; omega), k2]
  have e9 : (2 * tX I (i6 n) (i6 d) + tB I (i6 d)).toInt = 2 * (tX I (i6 n) (i6 d)).toInt + (tB I (i6 d)).toInt := by rw [i64a (by omega), e8]
  have fb := far_c (w := (I 14 4).toInt) (dn := (I 14 10).toInt) (u := (I 14 9).toInt) (d := d) (n := n) (lo := (I 14 0).toInt) (hi := (I 14 1).toInt) (T := (tX I (i6 n) (i6 d)).toInt) (B := (tB I (i6 d)).toInt) (by omega) (by omega) (by omega) (by omega) b1 h1 h2 (Or.inl eT) t1
  have fl2 := fl_b (x := 2 * tX I (i6 n) (i6 d) + tB I (i6 d)) (y := 2 * tB I (i6 d)) (B := 100000000) (by omega) (by rw [t4, e9]; exact fb.1) (by rw [t4, e9]; exact fb.2)
  unfold SX
  rw [i32of (by omega)]
  exact fl2
theorem SY_c {I : xm_I} {n d : Int} (h : IvW I) (hs : 0 < (I 14 10).toInt) (hd : 1 ≤ d ∧ d ≤ 1000000) (h1 : -40000 * d ≤ n) (h2 : n ≤ 40000 * d) : -100000000 ≤ (SY I (i6 n) (i6 d)).toInt ∧ (SY I (i6 n) (i6 d)).toInt ≤ 100000000 := by
  have hp := h.2.2.2.pos h.2.1
  obtain ⟨_, ⟨b1, b2, b3, b4, b5⟩, _⟩ := id h
  have di : (i6 d).toInt = d := i6_i (by omega)
  have l1 : -40000 * d ≤ (I 14 2).toInt * d := Int.mul_le_mul_of_nonneg_right b2.1 (by omega)
  have l2 : (I 14 3).toInt * d ≤ 40000 * d := Int.mul_le_mul_of_nonneg_right b2.2.2 (by omega)
  have ni : (i6 n).toInt = n := i6_i (by omega)
  obtain ⟨t1, t2, t3, t4⟩ := tB_i (d := i6 d) h hs ⟨by omega, by omega⟩
  rw [di] at t1
  have k2 : (2 : Int64).toInt = 2 := by decide
  have e1 : (2 * i6 n).toInt = 2 * n := by rw [i64m (by rw [k2, ni]; omega), k2, ni]
  have e2 : (I 14 2 + I 14 3).toInt64.toInt = (I 14 2).toInt + (I 14 3).toInt := by rw [i64of, i32a (by omega)]
  have m1 := mul_ab (a := (I 14 2).toInt + (I 14 3).toInt) (b := d) (m := 80000) (n := 1000000) (by omega) (by omega) (by omega) (by omega)
  have e3 : ((I 14 2 + I 14 3).toInt64 * i6 d).toInt = ((I 14 2).toInt + (I 14 3).toInt) * d := by rw [i64m (by rw [e2, di]; omega), e2, di]
  have e4 : (2 * i6 n - (I 14 2 + I 14 3).toInt64 * i6 d).toInt = 2 * n - ((I 14 2).toInt + (I 14 3).toInt) * d := by rw [i64s (by rw [e1, e3]; omega), e1, e3]
  have m2 := mul_ab (a := 2 * n - ((I 14 2).toInt + (I 14 3).toInt) * d) (b := (I 14 9).toInt) (m := 200000000000) (n := 400) (by omega) (by omega) (by omega) (by omega)
  have e5 : ((2 * i6 n - (I 14 2 + I 14 3).toInt64 * i6 d) * (I 14 9).toInt64).toInt = (2 * n - ((I 14 2).toInt + (I 14 3).toInt) * d) * (I 14 9).toInt := by rw [i64m (by rw [e4, i64of]; omega), e4, i64of]
  have m3 := mul_ab (a := (I 14 5).toInt) (b := d) (m := 400) (n := 1000000) (by omega) (by omega) (by omega) (by omega)
  have e6 : ((I 14 5).toInt64 * i6 d).toInt = (I 14 5).toInt * d := by rw [i64m (by rw [i64of, di]; omega), i64of, di]
  have m4 := mul_ab (a := (I 14 5).toInt * d) (b := (I 14 10).toInt) (m := 400000000) (n := 80000) (by omega) (by omega) (by omega) (by omega)
  have e7 : (((I 14 5).toInt64 * i6 d) * (I 14 10).toInt64).toInt = (I 14 5).toInt * d * (I 14 10).toInt := by rw [i64m (by rw [e6, i64of]; omega), e6, i64of]
  have eT : (tY I (i6 n) (i6 d)).toInt = (I 14 5).toInt * d * (I 14 10).toInt - (2 * n - ((I 14 2).toInt + (I 14 3).toInt) * d) * (I 14 9).toInt := by
    unfold tY
    rw [i64s (by rw [e7, e5]; omega), e7, e5]
  have e8 : (2 * tY I (i6 n) (i6 d)).toInt = 2 * (tY I (i6 n) (i6 d)).toInt := by rw [i64m (by rw [k2]; omega), k2]
  have e9 : (2 * tY I (i6 n) (i6 d) + tB I (i6 d)).toInt = 2 * (tY I (i6 n) (i6 d)).toInt + (tB I (i6 d)).toInt := by rw [i64a (by omega), e8]
  have fb := far_c (w := (I 14 5).toInt) (dn := (I 14 10).toInt) (u := (I 14 9).toInt) (d := d) (n := n) (lo := (I 14 2).toInt) (hi := (I 14 3).toInt) (T := (tY I (i6 n) (i6 d)).toInt) (B := (tB I (i6 d)).toInt) (by omega) (by omega) (by omega) (by omega) b2 h1 h2 (Or.inr eT) t1
  have fl2 := fl_b (x := 2 * tY I (i6 n) (i6 d) + tB I (i6 d)) (y := 2 * tB I (i6 d)) (B := 100000000) (by omega) (by rw [t4, e9]; exact fb.1) (by rw [t4, e9]; exact fb.2)
  unfold SY
  rw [i32of (by omega)]
  exact fl2
theorem ite_sm {α : Type} {c : Prop} {x r : α} : (@ite _ c (Classical.propDecidable c) (some x) none = some r) ↔ (c ∧ x = r) := by
  by_cases h : c
  · rw [if_pos h]
    exact ⟨fun e => ⟨h, Option.some.inj e⟩, fun e => by rw [e.2]⟩
  · rw [if_neg h]
    exact ⟨fun e => (by cases e), fun e => absurd e.1 h⟩
theorem SX_n {I : xm_I} {x d : Int64} (h : IvW I) (hs : 0 < (I 14 10).toInt) (hd : 1 ≤ d.toInt ∧ d.toInt ≤ 1000000) (h1 : -40000 * d.toInt ≤ x.toInt) (h2 : x.toInt ≤ 40000 * d.toInt) : (-100000000 ≤ (SX I x d).toInt ∧ (SX I x d).toInt ≤ 100000000) ∧ (-100000000 ≤ (SY I x d).toInt ∧ (SY I x d).toInt ≤ 100000000) := by
  have e1 : x = i6 x.toInt := i6_of rfl
  have e2 : d = i6 d.toInt := i6_of rfl
  have a := SX_c (n := x.toInt) (d := d.toInt) h hs hd h1 h2
  have b := SY_c (n := x.toInt) (d := d.toInt) h hs hd h1 h2
  rw [← e1, ← e2] at a b
  exact ⟨a, b⟩
theorem SX_1 {I : xm_I} {x : Int64} (h : IvW I) (hs : 0 < (I 14 10).toInt) (hx : -40000 ≤ x.toInt ∧ x.toInt ≤ 40000) : (-100000000 ≤ (SX I x 1).toInt ∧ (SX I x 1).toInt ≤ 100000000) ∧ (-100000000 ≤ (SY I x 1).toInt ∧ (SY I x 1).toInt ≤ 100000000) := by
  have k1 : (1 : Int64).toInt = 1 := by decide
  exact SX_n h hs (by omega) (by omega) (by omega)
/-! marks whose places count for labels; anchors: none is far -/
def far1 (x : Int32) : Prop := -100000000 ≤ x.toInt ∧ x.toInt ≤ 100000000
def okm (m : M6) : Prop := (m.1 = 68 → far1 m.2.1 ∧ far1 m.2.2.1) ∧ (m.1 = 83 → (far1 m.2.1 ∧ far1 m.2.2.1) ∧ far1 m.2.2.2.1 ∧ far1 m.2.2.2.2.1)
def okl (l : List M6) : Prop := ∀ m ∈ l, okm m
def oka (d : Anc) : Prop := ∀ o p, d o = some p → (-300000000 ≤ p.1.toInt ∧ p.1.toInt ≤ 300000000) ∧ (-300000000 ≤ p.2.toInt ∧ p.2.toInt ≤ 300000000)
theorem okl_app {a b : List M6} (ha : okl a) (hb : okl b) : okl (a ++ b) := by
  intro m hm
  rcases List.mem_append.mp hm with h | h
  · exact ha m h
  · exact hb m h
theorem okl_em {s : MS} {m : M6} (hs : okl s.1) (hm : okm m) : okl (em s m).1 := by
  unfold em
  split
  · exact okl_app hs (fun x hx => by rw [List.mem_singleton.mp hx]; exact hm)
  · exact hs
theorem okl_ems {s : MS} {l : List M6} (hs : okl s.1) (hl : okl l) : okl (ems s l).1 := by
  induction l generalizing s with
  | nil => exact hs
  | cons x xs ih =>
    rw [ems_cons]
    exact ih (okl_em hs (hl x List.mem_cons_self)) (fun m hm => hl m (List.mem_cons_of_mem _ hm))
theorem oka_set {d : Anc} {o : Nat} {p : Int32 × Int32} (h : oka d) (hp : (-300000000 ≤ p.1.toInt ∧ p.1.toInt ≤ 300000000) ∧ (-300000000 ≤ p.2.toInt ∧ p.2.toInt ≤ 300000000)) : oka (setA d o p) := by
  intro o' q hq
  unfold setA at hq
  split at hq
  · cases hq
    exact hp
  · exact h o' q hq
theorem ok_other {m : M6} (h1 : m.1 ≠ 68) (h2 : m.1 ≠ 83) : okm m := ⟨fun h => absurd h h1, fun h => absurd h h2⟩
theorem ok_grid {I : xm_I} (h : IvW I) (hs : 0 < (I 14 10).toInt) : okl (gridL I) := by
  obtain ⟨_, ⟨b1, b2, _⟩, ⟨⟨b3, b4⟩, _⟩, _⟩ := id h
  unfold gridL
  split
  · rename_i hg
    have gen : ∀ lo hi : Int, -40000 ≤ lo → hi ≤ 40000 → ∀ k, k < mulN lo hi (I 14 7).toInt → -40000 ≤ (g64 lo (I 14 7).toInt k).toInt ∧ (g64 lo (I 14 7).toInt k).toInt ≤ 40000 := by
      intro lo hi hlo hhi k hk
      have hb := (mulN_lt (a := lo) (b := hi) hg k).mp hk
      have hm := mulF_b (a := lo) hg
      have hp : 0 ≤ (k : Int) * (I 14 7).toInt := Int.mul_nonneg (by omega) (by omega)
      rw [g64_i (by omega)]
      omega
    refine okl_app ?_ ?_
    · intro m hm
      obtain ⟨k, hk, rfl⟩ := List.mem_map.mp hm
      have hk' := List.mem_range.mp hk
      have x1 := SX_1 h hs (gen _ _ b1.1 b1.2.2 k hk')
      have y1 := SX_1 (x := (I 14 2).toInt64) h hs (by rw [i64of]; omega)
      have y2 := SX_1 (x := (I 14 3).toInt64) h hs (by rw [i64of]; omega)
      exact ⟨fun hh => absurd hh (by decide : ¬ (83 : Int32) = 68), fun _ => ⟨⟨x1.1, y1.2⟩, x1.1, y2.2⟩⟩
    · intro m hm
      obtain ⟨k, hk, rfl⟩ := List.mem_map.mp hm
      have hk' := List.mem_range.mp hk
      have x1 := SX_1 h hs (gen _ _ b2.1 b2.2.2 k hk')
      have y1 := SX_1 (x := (I 14 0).toInt64) h hs (by rw [i64of]; omega)
      have y2 := SX_1 (x := (I 14 1).toInt64) h hs (by rw [i64of]; omega)
      exact ⟨fun hh => absurd hh (by decide : ¬ (83 : Int32) = 68), fun _ => ⟨⟨y1.1, x1.2⟩, y2.1, x1.2⟩⟩
  · intro m hm
    cases hm
theorem rad_b {I : xm_I} {S : Int64} (h : IvW I) (hs : 0 < (I 14 10).toInt) (hS : 0 ≤ S.toInt ∧ S.toInt ≤ 7200000000) : 0 ≤ (RAD I S).toInt ∧ (RAD I S).toInt ≤ 100000001 := by
  have hp := h.2.2.2.pos h.2.1
  have k4 : (4 : Int64).toInt = 4 := by decide
  have k0 : (0 : Int64).toInt = 0 := by decide
  have m0 := mul_bd (a := (I 14 10).toInt) (b := (I 14 10).toInt) (m := 80000) (n := 80000) (by omega) (by omega) (by omega) (by omega)
  have dd : ((I 14 10).toInt64 * (I 14 10).toInt64).toInt = (I 14 10).toInt * (I 14 10).toInt := by rw [m64 (by rw [i64of]; omega) (by rw [i64of]; omega), i64of]
  have dpos : 0 < (I 14 10).toInt * (I 14 10).toInt := Int.mul_pos hs hs
  have u1 : (4 * (I 14 9).toInt64).toInt = 4 * (I 14 9).toInt := by rw [m64 (by rw [k4]; omega) (by rw [i64of]; omega), k4, i64of]
  have m1 := mul_bd (a := 4 * (I 14 9).toInt) (b := (I 14 9).toInt) (m := 1600) (n := 400) (by omega) (by omega) (by omega) (by omega)
  have u2 : ((4 * (I 14 9).toInt64) * (I 14 9).toInt64).toInt = 4 * (I 14 9).toInt * (I 14 9).toInt := by rw [m64 (by rw [u1]; omega) (by rw [i64of]; omega), u1, i64of]
  have p1 : 0 ≤ 4 * (I 14 9).toInt * (I 14 9).toInt := Int.mul_nonneg (by omega) (by omega)
  have m2 := mul_bd (a := 4 * (I 14 9).toInt * (I 14 9).toInt) (b := S.toInt) (m := 640000) (n := 7200000000) p1 (by omega) (by omega) (by omega)
  have u3 : (((4 * (I 14 9).toInt64) * (I 14 9).toInt64) * S).toInt = 4 * (I 14 9).toInt * (I 14 9).toInt * S.toInt := by rw [i64m (by rw [u2]; omega), u2]
  have p2 : 0 ≤ 4 * (I 14 9).toInt * (I 14 9).toInt * S.toInt := Int.mul_nonneg p1 hS.1
  obtain ⟨N, hN⟩ := Int.eq_ofNat_of_zero_le p2
  obtain ⟨D, hD⟩ := Int.eq_ofNat_of_zero_le (Int.le_of_lt dpos)
  have hq : (radA I S).toInt = ((N / D : Nat) : Int) := q64 (by rw [u3, hN]) (by rw [dd, hD])
  have hle : N / D ≤ N := Nat.div_le_self _ _
  obtain ⟨r, h1, h2, h3⟩ := root_same hq (by omega)
  unfold RAD
  rw [h1]
  show 0 ≤ (((r + 1) / 2).toInt32).toInt ∧ (((r + 1) / 2).toInt32).toInt ≤ 100000001
  have k1 : (1 : Int64).toInt = 1 := by decide
  have k2 : (2 : Int64).toInt = 2 := by decide
  have e1 : (r + 1).toInt = r.toInt + 1 := by rw [i64a (by omega), k1]
  have e2 : ((r + 1) / 2).toInt = (r.toInt + 1) / 2 := by
    rw [Int64.toInt_div_of_ne_right _ _ (by decide), e1, k2, Int.tdiv_eq_ediv_of_nonneg (by omega)]
  rw [i32of (by omega), e2]
  omega
theorem hlf_b {a b : Int32} (ha : far1 a) (hb : far1 b) : far1 (hlf a b) := by
  unfold far1 at *
  have k2 : (2 : Int64).toInt = 2 := by decide
  have e : (a.toInt64 + b.toInt64).toInt = a.toInt + b.toInt := by rw [i64a (by rw [i64of, i64of]; omega), i64of, i64of]
  have f := fl_b (x := a.toInt64 + b.toInt64) (y := 2) (B := 100000000) (by omega) (by omega) (by omega)
  unfold hlf
  rw [i32of (by omega)]
  exact f
theorem far3 {a : Int32} (h : far1 a) : -300000000 ≤ a.toInt ∧ a.toInt ≤ 300000000 := by
  unfold far1 at h
  omega
theorem ok_res {n : Nat} {I : xm_I} {o : Nat} {r : M6 × Int32 × Int32} (hst : Sta n I I) (hs : 0 < (I 14 10).toInt) (h : resO I o = some r) : okm r.1 ∧ (-300000000 ≤ r.2.1.toInt ∧ r.2.1.toInt ≤ 300000000) ∧ (-300000000 ≤ r.2.2.toInt ∧ r.2.2.toInt ≤ 300000000) := by
  have hW := hst.1.2.2.1
  have hp := hst.1.1
  have x0 := CX_b hp o 0
  have x1 := CX_b hp o 1
  have px : ∀ k, (-100000000 ≤ (SX I (CX I o k).toInt64 1).toInt ∧ (SX I (CX I o k).toInt64 1).toInt ≤ 100000000) ∧ (-100000000 ≤ (SY I (CY I o k).toInt64 1).toInt ∧ (SY I (CY I o k).toInt64 1).toInt ≤ 100000000) := by
    intro k
    have b := CX_b hp o k
    exact ⟨(SX_1 hW hs (by rw [i64of]; omega)).1, (SX_1 hW hs (by rw [i64of]; omega)).2⟩
  unfold resO at h
  split at h
  · unfold resDot at h
    rw [ite_sm] at h
    cases h.2
    exact ⟨⟨fun _ => px 0, fun hh => absurd hh (by decide : ¬ (68 : Int32) = 83)⟩, far3 (px 0).1, far3 (px 0).2⟩
  · split at h
    · unfold resCir at h
      rw [ite_sm] at h
      cases h.2
      have rb := rad_b hW hs (SQ_b hp o)
      refine ⟨ok_other (by show ¬ (67 : Int32) = 68; decide) (by show ¬ (67 : Int32) = 83; decide), far3 (px 0).1, ?_⟩
      show -300000000 ≤ (SY I (CY I o 0).toInt64 1 - RAD I (SQ I o)).toInt ∧ (SY I (CY I o 0).toInt64 1 - RAD I (SQ I o)).toInt ≤ 300000000
      have := (px 0).2
      rw [i32s (by omega)]
      omega
    · split at h
      · unfold resAng at h
        rw [ite_sm] at h
        cases h.2
        exact ⟨ok_other (by show ¬ (65 : Int32) = 68; decide) (by show ¬ (65 : Int32) = 83; decide), far3 (px 1).1, far3 (px 1).2⟩
      · split at h
        · unfold resTic at h
          rw [ite_sm] at h
          cases h.2
          have k2 : (2 : Int64).toInt = 2 := by decide
          have e1 : (CX I o 0 + CX I o 1).toInt64.toInt = (CX I o 0).toInt + (CX I o 1).toInt := by rw [i64of, i32a (by omega)]
          have e2 : (CY I o 0 + CY I o 1).toInt64.toInt = (CY I o 0).toInt + (CY I o 1).toInt := by rw [i64of, i32a (by omega)]
          exact ⟨ok_other (by show ¬ (84 : Int32) = 68; decide) (by show ¬ (84 : Int32) = 83; decide), far3 (SX_n hW hs (by omega) (by omega) (by omega)).1, far3 (SX_n hW hs (by omega) (by omega) (by omega)).2⟩
        · unfold resStr at h
          split at h
          · cases h
          · rename_i F T hw
            cases h
            have kk := k0_sm (I 7 o)
            have wb := wayM_b (st := I 8 o) hW hs (by omega) (by omega) (by omega) (by omega) kk.1 kk.2 hw
            exact ⟨⟨fun hh => absurd hh (by decide : ¬ (83 : Int32) = 68), fun _ => ⟨⟨wb.1, wb.2.1⟩, wb.2.2.1, wb.2.2.2⟩⟩, far3 (hlf_b wb.1 wb.2.2.1), far3 (hlf_b wb.2.1 wb.2.2.2)⟩
