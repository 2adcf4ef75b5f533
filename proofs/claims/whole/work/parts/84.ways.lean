/-! ===== straight ways, drawn by both ===== -/
def sm (f : Fq) : Prop := (-200000 ≤ f.1 ∧ f.1 ≤ 200000) ∧ 1 ≤ f.2 ∧ f.2 ≤ 200000
def osm : Option Fq → Prop
  | none => True
  | some f => sm f
theorem axs_s {a w lo hi : Int} {f t : Option Fq} (ha : -100000 ≤ a ∧ a ≤ 100000) (hw : -200000 ≤ w ∧ w ≤ 200000) (hlo : -100000 ≤ lo ∧ lo ≤ 100000) (hhi : -100000 ≤ hi ∧ hi ≤ 100000) (hf : osm f) (ht : osm t) : osm (axs a w lo hi f t).2.1 ∧ osm (axs a w lo hi f t).2.2 := by
  have nf : ∀ (c e : Int), -200000 ≤ c ∧ c ≤ 200000 → 1 ≤ e ∧ e ≤ 200000 → sm (narF c e f) := by
    intro c e hc he
    cases f with
    | none => exact ⟨hc, he⟩
    | some f =>
      unfold narF
      dsimp only
      split
      · exact hf
      · exact ⟨hc, he⟩
  have nt : ∀ (c e : Int), -200000 ≤ c ∧ c ≤ 200000 → 1 ≤ e ∧ e ≤ 200000 → sm (narT c e t) := by
    intro c e hc he
    cases t with
    | none => exact ⟨hc, he⟩
    | some t =>
      unfold narT
      dsimp only
      split
      · exact ht
      · exact ⟨hc, he⟩
  unfold axs
  split
  · exact ⟨hf, ht⟩
  · split
    · exact ⟨nf _ _ (by omega) (by omega), nt _ _ (by omega) (by omega)⟩
    · exact ⟨nf _ _ (by omega) (by omega), nt _ _ (by omega) (by omega)⟩
theorem CL_sm {ax ay bx bz l r b t : Int} {f0 t0 : Option Fq} {F T : Fq} (hx : -100000 ≤ ax ∧ ax ≤ 100000) (hy : -100000 ≤ ay ∧ ay ≤ 100000) (hx' : -100000 ≤ bx ∧ bx ≤ 100000) (hy' : -100000 ≤ bz ∧ bz ≤ 100000) (hl : -40000 ≤ l ∧ l ≤ r ∧ r ≤ 40000) (hb : -40000 ≤ b ∧ b ≤ t ∧ t ≤ 40000) (bf : osm f0) (bt : osm t0) (h : CL ax ay bx bz l r b t f0 t0 = some (F, T)) : sm F ∧ sm T := by
  unfold CL ax2 clipR at h
  dsimp only at h
  have bb1 := axs_s (a := ax) (w := bx - ax) (lo := l) (hi := r) (f := f0) (t := t0) (by omega) (by omega) (by omega) (by omega) bf bt
  have bb2 := axs_s (a := ay) (w := bz - ay) (lo := b) (hi := t) (by omega) (by omega) (by omega) (by omega) bb1.1 bb1.2
  generalize axs ax (bx - ax) l r f0 t0 = A at *
  generalize axs ay (bz - ay) b t A.2.1 A.2.2 = B at *
  cases hf : B.2.1 with
  | none =>
    rw [hf] at h
    cases h
  | some f =>
    cases ht : B.2.2 with
    | none =>
      rw [hf, ht] at h
      cases h
    | some u =>
      rw [hf, ht] at h
      dsimp only at h
      rw [hf, ht] at bb2
      split at h
      · cases h
        exact bb2
      · cases h
def i6 (z : Int) : Int64 := Int64.ofInt z
theorem i6_i {z : Int} (h : -4000000000000000000 ≤ z ∧ z ≤ 4000000000000000000) : (i6 z).toInt = z := by
  unfold i6
  rw [Int64.toInt_ofInt]
  show Int.bmod z 18446744073709551616 = _
  exact Int.bmod_eq_of_le (by omega) (by omega)
theorem i6_of {x : Int64} {z : Int} (h : x.toInt = z) : x = i6 z := by
  unfold i6
  rw [← h, Int64.ofInt_toInt]
def wayM (I : xm_I) (x0 y0 x1 y1 : Int) (F T : Fq) (st : Int32) : M6 := (83, SX I (i6 (x0 * F.2 + (x1 - x0) * F.1)) (i6 F.2), SY I (i6 (y0 * F.2 + (y1 - y0) * F.1)) (i6 F.2), SX I (i6 (x0 * T.2 + (x1 - x0) * T.1)) (i6 T.2), SY I (i6 (y0 * T.2 + (y1 - y0) * T.1)) (i6 T.2), st)
theorem SX_b {I : xm_I} {n d : Int} (h : IvW I) (hs : 0 < (I 14 10).toInt) (hd : 1 ≤ d ∧ d ≤ 1000000) (h1 : (I 14 0).toInt * d ≤ n) (h2 : n ≤ (I 14 1).toInt * d) : -100000000 ≤ (SX I (i6 n) (i6 d)).toInt ∧ (SX I (i6 n) (i6 d)).toInt ≤ 100000000 := by
  have hp := h.2.2.2.pos h.2.1
  obtain ⟨_, ⟨b1, b2, b3, b4, b5⟩, _⟩ := id h
  have di : (i6 d).toInt = d := i6_i (by omega)
  have l1 : -40000 * d ≤ (I 14 0).toInt * d := Int.mul_le_mul_of_nonneg_right b1.1 (by omega)
  have l2 : (I 14 1).toInt * d ≤ 40000 * d := Int.mul_le_mul_of_nonneg_right b1.2.2 (by omega)
  have ni : (i6 n).toInt = n := i6_i (by omega)
  obtain ⟨t1, t2, t3, t4⟩ := tB_i (d := i6 d) h hs ⟨by omega, by omega⟩
  rw [di] at t1
  have k2 : (2 : Int64).toInt = 2 := by decide
  have e1 : (2 * i6 n).toInt = 2 * n := by rw [i64m (by rw [k2, ni]; omega), k2, ni]
  have e2 : (I 14 0 + I 14 1).toInt64.toInt = (I 14 0).toInt + (I 14 1).toInt := by rw [i64of, i32a (by omega)]
  have m1 := mul_ab (a := (I 14 0).toInt + (I 14 1).toInt) (b := d) (m := 80000) (n := 1000000) (by omega) (by omega) (by omega) (by omega)
  have e3 : ((I 14 0 + I 14 1).toInt64 * i6 d).toInt = ((I 14 0).toInt + (I 14 1).toInt) * d := by rw [i64m (by rw [e2, di]; omega), e2, di]
  have e4 : (2 * i6 n - (I 14 0 + I 14 1).toInt64 * i6 d).toInt = 2 * n - ((I 14 0).toInt + (I 14 1).toInt) * d := by rw [i64s (by rw [e1, e3]; omega), e1, e3]
  have m2 := mul_ab (a := 2 * n - ((I 14 0).toInt + (I 14 1).toInt) * d) (b := (I 14 9).toInt) (m := 200000000000) (n := 400) (by omega) (by omega) (by omega) (by omega)
  have e5 : ((2 * i6 n - (I 14 0 + I 14 1).toInt64 * i6 d) * (I 14 9).toInt64).toInt = (2 * n - ((I 14 0).toInt + (I 14 1).toInt) * d) * (I 14 9).toInt := by rw [i64m (by rw [e4, i64of]; omega), e4, i64of]
  have m3 := mul_ab (a := (I 14 4).toInt) (b := d) (m := 400) (n := 1000000) (by omega) (by omega) (by omega) (by omega)
  have e6 : ((I 14 4).toInt64 * i6 d).toInt = (I 14 4).toInt * d := by rw [i64m (by rw [i64of, di]; omega), i64of, di]
  have m4 := mul_ab (a := (I 14 4).toInt * d) (b := (I 14 10).toInt) (m := 400000000) (n := 80000) (by omega) (by omega) (by omega) (by omega)
  have e7 : (((I 14 4).toInt64 * i6 d) * (I 14 10).toInt64).toInt = (I 14 4).toInt * d * (I 14 10).toInt := by rw [i64m (by rw [e6, i64of]; omega), e6, i64of]
  have eT : (tX I (i6 n) (i6 d)).toInt = (I 14 4).toInt * d * (I 14 10).toInt + (2 * n - ((I 14 0).toInt + (I 14 1).toInt) * d) * (I 14 9).toInt := by
    unfold tX
    rw [i64a (by rw [e7, e5]; omega), e7, e5]
  have e8 : (2 * tX I (i6 n) (i6 d)).toInt = 2 * (tX I (i6 n) (i6 d)).toInt := by rw [i64m (by rw [k2]; omega), k2]
  have e9 : (2 * tX I (i6 n) (i6 d) + tB I (i6 d)).toInt = 2 * (tX I (i6 n) (i6 d)).toInt + (tB I (i6 d)).toInt := by rw [i64a (by omega), e8]
  have fb := far_b (w := (I 14 4).toInt) (dn := (I 14 10).toInt) (u := (I 14 9).toInt) (d := d) (n := n) (lo := (I 14 0).toInt) (hi := (I 14 1).toInt) (T := (tX I (i6 n) (i6 d)).toInt) (B := (tB I (i6 d)).toInt) (by omega) (by omega) (by omega) (by omega) b1 h1 h2 (Or.inl eT) t1
  have fl2 := fl_b (x := 2 * tX I (i6 n) (i6 d) + tB I (i6 d)) (y := 2 * tB I (i6 d)) (B := 100000000) (by omega) (by rw [t4, e9]; exact fb.1) (by rw [t4, e9]; exact fb.2)
  unfold SX
  rw [i32of (by omega)]
  exact fl2
theorem SY_b {I : xm_I} {n d : Int} (h : IvW I) (hs : 0 < (I 14 10).toInt) (hd : 1 ≤ d ∧ d ≤ 1000000) (h1 : (I 14 2).toInt * d ≤ n) (h2 : n ≤ (I 14 3).toInt * d) : -100000000 ≤ (SY I (i6 n) (i6 d)).toInt ∧ (SY I (i6 n) (i6 d)).toInt ≤ 100000000 := by
  have hp := h.2.2.2.pos h.2.1
  obtain ⟨_, ⟨b1, b2, b3, b4, b5⟩, _⟩ := id h
  have di : (i6 d).toInt = d := i6_i (by omega)
  have l1 : -40000 * d ≤ (I 14 2).toInt * d := Int.mul_le_mul_of_nonneg_right b2.1 (by omega)
  have l2 : (I 14 3).toInt * d ≤ 40000 * d := Int.mul_le_mul_of_nonneg_right b2.2.2 (by omega)
  have ni : (i6 n).toInt = n := i6_i (by omega)
  obtain ⟨t1, t2, t3, t4⟩ := tB_i (d := i6 d) h hs ⟨by omega, by omega⟩
  rw [di] at t1
  have k2 : (2 : Int64).toInt = 2 := by decide
  have e1 : (2 * i6 n).toInt = 2 * n := by rw [i64m (by rw [k2, ni]; omega), k2, ni]
  have e2 : (I 14 2 + I 14 3).toInt64.toInt = (I 14 2).toInt + (I 14 3).toInt := by rw [i64of, i32a (by omega)]
  have m1 := mul_ab (a := (I 14 2).toInt + (I 14 3).toInt) (b := d) (m := 80000) (n := 1000000) (by omega) (by omega) (by omega) (by omega)
  have e3 : ((I 14 2 + I 14 3).toInt64 * i6 d).toInt = ((I 14 2).toInt + (I 14 3).toInt) * d := by rw [i64m (by rw [e2, di]; omega), e2, di]
  have e4 : (2 * i6 n - (I 14 2 + I 14 3).toInt64 * i6 d).toInt = 2 * n - ((I 14 2).toInt + (I 14 3).toInt) * d := by rw [i64s (by rw [e1, e3]; omega), e1, e3]
  have m2 := mul_ab (a := 2 * n - ((I 14 2).toInt + (I 14 3).toInt) * d) (b := (I 14 9).toInt) (m := 200000000000) (n := 400) (by omega) (by omega) (by omega) (by omega)
  have e5 : ((2 * i6 n - (I 14 2 + I 14 3).toInt64 * i6 d) * (I 14 9).toInt64).toInt = (2 * n - ((I 14 2).toInt + (I 14 3).toInt) * d) * (I 14 9).toInt := by rw [i64m (by rw [e4, i64of]; omega), e4, i64of]
  have m3 := mul_ab (a := (I 14 5).toInt) (b := d) (m := 400) (n := 1000000) (by omega) (by omega) (by omega) (by omega)
  have e6 : ((I 14 5).toInt64 * i6 d).toInt = (I 14 5).toInt * d := by rw [i64m (by rw [i64of, di]; omega), i64of, di]
  have m4 := mul_ab (a := (I 14 5).toInt * d) (b := (I 14 10).toInt) (m := 400000000) (n := 80000) (by omega) (by omega) (by omega) (by omega)
  have e7 : (((I 14 5).toInt64 * i6 d) * (I 14 10).toInt64).toInt = (I 14 5).toInt * d * (I 14 10).toInt := by rw [i64m (by rw [e6, i64of]; omega), e6, i64of]
  have eT : (tY I (i6 n) (i6 d)).toInt = (I 14 5).toInt * d * (I 14 10).toInt - (2 * n - ((I 14 2).toInt + (I 14 3).toInt) * d) * (I 14 9).toInt := by
    unfold tY
    rw [i64s (by rw [e7, e5]; omega), e7, e5]
  have e8 : (2 * tY I (i6 n) (i6 d)).toInt = 2 * (tY I (i6 n) (i6 d)).toInt := by rw [i64m (by rw [k2]; omega), k2]
  have e9 : (2 * tY I (i6 n) (i6 d) + tB I (i6 d)).toInt = 2 * (tY I (i6 n) (i6 d)).toInt + (tB I (i6 d)).toInt := by rw [i64a (by omega), e8]
  have fb := far_b (w := (I 14 5).toInt) (dn := (I 14 10).toInt) (u := (I 14 9).toInt) (d := d) (n := n) (lo := (I 14 2).toInt) (hi := (I 14 3).toInt) (T := (tY I (i6 n) (i6 d)).toInt) (B := (tB I (i6 d)).toInt) (by omega) (by omega) (by omega) (by omega) b2 h1 h2 (Or.inr eT) t1
  have fl2 := fl_b (x := 2 * tY I (i6 n) (i6 d) + tB I (i6 d)) (y := 2 * tB I (i6 d)) (B := 100000000) (by omega) (by rw [t4, e9]; exact fb.1) (by rw [t4, e9]; exact fb.2)
  unfold SY
  rw [i32of (by omega)]
  exact fl2
