/-! ===== one line of hatches ===== -/
def TK (I : xm_I) (X Y : Nat → Int32) (n : Nat) : Prop := I 30 12 = n32 n ∧ ∀ k, k < n → I 34 k = X k ∧ I 35 k = Y k
theorem crP_64 {X Y : Nat → Int32} {n k : Nat} {y : Int} {a b c e : Int64} (h : XY X Y) (hy : -40000 ≤ y ∧ y ≤ 40000) (ha : a.toInt = (X k).toInt) (hb : b.toInt = (Y (nxk n k)).toInt - (Y k).toInt) (hc : c.toInt = y - (Y k).toInt) (he : e.toInt = (X (nxk n k)).toInt - (X k).toInt) : a * b + c * e = i6 (crN X Y n k y) ∧ b = i6 ((Y (nxk n k)).toInt - (Y k).toInt) := by
  have x0 := h.1 k
  have x1 := h.1 (nxk n k)
  have y0 := h.2 k
  have y1 := h.2 (nxk n k)
  have hN := crN_b (n := n) (k := k) h hy
  have m1 : (a * b).toInt = (X k).toInt * ((Y (nxk n k)).toInt - (Y k).toInt) := by rw [m64 (by omega) (by omega), ha, hb]
  have m2 : (c * e).toInt = (y - (Y k).toInt) * ((X (nxk n k)).toInt - (X k).toInt) := by rw [m64 (by omega) (by omega), hc, he]
  have b1 := mul_ab (a := (X k).toInt) (b := (Y (nxk n k)).toInt - (Y k).toInt) (m := 30000) (n := 60000) (by omega) (by omega) (by omega) (by omega)
  have b2 := mul_ab (a := y - (Y k).toInt) (b := (X (nxk n k)).toInt - (X k).toInt) (m := 70000) (n := 60000) (by omega) (by omega) (by omega) (by omega)
  refine ⟨i6_of ?_, i6_of hb⟩
  rw [i64a (by rw [m1, m2]; omega), m1, m2]
  rfl
theorem i6_neg {z : Int} (h : -4000000000000000000 ≤ z ∧ z ≤ 4000000000000000000) : -(i6 z) = i6 (-z) := by
  refine i6_of ?_
  rw [i64n (by rw [i6_i h]; omega), i6_i h]
theorem meetC {I : xm_I} {L : xm_L} {X Y : Nat → Int32} {n k : Nat} {y : Int32} {l : List Cr} (h : XY X Y) (hn : n ≤ 12) (hk : k < n) (tk : TK I X Y n) (hy : -40000 ≤ y.toInt ∧ y.toInt ≤ 40000) (hc : crB Y n k y.toInt) (hl : l.length < 12) (hlen : I 30 13 = n32 l.length) (hr : rowsL L 36 37 l) : ok (f_Pn_meetSide (n32 k) (n32 (nxk n k)) y I L) (fun q => q.1 = up2 I 30 13 (n32 (ins l (crP X Y n k y.toInt)).length) ∧ Fr [36, 37] L q.2 ∧ rowsL q.2 36 37 (ins l (crP X Y n k y.toInt))) := by
  have hk' : nxk n k < n := by unfold nxk; split <;> omega
  have g1 : 0 ≤ (n32 k).toInt ∧ (n32 k).toInt < 12 := by rw [n32i (by omega)]; omega
  have g2 : 0 ≤ (n32 (nxk n k)).toInt ∧ (n32 (nxk n k)).toInt < 12 := by rw [n32i (by omega)]; omega
  have t1 : Int32.toNatClampNeg (n32 k) = k := n32n (by omega)
  have t2 : Int32.toNatClampNeg (n32 (nxk n k)) = nxk n k := n32n (by omega)
  obtain ⟨a1, a2⟩ := tk.2 k hk
  obtain ⟨a3, a4⟩ := tk.2 _ hk'
  have x0 := h.1 k
  have x1 := h.1 (nxk n k)
  have y0 := h.2 k
  have y1 := h.2 (nxk n k)
  obtain ⟨e1, e2⟩ := crP_64 (n := n) (k := k) (y := y.toInt) (a := (X k).toInt64) (b := (Y (nxk n k) - Y k).toInt64) (c := (y - Y k).toInt64) (e := (X (nxk n k) - X k).toInt64) h hy (i64of _) (by rw [i64of, i32s (by omega)]) (by rw [i64of, i32s (by omega)]) (by rw [i64of, i32s (by omega)])
  have hN := crN_b (n := n) (k := k) h hy
  have fin : ∀ p : Cr, p = crP X Y n k y.toInt → ok (f_Pn_meetSide_b70 p.2 p.1 I L) (fun q => q.1 = up2 I 30 13 (n32 (ins l (crP X Y n k y.toInt)).length) ∧ Fr [36, 37] L q.2 ∧ rowsL q.2 36 37 (ins l (crP X Y n k y.toInt))) := by
    intro p hp
    unfold f_Pn_meetSide_b70 f_Pn_meetSide_b86
    refine ok_t ?_ ?_
    · rw [hlen, lt32, n32i (by omega)]
      simp only [Int32.reduceToInt]
      omega
    · dsimp only
      rw [hlen, ← hp]
      exact insC hl hlen hr
  unfold f_Pn_meetSide f_Pn_meetSide_b0
  refine ok_g g2 (ok_g g1 (ok_g g1 (ok_g g1 (ok_g g2 (ok_g g1 ?_)))))
  dsimp only
  rw [t1, t2, a1, a2, a3, a4]
  have d6 : (Y (nxk n k) - Y k).toInt64.toInt = (Y (nxk n k)).toInt - (Y k).toInt := by rw [i64of, i32s (by omega)]
  have k0 : (0 : Int64).toInt = 0 := by decide
  refine ok_le6 (fun hd => ?_) (fun hd => ?_)
  · rw [d6, k0] at hd
    rw [e1, e2]
    exact fin (i6 (crN X Y n k y.toInt), i6 ((Y (nxk n k)).toInt - (Y k).toInt)) (by unfold crP; rw [if_pos hd])
  · rw [d6, k0] at hd
    rw [e1, e2, i6_neg (by omega), i6_neg (by omega)]
    exact fin (i6 (-(crN X Y n k y.toInt)), i6 (-((Y (nxk n k)).toInt - (Y k).toInt))) (by unfold crP; rw [if_neg (by omega)])
theorem crossM {I : xm_I} {L : xm_L} {X Y : Nat → Int32} {n k : Nat} {y : Int64} {l : List Cr} (h : XY X Y) (hy : -40000 ≤ y.toInt ∧ y.toInt ≤ 40000) (hl : l.length < 12) (hlen : I 49 67 = n32 l.length) (hr : rowsL L 77 78 l) : ok (f_M_cross (X k).toInt64 (Y k).toInt64 (X (nxk n k)).toInt64 (Y (nxk n k)).toInt64 y I L) (fun q => q.1 = up2 I 49 67 (n32 (if crB Y n k y.toInt then ins l (crP X Y n k y.toInt) else l).length) ∧ Fr [77, 78] L q.2 ∧ rowsL q.2 77 78 (if crB Y n k y.toInt then ins l (crP X Y n k y.toInt) else l)) := by
  have x0 := h.1 k
  have x1 := h.1 (nxk n k)
  have y0 := h.2 k
  have y1 := h.2 (nxk n k)
  have hN := crN_b (n := n) (k := k) h hy
  have i1 := i64of (X k)
  have i2 := i64of (Y k)
  have i3 := i64of (X (nxk n k))
  have i4 := i64of (Y (nxk n k))
  have self : up2 I 49 67 (n32 l.length) = I := by
    funext a b
    by_cases c : a = 49 ∧ b = 67
    · obtain ⟨rfl, rfl⟩ := c
      rw [up2_self, hlen]
    · unfold up2
      rw [if_neg c]
  have no : ¬ crB Y n k y.toInt → ok (some (I, L)) (fun q => q.1 = up2 I 49 67 (n32 (if crB Y n k y.toInt then ins l (crP X Y n k y.toInt) else l).length) ∧ Fr [77, 78] L q.2 ∧ rowsL q.2 77 78 (if crB Y n k y.toInt then ins l (crP X Y n k y.toInt) else l)) := by
    intro hc
    rw [if_neg hc]
    exact ok_s ⟨self.symm, Fr.refl _ _, hr⟩
  have yes : crB Y n k y.toInt → ok (f_M_cross_b31 (X k).toInt64 (Y k).toInt64 (X (nxk n k)).toInt64 (Y (nxk n k)).toInt64 y I L) (fun q => q.1 = up2 I 49 67 (n32 (if crB Y n k y.toInt then ins l (crP X Y n k y.toInt) else l).length) ∧ Fr [77, 78] L q.2 ∧ rowsL q.2 77 78 (if crB Y n k y.toInt then ins l (crP X Y n k y.toInt) else l)) := by
    intro hc
    rw [if_pos hc]
    have fin : ∀ p : Cr, p = crP X Y n k y.toInt → ok (f_M_cross_b91 p.2 p.1 I (I 49 67, L)) (fun q => q.1 = up2 I 49 67 (n32 (ins l (crP X Y n k y.toInt)).length) ∧ Fr [77, 78] L q.2 ∧ rowsL q.2 77 78 (ins l (crP X Y n k y.toInt))) := by
      intro p hp
      unfold f_M_cross_b91
      rw [hlen, ← hp]
      exact insM hl hlen hr
    have cc : (y - (Y k).toInt64).toInt = y.toInt - (Y k).toInt := by rw [i64s (by omega), i2]
    unfold f_M_cross_b31 f_M_cross_b49 f_M_cross_b69
    by_cases hd : 0 ≤ (Y (nxk n k)).toInt - (Y k).toInt
    · have hlt : ¬ (Y (nxk n k)).toInt64 ≤ (Y k).toInt64 := by
        rw [le64, i2, i4]
        unfold crB at hc
        omega
      refine ok_f hlt (ok_f hlt ?_)
      dsimp only
      obtain ⟨e1, e2⟩ := crP_64 (n := n) (k := k) (y := y.toInt) (a := (X k).toInt64) (b := (Y (nxk n k)).toInt64 - (Y k).toInt64) (c := y - (Y k).toInt64) (e := (X (nxk n k)).toInt64 - (X k).toInt64) h hy i1 (by rw [i64s (by omega), i4, i2]) cc (by rw [i64s (by omega), i3, i1])
      rw [e1, e2]
      exact fin (i6 (crN X Y n k y.toInt), i6 ((Y (nxk n k)).toInt - (Y k).toInt)) (by unfold crP; rw [if_pos hd])
    · have hlt : (Y (nxk n k)).toInt64 ≤ (Y k).toInt64 := by
        rw [le64, i2, i4]
        omega
      refine ok_t hlt (ok_t hlt ?_)
      dsimp only
      have d1 : ((Y k).toInt64 - (Y (nxk n k)).toInt64).toInt = (Y k).toInt - (Y (nxk n k)).toInt := by rw [i64s (by omega), i4, i2]
      have d2 : ((X k).toInt64 - (X (nxk n k)).toInt64).toInt = (X k).toInt - (X (nxk n k)).toInt := by rw [i64s (by omega), i3, i1]
      have b1 := mul_ab (a := (X k).toInt) (b := (Y k).toInt - (Y (nxk n k)).toInt) (m := 30000) (n := 60000) (by omega) (by omega) (by omega) (by omega)
      have b2 := mul_ab (a := y.toInt - (Y k).toInt) (b := (X k).toInt - (X (nxk n k)).toInt) (m := 70000) (n := 60000) (by omega) (by omega) (by omega) (by omega)
      have m1 : ((X k).toInt64 * ((Y k).toInt64 - (Y (nxk n k)).toInt64)).toInt = (X k).toInt * ((Y k).toInt - (Y (nxk n k)).toInt) := by rw [m64 (by omega) (by omega), i1, d1]
      have m2 : ((y - (Y k).toInt64) * ((X k).toInt64 - (X (nxk n k)).toInt64)).toInt = (y.toInt - (Y k).toInt) * ((X k).toInt - (X (nxk n k)).toInt) := by rw [m64 (by omega) (by omega), cc, d2]
      have e1 : (X k).toInt64 * ((Y k).toInt64 - (Y (nxk n k)).toInt64) + (y - (Y k).toInt64) * ((X k).toInt64 - (X (nxk n k)).toInt64) = i6 (-(crN X Y n k y.toInt)) := by
        refine i6_of ?_
        rw [i64a (by rw [m1, m2]; omega), m1, m2]
        unfold crN
        grind
      have e2 : (Y k).toInt64 - (Y (nxk n k)).toInt64 = i6 (-((Y (nxk n k)).toInt - (Y k).toInt)) := by
        refine i6_of ?_
        rw [d1]
        omega
      rw [e1, e2]
      exact fin (i6 (-(crN X Y n k y.toInt)), i6 (-((Y (nxk n k)).toInt - (Y k).toInt))) (by unfold crP; rw [if_neg hd])
  have dc : crB Y n k y.toInt ↔ ¬ (y.toInt < (Y k).toInt ↔ y.toInt < (Y (nxk n k)).toInt) := Iff.rfl
  have b15 : ok (f_M_cross_b15 (X k).toInt64 (Y k).toInt64 (X (nxk n k)).toInt64 (Y (nxk n k)).toInt64 y I L) (fun q => q.1 = up2 I 49 67 (n32 (if crB Y n k y.toInt then ins l (crP X Y n k y.toInt) else l).length) ∧ Fr [77, 78] L q.2 ∧ rowsL q.2 77 78 (if crB Y n k y.toInt then ins l (crP X Y n k y.toInt) else l)) ∨ (¬ y.toInt < (Y k).toInt ∧ y.toInt < (Y (nxk n k)).toInt) := by
    by_cases w : ¬ y.toInt < (Y k).toInt ∧ y.toInt < (Y (nxk n k)).toInt
    · exact Or.inr w
    · refine Or.inl ?_
      unfold f_M_cross_b15
      refine ok_lt6 (fun c1 => no (by rw [dc]; omega)) (fun c1 => ok_lt6 (fun c2 => yes (by rw [dc]; omega)) (fun c2 => no (by rw [dc]; omega)))
  unfold f_M_cross f_M_cross_b0
  refine ok_lt6 (fun c1 => ?_) (fun c1 => ok_lt6 (fun c2 => yes (by rw [dc]; omega)) (fun c2 => ?_))
  · rcases b15 with b | b
    · exact b
    · omega
  · rcases b15 with b | b
    · exact b
    · omega
