/-! ===== an area: how many hatches; its anchor ===== -/
def hTot (Y : Nat → Int32) (N : Nat) (g y b : Int) : Nat → Nat
  | 0 => 0
  | k + 1 => hTot Y N g y b k + mulN (max y (min (Y k).toInt (Y (nxk N k)).toInt)) (min b (max (Y k).toInt (Y (nxk N k)).toInt - 1)) g
theorem hTot_ok {Y : Nat → Int32} {N : Nat} {g y b : Int} {T : Nat} (hg : 0 < g) (hT : b < y + T) (k : Nat) : SS (fun z => if z % g = 0 ∧ y ≤ z ∧ z ≤ b then crC Y N z k else 0) y T = hTot Y N g y b k := by
  induction k with
  | zero =>
    refine Eq.trans (SS_congr (g := fun _ => 0) fun i hi => ?_) (SS_zero y T)
    split <;> rfl
  | succ k ih =>
    show _ = hTot Y N g y b k + mulN (max y (min (Y k).toInt (Y (nxk N k)).toInt)) (min b (max (Y k).toInt (Y (nxk N k)).toInt - 1)) g
    have h1 := SS_mul (g := g) (lo := max y (min (Y k).toInt (Y (nxk N k)).toInt)) (hi := min b (max (Y k).toInt (Y (nxk N k)).toInt - 1)) (A := y) hg (by omega) T
    have e : min (min b (max (Y k).toInt (Y (nxk N k)).toInt - 1)) (y + T - 1) = min b (max (Y k).toInt (Y (nxk N k)).toInt - 1) := by omega
    rw [e] at h1
    rw [← ih, ← h1, ← SS_add]
    refine SS_congr fun i hi => ?_
    have hu : crC Y N (y + i) (k + 1) = crC Y N (y + i) k + (if crB Y N k (y + i) then 1 else 0) := rfl
    rw [hu]
    by_cases c : (y + (i : Int)) % g = 0 ∧ y ≤ y + (i : Int) ∧ y + (i : Int) ≤ b
    · rw [if_pos c, if_pos c]
      congr 1
      by_cases d : crB Y N k (y + i)
      · rw [if_pos d, if_pos]
        unfold crB at d
        exact ⟨c.1, by omega, by omega⟩
      · rw [if_neg d, if_neg]
        unfold crB at d
        rintro ⟨_, w1, w2⟩
        omega
    · rw [if_neg c, if_neg c, if_neg]
      rintro ⟨w0, w1, w2⟩
      exact c ⟨w0, by omega, by omega⟩
theorem hTot_le {Y : Nat → Int32} {N : Nat} {g y b : Int} (hg : 0 < g) (hb : b - y ≤ 100000) (k : Nat) : hTot Y N g y b k ≤ 100001 * k := by
  induction k with
  | zero => exact Nat.le_refl _
  | succ k ih =>
    have := mulN_le (a := max y (min (Y k).toInt (Y (nxk N k)).toInt)) (b := min b (max (Y k).toInt (Y (nxk N k)).toInt - 1)) hg (by omega)
    unfold hTot
    omega
theorem crC_zero {Y : Nat → Int32} {N : Nat} {y : Int} (h : ∀ k, k < N → ¬ crB Y N k y) (k : Nat) (hk : k ≤ N) : crC Y N y k = 0 := by
  induction k with
  | zero => rfl
  | succ k ih =>
    unfold crC
    rw [ih (by omega), if_neg (h k (by omega))]
theorem strN_len {I : xm_I} {y : Int} {st : Int32} {l : List Cr} (hu : ∀ q ∈ l, (I 14 0).toInt64 * q.2 ≤ q.1 ∧ q.1 ≤ (I 14 1).toInt64 * q.2) (hc : chn l) (j : Nat) (hj : 2 * j ≤ l.length) : (strN I y st l j).length = j := by
  induction j with
  | zero => rfl
  | succ j ih =>
    obtain ⟨a, ha⟩ : ∃ a, l[2 * j]? = some a := ⟨_, List.getElem?_eq_getElem (by omega)⟩
    obtain ⟨b, hb⟩ : ∃ b, l[2 * j + 1]? = some b := ⟨_, List.getElem?_eq_getElem (by omega)⟩
    show (strN I y st l j ++ strk I y st ((l[2 * j]?).getD (0, 0)) ((l[2 * j + 1]?).getD (0, 0))).length = j + 1
    rw [ha, hb, List.length_append, ih (by omega)]
    congr 1
    show (strk I y st a b).length = 1
    have e1 : cutL I a = a := if_pos (hu a (List.mem_of_getElem? ha)).1
    have e2 : cutR I b = b := if_pos (hu b (List.mem_of_getElem? hb)).2
    unfold strk
    rw [e1, e2, if_pos (hc _ _ _ ha hb)]
    rfl
theorem hsA_len {I : xm_I} {o : Nat} {y : Int} (hW : WB I) (h : XY (CX I o) (CY I o)) (hy : -40000 ≤ y ∧ y ≤ 40000) (hin : ∀ k, k < Int32.toNatClampNeg (I 10 o) → (I 14 0).toInt ≤ (CX I o k).toInt ∧ (CX I o k).toInt ≤ (I 14 1).toInt) : (hsA I o y).length = crC (CY I o) (Int32.toNatClampNeg (I 10 o)) y (Int32.toNatClampNeg (I 10 o)) / 2 := by
  unfold hsA
  refine strN_len ?_ (crs_chn _ _ _ _ _) _ ?_
  · exact crs_all (P := fun q => (I 14 0).toInt64 * q.2 ≤ q.1 ∧ q.1 ≤ (I 14 1).toInt64 * q.2) (fun k hk hc => uncut hW h hy hin hk hc) _ (Nat.le_refl _)
  · rw [crs_len]
    omega
theorem hsA_nil {I : xm_I} {o : Nat} {y lo hi : Int} (hb : ∀ k, k < Int32.toNatClampNeg (I 10 o) → lo ≤ (CY I o k).toInt ∧ (CY I o k).toInt ≤ hi) (hy : y < lo ∨ hi < y) : hsA I o y = [] := by
  have hz : crC (CY I o) (Int32.toNatClampNeg (I 10 o)) y (Int32.toNatClampNeg (I 10 o)) = 0 := by
    refine crC_zero (fun k hk => ?_) _ (Nat.le_refl _)
    have hn : nxk (Int32.toNatClampNeg (I 10 o)) k < Int32.toNatClampNeg (I 10 o) := by unfold nxk; split <;> omega
    have b1 := hb k hk
    have b2 := hb _ hn
    unfold crB
    omega
  unfold hsA
  rw [hz]
  rfl
/-- the class draws only where the area may be -/
theorem hatL_in {I : xm_I} {o : Nat} {lo hi : Int} (hb : ∀ k, k < Int32.toNatClampNeg (I 10 o) → lo ≤ (CY I o k).toInt ∧ (CY I o k).toInt ≤ hi) : hatL I o = UU (gl (hsA I o) (I 14 8).toInt (max lo (I 14 2).toInt) (min hi (I 14 3).toInt)) (-50000) 100001 := by
  unfold hatL
  refine UU_congr fun i hi' => ?_
  generalize -50000 + (i : Int) = z
  unfold gl
  by_cases c : z % (I 14 8).toInt = 0 ∧ (I 14 2).toInt ≤ z ∧ z ≤ (I 14 3).toInt
  · rw [if_pos c]
    by_cases d : lo ≤ z ∧ z ≤ hi
    · rw [if_pos ⟨c.1, by omega, by omega⟩]
    · rw [hsA_nil hb (by omega), if_neg (by omega)]
  · rw [if_neg c, if_neg]
    rintro ⟨w1, w2, w3⟩
    exact c ⟨w1, by omega, by omega⟩
/-- the rest of the lines, when none is cut -/
theorem rest_len {I : xm_I} {o : Nat} {a b y : Int} {T : Nat} (hW : WB I) (h : XY (CX I o) (CY I o)) (hg : 0 < (I 14 8).toInt) (hin : ∀ k, k < Int32.toNatClampNeg (I 10 o) → (I 14 0).toInt ≤ (CX I o k).toInt ∧ (CX I o k).toInt ≤ (I 14 1).toInt) (hN : 0 < Int32.toNatClampNeg (I 10 o)) (ha : -40000 ≤ a ∧ a ≤ y) (hb : b ≤ 40000) (hT : b < y + T) : hTot (CY I o) (Int32.toNatClampNeg (I 10 o)) (I 14 8).toInt y b (Int32.toNatClampNeg (I 10 o)) = 2 * (UU (gl (hsA I o) (I 14 8).toInt a b) y T).length := by
  rw [← hTot_ok hg hT, SS_len]
  have e : 2 * SS (fun z => (gl (hsA I o) (I 14 8).toInt a b z).length) y T = SS (fun z => (gl (hsA I o) (I 14 8).toInt a b z).length + (gl (hsA I o) (I 14 8).toInt a b z).length) y T := by
    rw [SS_add]
    omega
  rw [e]
  refine SS_congr fun i hi => ?_
  unfold gl
  by_cases c : (y + (i : Int)) % (I 14 8).toInt = 0 ∧ y ≤ y + (i : Int) ∧ y + (i : Int) ≤ b
  · rw [if_pos c, if_pos ⟨c.1, by omega, c.2.2⟩, hsA_len hW h (by omega) hin]
    have := crC_even (Y := CY I o) (n := Int32.toNatClampNeg (I 10 o)) (y + i) hN
    omega
  · rw [if_neg c, if_neg]
    · rfl
    · rintro ⟨w1, w2, w3⟩
      exact c ⟨w1, by omega, w3⟩
/-! anchors of areas -/
def sumX (I : xm_I) (o : Nat) : Nat → Int64
  | 0 => 0
  | k + 1 => sumX I o k + (SX I (CX I o k).toInt64 1).toInt64
def sumY (I : xm_I) (o : Nat) : Nat → Int64
  | 0 => 0
  | k + 1 => sumY I o k + (SY I (CY I o k).toInt64 1).toInt64
def ancA (I : xm_I) (o : Nat) : Int32 × Int32 := ((fl (sumX I o (Int32.toNatClampNeg (I 10 o))) (I 10 o).toInt64).toInt32, (fl (sumY I o (Int32.toNatClampNeg (I 10 o))) (I 10 o).toInt64).toInt32)
abbrev WT : List Nat := [31012, 34, 35]
set_option maxRecDepth 100000 in
theorem dWT : ∀ x ∈ STC, x ∉ WT := by decide
theorem takeCorners {n : Nat} {I0 I : xm_I} {o : Nat} (hst : Sta n I0 I) (ho : (o : Int) < (I0 6 9).toInt) : ok (f_Pn_takeCorners (n32 o) I) (fun J => Fr WT I J ∧ TK J (CX I0 o) (CY I0 o) (Int32.toNatClampNeg (I0 10 o)) ∧ J 30 12 = I0 10 o) := by
  have e69 : I 6 9 = I0 6 9 := hst.2 6 9 (by decide)
  have o40 : o < 40 := by
    have := hst.1.2.1.1
    rw [e69] at this
    omega
  have ot : Int32.toNatClampNeg (n32 o) = o := n32n (by omega)
  have hx := vo_n hst.1.2.1 (o := o) (by rw [e69]; exact ho)
  have ct := hst.1.2.1.ct hx
  rw [ot, hst.2.row 10 rfl (by decide)] at ct
  have tN := tn32 (x := I0 10 o) (by omega)
  have hcr := e_Fg_cornersOf hx
  rw [ot, hst.2.row 10 rfl (by decide)] at hcr
  have k12 : (12 : Int32).toInt = 12 := by decide
  have mn : mnI (I0 10 o) 12 = I0 10 o := by
    have := mnI_i (I0 10 o) 12
    rw [eq32]
    omega
  unfold f_Pn_takeCorners f_Pn_takeCorners_b0 f_Pn_takeCorners_b19
  refine ok_e hcr (ok_e (e_Jm_min_I _ _) ?_)
  rw [mn]
  dsimp only
  refine lp_inv (fun t => ∃ k : Nat, k ≤ Int32.toNatClampNeg (I0 10 o) ∧ t.1 = n32 k ∧ Fr WT I t.2 ∧ t.2 30 12 = I0 10 o ∧ ∀ i, i < k → t.2 34 i = CX I0 o i ∧ t.2 35 i = CY I0 o i) (fun t => (13 - t.1.toInt).toNat) _ ?_ (0, up2 I 30 12 (I0 10 o)) ⟨0, by omega, rfl, Fr.up (Fr.refl _ _) (by decide), rfl, fun i hi => by omega⟩
  rintro ⟨kk, J⟩ ⟨k, hk, q1, q2, q3, q4⟩
  simp only at q1 q2 q3 q4
  subst q1
  have ki : (n32 k).toInt = k := n32i (by omega)
  have kt : Int32.toNatClampNeg (n32 k) = k := n32n (by omega)
  have hJ : Sta n I0 J := hst.of q2 dWT
  unfold f_Pn_takeCorners_s19
  dsimp only
  refine ok_le (fun hc => ok_s ?_) (fun hc => ?_)
  · rw [q3] at hc
    have e : k = Int32.toNatClampNeg (I0 10 o) := by omega
    rw [e] at q4
    exact ⟨q2, ⟨by rw [q3, n32x (by omega)], q4⟩, q3⟩
  · rw [q3] at hc
    have j69 : J 6 9 = I0 6 9 := hJ.2 6 9 (by decide)
    have cx := hJ.cx
    have j10 : J 10 = I0 10 := hJ.2.row 10 rfl (by decide)
    obtain ⟨u1, _, _, _⟩ := xy_n (k := k) (o := o) hJ.1.1 hJ.1.2.1 (by rw [j69]; exact ho) (by rw [j10]; omega) (by omega)
    rw [cx.1] at u1
    refine ok_e u1 (ok_g (by omega) ?_)
    have hK : Sta n I0 (up2 J 34 (Int32.toNatClampNeg (n32 k)) (CX I0 o k)) := hJ.of (Fr.upA (W := WT) (Fr.refl _ _) (by decide) (by decide)) dWT
    have cy := hK.cx
    have m69 : (up2 J 34 (Int32.toNatClampNeg (n32 k)) (CX I0 o k)) 6 9 = I0 6 9 := j69
    have m10 : (up2 J 34 (Int32.toNatClampNeg (n32 k)) (CX I0 o k)) 10 = I0 10 := j10
    obtain ⟨_, u2, _, _⟩ := xy_n (k := k) (o := o) hK.1.1 hK.1.2.1 (by rw [m69]; exact ho) (by rw [m10]; omega) (by omega)
    rw [cy.2] at u2
    refine ok_e u2 (ok_g (by omega) (ok_s ⟨⟨k + 1, by omega, n32s (by omega), Fr.upA (Fr.upA q2 (by decide) (by decide)) (by decide) (by decide), q3, fun i hi => ?_⟩, ?_⟩))
    · show up2 (up2 J 34 (Int32.toNatClampNeg (n32 k)) (CX I0 o k)) 35 (Int32.toNatClampNeg (n32 k)) (CY I0 o k) 34 i = _ ∧ up2 (up2 J 34 (Int32.toNatClampNeg (n32 k)) (CX I0 o k)) 35 (Int32.toNatClampNeg (n32 k)) (CY I0 o k) 35 i = _
      rw [kt]
      by_cases c : i = k
      · rw [c]
        simp (disch := decide) only [up2_self, up2_ne]
        exact ⟨trivial, trivial⟩
      · simp (disch := first | decide | exact c) only [up2_ne, up2_nk]
        exact q4 i (by omega)
    · show (13 - (n32 k + 1).toInt).toNat < (13 - (n32 k).toInt).toNat
      rw [i32p (by omega) (by omega)]
      omega
theorem anchorArea {n : Nat} {I0 I : xm_I} {d : Anc} {o : Nat} (hst : Sta n I0 I) (hsc : 0 < (I0 14 10).toInt) (ho : o < 40) (hN : 1 ≤ (I0 10 o).toInt ∧ (I0 10 o).toInt ≤ 12) (tk : TK I (CX I0 o) (CY I0 o) (Int32.toNatClampNeg (I0 10 o))) (t12 : I 30 12 = I0 10 o) (hD : DA I d) : ok (f_Pn_anchorArea (n32 o) I) (fun J => Fr [31, 32, 33] I J ∧ DA J (setA d o (ancA I0 o))) := by
  have tN := tn32 (x := I0 10 o) (by omega)
  have e10 : I 14 10 = I0 14 10 := hst.2 14 10 (by decide)
  have hsc' : 0 < (I 14 10).toInt := by rw [e10]; exact hsc
  obtain ⟨sx, sy⟩ := hst.sx
  have ot : Int32.toNatClampNeg (n32 o) = o := n32n (by omega)
  unfold f_Pn_anchorArea f_Pn_anchorArea_b0 f_Pn_anchorArea_b8
  refine lp_inv (fun t => ∃ k : Nat, k ≤ Int32.toNatClampNeg (I0 10 o) ∧ t = (sumX I0 o k, sumY I0 o k, n32 k)) (fun t => (13 - t.2.2.toInt).toNat) _ ?_ (0, 0, 0) ⟨0, by omega, rfl⟩
  rintro t ⟨k, hk, rfl⟩
  have ki : (n32 k).toInt = k := n32i (by omega)
  have kt : Int32.toNatClampNeg (n32 k) = k := n32n (by omega)
  unfold f_Pn_anchorArea_s8
  dsimp only
  have rd : ∀ x : Int64, f_D_roundedDown x (I 30 12).toInt64 = some (fl x (I0 10 o).toInt64).toInt32 := by
    intro x
    unfold f_D_roundedDown f_D_roundedDown_b0
    have kz : (0 : Int64).toInt = 0 := by decide
    rw [t12, if_pos (by rw [lt64, i64of, kz]; omega), e_Jm_floorDiv_J (by rw [i64of]; omega)]
    rfl
  refine ok_le (fun hc => ?_) (fun hc => ?_)
  · rw [t12] at hc
    have e : k = Int32.toNatClampNeg (I0 10 o) := by omega
    refine ok_e (rd _) (ok_e (rd _) (ok_b (ok_mono (anchor_ok (by rw [n32i (by omega)]; omega) hD) (fun J hJ => ok_s ⟨hJ.1, ?_⟩))))
    have := hJ.2
    rw [ot, e] at this
    exact this
  · rw [t12] at hc
    obtain ⟨c1, c2⟩ := tk.2 k (by omega)
    refine ok_g (by omega) (ok_e (e_Fr_sheetX hst.1.2.2.1 hsc' gd1 _) (ok_g (by omega) (ok_e (e_Fr_sheetY hst.1.2.2.1 hsc' gd1 _) (ok_s ⟨⟨k + 1, by omega, ?_⟩, ?_⟩))))
    · rw [sx, sy, kt, c1, c2, n32s (by omega)]
      rfl
    · show (13 - (n32 k + 1).toInt).toNat < (13 - (n32 k).toInt).toNat
      rw [i32p (by omega) (by omega)]
      omega
theorem hatchStrokes {I : xm_I} {Y : Nat → Int32} {X : Nat → Int32} {N : Nat} {y b : Int32} (h : XY X Y) (hN : 3 ≤ N ∧ N ≤ 12) (tk : TK I X Y N) (hg : 0 < (I 14 8).toInt ∧ (I 14 8).toInt ≤ 40000) (hy : -40000 ≤ y.toInt ∧ y.toInt ≤ 41000) (hb : -40000 ≤ b.toInt ∧ b.toInt ≤ 40000) : ok (f_Pn_hatchStrokes y b I) (fun r => r = n32 (hTot Y N (I 14 8).toInt y.toInt b.toInt N / 2)) := by
  have k1 := z1
  have k2 := z2
  have hle := hTot_le (Y := Y) (N := N) (g := (I 14 8).toInt) (y := y.toInt) (b := b.toInt) hg.1 (by omega)
  unfold f_Pn_hatchStrokes f_Pn_hatchStrokes_b0 f_Pn_hatchStrokes_b5
  refine lp_inv (fun t => ∃ k : Nat, k ≤ N ∧ t = (n32 (hTot Y N (I 14 8).toInt y.toInt b.toInt k), n32 k)) (fun t => (13 - t.2.toInt).toNat) _ ?_ (0, 0) ⟨0, by omega, rfl⟩
  rintro t ⟨k, hk, rfl⟩
  have ki : (n32 k).toInt = k := n32i (by omega)
  have kt : Int32.toNatClampNeg (n32 k) = k := n32n (by omega)
  have j12 : (I 30 12).toInt = N := by rw [tk.1, n32i (by omega)]
  have es := n32s (k := k) (by omega)
  have es1 : (n32 k + 1).toInt = (k : Int) + 1 := by rw [es, n32i (by omega)]; omega
  have hlk := hle k
  have hn := n32i (k := hTot Y N (I 14 8).toInt y.toInt b.toInt k) (by omega)
  unfold f_Pn_hatchStrokes_s5
  dsimp only
  refine ok_le (fun hc => ok_s ?_) (fun hc => ?_)
  · have e : k = N := by omega
    subst e
    show _ = _
    rw [eq32, Int32.toInt_div_of_ne_right _ _ (by decide), hn, k2, Int.tdiv_eq_ediv_of_nonneg (by omega), n32i (by omega)]
    omega
  · have hnx : nxk N k < N := by unfold nxk; split <;> omega
    obtain ⟨_, c2⟩ := tk.2 k (by omega)
    obtain ⟨_, c4⟩ := tk.2 _ hnx
    have nt : Int32.toNatClampNeg (n32 (nxk N k)) = nxk N k := n32n (by omega)
    have y0 := h.2 k
    have y1 := h.2 (nxk N k)
    have b33 : ok (f_Pn_hatchStrokes_b33 y b (n32 (hTot Y N (I 14 8).toInt y.toInt b.toInt k)) (n32 k) (n32 (nxk N k)) I) (fun x => Sum.elim (fun s' => (∃ k : Nat, k ≤ N ∧ s' = (n32 (hTot Y N (I 14 8).toInt y.toInt b.toInt k), n32 k)) ∧ (13 - s'.2.toInt).toNat < (13 - (n32 k).toInt).toNat) (fun r => r = n32 (hTot Y N (I 14 8).toInt y.toInt b.toInt N / 2)) x) := by
      have gk : 0 ≤ (n32 k).toInt ∧ (n32 k).toInt < 12 := by omega
      have gn : 0 ≤ (n32 (nxk N k)).toInt ∧ (n32 (nxk N k)).toInt < 12 := by rw [n32i (by omega)]; omega
      have m1 := mnI_i (Y k) (Y (nxk N k))
      have m2 := mxI_i (Y k) (Y (nxk N k))
      have m3 := mxI_i y (mnI (Y k) (Y (nxk N k)))
      have s1 : (mxI (Y k) (Y (nxk N k)) - 1).toInt = (mxI (Y k) (Y (nxk N k))).toInt - 1 := by rw [i32s (by omega), k1]
      have m4 := mnI_i b (mxI (Y k) (Y (nxk N k)) - 1)
      obtain ⟨r, hr1, hr2⟩ := e_multiplesWithin (a := mxI y (mnI (Y k) (Y (nxk N k)))) (b := mnI b (mxI (Y k) (Y (nxk N k)) - 1)) (g := I 14 8) (by omega) (by omega) hg
      have hst : hTot Y N (I 14 8).toInt y.toInt b.toInt (k + 1) = hTot Y N (I 14 8).toInt y.toInt b.toInt k + mulN (max y.toInt (min (Y k).toInt (Y (nxk N k)).toInt)) (min b.toInt (max (Y k).toInt (Y (nxk N k)).toInt - 1)) (I 14 8).toInt := rfl
      have e1 : max y.toInt (min (Y k).toInt (Y (nxk N k)).toInt) = (mxI y (mnI (Y k) (Y (nxk N k)))).toInt := by omega
      have e2 : min b.toInt (max (Y k).toInt (Y (nxk N k)).toInt - 1) = (mnI b (mxI (Y k) (Y (nxk N k)) - 1)).toInt := by omega
      rw [e1, e2] at hst
      have hl1 := hle (k + 1)
      unfold f_Pn_hatchStrokes_b33
      refine ok_g gk (ok_g gn ?_)
      rw [kt, nt, c2, c4]
      refine ok_e (e_Jm_min_I _ _) (ok_e (e_Jm_max_I _ _) (ok_g gk (ok_g gn (ok_e (e_Jm_max_I _ _) (ok_e (e_Jm_min_I _ _) (ok_e hr1 (ok_s ⟨⟨k + 1, by omega, ?_⟩, ?_⟩)))))))
      · rw [es]
        congr 1
        rw [eq32, n32i (by omega), i32a (by omega), hn, hr2, hst]
        omega
      · show (13 - (n32 k + 1).toInt).toNat < (13 - (n32 k).toInt).toNat
        omega
    refine ok_le (fun hd => ?_) (fun hd => ?_)
    · have e : nxk N k = 0 := by unfold nxk; rw [if_neg (by omega)]
      rw [e] at b33
      exact b33
    · have e : nxk N k = k + 1 := by unfold nxk; rw [if_pos (by omega)]
      rw [e] at b33
      rw [es]
      exact b33
