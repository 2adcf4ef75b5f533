/-! ===== an area, drawn by the class ===== -/
theorem linesC {n : Nat} {I0 I : xm_I} {L : xm_L} {s : MS} {o : Nat} {fg y0 b : Int32} {a : Int} (hst : Sta n I0 I) (hsc : 0 < (I0 14 10).toInt) (hW : WB I0) (hXY : XY (CX I0 o) (CY I0 o)) (ho : (o : Int) < (I0 6 9).toInt) (h3 : 3 ≤ (I0 10 o).toInt ∧ (I0 10 o).toInt ≤ 12) (tk : TK I (CX I0 o) (CY I0 o) (Int32.toNatClampNeg (I0 10 o))) (hg : 10 ≤ (I0 14 8).toInt ∧ (I0 14 8).toInt ≤ 1000) (ha : -40000 ≤ a ∧ a ≤ 40000) (hb : -40000 ≤ b.toInt ∧ b.toInt ≤ 40000) (hy0 : y0.toInt = mulF a (I0 14 8).toInt) (hin : fg ≠ 0 → ∀ k, k < Int32.toNatClampNeg (I0 10 o) → (I0 14 0).toInt ≤ (CX I0 o k).toInt ∧ (CX I0 o k).toInt ≤ (I0 14 1).toInt) (hC : CM I s) : ok (f_Pn_paintArea_b138 (n32 o) fg (I0 14 8) b (y0, I, L)) (fun q => Fr WH I q.1 ∧ CM q.1 (ems s (UU (gl (hsA I0 o) (I0 14 8).toInt a b.toInt) (-50000) 100001)) ∧ Fr [36, 37] L q.2) := by
  have k0 := z0
  have g0 : 0 < (I0 14 8).toInt := by omega
  have hm := mulF_b (a := a) g0
  have e69 : I 6 9 = I0 6 9 := hst.2 6 9 (by decide)
  have o40 : o < 40 := by
    have := hst.1.2.1.1
    rw [e69] at this
    omega
  have ot : Int32.toNatClampNeg (n32 o) = o := n32n (by omega)
  have tN := tn32 (x := I0 10 o) (by omega)
  unfold f_Pn_paintArea_b138
  refine lp_inv (fun t => Fr WH I t.2.1 ∧ t.1.toInt % (I0 14 8).toInt = 0 ∧ a ≤ t.1.toInt ∧ t.1.toInt ≤ 42000 ∧ CM t.2.1 (ems s (UU (gl (hsA I0 o) (I0 14 8).toInt a b.toInt) (-50000) (t.1.toInt - -50000).toNat)) ∧ Fr [36, 37] L t.2.2) (fun t => (50000 - t.1.toInt).toNat) _ ?_ (y0, I, L) ⟨Fr.refl _ _, ?_, ?_, ?_, ?_, Fr.refl _ _⟩
  · rintro ⟨y, J, M⟩ ⟨q1, q2, q3, q4, q5, q6⟩
    simp only at q1 q2 q3 q4 q5 q6
    have hJ : Sta n I0 J := hst.of q1 dWH
    unfold f_Pn_paintArea_s138
    dsimp only
    refine ok_f (by rw [le32]; omega) (ok_lt (fun hc => ok_s ⟨q1, ?_, q6⟩) (fun hc => ?_))
    · rw [line_end (y := y.toInt) (by omega) (by omega) (by omega)]
      exact q5
    · have yb : y.toInt ≤ b.toInt := by omega
      have line : ok (f_Pn_paintArea_b181 (n32 o) fg (I0 14 8) b y J M) (fun x => Sum.elim (fun t => (Fr WH I t.2.1 ∧ t.1.toInt % (I0 14 8).toInt = 0 ∧ a ≤ t.1.toInt ∧ t.1.toInt ≤ 42000 ∧ CM t.2.1 (ems s (UU (gl (hsA I0 o) (I0 14 8).toInt a b.toInt) (-50000) (t.1.toInt - -50000).toNat)) ∧ Fr [36, 37] L t.2.2) ∧ (50000 - t.1.toInt).toNat < (50000 - y.toInt).toNat) (fun q => Fr WH I q.1 ∧ CM q.1 (ems s (UU (gl (hsA I0 o) (I0 14 8).toInt a b.toInt) (-50000) 100001)) ∧ Fr [36, 37] L q.2) x) := by
        have j69 : J 6 9 = I0 6 9 := hJ.2 6 9 (by decide)
        have hx := vo_n hJ.1.2.1 (o := o) (by rw [j69]; exact ho)
        have hs8 := e_Fg_styleOf hx
        rw [ot, hJ.2.row 8 rfl (by decide)] at hs8
        unfold f_Pn_paintArea_b181
        refine ok_e hs8 (ok_b (ok_mono (lineC hJ hsc hXY (by omega) (tk.kept q1) (by omega) q5) (fun q hq => ok_s ?_)))
        have yi : (y + I0 14 8).toInt = y.toInt + (I0 14 8).toInt := i32a (by omega)
        refine ⟨⟨q1.trans hq.1, ?_, ?_, ?_, ?_, q6.trans hq.2.2⟩, ?_⟩
        · show (y + I0 14 8).toInt % _ = 0
          rw [yi]
          exact add_m q2
        · show a ≤ (y + I0 14 8).toInt
          omega
        · show (y + I0 14 8).toInt ≤ 42000
          omega
        · show CM q.1 (ems s (UU _ (-50000) ((y + I0 14 8).toInt - -50000).toNat))
          rw [yi, line_step g0 (by omega) q2 q3 yb, ems_app]
          exact hq.2.1
        · show (50000 - (y + I0 14 8).toInt).toNat < _
          omega
      refine ok_i (fun _ => line) (fun hf => ok_e (e_Mk_isFull J) (ok_ib (fun _ => line) (fun hfull => ?_)))
      have j8 : J 14 8 = I0 14 8 := hJ.2 14 8 (by decide)
      refine ok_b (ok_mono (hatchStrokes hXY (by omega) (tk.kept q1) (by rw [j8]; omega) (by omega) hb) (fun r hr => ?_))
      refine ok_b (ok_mono (mk_lose q5) (fun V hV => ok_s ⟨q1.trans (hV.1.mono (by decide)), ?_, q6⟩))
      have hl : (ems s (UU (gl (hsA I0 o) (I0 14 8).toInt a b.toInt) (-50000) (y.toInt - -50000).toNat)).1.length = 600 := by
        have h1 := q5.1
        have h2 := q5.2.1
        rw [h2, n32i (by omega)] at hfull
        omega
      have hV2 := hV.2
      have hrl := rest_len (o := o) (a := a) (b := b.toInt) (y := y.toInt) (T := 100001 - (y.toInt - -50000).toNat) hW hXY g0 (hin hf) (by omega) (by omega) (by omega) (by omega)
      have e1 : 100001 = (y.toInt - -50000).toNat + (100001 - (y.toInt - -50000).toNat) := by omega
      have e2 : -50000 + ((y.toInt - -50000).toNat : Int) = y.toInt := by omega
      rw [hr, j8, hrl, Nat.mul_div_cancel_left _ (by decide)] at hV2
      rw [e1, UU_add, e2, ems_app, ems_full hl]
      exact hV2
  · show y0.toInt % _ = 0
    rw [hy0]
    exact mulF_m g0
  · show a ≤ y0.toInt
    omega
  · show y0.toInt ≤ 42000
    omega
  · show CM I (ems s (UU _ (-50000) (y0.toInt - -50000).toNat))
    rw [hy0, line_start g0 (by omega)]
    exact hC
theorem Sta.wbd {n : Nat} {I0 I : xm_I} (hst : Sta n I0 I) : WB I0 := by
  have := hst.1.2.2.1.2.1
  unfold WB at this ⊢
  rw [hst.2 14 0 (by decide), hst.2 14 1 (by decide), hst.2 14 2 (by decide), hst.2 14 3 (by decide), hst.2 14 4 (by decide), hst.2 14 5 (by decide), hst.2 14 6 (by decide)] at this
  exact this
theorem Sta.xyc {n : Nat} {I0 I : xm_I} (hst : Sta n I0 I) (o : Nat) : XY (CX I0 o) (CY I0 o) := by
  have c := hst.cx
  rw [← c.1, ← c.2]
  exact ⟨fun k => (CX_b hst.1.1 o k).1, fun k => (CX_b hst.1.1 o k).2⟩
theorem Sta.gp {n : Nat} {I0 I : xm_I} (hst : Sta n I0 I) : 10 ≤ (I0 14 8).toInt ∧ (I0 14 8).toInt ≤ 1000 := by
  have := hst.1.2.2.1.2.2.1.2
  rw [hst.2 14 8 (by decide)] at this
  exact this
theorem Sta.n3 {n : Nat} {I0 I : xm_I} {o : Nat} (hst : Sta n I0 I) (ho : (o : Int) < (I0 6 9).toInt) (h7 : I0 7 o = 7) : 3 ≤ (I0 10 o).toInt ∧ (I0 10 o).toInt ≤ 12 := by
  have e69 : I 6 9 = I0 6 9 := hst.2 6 9 (by decide)
  have o40 : o < 40 := by
    have := hst.1.2.1.1
    rw [e69] at this
    omega
  have ot : Int32.toNatClampNeg (n32 o) = o := n32n (by omega)
  have c := hst.1.2.1.ct (vo_n hst.1.2.1 (o := o) (by rw [e69]; exact ho))
  rw [ot, hst.2.row 10 rfl (by decide), hst.2.row 7 rfl (by decide), h7] at c
  have k7 : (7 : Int32).toInt = 7 := by decide
  omega
theorem paintArea {n : Nat} {I0 I : xm_I} {L : xm_L} {s : MS} {d : Anc} {o : Nat} (hst : Sta n I0 I) (hsc : 0 < (I0 14 10).toInt) (ho : (o : Int) < (I0 6 9).toInt) (h7 : I0 7 o = 7) (hC : CM I s) (hD : DA I d) : ok (f_Pn_paintArea (n32 o) I L) (fun q => Fr WP I q.1 ∧ CM q.1 (ems s (hatL I0 o)) ∧ DA q.1 (setA d o (ancA I0 o)) ∧ Fr [36, 37] L q.2) := by
  have h3 := hst.n3 ho h7
  have hW := hst.wbd
  have hXY := hst.xyc o
  have hg := hst.gp
  have e69 : I 6 9 = I0 6 9 := hst.2 6 9 (by decide)
  have o40 : o < 40 := by
    have := hst.1.2.1.1
    rw [e69] at this
    omega
  have tN := tn32 (x := I0 10 o) (by omega)
  obtain ⟨w1, w2, _⟩ := hW
  unfold f_Pn_paintArea f_Pn_paintArea_b0
  refine ok_b (ok_mono (takeCorners hst ho) (fun J hJ => ?_))
  obtain ⟨f1, tk1, t12⟩ := hJ
  have sJ : Sta n I0 J := hst.of f1 dWT
  have hDJ : DA J d := hD.kept (f1.row 31 rfl (by decide)) (f1.row 32 rfl (by decide)) (f1.row 33 rfl (by decide))
  have hCJ : CM J s := hC.kept (f1 17 4 (by decide)) (f1 17 5 (by decide)) (f1.row 18 rfl (by decide))
  refine ok_b (ok_mono (anchorArea sJ hsc o40 (by omega) tk1 t12 hDJ) (fun K hK => ?_))
  obtain ⟨f2, hDK⟩ := hK
  have sK : Sta n I0 K := sJ.of (f2.mono (W := WP) (by decide)) dWP
  have hCK : CM K s := hCJ.kept (f2 17 4 (by decide)) (f2 17 5 (by decide)) (f2.row 18 rfl (by decide))
  have tkK : TK K (CX I0 o) (CY I0 o) (Int32.toNatClampNeg (I0 10 o)) := by
    refine ⟨by rw [f2 30 12 (by decide)]; exact tk1.1, fun k hk => ?_⟩
    rw [f2.row 34 rfl (by decide), f2.row 35 rfl (by decide)]
    exact tk1.2 k hk
  have k12 : K 30 12 = I0 10 o := by rw [f2 30 12 (by decide)]; exact t12
  have e0 : K 14 0 = I0 14 0 := sK.2 14 0 (by decide)
  have e1 : K 14 1 = I0 14 1 := sK.2 14 1 (by decide)
  have e2 : K 14 2 = I0 14 2 := sK.2 14 2 (by decide)
  have e3 : K 14 3 = I0 14 3 := sK.2 14 3 (by decide)
  have e8 : K 14 8 = I0 14 8 := sK.2 14 8 (by decide)
  have t0 : Int32.toNatClampNeg 0 = 0 := by decide
  dsimp only
  rw [t0, (tkK.2 0 (by omega)).2]
  unfold f_Pn_paintArea_b30
  refine lp_inv (fun t => ∃ k : Nat, k ≤ Int32.toNatClampNeg (I0 10 o) ∧ t.2.2.2 = n32 k ∧ (-30000 ≤ t.1.toInt ∧ t.1.toInt ≤ 30000) ∧ (-30000 ≤ t.2.1.toInt ∧ t.2.1.toInt ≤ 30000) ∧ (t.2.2.1 = 0 ∨ t.2.2.1 = 1) ∧ ∀ i, i < k → t.1.toInt ≤ (CY I0 o i).toInt ∧ (CY I0 o i).toInt ≤ t.2.1.toInt ∧ (t.2.2.1 ≠ 0 → (I0 14 0).toInt ≤ (CX I0 o i).toInt ∧ (CX I0 o i).toInt ≤ (I0 14 1).toInt)) (fun t => (13 - t.2.2.2.toInt).toNat) _ ?_ (CY I0 o 0, CY I0 o 0, 1, 0) ⟨0, by omega, rfl, hXY.2 0, hXY.2 0, Or.inr rfl, fun i hi => by omega⟩
  rintro ⟨lo, hi, fg, kk⟩ ⟨k, hk, q1, q2, q3, q4, q5⟩
  simp only at q1 q2 q3 q4 q5
  subst q1
  have ki : (n32 k).toInt = k := n32i (by omega)
  have kt : Int32.toNatClampNeg (n32 k) = k := n32n (by omega)
  unfold f_Pn_paintArea_s30
  dsimp only
  rw [e8, e0, e1, e2, e3]
  refine ok_le (fun hc => ?_) (fun hc => ?_)
  · rw [k12] at hc
    have ek : k = Int32.toNatClampNeg (I0 10 o) := by omega
    rw [ek] at q5
    have m1 := mnI_i hi (I0 14 3)
    have m2 := mxI_i lo (I0 14 2)
    obtain ⟨y0, hy1, hy2⟩ := e_multipleFrom (a := mxI lo (I0 14 2)) (g := I0 14 8) (by omega) (by omega)
    refine ok_e (e_Jm_min_I _ _) (ok_e (e_Jm_max_I _ _) (ok_e hy1 (ok_m (ok_mono (linesC sK hsc hst.wbd hXY ho h3 tkK hg (a := (mxI lo (I0 14 2)).toInt) (by omega) (by omega) hy2 (fun hf i hi' => (q5 i hi').2.2 hf) hCK) (fun q hq => ?_)))))
    have f3 : Fr WP K q.1 := hq.1.mono (by decide)
    refine ⟨((f1.mono (by decide)).trans (f2.mono (by decide))).trans f3, ?_, hDK.kept (hq.1.row 31 rfl (by decide)) (hq.1.row 32 rfl (by decide)) (hq.1.row 33 rfl (by decide)), hq.2.2⟩
    have hin := hatL_in (I := I0) (o := o) (lo := lo.toInt) (hi := hi.toInt) (fun i hi' => ⟨(q5 i hi').1, (q5 i hi').2.1⟩)
    have a1 : max lo.toInt (I0 14 2).toInt = (mxI lo (I0 14 2)).toInt := by omega
    have a2 : min hi.toInt (I0 14 3).toInt = (mnI hi (I0 14 3)).toInt := by omega
    rw [hin, a1, a2]
    exact hq.2.1
  · rw [k12] at hc
    obtain ⟨c1, c2⟩ := tkK.2 k (by omega)
    have gk : 0 ≤ (n32 k).toInt ∧ (n32 k).toInt < 12 := by omega
    rw [kt, c1, c2]
    have m1 := mnI_i lo (CY I0 o k)
    have m2 := mxI_i hi (CY I0 o k)
    have yk := hXY.2 k
    refine ok_g gk (ok_e (e_Jm_min_I _ _) (ok_g gk (ok_e (e_Jm_max_I _ _) (ok_g gk (ok_e (e_D_isWithin _ _ _) (ok_s ⟨⟨k + 1, by omega, n32s (by omega), ?_, ?_, ?_, ?_⟩, ?_⟩))))))
    · show -30000 ≤ (mnI lo (CY I0 o k)).toInt ∧ (mnI lo (CY I0 o k)).toInt ≤ 30000
      omega
    · show -30000 ≤ (mxI hi (CY I0 o k)).toInt ∧ (mxI hi (CY I0 o k)).toInt ≤ 30000
      omega
    · show fg &&& bi _ = 0 ∨ fg &&& bi _ = 1
      by_cases cw : (I0 14 0).toInt ≤ (CX I0 o k).toInt ∧ (CX I0 o k).toInt ≤ (I0 14 1).toInt
      · rw [bi_t cw]
        rcases q4 with q4 | q4 <;> rw [q4] <;> decide
      · rw [bi_f cw]
        rcases q4 with q4 | q4 <;> rw [q4] <;> decide
    · intro i hi'
      show (mnI lo (CY I0 o k)).toInt ≤ (CY I0 o i).toInt ∧ (CY I0 o i).toInt ≤ (mxI hi (CY I0 o k)).toInt ∧ (fg &&& bi _ ≠ 0 → _)
      by_cases ei : i = k
      · subst ei
        refine ⟨by omega, by omega, fun hf => ?_⟩
        by_cases cw : (I0 14 0).toInt ≤ (CX I0 o i).toInt ∧ (CX I0 o i).toInt ≤ (I0 14 1).toInt
        · exact cw
        · rw [bi_f cw] at hf
          exfalso
          rcases q4 with q4 | q4 <;> rw [q4] at hf <;> exact hf (by decide)
      · obtain ⟨p1, p2, p3⟩ := q5 i (by omega)
        refine ⟨by omega, by omega, fun hf => p3 fun hz => hf ?_⟩
        rw [hz]
        exact Int32.zero_and
    · show (13 - (n32 k + 1).toInt).toNat < (13 - (n32 k).toInt).toNat
      rw [i32p (by omega) (by omega)]
      omega
/-! ===== an area, drawn by the reference ===== -/
abbrev WAr : List Nat := [71, 73, 74, 75, 50049, 50050, 50061, 50062, 50063, 50064, 50067]
abbrev WLa : List Nat := [77, 78]
set_option maxRecDepth 100000 in
theorem dWAr : ∀ x ∈ STC, x ∉ WAr := by decide
theorem anchorM {n : Nat} {I0 I : xm_I} {L : xm_L} {d : Anc} {o m : Nat} (hst : Sta n I0 I) (hL : HL I0 L) (hsc : 0 < (I0 14 10).toInt) (ho : (o : Int) < (I0 6 9).toInt) (h3 : 3 ≤ (I0 10 o).toInt ∧ (I0 10 o).toInt ≤ 12) (hD : DM I m d) : ok (f_M_drawArea_b330 (n32 o) I L (0, 0, 0)) (fun q => q.2 = L ∧ Fr [73, 74, 75] I q.1 ∧ DM q.1 m (setA d o (ancA I0 o))) := by
  have e69 : I 6 9 = I0 6 9 := hst.2 6 9 (by decide)
  have o40 : o < 40 := by
    have := hst.1.2.1.1
    rw [e69] at this
    omega
  have tN := tn32 (x := I0 10 o) (by omega)
  have oi : 0 ≤ (n32 o).toInt ∧ (n32 o).toInt < 40 := by rw [n32i (by omega)]; omega
  have ot : Int32.toNatClampNeg (n32 o) = o := n32n (by omega)
  have i10 : I 10 = I0 10 := hst.2.row 10 rfl (by decide)
  have i56 : I 56 (Int32.toNatClampNeg (n32 o)) = I0 10 o := by
    have : I 56 = I 10 := hst.1.2.1.2.2.1.2.2.2.2.1
    rw [this, ot, i10]
  have e9 : I 14 9 = I0 14 9 := hst.2 14 9 (by decide)
  have e10 : I 14 10 = I0 14 10 := hst.2 14 10 (by decide)
  have hsc' : 0 < (I 14 10).toInt := by rw [e10]; exact hsc
  have hL' : HL I L := hL.ag e9 e10 ⟨rfl, rfl⟩
  obtain ⟨sx, sy⟩ := hst.sx
  have cx := hst.cx
  unfold f_M_drawArea_b330
  refine lp_inv (fun t => ∃ k : Nat, k ≤ Int32.toNatClampNeg (I0 10 o) ∧ t = (sumX I0 o k, sumY I0 o k, n32 k)) (fun t => (13 - t.2.2.toInt).toNat) _ ?_ (0, 0, 0) ⟨0, by omega, rfl⟩
  rintro t ⟨k, hk, rfl⟩
  have ki : (n32 k).toInt = k := n32i (by omega)
  have kt : Int32.toNatClampNeg (n32 k) = k := n32n (by omega)
  unfold f_M_drawArea_s330
  dsimp only
  rw [i56]
  refine ok_g oi (ok_le (fun hc => ?_) (fun hc => ?_))
  · have e : k = Int32.toNatClampNeg (I0 10 o) := by omega
    have fp : 0 < (I0 10 o).toInt64.toInt := by rw [i64of]; omega
    refine ok_g oi (ok_e (e_M_floor fp) (ok_g oi (ok_e (e_M_floor fp) (ok_b (ok_mono (show_ok oi hD) (fun J hJ => ok_s ⟨rfl, hJ.1, ?_⟩))))))
    have := hJ.2
    rw [ot, e] at this
    exact this
  · obtain ⟨_, _, u1, u2⟩ := xy_n (k := k) (o := o) hst.1.1 hst.1.2.1 (by rw [e69]; exact ho) (by rw [i10]; omega) (by omega)
    rw [cx.1] at u1
    rw [cx.2] at u2
    refine ok_e u1 (ok_e (e_M_onX hst.1.2.2.1 hL' hsc' gd1 _) (ok_e u2 (ok_e (e_M_onY hst.1.2.2.1 hL' hsc' gd1 _) (ok_s ⟨⟨k + 1, by omega, ?_⟩, ?_⟩))))
    · rw [sx, sy, n32s (by omega)]
      rfl
    · show (13 - (n32 k + 1).toInt).toNat < (13 - (n32 k).toInt).toNat
      rw [i32p (by omega) (by omega)]
      omega
theorem drawArea {n : Nat} {I0 I : xm_I} {L : xm_L} {s : MS} {d : Anc} {o m : Nat} (hst : Sta n I0 I) (hL : HL I0 L) (hsc : 0 < (I0 14 10).toInt) (ho : (o : Int) < (I0 6 9).toInt) (h7 : I0 7 o = 7) (hM : MM I s) (hD : DM I m d) : ok (f_M_drawArea (n32 o) I L) (fun q => Fr WAr I q.1 ∧ Fr WLa L q.2 ∧ MM q.1 (ems s (hatL I0 o)) ∧ DM q.1 m (setA d o (ancA I0 o))) := by
  have h3 := hst.n3 ho h7
  have hW := hst.wbd
  have hg := hst.gp
  have g0 : 0 < (I0 14 8).toInt := by omega
  obtain ⟨w1, w2, _⟩ := hW
  have hIW := hst.1.2.2.1
  have b2 : I 49 17 = I0 14 2 := by rw [hIW.1.2.2.1]; exact hst.2 14 2 (by decide)
  have b3 : I 49 18 = I0 14 3 := by rw [hIW.1.2.2.2.1]; exact hst.2 14 3 (by decide)
  have b8 : I 49 23 = I0 14 8 := by rw [hIW.1.2.2.2.2.2.2.2.2]; exact hst.2 14 8 (by decide)
  have hm := mulF_b (a := (I0 14 2).toInt) g0
  unfold f_M_drawArea f_M_drawArea_b0
  obtain ⟨r, hr1, hr2⟩ := e_M_ceiling (a := (I 49 17).toInt64) (g := (I 49 23).toInt64) (by rw [b2, i64of]; omega) (by rw [b8, i64of]; omega)
  refine ok_e hr1 ?_
  dsimp only
  rw [b2, b8, i64of, i64of] at hr2
  rw [b8]
  unfold f_M_drawArea_b20
  refine lp_inv (fun t => Fr WN I t.2.1 ∧ Fr WLa L t.2.2 ∧ t.1.toInt % (I0 14 8).toInt = 0 ∧ (I0 14 2).toInt ≤ t.1.toInt ∧ t.1.toInt ≤ 42000 ∧ MM t.2.1 (ems s (UU (gl (hsA I0 o) (I0 14 8).toInt (I0 14 2).toInt (I0 14 3).toInt) (-50000) (t.1.toInt - -50000).toNat))) (fun t => (50000 - t.1.toInt).toNat) _ ?_ ((I0 14 8).toInt64 * r, I, L) ⟨Fr.refl _ _, Fr.refl _ _, ?_, ?_, ?_, ?_⟩
  · rintro ⟨y, J, M⟩ ⟨q1, q1', q2, q3, q4, q5⟩
    simp only at q1 q1' q2 q3 q4 q5
    have hJ : Sta n I0 J := hst.of q1 dWN
    have c18 : J 49 18 = I0 14 3 := by rw [q1 49 18 (by decide), b3]
    have hLM : HL I0 M := hL.ag rfl rfl ⟨q1' 49 39 (by decide), q1' 49 40 (by decide)⟩
    unfold f_M_drawArea_s20
    dsimp only
    refine ok_lt6 (fun hc => ?_) (fun hc => ?_)
    · rw [c18, i64of] at hc
      have hDJ : DM J m d := hD.kept (q1.row 73 rfl (by decide)) (q1.row 74 rfl (by decide)) (q1.row 75 rfl (by decide))
      refine ok_m (ok_mono (anchorM hJ hLM hsc ho h3 hDJ) (fun q hq => ?_))
      obtain ⟨p1, p2, p3⟩ := hq
      refine ⟨(q1.mono (by decide)).trans (p2.mono (by decide)), by rw [p1]; exact q1', ?_, p3⟩
      refine MM.kept (I := J) ?_ (p2 49 49 (by decide)) (p2 49 50 (by decide)) (p2.row 71 rfl (by decide))
      unfold hatL
      rw [line_end (y := y.toInt) (by omega) (by omega) (by omega)]
      exact q5
    · rw [c18, i64of] at hc
      refine ok_mono (lineM hJ hLM hsc ho h3.1 (by omega) q5) (fun x hx => ?_)
      obtain ⟨V, M', rfl, v1, v2, v3⟩ := hx
      have v23 : V 49 23 = I0 14 8 := by rw [v1 49 23 (by decide), q1 49 23 (by decide), b8]
      have yi : (y + (V 49 23).toInt64).toInt = y.toInt + (I0 14 8).toInt := by rw [i64a (by rw [v23, i64of]; omega), v23, i64of]
      refine ⟨⟨q1.trans v1, q1'.trans v2, ?_, ?_, ?_, ?_⟩, ?_⟩
      · show (y + (V 49 23).toInt64).toInt % _ = 0
        rw [yi]
        exact add_m q2
      · show (I0 14 2).toInt ≤ (y + (V 49 23).toInt64).toInt
        omega
      · show (y + (V 49 23).toInt64).toInt ≤ 42000
        omega
      · show MM V (ems s (UU _ (-50000) ((y + (V 49 23).toInt64).toInt - -50000).toNat))
        rw [yi, line_step g0 (by omega) q2 q3 (by omega), ems_app]
        exact v3
      · show (50000 - (y + (V 49 23).toInt64).toInt).toNat < _
        omega
  · show ((I0 14 8).toInt64 * r).toInt % _ = 0
    rw [hr2]
    exact mulF_m g0
  · show _ ≤ ((I0 14 8).toInt64 * r).toInt
    omega
  · show ((I0 14 8).toInt64 * r).toInt ≤ 42000
    omega
  · show MM I (ems s (UU _ (-50000) (((I0 14 8).toInt64 * r).toInt - -50000).toNat))
    rw [hr2, line_start g0 (by omega)]
    exact hM
/-! ===== all areas ===== -/
noncomputable def osa (I : xm_I) (x : MS × Anc) : Nat → MS × Anc
  | 0 => x
  | o + 1 => if I 7 o = 7 then (if drawB I o = true then (ems (osa I x o).1 (hatL I o), setA (osa I x o).2 o (ancA I o)) else osa I x o) else osa I x o
set_option maxRecDepth 100000 in
theorem paintAreas {n : Nat} {I0 I : xm_I} {L : xm_L} {s : MS} {d : Anc} (hst : Sta n I0 I) (hs : 0 < (I0 14 10).toInt) (hC : CM I s) (hD : DA I d) : ok (f_Pn_paintAreas I L) (fun q => Fr WP I q.1 ∧ CM q.1 (osa I0 (s, d) (Int32.toNatClampNeg (I0 6 9))).1 ∧ DA q.1 (osa I0 (s, d) (Int32.toNatClampNeg (I0 6 9))).2 ∧ Fr [36, 37] L q.2) := by
  have e69 : I 6 9 = I0 6 9 := hst.2 6 9 (by decide)
  have g40 : 0 ≤ (I0 6 9).toInt ∧ (I0 6 9).toInt ≤ 40 := by rw [← e69]; exact hst.1.2.1.1
  have t := tn32 g40.1
  unfold f_Pn_paintAreas f_Pn_paintAreas_b0 f_Pn_paintAreas_b2
  refine lp_inv (fun st => ∃ o : Nat, o ≤ Int32.toNatClampNeg (I0 6 9) ∧ st.1 = n32 o ∧ Fr WP I st.2.1 ∧ CM st.2.1 (osa I0 (s, d) o).1 ∧ DA st.2.1 (osa I0 (s, d) o).2 ∧ Fr [36, 37] L st.2.2) (fun st => (41 - st.1.toInt).toNat) _ ?_ (0, I, L) ⟨0, by omega, rfl, Fr.refl _ _, hC, hD, Fr.refl _ _⟩
  rintro ⟨oo, J, M⟩ ⟨o, ho, q1, q2, q4, q5, q6⟩
  simp only at q1 q2 q4 q5 q6
  subst q1
  have oi : (n32 o).toInt = o := n32i (by omega)
  have ot : Int32.toNatClampNeg (n32 o) = o := n32n (by omega)
  have hJ : Sta n I0 J := hst.of q2 dWP
  have j69 : J 6 9 = I0 6 9 := hJ.2 6 9 (by decide)
  have j7 : J 7 = I0 7 := hJ.2.row 7 rfl (by decide)
  unfold f_Pn_paintAreas_s2 f_Pn_paintAreas_b42
  dsimp only
  refine ok_le (fun hc => ok_s ?_) (fun hc => ?_)
  · rw [j69] at hc
    have e : o = Int32.toNatClampNeg (I0 6 9) := by omega
    rw [e] at q4 q5
    exact ⟨q2, q4, q5, q6⟩
  · rw [j69] at hc
    have hoJ : (o : Int) < (J 6 9).toInt := by rw [j69]; omega
    have hx := vo_n hJ.1.2.1 hoJ
    have hkd := e_Fg_kindOf hx
    rw [ot, j7] at hkd
    have hdr := (e_isDrawn hJ.1.1 hJ.1.2.1 hx).1
    rw [ot, hJ.dw] at hdr
    have dec : (41 - (n32 o + 1).toInt).toNat < (41 - (n32 o).toInt).toNat := by
      rw [i32p (by omega) (by omega)]
      omega
    have es := n32s (k := o) (by omega)
    refine ok_e hkd ?_
    by_cases c7 : I0 7 o = 7
    · refine ok_t c7 (ok_e hdr (ok_ib (fun hn => ?_) (fun hy => ?_)))
      · have eo : osa I0 (s, d) (o + 1) = osa I0 (s, d) o := by show (if _ then _ else _) = _; rw [if_pos c7, if_neg hn]
        exact ok_s ⟨⟨o + 1, by omega, es, q2, by rw [eo]; exact q4, by rw [eo]; exact q5, q6⟩, dec⟩
      · have eo : osa I0 (s, d) (o + 1) = (ems (osa I0 (s, d) o).1 (hatL I0 o), setA (osa I0 (s, d) o).2 o (ancA I0 o)) := by show (if _ then _ else _) = _; rw [if_pos c7, if_pos hy]
        refine ok_b (ok_mono (paintArea (L := M) hJ hs (by omega) c7 q4 q5) (fun q hq => ok_s ⟨⟨o + 1, by omega, es, q2.trans hq.1, ?_, ?_, q6.trans hq.2.2.2⟩, dec⟩))
        · rw [eo]
          dsimp only
          exact hq.2.1
        · rw [eo]
          exact hq.2.2.1
    · have eo : osa I0 (s, d) (o + 1) = osa I0 (s, d) o := by show (if _ then _ else _) = _; rw [if_neg c7]
      exact ok_f c7 (ok_s ⟨⟨o + 1, by omega, es, q2, by rw [eo]; exact q4, by rw [eo]; exact q5, q6⟩, dec⟩)
set_option maxRecDepth 100000 in
theorem drawAreas {n : Nat} {I0 I : xm_I} {L : xm_L} {s : MS} {d : Anc} {K : Int32 × xm_I × xm_L → Prop} (hst : Sta n I0 I) (hL : HL I0 L) (hs : 0 < (I0 14 10).toInt) (hC : MM I s) (hD : DM I (Int32.toNatClampNeg (I0 6 9)) d) (hK : ∀ J M, Fr WAr I J → Fr WLa L M → MM J (osa I0 (s, d) (Int32.toNatClampNeg (I0 6 9))).1 → DM J (Int32.toNatClampNeg (I0 6 9)) (osa I0 (s, d) (Int32.toNatClampNeg (I0 6 9))).2 → ok (f_M_draw_b180 (0, J, M)) K) : ok (f_M_draw_b140 (0, I, L)) K := by
  have e69 : I 6 9 = I0 6 9 := hst.2 6 9 (by decide)
  have g40 : 0 ≤ (I0 6 9).toInt ∧ (I0 6 9).toInt ≤ 40 := by rw [← e69]; exact hst.1.2.1.1
  have t := tn32 g40.1
  unfold f_M_draw_b140
  refine lp_inv (fun st => ∃ o : Nat, o ≤ Int32.toNatClampNeg (I0 6 9) ∧ st.1 = n32 o ∧ Fr WAr I st.2.1 ∧ Fr WLa L st.2.2 ∧ MM st.2.1 (osa I0 (s, d) o).1 ∧ DM st.2.1 (Int32.toNatClampNeg (I0 6 9)) (osa I0 (s, d) o).2) (fun st => (41 - st.1.toInt).toNat) _ ?_ (0, I, L) ⟨0, by omega, rfl, Fr.refl _ _, Fr.refl _ _, hC, hD⟩
  rintro ⟨oo, J, M⟩ ⟨o, ho, q1, q2, q3, q4, q5⟩
  simp only at q1 q2 q3 q4 q5
  subst q1
  have oi : (n32 o).toInt = o := n32i (by omega)
  have ot : Int32.toNatClampNeg (n32 o) = o := n32n (by omega)
  have hJ : Sta n I0 J := hst.of q2 dWAr
  have j69 : J 6 9 = I0 6 9 := hJ.2 6 9 (by decide)
  have j7 : J 7 = I0 7 := hJ.2.row 7 rfl (by decide)
  have j11 : J 49 11 = I0 6 9 := by rw [hJ.1.2.1.2.2.1.1, j69]
  have j54 : J 54 = I0 7 := by rw [hJ.1.2.1.2.2.1.2.2.1, j7]
  unfold f_M_draw_s140 f_M_draw_b172
  dsimp only
  refine ok_le (fun hc => ?_) (fun hc => ?_)
  · rw [j11] at hc
    have e : o = Int32.toNatClampNeg (I0 6 9) := by omega
    rw [e] at q4 q5
    exact ok_m (ok_mono (hK J M q2 q3 q4 q5) fun _ h => h)
  · rw [j11] at hc
    have hoJ : (o : Int) < (J 6 9).toInt := by rw [j69]; omega
    have hx := vo_n hJ.1.2.1 hoJ
    have hdr := (e_isDrawn hJ.1.1 hJ.1.2.1 hx).2
    rw [ot, hJ.dw] at hdr
    have dec : (41 - (n32 o + 1).toInt).toNat < (41 - (n32 o).toInt).toNat := by
      rw [i32p (by omega) (by omega)]
      omega
    have es := n32s (k := o) (by omega)
    refine ok_g (by omega) ?_
    have j54' : J 54 (Int32.toNatClampNeg (n32 o)) = I0 7 o := by rw [j54, ot]
    by_cases c7 : I0 7 o = 7
    · refine ok_t (by rw [j54']; exact c7) (ok_e hdr (ok_ib (fun hn => ?_) (fun hy => ?_)))
      · have eo : osa I0 (s, d) (o + 1) = osa I0 (s, d) o := by show (if _ then _ else _) = _; rw [if_pos c7, if_neg hn]
        exact ok_s ⟨⟨o + 1, by omega, es, q2, q3, by rw [eo]; exact q4, by rw [eo]; exact q5⟩, dec⟩
      · have eo : osa I0 (s, d) (o + 1) = (ems (osa I0 (s, d) o).1 (hatL I0 o), setA (osa I0 (s, d) o).2 o (ancA I0 o)) := by show (if _ then _ else _) = _; rw [if_pos c7, if_pos hy]
        have hLM : HL I0 M := hL.ag rfl rfl ⟨q3 49 39 (by decide), q3 49 40 (by decide)⟩
        refine ok_b (ok_mono (drawArea hJ hLM hs (by omega) c7 q4 q5) (fun q hq => ok_s ⟨⟨o + 1, by omega, es, q2.trans hq.1, q3.trans hq.2.1, ?_, ?_⟩, dec⟩))
        · rw [eo]
          dsimp only
          exact hq.2.2.1
        · rw [eo]
          exact hq.2.2.2
    · have eo : osa I0 (s, d) (o + 1) = osa I0 (s, d) o := by show (if _ then _ else _) = _; rw [if_neg c7]
      exact ok_f (by rw [j54']; exact c7) (ok_s ⟨⟨o + 1, by omega, es, q2, q3, by rw [eo]; exact q4, by rw [eo]; exact q5⟩, dec⟩)
