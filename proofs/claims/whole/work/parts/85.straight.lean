/-! ===== straight objects ===== -/
def hlf (a b : Int32) : Int32 := (fl (a.toInt64 + b.toInt64) 2).toInt32
def wayC (I : xm_I) (x0 y0 x1 y1 : Int) (f0 t0 : Option Fq) : Option (Fq × Fq) := CL x0 y0 x1 y1 (I 14 0).toInt (I 14 1).toInt (I 14 2).toInt (I 14 3).toInt f0 t0
abbrev setW (I : xm_I) (x0 y0 x1 y1 : Int32) : xm_I := up2 (up2 (up2 (up2 I 38 1 x0) 38 2 y0) 38 3 (x1 - x0)) 38 4 (y1 - y0)
theorem k0_sm (k : Int32) : (osm (k0F k) ∧ osm (k0T k)) ∧ of_b (k0F k) ∧ of_b (k0T k) := by
  unfold k0F k0T
  refine ⟨⟨?_, ?_⟩, ?_, ?_⟩
  · split
    · trivial
    · exact ⟨by decide, by decide, by decide⟩
  · split
    · exact ⟨by decide, by decide, by decide⟩
    · trivial
  · split
    · trivial
    · exact ⟨by decide, by decide, by decide⟩
  · split
    · exact ⟨by decide, by decide, by decide⟩
    · trivial
/-- what is read of the cutter after a cut -/
def cutV (I : xm_I) (J : xm_I) (M : xm_L) (x0 y0 x1 y1 : Int) (v : Int32) : Option (Fq × Fq) → Prop
  | none => v = 0
  | some (F, T) => v = 1 ∧ f_Cu_firstX J M = some (wayM I x0 y0 x1 y1 F T 0).2.1 ∧ f_Cu_firstY J M = some (wayM I x0 y0 x1 y1 F T 0).2.2.1 ∧ f_Cu_lastX J M = some (wayM I x0 y0 x1 y1 F T 0).2.2.2.1 ∧ f_Cu_lastY J M = some (wayM I x0 y0 x1 y1 F T 0).2.2.2.2.1
theorem lin64 {a w n d : Int64} {A W N D : Int} (ha : a.toInt = A) (hw : w.toInt = W) (hn : n.toInt = N) (hd : d.toInt = D) (bA : -100000 ≤ A ∧ A ≤ 100000) (bW : -200000 ≤ W ∧ W ≤ 200000) (bN : -200000 ≤ N ∧ N ≤ 200000) (bD : 1 ≤ D ∧ D ≤ 200000) : a * d + w * n = i6 (A * D + W * N) ∧ a * d + n * w = i6 (A * D + W * N) ∧ d = i6 D := by
  have m1 := mul_ab (a := A) (b := D) (m := 100000) (n := 200000) (by omega) (by omega) (by omega) (by omega)
  have m2 := mul_ab (a := W) (b := N) (m := 200000) (n := 200000) (by omega) (by omega) (by omega) (by omega)
  have e1 : (a * d).toInt = A * D := by rw [m64 (by omega) (by omega), ha, hd]
  have e2 : (w * n).toInt = W * N := by rw [m64 (by omega) (by omega), hw, hn]
  have e3 : (a * d + w * n).toInt = A * D + W * N := by rw [i64a (by rw [e1, e2]; omega), e1, e2]
  refine ⟨i6_of e3, ?_, i6_of hd⟩
  rw [Int64.mul_comm n w]
  exact i6_of e3
theorem cutWay {I : xm_I} {L : xm_L} {k x0 y0 x1 y1 : Int32} (hW : IvW I) (hs : 0 < (I 14 10).toInt) (b0 : -100000 ≤ x0.toInt ∧ x0.toInt ≤ 100000) (b1 : -100000 ≤ y0.toInt ∧ y0.toInt ≤ 100000) (b2 : -100000 ≤ x1.toInt ∧ x1.toInt ≤ 100000) (b3 : -100000 ≤ y1.toInt ∧ y1.toInt ≤ 100000) (hne : x1.toInt ≠ x0.toInt ∨ y1.toInt ≠ y0.toInt) : ok (f_Cu_cut k (setW I x0 y0 x1 y1) L) (fun q => Fr WK L q.2 ∧ cutV I (setW I x0 y0 x1 y1) q.2 x0.toInt y0.toInt x1.toInt y1.toInt q.1 (wayC I x0.toInt y0.toInt x1.toInt y1.toInt (k0F k) (k0T k))) := by
  have d1 : (x1 - x0).toInt = x1.toInt - x0.toInt := i32s (by omega)
  have d2 : (y1 - y0).toInt = y1.toInt - y0.toInt := i32s (by omega)
  have hWJ : IvW (setW I x0 y0 x1 y1) := hW
  have hsJ : 0 < ((setW I x0 y0 x1 y1) 14 10).toInt := hs
  have main := cut_ok (k := k) (I := setW I x0 y0 x1 y1) (L := L) b0 b1 (show -200000 ≤ (x1 - x0).toInt ∧ (x1 - x0).toInt ≤ 200000 by omega) (show -200000 ≤ (y1 - y0).toInt ∧ (y1 - y0).toInt ≤ 200000 by omega) hW.2.1 (show (x1 - x0).toInt ≠ 0 ∨ (y1 - y0).toInt ≠ 0 by omega)
  refine ok_mono main (fun q hq => ⟨hq.1, ?_⟩)
  have hq2 : cutC q.2 (CL x0.toInt y0.toInt (x0.toInt + (x1 - x0).toInt) (y0.toInt + (y1 - y0).toInt) (I 14 0).toInt (I 14 1).toInt (I 14 2).toInt (I 14 3).toInt (k0F k) (k0T k)) q.1 := hq.2
  have e1 : x0.toInt + (x1 - x0).toInt = x1.toInt := by omega
  have e2 : y0.toInt + (y1 - y0).toInt = y1.toInt := by omega
  rw [e1, e2] at hq2
  unfold wayC
  obtain ⟨ks, kb⟩ := k0_sm k
  cases hc : CL x0.toInt y0.toInt x1.toInt y1.toInt (I 14 0).toInt (I 14 1).toInt (I 14 2).toInt (I 14 3).toInt (k0F k) (k0T k) with
  | none =>
    rw [hc] at hq2
    exact hq2
  | some FT =>
    obtain ⟨F, T⟩ := FT
    rw [hc] at hq2
    obtain ⟨v1, f1, f2, t1, t2⟩ := hq2
    obtain ⟨sF, sT⟩ := CL_sm b0 b1 b2 b3 hW.2.1.1 hW.2.1.2.1 ks.1 ks.2 hc
    unfold sm at sF sT
    have x6 := i64of x0
    have y6 := i64of y0
    have dx6 : (x1 - x0).toInt64.toInt = x1.toInt - x0.toInt := by rw [i64of, d1]
    have dy6 : (y1 - y0).toInt64.toInt = y1.toInt - y0.toInt := by rw [i64of, d2]
    have gF : gdn (i6 F.2) := by rw [gdn, i6_i (by omega)]; omega
    have gT : gdn (i6 T.2) := by rw [gdn, i6_i (by omega)]; omega
    obtain ⟨l1, _, l3⟩ := lin64 (a := x0.toInt64) (w := (x1 - x0).toInt64) (n := q.2 38 5) (d := q.2 38 6) x6 dx6 f1 f2 b0 (by omega) sF.1 sF.2
    obtain ⟨l4, _, _⟩ := lin64 (a := y0.toInt64) (w := (y1 - y0).toInt64) (n := q.2 38 5) (d := q.2 38 6) y6 dy6 f1 f2 b1 (by omega) sF.1 sF.2
    obtain ⟨l5, _, l6⟩ := lin64 (a := x0.toInt64) (w := (x1 - x0).toInt64) (n := q.2 38 7) (d := q.2 38 8) x6 dx6 t1 t2 b0 (by omega) sT.1 sT.2
    obtain ⟨l7, _, _⟩ := lin64 (a := y0.toInt64) (w := (y1 - y0).toInt64) (n := q.2 38 7) (d := q.2 38 8) y6 dy6 t1 t2 b1 (by omega) sT.1 sT.2
    refine ⟨v1, ?_, ?_, ?_, ?_⟩
    · unfold f_Cu_firstX f_Cu_firstX_b0
      show (f_Fr_sheetX (x0.toInt64 * q.2 38 6 + (x1 - x0).toInt64 * q.2 38 5) (q.2 38 6) (setW I x0 y0 x1 y1)).bind _ = _
      rw [l1, l3, e_Fr_sheetX hWJ hsJ gF]
      rfl
    · unfold f_Cu_firstY f_Cu_firstY_b0
      show (f_Fr_sheetY (y0.toInt64 * q.2 38 6 + (y1 - y0).toInt64 * q.2 38 5) (q.2 38 6) (setW I x0 y0 x1 y1)).bind _ = _
      rw [l4, l3, e_Fr_sheetY hWJ hsJ gF]
      rfl
    · unfold f_Cu_lastX f_Cu_lastX_b0
      show (f_Fr_sheetX (x0.toInt64 * q.2 38 8 + (x1 - x0).toInt64 * q.2 38 7) (q.2 38 8) (setW I x0 y0 x1 y1)).bind _ = _
      rw [l5, l6, e_Fr_sheetX hWJ hsJ gT]
      rfl
    · unfold f_Cu_lastY f_Cu_lastY_b0
      show (f_Fr_sheetY (y0.toInt64 * q.2 38 8 + (y1 - y0).toInt64 * q.2 38 7) (q.2 38 8) (setW I x0 y0 x1 y1)).bind _ = _
      rw [l7, l6, e_Fr_sheetY hWJ hsJ gT]
      rfl
/-- the four numbers of a cut way are not far -/
theorem wayM_b {I : xm_I} {x0 y0 x1 y1 : Int} {f0 t0 : Option Fq} {F T : Fq} {st : Int32} (hW : IvW I) (hs : 0 < (I 14 10).toInt) (b0 : -100000 ≤ x0 ∧ x0 ≤ 100000) (b1 : -100000 ≤ y0 ∧ y0 ≤ 100000) (b2 : -100000 ≤ x1 ∧ x1 ≤ 100000) (b3 : -100000 ≤ y1 ∧ y1 ≤ 100000) (s0 : osm f0 ∧ osm t0) (o0 : of_b f0 ∧ of_b t0) (h : wayC I x0 y0 x1 y1 f0 t0 = some (F, T)) : (-100000000 ≤ (wayM I x0 y0 x1 y1 F T st).2.1.toInt ∧ (wayM I x0 y0 x1 y1 F T st).2.1.toInt ≤ 100000000) ∧ (-100000000 ≤ (wayM I x0 y0 x1 y1 F T st).2.2.1.toInt ∧ (wayM I x0 y0 x1 y1 F T st).2.2.1.toInt ≤ 100000000) ∧ (-100000000 ≤ (wayM I x0 y0 x1 y1 F T st).2.2.2.1.toInt ∧ (wayM I x0 y0 x1 y1 F T st).2.2.2.1.toInt ≤ 100000000) ∧ (-100000000 ≤ (wayM I x0 y0 x1 y1 F T st).2.2.2.2.1.toInt ∧ (wayM I x0 y0 x1 y1 F T st).2.2.2.2.1.toInt ≤ 100000000) := by
  unfold wayC at h
  obtain ⟨sF, sT⟩ := CL_sm b0 b1 b2 b3 hW.2.1.1 hW.2.1.2.1 s0.1 s0.2 h
  obtain ⟨_, ⟨i1, i2⟩, i3, i4⟩ := CL_in b0 b1 b2 b3 hW.2.1.1 hW.2.1.2.1 o0.1 o0.2 h
  unfold sm at sF sT
  unfold axIn at i1 i2 i3 i4
  exact ⟨SX_b hW hs ⟨sF.2.1, by omega⟩ i1.1 i1.2, SY_b hW hs ⟨sF.2.1, by omega⟩ i2.1 i2.2, SX_b hW hs ⟨sT.2.1, by omega⟩ i3.1 i3.2, SY_b hW hs ⟨sT.2.1, by omega⟩ i4.1 i4.2⟩
def resStr (I : xm_I) (o : Nat) : Res := match wayC I (CX I o 0).toInt (CY I o 0).toInt (CX I o 1).toInt (CY I o 1).toInt (k0F (I 7 o)) (k0T (I 7 o)) with
  | none => none
  | some (F, T) => some (wayM I (CX I o 0).toInt (CY I o 0).toInt (CX I o 1).toInt (CY I o 1).toInt F T (I 8 o), hlf (wayM I (CX I o 0).toInt (CY I o 0).toInt (CX I o 1).toInt (CY I o 1).toInt F T (I 8 o)).2.1 (wayM I (CX I o 0).toInt (CY I o 0).toInt (CX I o 1).toInt (CY I o 1).toInt F T (I 8 o)).2.2.2.1, hlf (wayM I (CX I o 0).toInt (CY I o 0).toInt (CX I o 1).toInt (CY I o 1).toInt F T (I 8 o)).2.2.1 (wayM I (CX I o 0).toInt (CY I o 0).toInt (CX I o 1).toInt (CY I o 1).toInt F T (I 8 o)).2.2.2.2.1)
theorem e_half {a b : Int32} (ha : -100000000 ≤ a.toInt ∧ a.toInt ≤ 100000000) (hb : -100000000 ≤ b.toInt ∧ b.toInt ≤ 100000000) : f_D_roundedDown (a + b).toInt64 2 = some (hlf a b) := by
  have k2 : (2 : Int64).toInt = 2 := by decide
  unfold f_D_roundedDown f_D_roundedDown_b0 hlf
  rw [if_pos (by decide), e_Jm_floorDiv_J (by omega), i64p (by omega)]
  rfl
theorem paintStraight {I : xm_I} {L : xm_L} {s : MS} {d : Anc} {o : Nat} (hp : IvP I) (g : IvF I) (hW : IvW I) (hs : 0 < (I 14 10).toInt) (ho : (o : Int) < (I 6 9).toInt) (h3 : 2 ≤ (I 10 o).toInt) (hne : (CX I o 1).toInt ≠ (CX I o 0).toInt ∨ (CY I o 1).toInt ≠ (CY I o 0).toInt) (hC : CM I s) (hD : DA I d) : ok (f_Pn_paintStraight (n32 o) I L) (fun q => RC1 I q.1 s d o (resStr I o) ∧ Fr WK L q.2) := by
  have g40 := g.1
  have ot : Int32.toNatClampNeg (n32 o) = o := n32n (by omega)
  have hx := vo_n g ho
  obtain ⟨x0, y0, _, _⟩ := xy_n (k := 0) hp g ho (by omega) (by omega)
  obtain ⟨x1, y1, _, _⟩ := xy_n (k := 1) hp g ho (by omega) (by omega)
  have b0 := CX_b hp o 0
  have b1 := CX_b hp o 1
  have oi : 0 ≤ (n32 o).toInt ∧ (n32 o).toInt < 40 := by rw [n32i (by omega)]; omega
  have hxJ : vo (setW I (CX I o 0) (CY I o 0) (CX I o 1) (CY I o 1)) (n32 o) := hx
  have hst := e_Fg_styleOf hxJ
  have hkd := e_Fg_kindOf hxJ
  rw [ot] at hst hkd
  have hst' : f_Fg_styleOf (n32 o) (setW I (CX I o 0) (CY I o 0) (CX I o 1) (CY I o 1)) = some (I 8 o) := hst
  have hkd' : f_Fg_kindOf (n32 o) (setW I (CX I o 0) (CY I o 0) (CX I o 1) (CY I o 1)) = some (I 7 o) := hkd
  have fJ : Fr WP I (setW I (CX I o 0) (CY I o 0) (CX I o 1) (CY I o 1)) := Fr.up (Fr.up (Fr.up (Fr.up (Fr.refl _ _) (by decide)) (by decide)) (by decide)) (by decide)
  have hCJ : CM (setW I (CX I o 0) (CY I o 0) (CX I o 1) (CY I o 1)) s := hC
  have hDJ : DA (setW I (CX I o 0) (CY I o 0) (CX I o 1) (CY I o 1)) d := hD
  unfold f_Pn_paintStraight f_Pn_paintStraight_b0
  refine ok_e x0 (ok_e y0 (ok_e x1 (ok_e y1 ?_)))
  have sw : f_Cu_setWay (CX I o 0) (CY I o 0) (CX I o 1) (CY I o 1) I = some (setW I (CX I o 0) (CY I o 0) (CX I o 1) (CY I o 1)) := rfl
  refine ok_e sw (ok_e hkd' (ok_b (ok_mono (cutWay (L := L) (k := I 7 o) hW hs (by omega) (by omega) (by omega) (by omega) hne) (fun q hq => ?_))))
  obtain ⟨q1, q2⟩ := hq
  unfold resStr
  cases hc : wayC I (CX I o 0).toInt (CY I o 0).toInt (CX I o 1).toInt (CY I o 1).toInt (k0F (I 7 o)) (k0T (I 7 o)) with
  | none =>
    rw [hc] at q2
    exact ok_t q2 (ok_s ⟨⟨fJ, hCJ, hDJ⟩, q1⟩)
  | some FT =>
    obtain ⟨F, T⟩ := FT
    rw [hc] at q2
    obtain ⟨v1, a1, a2, a3, a4⟩ := q2
    obtain ⟨ks, kb⟩ := k0_sm (I 7 o)
    have wb := wayM_b (st := (0 : Int32)) hW hs (by omega) (by omega) (by omega) (by omega) ks kb hc
    have E := emitC (x := n32 o) (I := setW I (CX I o 0) (CY I o 0) (CX I o 1) (CY I o 1)) (a := 83) (b := (wayM I (CX I o 0).toInt (CY I o 0).toInt (CX I o 1).toInt (CY I o 1).toInt F T 0).2.1) (c := (wayM I (CX I o 0).toInt (CY I o 0).toInt (CX I o 1).toInt (CY I o 1).toInt F T 0).2.2.1) (e := (wayM I (CX I o 0).toInt (CY I o 0).toInt (CX I o 1).toInt (CY I o 1).toInt F T 0).2.2.2.1) (f := (wayM I (CX I o 0).toInt (CY I o 0).toInt (CX I o 1).toInt (CY I o 1).toInt F T 0).2.2.2.2.1) (g := I 8 o) (u := hlf (wayM I (CX I o 0).toInt (CY I o 0).toInt (CX I o 1).toInt (CY I o 1).toInt F T 0).2.1 (wayM I (CX I o 0).toInt (CY I o 0).toInt (CX I o 1).toInt (CY I o 1).toInt F T 0).2.2.2.1) (v := hlf (wayM I (CX I o 0).toInt (CY I o 0).toInt (CX I o 1).toInt (CY I o 1).toInt F T 0).2.2.1 (wayM I (CX I o 0).toInt (CY I o 0).toInt (CX I o 1).toInt (CY I o 1).toInt F T 0).2.2.2.2.1) oi hCJ hDJ
    obtain ⟨K, hK1, hK2⟩ := E
    obtain ⟨M1, hM1, hM2⟩ := bind_some hK1
    obtain ⟨A1, hA1, hA2⟩ := bind_some hM2
    cases hA2
    rw [ot] at hK2
    refine ok_f (by rw [v1]; decide) (ok_e a1 (ok_e a2 (ok_e a3 (ok_e a4 (ok_e hst' (ok_e hM1 (ok_e (e_half wb.1 wb.2.2.1) (ok_e (e_half wb.2.1 wb.2.2.2) (ok_e hA1 (ok_s ⟨⟨fJ.trans hK2.1, hK2.2.1, hK2.2.2⟩, q1⟩))))))))))
