/-! ===== dots, angles, ticks ===== -/
abbrev Res : Type := Option (M6 × Int32 × Int32)
def emS (s : MS) : Res → MS
  | none => s
  | some r => em s r.1
def emA (d : Anc) (o : Nat) : Res → Anc
  | none => d
  | some r => setA d o r.2
abbrev WO : List Nat := [71, 50049, 50050, 73, 74, 75, 50041, 50042, 50061, 50062, 50063, 50064]
set_option maxRecDepth 100000 in
theorem dWO : ∀ x ∈ STC, x ∉ WO := by decide
def RC1 (I J : xm_I) (s : MS) (d : Anc) (o : Nat) (r : Res) : Prop := Fr WP I J ∧ CM J (emS s r) ∧ DA J (emA d o r)
def RM1 (I J : xm_I) (m : Nat) (s : MS) (d : Anc) (o : Nat) (r : Res) : Prop := Fr WO I J ∧ MM J (emS s r) ∧ DM J m (emA d o r)
theorem emitC {I : xm_I} {s : MS} {d : Anc} {x a b c e f g u v : Int32} (hx : 0 ≤ x.toInt ∧ x.toInt < 40) (hC : CM I s) (hD : DA I d) : ok ((f_Mk_add a b c e f g I).bind fun p => (f_Pn_anchor x u v p).bind fun q => some q) (fun J => RC1 I J s d (Int32.toNatClampNeg x) (some ((a, b, c, e, f, g), u, v))) := by
  refine ok_b (ok_mono (mk_add hC) (fun J hJ => ?_))
  have hDJ : DA J d := hD.kept (hJ.1.row 31 rfl (by decide)) (hJ.1.row 32 rfl (by decide)) (hJ.1.row 33 rfl (by decide))
  refine ok_b (ok_mono (anchor_ok hx hDJ) (fun K hK => ok_s ⟨(hJ.1.mono (by decide)).trans (hK.1.mono (by decide)), ?_, hK.2⟩))
  exact hJ.2.kept (hK.1 17 4 (by decide)) (hK.1 17 5 (by decide)) (hK.1.row 18 rfl (by decide))
theorem emitM {I : xm_I} {s : MS} {m : Nat} {d : Anc} {x a b c e f g u v : Int32} (hx : 0 ≤ x.toInt ∧ x.toInt < 40) (hC : MM I s) (hD : DM I m d) : ok ((f_M_add a b c e f g I).bind fun p => (f_M_show x u v p).bind fun q => some q) (fun J => RM1 I J m s d (Int32.toNatClampNeg x) (some ((a, b, c, e, f, g), u, v))) := by
  refine ok_b (ok_mono (mm_add hC) (fun J hJ => ?_))
  have hDJ : DM J m d := hD.kept (hJ.1.row 73 rfl (by decide)) (hJ.1.row 74 rfl (by decide)) (hJ.1.row 75 rfl (by decide))
  refine ok_b (ok_mono (show_ok hx hDJ) (fun K hK => ok_s ⟨(hJ.1.mono (by decide)).trans (hK.1.mono (by decide)), ?_, hK.2⟩))
  exact hJ.2.kept (hK.1 49 49 (by decide)) (hK.1 49 50 (by decide)) (hK.1.row 71 rfl (by decide))
def inW (I : xm_I) (x y k : Int) : Prop := (I 14 0).toInt * k ≤ x ∧ x ≤ (I 14 1).toInt * k ∧ (I 14 2).toInt * k ≤ y ∧ y ≤ (I 14 3).toInt * k
theorem e_holds {I : xm_I} {x y k : Int32} (hW : WB I) (hk : 1 ≤ k.toInt ∧ k.toInt ≤ 2) : ∃ v : Int32, f_Fr_holds x.toInt64 y.toInt64 k I = some v ∧ ((v = 1 ∧ inW I x.toInt y.toInt k.toInt) ∨ (v = 0 ∧ ¬ inW I x.toInt y.toInt k.toInt)) := by
  obtain ⟨b1, b2, _⟩ := hW
  have m : ∀ a : Int32, -40000 ≤ a.toInt ∧ a.toInt ≤ 40000 → (a.toInt64 * k.toInt64).toInt = a.toInt * k.toInt := fun a ha => by rw [m64 (by rw [i64of]; omega) (by rw [i64of]; omega), i64of, i64of]
  have m0 := m (I 14 0) (by omega)
  have m1 := m (I 14 1) (by omega)
  have m2 := m (I 14 2) (by omega)
  have m3 := m (I 14 3) (by omega)
  unfold f_Fr_holds f_Fr_holds_b0 inW
  simp only [lt64, m0, m1, m2, m3, i64of]
  (repeat' split)
  · exact ⟨0, rfl, Or.inr ⟨rfl, by omega⟩⟩
  · exact ⟨0, rfl, Or.inr ⟨rfl, by omega⟩⟩
  · exact ⟨0, rfl, Or.inr ⟨rfl, by omega⟩⟩
  · exact ⟨0, rfl, Or.inr ⟨rfl, by omega⟩⟩
  · exact ⟨1, rfl, Or.inl ⟨rfl, by omega⟩⟩
theorem e_M_has {I : xm_I} {x y : Int32} (h : IvW I) : ∃ v : Int32, f_M_has x y I = some v ∧ ((v = 1 ∧ inW I x.toInt y.toInt 1) ∨ (v = 0 ∧ ¬ inW I x.toInt y.toInt 1)) := by
  obtain ⟨⟨e15, e16, e17, e18, _⟩, _⟩ := h
  unfold f_M_has f_M_has_b0 inW
  rw [e15, e16, e17, e18]
  simp only [lt32]
  (repeat' split)
  · exact ⟨0, rfl, Or.inr ⟨rfl, by omega⟩⟩
  · exact ⟨0, rfl, Or.inr ⟨rfl, by omega⟩⟩
  · exact ⟨0, rfl, Or.inr ⟨rfl, by omega⟩⟩
  · exact ⟨0, rfl, Or.inr ⟨rfl, by omega⟩⟩
  · exact ⟨1, rfl, Or.inl ⟨rfl, by omega⟩⟩
noncomputable def resDot (I : xm_I) (o : Nat) : Res := @ite _ (inW I (CX I o 0).toInt (CY I o 0).toInt 1) (Classical.propDecidable _) (some ((68, SX I (CX I o 0).toInt64 1, SY I (CY I o 0).toInt64 1, I 8 o, 0, 0), SX I (CX I o 0).toInt64 1, SY I (CY I o 0).toInt64 1)) none
noncomputable def resAng (I : xm_I) (o : Nat) : Res := @ite _ (inW I (CX I o 1).toInt (CY I o 1).toInt 1) (Classical.propDecidable _) (some ((65, SX I (CX I o 1).toInt64 1, SY I (CY I o 1).toInt64 1, OCT (CX I o 0 - CX I o 1) (CY I o 0 - CY I o 1), OCT (CX I o 2 - CX I o 1) (CY I o 2 - CY I o 1), OPN (CX I o 0 - CX I o 1).toInt64 (CY I o 0 - CY I o 1).toInt64 (CX I o 2 - CX I o 1).toInt64 (CY I o 2 - CY I o 1).toInt64), SX I (CX I o 1).toInt64 1, SY I (CY I o 1).toInt64 1)) none
noncomputable def resTic (I : xm_I) (o : Nat) : Res := @ite _ (inW I (CX I o 0 + CX I o 1).toInt (CY I o 0 + CY I o 1).toInt 2) (Classical.propDecidable _) (some ((84, SX I (CX I o 0 + CX I o 1).toInt64 2, SY I (CY I o 0 + CY I o 1).toInt64 2, I 9 o, OCT (CX I o 1 - CX I o 0) (CY I o 1 - CY I o 0), 0), SX I (CX I o 0 + CX I o 1).toInt64 2, SY I (CY I o 0 + CY I o 1).toInt64 2)) none
theorem gd2 : gdn 2 := ⟨by decide, by decide⟩
theorem CX_b {I : xm_I} (h : IvP I) (o k : Nat) : (-30000 ≤ (CX I o k).toInt ∧ (CX I o k).toInt ≤ 30000) ∧ -30000 ≤ (CY I o k).toInt ∧ (CY I o k).toInt ≤ 30000 := ⟨(PX_i h _).2, (PY_i h _).2⟩
theorem vc_n {I : xm_I} {o k : Nat} (g : IvF I) (ho : (o : Int) < (I 6 9).toInt) (hk : (k : Int) < (I 10 o).toInt) (h12 : k < 12) : vc I (n32 o) (n32 k) := by
  have g40 := g.1
  refine ⟨vo_n g ho, by rw [n32i (by omega)]; omega, ?_⟩
  rw [n32i (by omega), n32n (by omega)]
  exact hk
theorem xy_n {I : xm_I} {o k : Nat} (hp : IvP I) (g : IvF I) (ho : (o : Int) < (I 6 9).toInt) (hk : (k : Int) < (I 10 o).toInt) (h12 : k < 12) : f_Fg_xOf (n32 o) (n32 k) I = some (CX I o k) ∧ f_Fg_yOf (n32 o) (n32 k) I = some (CY I o k) ∧ f_M_cornerX (n32 o) (n32 k) I = some (CX I o k) ∧ f_M_cornerY (n32 o) (n32 k) I = some (CY I o k) := by
  have v := vc_n g ho hk h12
  have g40 := g.1
  have ot : Int32.toNatClampNeg (n32 o) = o := n32n (by omega)
  have kt : Int32.toNatClampNeg (n32 k) = k := n32n (by omega)
  have a := e_Fg_xOf hp g v
  have b := e_Fg_yOf hp g v
  have c := e_M_cornerX hp g v
  have d := e_M_cornerY hp g v
  rw [ot, kt] at a b c d
  exact ⟨a, b, c, d⟩
theorem paintDot {I : xm_I} {s : MS} {d : Anc} {o : Nat} (hp : IvP I) (g : IvF I) (hW : IvW I) (hs : 0 < (I 14 10).toInt) (ho : (o : Int) < (I 6 9).toInt) (hC : CM I s) (hD : DA I d) : ok (f_Pn_paintDot (n32 o) I) (fun J => RC1 I J s d o (resDot I o)) := by
  have g40 := g.1
  have hx := vo_n g ho
  have ot : Int32.toNatClampNeg (n32 o) = o := n32n (by omega)
  have ct := g.ct hx
  rw [ot] at ct
  obtain ⟨x0, y0, _, _⟩ := xy_n (k := 0) hp g ho (by omega) (by omega)
  have hst := e_Fg_styleOf hx
  rw [ot] at hst
  obtain ⟨v, hv1, hv2⟩ := e_holds (x := CX I o 0) (y := CY I o 0) (k := 1) hW.2.1 (by decide)
  rw [z1] at hv2
  have oi : 0 ≤ (n32 o).toInt ∧ (n32 o).toInt < 40 := by rw [n32i (by omega)]; omega
  unfold f_Pn_paintDot f_Pn_paintDot_b0 resDot
  refine ok_e x0 (ok_e y0 (ok_e hv1 ?_))
  rcases hv2 with ⟨h1, h2⟩ | ⟨h1, h2⟩
  · rw [@if_pos _ (Classical.propDecidable _) h2]
    refine ok_f (by rw [h1]; decide) (ok_e (e_Fr_sheetX hW hs gd1 _) (ok_e (e_Fr_sheetY hW hs gd1 _) (ok_e hst ?_)))
    have := emitC (x := n32 o) (a := 68) (b := SX I (CX I o 0).toInt64 1) (c := SY I (CY I o 0).toInt64 1) (e := I 8 o) (f := 0) (g := 0) (u := SX I (CX I o 0).toInt64 1) (v := SY I (CY I o 0).toInt64 1) oi hC hD
    rw [ot] at this
    exact this
  · rw [@if_neg _ (Classical.propDecidable _) h2]
    exact ok_t h1 (ok_s ⟨Fr.refl _ _, hC, hD⟩)
theorem paintAngle {I : xm_I} {s : MS} {d : Anc} {o : Nat} (hp : IvP I) (g : IvF I) (hW : IvW I) (hs : 0 < (I 14 10).toInt) (ho : (o : Int) < (I 6 9).toInt) (h3 : 3 ≤ (I 10 o).toInt) (hC : CM I s) (hD : DA I d) : ok (f_Pn_paintAngle (n32 o) I) (fun J => RC1 I J s d o (resAng I o)) := by
  have g40 := g.1
  have ot : Int32.toNatClampNeg (n32 o) = o := n32n (by omega)
  obtain ⟨x0, y0, _, _⟩ := xy_n (k := 0) hp g ho (by omega) (by omega)
  obtain ⟨x1, y1, _, _⟩ := xy_n (k := 1) hp g ho (by omega) (by omega)
  obtain ⟨x2, y2, _, _⟩ := xy_n (k := 2) hp g ho (by omega) (by omega)
  have b0 := CX_b hp o 0
  have b1 := CX_b hp o 1
  have b2 := CX_b hp o 2
  have d1 : (CX I o 0 - CX I o 1).toInt = (CX I o 0).toInt - (CX I o 1).toInt := i32s (by omega)
  have d2 : (CY I o 0 - CY I o 1).toInt = (CY I o 0).toInt - (CY I o 1).toInt := i32s (by omega)
  have d3 : (CX I o 2 - CX I o 1).toInt = (CX I o 2).toInt - (CX I o 1).toInt := i32s (by omega)
  have d4 : (CY I o 2 - CY I o 1).toInt = (CY I o 2).toInt - (CY I o 1).toInt := i32s (by omega)
  have q1 := (e_octant (x := CX I o 0 - CX I o 1) (y := CY I o 0 - CY I o 1) (by omega) (by omega)).1
  have q2 := (e_octant (x := CX I o 2 - CX I o 1) (y := CY I o 2 - CY I o 1) (by omega) (by omega)).1
  obtain ⟨v, hv1, hv2⟩ := e_holds (x := CX I o 1) (y := CY I o 1) (k := 1) hW.2.1 (by decide)
  rw [z1] at hv2
  have oi : 0 ≤ (n32 o).toInt ∧ (n32 o).toInt < 40 := by rw [n32i (by omega)]; omega
  unfold f_Pn_paintAngle f_Pn_paintAngle_b0 resAng
  refine ok_e x1 (ok_e y1 (ok_e hv1 ?_))
  rcases hv2 with ⟨h1, h2⟩ | ⟨h1, h2⟩
  · rw [@if_pos _ (Classical.propDecidable _) h2]
    refine ok_f (by rw [h1]; decide) (ok_e x0 (ok_e y0 (ok_e x2 (ok_e y2 (ok_e (e_Fr_sheetX hW hs gd1 _) (ok_e (e_Fr_sheetY hW hs gd1 _) (ok_e (e_opening _ _ _ _) (ok_e q1 (ok_e q2 ?_)))))))))
    have := emitC (x := n32 o) (a := 65) (b := SX I (CX I o 1).toInt64 1) (c := SY I (CY I o 1).toInt64 1) (e := OCT (CX I o 0 - CX I o 1) (CY I o 0 - CY I o 1)) (f := OCT (CX I o 2 - CX I o 1) (CY I o 2 - CY I o 1)) (g := OPN (CX I o 0 - CX I o 1).toInt64 (CY I o 0 - CY I o 1).toInt64 (CX I o 2 - CX I o 1).toInt64 (CY I o 2 - CY I o 1).toInt64) (u := SX I (CX I o 1).toInt64 1) (v := SY I (CY I o 1).toInt64 1) oi hC hD
    rw [ot] at this
    exact this
  · rw [@if_neg _ (Classical.propDecidable _) h2]
    exact ok_t h1 (ok_s ⟨Fr.refl _ _, hC, hD⟩)
theorem paintTicks {I : xm_I} {s : MS} {d : Anc} {o : Nat} (hp : IvP I) (g : IvF I) (hW : IvW I) (hs : 0 < (I 14 10).toInt) (ho : (o : Int) < (I 6 9).toInt) (h3 : 2 ≤ (I 10 o).toInt) (hC : CM I s) (hD : DA I d) : ok (f_Pn_paintTicks (n32 o) I) (fun J => RC1 I J s d o (resTic I o)) := by
  have g40 := g.1
  have ot : Int32.toNatClampNeg (n32 o) = o := n32n (by omega)
  have hx := vo_n g ho
  obtain ⟨x0, y0, _, _⟩ := xy_n (k := 0) hp g ho (by omega) (by omega)
  obtain ⟨x1, y1, _, _⟩ := xy_n (k := 1) hp g ho (by omega) (by omega)
  have b0 := CX_b hp o 0
  have b1 := CX_b hp o 1
  have d1 : (CX I o 1 - CX I o 0).toInt = (CX I o 1).toInt - (CX I o 0).toInt := i32s (by omega)
  have d2 : (CY I o 1 - CY I o 0).toInt = (CY I o 1).toInt - (CY I o 0).toInt := i32s (by omega)
  have q1 := (e_octant (x := CX I o 1 - CX I o 0) (y := CY I o 1 - CY I o 0) (by omega) (by omega)).1
  have hst := e_Fg_strokesOf hx
  rw [ot] at hst
  obtain ⟨v, hv1, hv2⟩ := e_holds (x := CX I o 0 + CX I o 1) (y := CY I o 0 + CY I o 1) (k := 2) hW.2.1 (by decide)
  rw [z2] at hv2
  have oi : 0 ≤ (n32 o).toInt ∧ (n32 o).toInt < 40 := by rw [n32i (by omega)]; omega
  unfold f_Pn_paintTicks f_Pn_paintTicks_b0 resTic
  refine ok_e x0 (ok_e x1 (ok_e y0 (ok_e y1 (ok_e hv1 ?_))))
  rcases hv2 with ⟨h1, h2⟩ | ⟨h1, h2⟩
  · rw [@if_pos _ (Classical.propDecidable _) h2]
    refine ok_f (by rw [h1]; decide) (ok_e (e_Fr_sheetX hW hs gd2 _) (ok_e (e_Fr_sheetY hW hs gd2 _) (ok_e x1 (ok_e x0 (ok_e y1 (ok_e y0 (ok_e q1 (ok_e hst ?_))))))))
    have := emitC (x := n32 o) (a := 84) (b := SX I (CX I o 0 + CX I o 1).toInt64 2) (c := SY I (CY I o 0 + CY I o 1).toInt64 2) (e := I 9 o) (f := OCT (CX I o 1 - CX I o 0) (CY I o 1 - CY I o 0)) (g := 0) (u := SX I (CX I o 0 + CX I o 1).toInt64 2) (v := SY I (CY I o 0 + CY I o 1).toInt64 2) oi hC hD
    rw [ot] at this
    exact this
  · rw [@if_neg _ (Classical.propDecidable _) h2]
    exact ok_t h1 (ok_s ⟨Fr.refl _ _, hC, hD⟩)
/-! the reference's -/
theorem m_angle {I : xm_I} {L : xm_L} {s : MS} {m : Nat} {d : Anc} {o : Nat} (hp : IvP I) (g : IvF I) (hW : IvW I) (hL : HL I L) (hs : 0 < (I 14 10).toInt) (ho : (o : Int) < (I 6 9).toInt) (h3 : 3 ≤ (I 10 o).toInt) (hC : MM I s) (hD : DM I m d) : ok (f_M_drawAngle (n32 o) I L) (fun J => RM1 I J m s d o (resAng I o)) := by
  have g40 := g.1
  have ot : Int32.toNatClampNeg (n32 o) = o := n32n (by omega)
  obtain ⟨_, _, x0, y0⟩ := xy_n (k := 0) hp g ho (by omega) (by omega)
  obtain ⟨_, _, x1, y1⟩ := xy_n (k := 1) hp g ho (by omega) (by omega)
  obtain ⟨_, _, x2, y2⟩ := xy_n (k := 2) hp g ho (by omega) (by omega)
  have b0 := CX_b hp o 0
  have b1 := CX_b hp o 1
  have b2 := CX_b hp o 2
  have d1 : (CX I o 0 - CX I o 1).toInt = (CX I o 0).toInt - (CX I o 1).toInt := i32s (by omega)
  have d2 : (CY I o 0 - CY I o 1).toInt = (CY I o 0).toInt - (CY I o 1).toInt := i32s (by omega)
  have d3 : (CX I o 2 - CX I o 1).toInt = (CX I o 2).toInt - (CX I o 1).toInt := i32s (by omega)
  have d4 : (CY I o 2 - CY I o 1).toInt = (CY I o 2).toInt - (CY I o 1).toInt := i32s (by omega)
  have q1 := (e_octant (x := CX I o 0 - CX I o 1) (y := CY I o 0 - CY I o 1) (by omega) (by omega)).2
  have q2 := (e_octant (x := CX I o 2 - CX I o 1) (y := CY I o 2 - CY I o 1) (by omega) (by omega)).2
  obtain ⟨v, hv1, hv2⟩ := e_M_has (x := CX I o 1) (y := CY I o 1) hW
  have oi : 0 ≤ (n32 o).toInt ∧ (n32 o).toInt < 40 := by rw [n32i (by omega)]; omega
  have fin : ∀ y : Int32, y = OPN (CX I o 0 - CX I o 1).toInt64 (CY I o 0 - CY I o 1).toInt64 (CX I o 2 - CX I o 1).toInt64 (CY I o 2 - CY I o 1).toInt64 → ok (f_M_drawAngle_b143 (n32 o) (CX I o 1) (CY I o 1) (CX I o 0 - CX I o 1) (CY I o 0 - CY I o 1) (CX I o 2 - CX I o 1) (CY I o 2 - CY I o 1) y I L) (fun J => RM1 I J m s d o (some ((65, SX I (CX I o 1).toInt64 1, SY I (CY I o 1).toInt64 1, OCT (CX I o 0 - CX I o 1) (CY I o 0 - CY I o 1), OCT (CX I o 2 - CX I o 1) (CY I o 2 - CY I o 1), OPN (CX I o 0 - CX I o 1).toInt64 (CY I o 0 - CY I o 1).toInt64 (CX I o 2 - CX I o 1).toInt64 (CY I o 2 - CY I o 1).toInt64), SX I (CX I o 1).toInt64 1, SY I (CY I o 1).toInt64 1))) := by
    intro y hy
    subst hy
    unfold f_M_drawAngle_b143
    refine ok_e (e_M_onX hW hL hs gd1 _) (ok_e (e_M_onY hW hL hs gd1 _) (ok_e q1 (ok_e q2 ?_)))
    have := emitM (m := m) (x := n32 o) (a := 65) (b := SX I (CX I o 1).toInt64 1) (c := SY I (CY I o 1).toInt64 1) (e := OCT (CX I o 0 - CX I o 1) (CY I o 0 - CY I o 1)) (f := OCT (CX I o 2 - CX I o 1) (CY I o 2 - CY I o 1)) (g := OPN (CX I o 0 - CX I o 1).toInt64 (CY I o 0 - CY I o 1).toInt64 (CX I o 2 - CX I o 1).toInt64 (CY I o 2 - CY I o 1).toInt64) (u := SX I (CX I o 1).toInt64 1) (v := SY I (CY I o 1).toInt64 1) oi hC hD
    rw [ot] at this
    exact this
  have op : ∀ a b c e : Int64, OPN a b c e = (if (a * e) - (b * c) = 0 then (if 0 ≤ (a * c) + (b * e) then 4 else 3) else (if (a * c) + (b * e) ≤ 0 then (if (a * c) + (b * e) = 0 then 1 else 2) else 0)) := by
    intro a b c e
    unfold OPN f_Pn_openingOf f_Pn_openingOf_b0
    dsimp only
    (repeat' split) <;> rfl
  unfold f_M_drawAngle f_M_drawAngle_b0 resAng
  refine ok_e x1 (ok_e y1 (ok_e hv1 ?_))
  rcases hv2 with ⟨h1, h2⟩ | ⟨h1, h2⟩
  · rw [@if_pos _ (Classical.propDecidable _) h2]
    refine ok_f (by rw [h1]; decide) (ok_e x0 (ok_e y0 (ok_e x2 (ok_e y2 ?_))))
    refine ok_i (fun c1 => ok_i (fun c2 => fin 4 ?_) (fun c2 => fin 3 ?_)) (fun c1 => ok_i (fun c2 => ok_i (fun c3 => fin 1 ?_) (fun c3 => fin 2 ?_)) (fun c2 => fin 0 ?_))
    · rw [op, if_pos c1, if_pos c2]
    · rw [op, if_pos c1, if_neg c2]
    · rw [op, if_neg c1, if_pos c2, if_pos c3]
    · rw [op, if_neg c1, if_pos c2, if_neg c3]
    · rw [op, if_neg c1, if_neg c2]
  · rw [@if_neg _ (Classical.propDecidable _) h2]
    exact ok_t h1 (ok_s ⟨Fr.refl _ _, hC, hD⟩)
theorem m_ticks {I : xm_I} {L : xm_L} {s : MS} {m : Nat} {d : Anc} {o : Nat} (hp : IvP I) (g : IvF I) (hW : IvW I) (hL : HL I L) (hs : 0 < (I 14 10).toInt) (ho : (o : Int) < (I 6 9).toInt) (h3 : 2 ≤ (I 10 o).toInt) (h58 : I 58 o = I 9 o) (hC : MM I s) (hD : DM I m d) : ok (f_M_drawTicks (n32 o) I L) (fun J => RM1 I J m s d o (resTic I o)) := by
  have g40 := g.1
  have ot : Int32.toNatClampNeg (n32 o) = o := n32n (by omega)
  obtain ⟨_, _, x0, y0⟩ := xy_n (k := 0) hp g ho (by omega) (by omega)
  obtain ⟨_, _, x1, y1⟩ := xy_n (k := 1) hp g ho (by omega) (by omega)
  have b0 := CX_b hp o 0
  have b1 := CX_b hp o 1
  have d1 : (CX I o 1 - CX I o 0).toInt = (CX I o 1).toInt - (CX I o 0).toInt := i32s (by omega)
  have d2 : (CY I o 1 - CY I o 0).toInt = (CY I o 1).toInt - (CY I o 0).toInt := i32s (by omega)
  have q1 := (e_octant (x := CX I o 1 - CX I o 0) (y := CY I o 1 - CY I o 0) (by omega) (by omega)).2
  have oi : 0 ≤ (n32 o).toInt ∧ (n32 o).toInt < 40 := by rw [n32i (by omega)]; omega
  obtain ⟨w1, w2, _⟩ := hW.2.1
  have m2 : ∀ a : Int32, -40000 ≤ a.toInt ∧ a.toInt ≤ 40000 → (2 * a).toInt = a.toInt * 2 := fun a ha => by rw [i32m (by rw [z2]; omega), z2]; omega
  have q15 := hW.1.1
  have q16 := hW.1.2.1
  have q17 := hW.1.2.2.1
  have q18 := hW.1.2.2.2.1
  have no : ¬ inW I (CX I o 0 + CX I o 1).toInt (CY I o 0 + CY I o 1).toInt 2 → RM1 I I m s d o (resTic I o) := by
    intro hn
    unfold resTic
    rw [@if_neg _ (Classical.propDecidable _) hn]
    exact ⟨Fr.refl _ _, hC, hD⟩
  unfold f_M_drawTicks f_M_drawTicks_b0
  refine ok_e x0 (ok_e x1 (ok_e y0 (ok_e y1 ?_)))
  rw [q15, q16, q17, q18]
  refine ok_lt (fun c => ok_s (no ?_)) (fun c1 => ok_lt (fun c => ok_s (no ?_)) (fun c2 => ok_lt (fun c => ok_s (no ?_)) (fun c3 => ok_le (fun c4 => ?_) (fun c => ok_s (no ?_)))))
  · rw [m2 _ (by omega)] at c
    intro hi
    have := hi.1
    omega
  · rw [m2 _ (by omega)] at c
    intro hi
    have := hi.2.1
    omega
  · rw [m2 _ (by omega)] at c
    intro hi
    have := hi.2.2.1
    omega
  · rw [m2 _ (by omega)] at c1 c2 c3 c4
    unfold resTic
    rw [@if_pos _ (Classical.propDecidable _) (show inW I _ _ 2 from ⟨c1, c2, c3, c4⟩)]
    refine ok_e (e_M_onX hW hL hs gd2 _) (ok_e (e_M_onY hW hL hs gd2 _) (ok_g oi (ok_e x1 (ok_e x0 (ok_e y1 (ok_e y0 (ok_e q1 ?_)))))))
    rw [ot, h58]
    have := emitM (m := m) (x := n32 o) (a := 84) (b := SX I (CX I o 0 + CX I o 1).toInt64 2) (c := SY I (CY I o 0 + CY I o 1).toInt64 2) (e := I 9 o) (f := OCT (CX I o 1 - CX I o 0) (CY I o 1 - CY I o 0)) (g := 0) (u := SX I (CX I o 0 + CX I o 1).toInt64 2) (v := SY I (CY I o 0 + CY I o 1).toInt64 2) oi hC hD
    rw [ot] at this
    exact this
  · rw [m2 _ (by omega)] at c
    intro hi
    have := hi.2.2.2
    omega
