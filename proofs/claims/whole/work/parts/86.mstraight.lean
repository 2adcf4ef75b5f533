/-! ===== straight objects of the reference; all the others ===== -/
abbrev W5 : List Nat := [71, 50049, 50050, 50041, 50042, 50061, 50062, 50063, 50064]
set_option maxRecDepth 100000 in
theorem dW5 : ∀ x ∈ STC, x ∉ W5 := by decide
set_option maxRecDepth 100000 in
theorem dWI : ∀ x ∈ STC, x ∉ WI := by decide
/-- what is left of a way in the reference -/
def wayV (I0 : xm_I) (J : xm_I) (x0 y0 x1 y1 : Int) (s : MS) (st v : Int32) : Option (Fq × Fq) → Prop
  | none => v = 0 ∧ MM J s
  | some (F, T) => v = 1 ∧ MM J (em s (wayM I0 x0 y0 x1 y1 F T st)) ∧ J 49 61 = (wayM I0 x0 y0 x1 y1 F T st).2.1 ∧ J 49 62 = (wayM I0 x0 y0 x1 y1 F T st).2.2.1 ∧ J 49 63 = (wayM I0 x0 y0 x1 y1 F T st).2.2.2.1 ∧ J 49 64 = (wayM I0 x0 y0 x1 y1 F T st).2.2.2.2.1
theorem fq_sm (x : Int32) : (osm (fqS x) ∧ osm (fqE x)) ∧ of_b (fqS x) ∧ of_b (fqE x) := by
  unfold fqS fqE
  refine ⟨⟨?_, ?_⟩, ?_, ?_⟩ <;> split
  · trivial
  · exact ⟨by decide, by decide, by decide⟩
  · trivial
  · exact ⟨by decide, by decide, by decide⟩
  · trivial
  · exact ⟨by decide, by decide, by decide⟩
  · trivial
  · exact ⟨by decide, by decide, by decide⟩
theorem HL.wl {I : xm_I} {L M : xm_L} (h : HL I L) (f : Fr WL L M) : HL I M := h.ag rfl rfl ⟨f 49 39 (by decide), f 49 40 (by decide)⟩
set_option maxRecDepth 100000 in
theorem m_way {n : Nat} {I0 I : xm_I} {L : xm_L} {s : MS} {x0 y0 x1 y1 bg en st : Int32} (hst : Sta n I0 I) (hL : HL I0 L) (hs : 0 < (I0 14 10).toInt) (b0 : -100000 ≤ x0.toInt ∧ x0.toInt ≤ 100000) (b1 : -100000 ≤ y0.toInt ∧ y0.toInt ≤ 100000) (b2 : -100000 ≤ x1.toInt ∧ x1.toInt ≤ 100000) (b3 : -100000 ≤ y1.toInt ∧ y1.toInt ≤ 100000) (hbg : bg = 0 ∨ bg = 1) (hen : en = 0 ∨ en = 1) (hne : x1.toInt ≠ x0.toInt ∨ y1.toInt ≠ y0.toInt) (hM : MM I s) : ok (f_M_way x0 y0 x1 y1 bg en st I L) (fun q => Fr W5 I q.2.1 ∧ Fr WL L q.2.2 ∧ wayV I0 q.2.1 x0.toInt y0.toInt x1.toInt y1.toInt s st q.1 (wayC I0 x0.toInt y0.toInt x1.toInt y1.toInt (fqS bg) (fqE en))) := by
  have hW := hst.1.2.2.1
  have c0 : I 49 15 = I0 14 0 := by rw [hW.1.1]; exact hst.2 14 0 (by decide)
  have c1 : I 49 16 = I0 14 1 := by rw [hW.1.2.1]; exact hst.2 14 1 (by decide)
  have c2 : I 49 17 = I0 14 2 := by rw [hW.1.2.2.1]; exact hst.2 14 2 (by decide)
  have c3 : I 49 18 = I0 14 3 := by rw [hW.1.2.2.2.1]; exact hst.2 14 3 (by decide)
  have wb : WB I0 := by
    have := hW.2.1
    unfold WB at this ⊢
    rw [hst.2 14 0 (by decide), hst.2 14 1 (by decide), hst.2 14 2 (by decide), hst.2 14 3 (by decide), hst.2 14 4 (by decide), hst.2 14 5 (by decide), hst.2 14 6 (by decide)] at this
    exact this
  have wb' := wb
  obtain ⟨w1, w2, _⟩ := wb'
  have d1 : (x1 - x0).toInt64.toInt = x1.toInt - x0.toInt := by rw [i64of, i32s (by omega)]
  have d2 : (y1 - y0).toInt64.toInt = y1.toInt - y0.toInt := by rw [i64of, i32s (by omega)]
  unfold f_M_way f_M_way_b0
  rw [c0, c1, c2, c3]
  refine ok_b (ok_mono (clips_ok (by omega) (by omega) (by omega) (by omega) (by omega) (by omega) (by omega) (by omega) hbg hen (by omega)) (fun p hp => ?_))
  obtain ⟨p1, p2, p3⟩ := hp
  have hMp : MM p.2.1 s := hM.kept (p1 49 49 (by decide)) (p1 49 50 (by decide)) (p1.row 71 rfl (by decide))
  have hp3 : cutM p.2.2 (wayC I0 x0.toInt y0.toInt x1.toInt y1.toInt (fqS bg) (fqE en)) p.1 := p3
  cases hc : wayC I0 x0.toInt y0.toInt x1.toInt y1.toInt (fqS bg) (fqE en) with
  | none =>
    rw [hc] at hp3
    have hv : p.1 = 0 := hp3
    exact ok_t hv (ok_s ⟨p1.mono (by decide), p2, rfl, hMp⟩)
  | some FT =>
    obtain ⟨F, T⟩ := FT
    rw [hc] at hp3
    obtain ⟨v1, f1, f2, t1, t2⟩ := hp3
    have hc' := hc
    unfold wayC at hc'
    obtain ⟨sF, sT⟩ := CL_sm b0 b1 b2 b3 w1 w2 (fq_sm bg).1.1 (fq_sm en).1.2 hc'
    unfold sm at sF sT
    have gF : gdn (i6 F.2) := by rw [gdn, i6_i (by omega)]; omega
    have gT : gdn (i6 T.2) := by rw [gdn, i6_i (by omega)]; omega
    obtain ⟨_, l1, l3⟩ := lin64 (a := x0.toInt64) (w := (x1 - x0).toInt64) (n := p.2.2 49 43) (d := p.2.2 49 44) (i64of x0) d1 f1 f2 b0 (by omega) sF.1 sF.2
    obtain ⟨_, l4, _⟩ := lin64 (a := y0.toInt64) (w := (y1 - y0).toInt64) (n := p.2.2 49 43) (d := p.2.2 49 44) (i64of y0) d2 f1 f2 b1 (by omega) sF.1 sF.2
    obtain ⟨_, l5, l6⟩ := lin64 (a := x0.toInt64) (w := (x1 - x0).toInt64) (n := p.2.2 49 45) (d := p.2.2 49 46) (i64of x0) d1 t1 t2 b0 (by omega) sT.1 sT.2
    obtain ⟨_, l7, _⟩ := lin64 (a := y0.toInt64) (w := (y1 - y0).toInt64) (n := p.2.2 49 45) (d := p.2.2 49 46) (i64of y0) d2 t1 t2 b1 (by omega) sT.1 sT.2
    have hpst : Sta n I0 p.2.1 := hst.of p1 dWI
    refine ok_f (by rw [v1]; decide) ?_
    dsimp only
    rw [l1, l4, l5, l7, l3, l6]
    refine ok_b (ok_mono (m_stroke hpst (hL.wl p2) hs gF gF gT gT hMp) (fun J hJ => ok_s ⟨(p1.mono (by decide)).trans (hJ.1.mono (by decide)), p2, rfl, hJ.2.1, hJ.2.2.1, hJ.2.2.2.1, hJ.2.2.2.2.1, hJ.2.2.2.2.2⟩))
theorem SW_ag {I0 I : xm_I} {n : Nat} (h : Sta n I0 I) (x0 y0 x1 y1 : Int) (F T : Fq) (st : Int32) : wayM I x0 y0 x1 y1 F T st = wayM I0 x0 y0 x1 y1 F T st := by
  unfold wayM
  rw [h.sx.1, h.sx.2]
theorem m_straight {n : Nat} {I : xm_I} {L : xm_L} {s : MS} {m : Nat} {d : Anc} {o : Nat} {bg en : Int32} (hst : Sta n I I) (hL : HL I L) (hs : 0 < (I 14 10).toInt) (ho : (o : Int) < (I 6 9).toInt) (h3 : 2 ≤ (I 10 o).toInt) (hne : (CX I o 1).toInt ≠ (CX I o 0).toInt ∨ (CY I o 1).toInt ≠ (CY I o 0).toInt) (hbg : bg = 0 ∨ bg = 1) (hen : en = 0 ∨ en = 1) (eF : fqS bg = k0F (I 7 o)) (eT : fqE en = k0T (I 7 o)) (hC : MM I s) (hD : DM I m d) : ok (f_M_drawObject_b192 (n32 o) (CX I o 0) (CY I o 0) (CX I o 1) (CY I o 1) bg en I L) (fun q => RM1 I q.1 m s d o (resStr I o) ∧ Fr WL L q.2) := by
  obtain ⟨hp, g, hW, _, _⟩ := hst.1
  have g40 := g.1
  have ot : Int32.toNatClampNeg (n32 o) = o := n32n (by omega)
  have b0 := CX_b hp o 0
  have b1 := CX_b hp o 1
  have d57 : I 57 = I 8 := g.2.2.1.2.2.2.1
  have oi : 0 ≤ (n32 o).toInt ∧ (n32 o).toInt < 40 := by rw [n32i (by omega)]; omega
  unfold f_M_drawObject_b192
  refine ok_g oi ?_
  rw [ot, d57]
  refine ok_b (ok_mono (m_way (st := I 8 o) hst hL hs (by omega) (by omega) (by omega) (by omega) hbg hen hne hC) (fun p hp' => ?_))
  obtain ⟨p1, p2, p3⟩ := hp'
  rw [eF, eT] at p3
  have hDp : DM p.2.1 m d := hD.kept (p1.row 73 rfl (by decide)) (p1.row 74 rfl (by decide)) (p1.row 75 rfl (by decide))
  unfold resStr
  cases hc : wayC I (CX I o 0).toInt (CY I o 0).toInt (CX I o 1).toInt (CY I o 1).toInt (k0F (I 7 o)) (k0T (I 7 o)) with
  | none =>
    rw [hc] at p3
    exact ok_t p3.1 (ok_s ⟨⟨p1.mono (by decide), p3.2, hDp⟩, p2⟩)
  | some FT =>
    obtain ⟨F, T⟩ := FT
    rw [hc] at p3
    obtain ⟨v1, q1, q2, q3, q4, q5⟩ := p3
    have k2 : (2 : Int64).toInt = 2 := by decide
    refine ok_f (by rw [v1]; decide) ?_
    rw [q2, q3, q4, q5]
    refine ok_e (e_M_floor (by omega)) (ok_e (e_M_floor (by omega)) (ok_b (ok_mono (show_ok oi hDp) (fun J hJ => ok_s ⟨⟨(p1.mono (by decide)).trans (hJ.1.mono (by decide)), ?_, ?_⟩, p2⟩))))
    · exact q1.kept (hJ.1 49 49 (by decide)) (hJ.1 49 50 (by decide)) (hJ.1.row 71 rfl (by decide))
    · have := hJ.2
      rw [ot] at this
      exact this
/-- what an object other than an area makes -/
noncomputable def resO (I : xm_I) (o : Nat) : Res := if I 7 o = 0 then resDot I o else if I 7 o = 4 then resCir I o else if I 7 o = 5 then resAng I o else if I 7 o = 6 then resTic I o else resStr I o
theorem not_fallen {I : xm_I} {o : Nat} (hd : drawB I o = true) (h0 : ¬ I 7 o = 0) (h5 : ¬ I 7 o = 5) (h7 : ¬ I 7 o = 7) : (CX I o 1).toInt ≠ (CX I o 0).toInt ∨ (CY I o 1).toInt ≠ (CY I o 0).toInt := by
  unfold drawB fallB at hd
  rw [if_neg h0, if_neg h5, if_neg h7, Bool.and_eq_true, Bool.not_eq_true', decide_eq_false_iff_not] at hd
  refine Classical.byContradiction fun hh => hd.2 ?_
  have h1 : (CX I o 1).toInt = (CX I o 0).toInt := Classical.byContradiction fun k => hh (Or.inl k)
  have h2 : (CY I o 1).toInt = (CY I o 0).toInt := Classical.byContradiction fun k => hh (Or.inr k)
  exact ⟨by rw [eq32, h1], by rw [eq32, h2]⟩
theorem paintOther {I : xm_I} {L : xm_L} {s : MS} {d : Anc} {o : Nat} (hp : IvP I) (g : IvF I) (hW : IvW I) (hs : 0 < (I 14 10).toInt) (ho : (o : Int) < (I 6 9).toInt) (h7 : ¬ I 7 o = 7) (hd : drawB I o = true) (hC : CM I s) (hD : DA I d) : ok (f_Pn_paintOther (n32 o) I L) (fun q => RC1 I q.1 s d o (resO I o) ∧ Fr WK L q.2) := by
  have g40 := g.1
  have ot : Int32.toNatClampNeg (n32 o) = o := n32n (by omega)
  have hx := vo_n g ho
  have ct := g.ct hx
  have hkd := e_Fg_kindOf hx
  rw [ot] at ct hkd
  have k4 := z4
  have k5 := z5
  have k6 := z6
  unfold f_Pn_paintOther f_Pn_paintOther_b0 f_Pn_paintOther_b60 resO
  refine ok_e hkd ?_
  by_cases c0 : I 7 o = 0
  · rw [show (if I 7 o = 0 then resDot I o else if I 7 o = 4 then resCir I o else if I 7 o = 5 then resAng I o else if I 7 o = 6 then resTic I o else resStr I o) = resDot I o from if_pos c0]
    exact ok_t c0 (ok_b (ok_mono (paintDot hp g hW hs ho hC hD) fun J hJ => ok_s ⟨hJ, Fr.refl _ _⟩))
  · rw [show (if I 7 o = 0 then resDot I o else if I 7 o = 4 then resCir I o else if I 7 o = 5 then resAng I o else if I 7 o = 6 then resTic I o else resStr I o) = (if I 7 o = 4 then resCir I o else if I 7 o = 5 then resAng I o else if I 7 o = 6 then resTic I o else resStr I o) from if_neg c0]
    have c0' : (I 7 o).toInt ≠ 0 := fun k => c0 (by rw [eq32, k, z0])
    have h2 := ct.2.2.2.1 c0'
    have str : ¬ I 7 o = 4 → ¬ I 7 o = 5 → ¬ I 7 o = 6 → ok ((f_Pn_paintStraight (n32 o) I L).bind fun p_1 => some (p_1.1, p_1.2)) (fun q => RC1 I q.1 s d o (if I 7 o = 4 then resCir I o else if I 7 o = 5 then resAng I o else if I 7 o = 6 then resTic I o else resStr I o) ∧ Fr WK L q.2) := by
      intro a4 a5 a6
      rw [if_neg a4, if_neg a5, if_neg a6]
      exact ok_b (ok_mono (paintStraight hp g hW hs ho h2 (not_fallen hd c0 a5 h7) hC hD) fun q hq => ok_s hq)
    refine ok_f c0 (ok_i (fun c1 => str (by rw [c1]; decide) (by rw [c1]; decide) (by rw [c1]; decide)) (fun c1 => ok_i (fun c2 => str (by rw [c2]; decide) (by rw [c2]; decide) (by rw [c2]; decide)) (fun c2 => ok_i (fun c3 => str (by rw [c3]; decide) (by rw [c3]; decide) (by rw [c3]; decide)) (fun c3 => ok_i (fun c4 => ?_) (fun c4 => ok_i (fun c5 => ?_) (fun c5 => ok_i (fun c6 => ?_) (fun c6 => ?_)))))))
    · rw [if_pos c4]
      exact ok_b (ok_mono (paintCircle hp g hW hs ho h2 hC hD) fun J hJ => ok_s ⟨hJ, Fr.refl _ _⟩)
    · rw [if_neg c4, if_pos c5]
      exact ok_b (ok_mono (paintAngle hp g hW hs ho (ct.2.2.2.2.1 (by rw [c5]; exact k5)) hC hD) fun J hJ => ok_s ⟨hJ, Fr.refl _ _⟩)
    · rw [if_neg c4, if_neg c5, if_pos c6]
      exact ok_b (ok_mono (paintTicks hp g hW hs ho h2 hC hD) fun J hJ => ok_s ⟨hJ, Fr.refl _ _⟩)
    · exfalso
      have e : ∀ v : Int32, ¬ I 7 o = v → (I 7 o).toInt ≠ v.toInt := fun v hv k => hv (by rw [eq32, k])
      have e1 := e _ c1
      have e2 := e _ c2
      have e3 := e _ c3
      have e4 := e _ c4
      have e5 := e _ c5
      have e6 := e _ c6
      have e7 := e _ h7
      have := z1
      have := z2
      have := z3
      have := z7
      omega
theorem drawObject {n : Nat} {I : xm_I} {L : xm_L} {s : MS} {m : Nat} {d : Anc} {o : Nat} (hst : Sta n I I) (hL : HL I L) (hs : 0 < (I 14 10).toInt) (ho : (o : Int) < (I 6 9).toInt) (h7 : ¬ I 7 o = 7) (hd : drawB I o = true) (hC : MM I s) (hD : DM I m d) : ok (f_M_drawObject (n32 o) I L) (fun q => RM1 I q.1 m s d o (resO I o) ∧ Fr WL L q.2) := by
  obtain ⟨hp, g, hW, _, _⟩ := hst.1
  have g40 := g.1
  have ot : Int32.toNatClampNeg (n32 o) = o := n32n (by omega)
  have hx := vo_n g ho
  have ct := g.ct hx
  have hob := g.obj hx
  rw [ot] at ct hob
  have k4 := z4
  have k5 := z5
  have k6 := z6
  have d54 : I 54 = I 7 := g.2.2.1.2.2.1
  have d57 : I 57 = I 8 := g.2.2.1.2.2.2.1
  have oi : 0 ≤ (n32 o).toInt ∧ (n32 o).toInt < 40 := by rw [n32i (by omega)]; omega
  obtain ⟨_, _, x0, y0⟩ := xy_n (k := 0) hp g ho (by omega) (by omega)
  unfold f_M_drawObject f_M_drawObject_b0 resO
  refine ok_e x0 (ok_e y0 (ok_g oi ?_))
  rw [ot, d54, d57]
  by_cases c0 : I 7 o = 0
  · rw [show (if I 7 o = 0 then resDot I o else if I 7 o = 4 then resCir I o else if I 7 o = 5 then resAng I o else if I 7 o = 6 then resTic I o else resStr I o) = resDot I o from if_pos c0]
    obtain ⟨v, hv1, hv2⟩ := e_M_has (x := CX I o 0) (y := CY I o 0) hW
    unfold resDot
    refine ok_t c0 (ok_e hv1 ?_)
    rcases hv2 with ⟨h1, h2⟩ | ⟨h1, h2⟩
    · rw [@if_pos _ (Classical.propDecidable _) h2]
      have E := emitM (m := m) (x := n32 o) (a := 68) (b := SX I (CX I o 0).toInt64 1) (c := SY I (CY I o 0).toInt64 1) (e := I 8 o) (f := 0) (g := 0) (u := SX I (CX I o 0).toInt64 1) (v := SY I (CY I o 0).toInt64 1) oi hC hD
      obtain ⟨K, hK1, hK2⟩ := E
      obtain ⟨M1, hM1, hM2⟩ := bind_some hK1
      obtain ⟨A1, hA1, hA2⟩ := bind_some hM2
      cases hA2
      rw [ot] at hK2
      exact ok_f (by rw [h1]; decide) (ok_e (e_M_onX hW hL hs gd1 _) (ok_e (e_M_onY hW hL hs gd1 _) (ok_g oi (ok_e hM1 (ok_e hA1 (ok_s ⟨hK2, Fr.refl _ _⟩))))))
    · rw [@if_neg _ (Classical.propDecidable _) h2]
      exact ok_t h1 (ok_s ⟨⟨Fr.refl _ _, hC, hD⟩, Fr.refl _ _⟩)
  · rw [show (if I 7 o = 0 then resDot I o else if I 7 o = 4 then resCir I o else if I 7 o = 5 then resAng I o else if I 7 o = 6 then resTic I o else resStr I o) = (if I 7 o = 4 then resCir I o else if I 7 o = 5 then resAng I o else if I 7 o = 6 then resTic I o else resStr I o) from if_neg c0]
    have c0' : (I 7 o).toInt ≠ 0 := fun k => c0 (by rw [eq32, k, z0])
    have h2 := ct.2.2.2.1 c0'
    obtain ⟨_, _, x1, y1⟩ := xy_n (k := 1) hp g ho (by omega) (by omega)
    have str : ¬ I 7 o = 4 → ¬ I 7 o = 5 → ¬ I 7 o = 6 → ok (f_M_drawObject_b147 (n32 o) (CX I o 0) (CY I o 0) I L) (fun q => RM1 I q.1 m s d o (if I 7 o = 4 then resCir I o else if I 7 o = 5 then resAng I o else if I 7 o = 6 then resTic I o else resStr I o) ∧ Fr WL L q.2) := by
      intro a4 a5 a6
      rw [if_neg a4, if_neg a5, if_neg a6]
      have go : ∀ bg en : Int32, (bg = 0 ∨ bg = 1) → (en = 0 ∨ en = 1) → fqS bg = k0F (I 7 o) → fqE en = k0T (I 7 o) → ok (f_M_drawObject_b192 (n32 o) (CX I o 0) (CY I o 0) (CX I o 1) (CY I o 1) bg en I L) (fun q => RM1 I q.1 m s d o (resStr I o) ∧ Fr WL L q.2) := fun bg en hb he eF eT => m_straight hst hL hs ho h2 (not_fallen hd c0 a5 h7) hb he eF eT hC hD
      unfold f_M_drawObject_b147 f_M_drawObject_b177
      refine ok_e x1 (ok_e y1 (ok_g oi ?_))
      rw [ot, d54]
      by_cases q2 : I 7 o = 2
      · have q1 : ¬ I 7 o = 1 := by rw [q2]; decide
        refine ok_t q2 (ok_g oi (ok_f q1 (go 0 0 (Or.inl rfl) (Or.inl rfl) ?_ ?_)))
        · unfold fqS k0F
          rw [if_pos rfl, if_pos q2]
        · unfold fqE k0T
          rw [if_pos rfl, if_neg q1]
      · have e1 : fqS 1 = k0F (I 7 o) := by
          unfold fqS k0F
          rw [if_neg (by decide), if_neg q2]
        refine ok_f q2 (ok_g oi ?_)
        by_cases q1 : I 7 o = 1
        · refine ok_t q1 (go 1 1 (Or.inr rfl) (Or.inr rfl) e1 ?_)
          unfold fqE k0T
          rw [if_neg (by decide), if_pos q1]
        · refine ok_f q1 (go 1 0 (Or.inr rfl) (Or.inl rfl) e1 ?_)
          unfold fqE k0T
          rw [if_pos rfl, if_neg q1]
    refine ok_f c0 (ok_i (fun c1 => str (by rw [c1]; decide) (by rw [c1]; decide) (by rw [c1]; decide)) (fun c1 => ok_i (fun c2 => str (by rw [c2]; decide) (by rw [c2]; decide) (by rw [c2]; decide)) (fun c2 => ok_i (fun c3 => str (by rw [c3]; decide) (by rw [c3]; decide) (by rw [c3]; decide)) (fun c3 => ok_i (fun c4 => ?_) (fun c4 => ok_i (fun c5 => ?_) (fun c5 => ok_i (fun c6 => ?_) (fun c6 => str c4 c5 c6)))))))
    · rw [if_pos c4]
      exact ok_b (ok_mono (m_circle hp g hW hL hs ho h2 hC hD) fun J hJ => ok_s ⟨hJ, Fr.refl _ _⟩)
    · rw [if_neg c4, if_pos c5]
      exact ok_b (ok_mono (m_angle hp g hW hL hs ho (ct.2.2.2.2.1 (by rw [c5]; exact k5)) hC hD) fun J hJ => ok_s ⟨hJ, Fr.refl _ _⟩)
    · rw [if_neg c4, if_neg c5, if_pos c6]
      exact ok_b (ok_mono (m_ticks hp g hW hL hs ho h2 (hob.2.2.1 (by rw [c6]; exact k6)) hC hD) fun J hJ => ok_s ⟨hJ, Fr.refl _ _⟩)
