/-! ===== all objects but areas ===== -/
set_option maxRecDepth 100000 in
theorem Sta.res {n : Nat} {I0 I : xm_I} (h : Sta n I0 I) (o : Nat) : resO I o = resO I0 o := by
  obtain ⟨c1, c2⟩ := h.cx
  obtain ⟨sx, sy⟩ := h.sx
  have e0 : I 14 0 = I0 14 0 := h.2 14 0 (by decide)
  have e1 : I 14 1 = I0 14 1 := h.2 14 1 (by decide)
  have e2 : I 14 2 = I0 14 2 := h.2 14 2 (by decide)
  have e3 : I 14 3 = I0 14 3 := h.2 14 3 (by decide)
  have e9 : I 14 9 = I0 14 9 := h.2 14 9 (by decide)
  have e10 : I 14 10 = I0 14 10 := h.2 14 10 (by decide)
  have r7 : I 7 = I0 7 := h.2.row 7 rfl (by decide)
  have r8 : I 8 = I0 8 := h.2.row 8 rfl (by decide)
  have r9 : I 9 = I0 9 := h.2.row 9 rfl (by decide)
  have w1 : ∀ x y k, inW I x y k = inW I0 x y k := fun x y k => by unfold inW; rw [e0, e1, e2, e3]
  have w2 : ∀ x y S, meetI I x y S = meetI I0 x y S := fun x y S => by unfold meetI; rw [e0, e1, e2, e3]
  have w3 : ∀ x y S, holdI I x y S = holdI I0 x y S := fun x y S => by unfold holdI; rw [e0, e1, e2, e3]
  have w4 : SQ I o = SQ I0 o := by unfold SQ; rw [c1, c2]
  have w5 : ∀ S, RAD I S = RAD I0 S := fun S => by unfold RAD radA; rw [e9, e10]
  have w6 : ∀ x0 y0 x1 y1 f0 t0, wayC I x0 y0 x1 y1 f0 t0 = wayC I0 x0 y0 x1 y1 f0 t0 := fun x0 y0 x1 y1 f0 t0 => by unfold wayC; rw [e0, e1, e2, e3]
  have w7 : ∀ x0 y0 x1 y1 F T st, wayM I x0 y0 x1 y1 F T st = wayM I0 x0 y0 x1 y1 F T st := SW_ag h
  have a1 : resDot I o = resDot I0 o := by unfold resDot; rw [c1, c2, sx, sy, r8, w1]
  have a2 : resCir I o = resCir I0 o := by unfold resCir; rw [w4, c1, c2, sx, sy, r8, w5, w2, w3]
  have a3 : resAng I o = resAng I0 o := by unfold resAng; rw [c1, c2, sx, sy, w1]
  have a4 : resTic I o = resTic I0 o := by unfold resTic; rw [c1, c2, sx, sy, r9, w1]
  have a5 : resStr I o = resStr I0 o := by unfold resStr; simp only [w6, w7, c1, c2, r7, r8]
  unfold resO
  rw [r7, a1, a2, a3, a4, a5]
theorem Sta.self {n : Nat} {I0 I : xm_I} (h : Sta n I0 I) : Sta n I I := ⟨h.1, fun _ _ _ => rfl⟩
/-- marks and anchors after the first objects -/
noncomputable def osd (I : xm_I) (x : MS × Anc) : Nat → MS × Anc
  | 0 => x
  | o + 1 => if I 7 o = 7 then osd I x o else if drawB I o = true then (emS (osd I x o).1 (resO I o), emA (osd I x o).2 o (resO I o)) else osd I x o
set_option maxRecDepth 100000 in
theorem paintOthers {n : Nat} {I0 I : xm_I} {L : xm_L} {s : MS} {d : Anc} (hst : Sta n I0 I) (hs : 0 < (I0 14 10).toInt) (hC : CM I s) (hD : DA I d) : ok (f_Pn_paintOthers I L) (fun q => Fr WP I q.1 ∧ Fr WK L q.2 ∧ CM q.1 (osd I0 (s, d) (Int32.toNatClampNeg (I0 6 9))).1 ∧ DA q.1 (osd I0 (s, d) (Int32.toNatClampNeg (I0 6 9))).2) := by
  have e69 : I 6 9 = I0 6 9 := hst.2 6 9 (by decide)
  have g40 : 0 ≤ (I0 6 9).toInt ∧ (I0 6 9).toInt ≤ 40 := by rw [← e69]; exact hst.1.2.1.1
  have t := tn32 g40.1
  unfold f_Pn_paintOthers f_Pn_paintOthers_b0 f_Pn_paintOthers_b2
  refine lp_inv (fun st => ∃ o : Nat, o ≤ Int32.toNatClampNeg (I0 6 9) ∧ st.1 = n32 o ∧ Fr WP I st.2.1 ∧ Fr WK L st.2.2 ∧ CM st.2.1 (osd I0 (s, d) o).1 ∧ DA st.2.1 (osd I0 (s, d) o).2) (fun st => (41 - st.1.toInt).toNat) _ ?_ (0, I, L) ⟨0, by omega, rfl, Fr.refl _ _, Fr.refl _ _, hC, hD⟩
  rintro ⟨oo, J, M⟩ ⟨o, ho, q1, q2, q3, q4, q5⟩
  simp only at q1 q2 q3 q4 q5
  subst q1
  have oi : (n32 o).toInt = o := n32i (by omega)
  have ot : Int32.toNatClampNeg (n32 o) = o := n32n (by omega)
  have hJ : Sta n I0 J := hst.of q2 dWP
  have j69 : J 6 9 = I0 6 9 := hJ.2 6 9 (by decide)
  have j7 : J 7 = I0 7 := hJ.2.row 7 rfl (by decide)
  have j10 : J 14 10 = I0 14 10 := hJ.2 14 10 (by decide)
  unfold f_Pn_paintOthers_s2 f_Pn_paintOthers_b42
  dsimp only
  refine ok_le (fun hc => ok_s ?_) (fun hc => ?_)
  · rw [j69] at hc
    have e : o = Int32.toNatClampNeg (I0 6 9) := by omega
    rw [e] at q4 q5
    exact ⟨q2, q3, q4, q5⟩
  · rw [j69] at hc
    have hoJ : (o : Int) < (J 6 9).toInt := by rw [j69]; omega
    have hx := vo_n hJ.1.2.1 hoJ
    have hkd := e_Fg_kindOf hx
    rw [ot, j7] at hkd
    have hdr := (e_isDrawn hJ.1.1 hJ.1.2.1 hx).1
    rw [ot, hJ.dw] at hdr
    have dec : (41 - (n32 o + 1).toInt).toNat < (41 - (n32 o).toInt).toNat := by
      rw [i32p (by omega) (by omega)]
      omega
    have es := n32s (k := o) (by omega)
    refine ok_e hkd ?_
    by_cases c7 : I0 7 o = 7
    · have eo : osd I0 (s, d) (o + 1) = osd I0 (s, d) o := by show (if _ then _ else _) = _; rw [if_pos c7]
      exact ok_t c7 (ok_s ⟨⟨o + 1, by omega, es, q2, q3, by rw [eo]; exact q4, by rw [eo]; exact q5⟩, dec⟩)
    · refine ok_f c7 (ok_e hdr (ok_ib (fun hn => ?_) (fun hy => ?_)))
      · have eo : osd I0 (s, d) (o + 1) = osd I0 (s, d) o := by show (if _ then _ else _) = _; rw [if_neg c7, if_neg hn]
        exact ok_s ⟨⟨o + 1, by omega, es, q2, q3, by rw [eo]; exact q4, by rw [eo]; exact q5⟩, dec⟩
      · have eo : osd I0 (s, d) (o + 1) = (emS (osd I0 (s, d) o).1 (resO I0 o), emA (osd I0 (s, d) o).2 o (resO I0 o)) := by show (if _ then _ else _) = _; rw [if_neg c7, if_pos hy]
        refine ok_b (ok_mono (paintOther (L := M) hJ.1.1 hJ.1.2.1 hJ.1.2.2.1 (by rw [j10]; exact hs) hoJ (by rw [j7]; exact c7) (by rw [hJ.dw]; exact hy) q4 q5) (fun q hq => ok_s ⟨⟨o + 1, by omega, es, q2.trans hq.1.1, q3.trans hq.2, ?_, ?_⟩, dec⟩))
        · have := hq.1.2.1
          rw [hJ.res o] at this
          rw [eo]
          exact this
        · have := hq.1.2.2
          rw [hJ.res o] at this
          rw [eo]
          exact this
set_option maxRecDepth 100000 in
theorem drawOthers {n : Nat} {I0 I : xm_I} {L : xm_L} {s : MS} {d : Anc} {K : Int32 × xm_I × xm_L → Prop} (hst : Sta n I0 I) (hL : HL I0 L) (hs : 0 < (I0 14 10).toInt) (hC : MM I s) (hD : DM I (Int32.toNatClampNeg (I0 6 9)) d) (hK : ∀ J M, Fr WO I J → Fr WL L M → MM J (osd I0 (s, d) (Int32.toNatClampNeg (I0 6 9))).1 → DM J (Int32.toNatClampNeg (I0 6 9)) (osd I0 (s, d) (Int32.toNatClampNeg (I0 6 9))).2 → ok (f_M_draw_b220 (0, J, M)) K) : ok (f_M_draw_b180 (0, I, L)) K := by
  have e69 : I 6 9 = I0 6 9 := hst.2 6 9 (by decide)
  have g40 : 0 ≤ (I0 6 9).toInt ∧ (I0 6 9).toInt ≤ 40 := by rw [← e69]; exact hst.1.2.1.1
  have t := tn32 g40.1
  unfold f_M_draw_b180
  refine lp_inv (fun st => ∃ o : Nat, o ≤ Int32.toNatClampNeg (I0 6 9) ∧ st.1 = n32 o ∧ Fr WO I st.2.1 ∧ Fr WL L st.2.2 ∧ MM st.2.1 (osd I0 (s, d) o).1 ∧ DM st.2.1 (Int32.toNatClampNeg (I0 6 9)) (osd I0 (s, d) o).2) (fun st => (41 - st.1.toInt).toNat) _ ?_ (0, I, L) ⟨0, by omega, rfl, Fr.refl _ _, Fr.refl _ _, hC, hD⟩
  rintro ⟨oo, J, M⟩ ⟨o, ho, q1, q2, q3, q4, q5⟩
  simp only at q1 q2 q3 q4 q5
  subst q1
  have oi : (n32 o).toInt = o := n32i (by omega)
  have ot : Int32.toNatClampNeg (n32 o) = o := n32n (by omega)
  have hJ : Sta n I0 J := hst.of q2 dWO
  have j69 : J 6 9 = I0 6 9 := hJ.2 6 9 (by decide)
  have j7 : J 7 = I0 7 := hJ.2.row 7 rfl (by decide)
  have j9 : J 14 9 = I0 14 9 := hJ.2 14 9 (by decide)
  have j10 : J 14 10 = I0 14 10 := hJ.2 14 10 (by decide)
  have j11 : J 49 11 = I0 6 9 := by rw [hJ.1.2.1.2.2.1.1, j69]
  have j54 : J 54 = I0 7 := by rw [hJ.1.2.1.2.2.1.2.2.1, j7]
  unfold f_M_draw_s180 f_M_draw_b212
  dsimp only
  refine ok_le (fun hc => ?_) (fun hc => ?_)
  · rw [j11] at hc
    have e : o = Int32.toNatClampNeg (I0 6 9) := by omega
    rw [e] at q4 q5
    exact ok_m (ok_mono (hK J M q2 q3 q4 q5) fun _ h => h)
  · rw [j11] at hc
    have hoJ : (o : Int) < (J 6 9).toInt := by rw [j69]; omega
    have hx := vo_n hJ.1.2.1 hoJ
    have hdr := (e_isDrawn hJ.1.1 hJ.1.2.1 hx).2
    rw [ot, hJ.dw] at hdr
    have dec : (41 - (n32 o + 1).toInt).toNat < (41 - (n32 o).toInt).toNat := by
      rw [i32p (by omega) (by omega)]
      omega
    have es := n32s (k := o) (by omega)
    refine ok_g (by omega) ?_
    have j54' : J 54 (Int32.toNatClampNeg (n32 o)) = I0 7 o := by rw [j54, ot]
    by_cases c7 : I0 7 o = 7
    · have eo : osd I0 (s, d) (o + 1) = osd I0 (s, d) o := by show (if _ then _ else _) = _; rw [if_pos c7]
      exact ok_t (by rw [j54']; exact c7) (ok_s ⟨⟨o + 1, by omega, es, q2, q3, by rw [eo]; exact q4, by rw [eo]; exact q5⟩, dec⟩)
    · refine ok_f (by rw [j54']; exact c7) (ok_e hdr (ok_ib (fun hn => ?_) (fun hy => ?_)))
      · have eo : osd I0 (s, d) (o + 1) = osd I0 (s, d) o := by show (if _ then _ else _) = _; rw [if_neg c7, if_neg hn]
        exact ok_s ⟨⟨o + 1, by omega, es, q2, q3, by rw [eo]; exact q4, by rw [eo]; exact q5⟩, dec⟩
      · have eo : osd I0 (s, d) (o + 1) = (emS (osd I0 (s, d) o).1 (resO I0 o), emA (osd I0 (s, d) o).2 o (resO I0 o)) := by show (if _ then _ else _) = _; rw [if_neg c7, if_pos hy]
        have hLJ : HL J M := (hL.wl q3).ag j9 j10 ⟨rfl, rfl⟩
        refine ok_b (ok_mono (drawObject hJ.self hLJ (by rw [j10]; exact hs) hoJ (by rw [j7]; exact c7) (by rw [hJ.dw]; exact hy) q4 q5) (fun q hq => ok_s ⟨⟨o + 1, by omega, es, q2.trans hq.1.1, q3.trans hq.2, ?_, ?_⟩, dec⟩))
        · have := hq.1.2.1
          rw [hJ.res o] at this
          rw [eo]
          exact this
        · have := hq.1.2.2
          rw [hJ.res o] at this
          rw [eo]
          exact this
