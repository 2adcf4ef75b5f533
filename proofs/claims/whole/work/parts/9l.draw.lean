/-! ===== a drawing, whole ===== -/
theorem beginC {I : xm_I} : ok (f_Pn_begin I) (fun J => Fr WP I J ∧ CM J (frm I) ∧ DA J d0) := by
  have k40 : (40 : Int32).toInt = 40 := by decide
  unfold f_Pn_begin f_Pn_begin_b0 f_Mk_clear f_Mk_clear_b0 f_Pn_begin_b35
  simp only [Option.bind_some]
  have hC : CM (up2 (up2 I 17 4 0) 17 5 0) ([], 0) := ⟨by decide, rfl, rfl, fun i m h => by cases h⟩
  have f0 : Fr WP I (up2 (up2 I 17 4 0) 17 5 0) := Fr.up (Fr.up (Fr.refl _ _) (by decide)) (by decide)
  refine ok_b (ok_mono (mk_add hC) (fun A hA => ?_))
  have f1 : Fr WP I A := f0.trans (hA.1.mono (by decide))
  refine lp_inv (fun t => ∃ k : Nat, k ≤ 40 ∧ t.1 = n32 k ∧ Fr [31] A t.2 ∧ ∀ o, o < k → t.2 31 o = 0) (fun t => (41 - t.1.toInt).toNat) _ ?_ (0, A) ⟨0, by omega, rfl, Fr.refl _ _, fun o ho => by omega⟩
  rintro ⟨kk, J⟩ ⟨k, hk, q1, q2, q3⟩
  simp only at q1 q2 q3
  subst q1
  have ki : (n32 k).toInt = k := n32i (by omega)
  have kt : Int32.toNatClampNeg (n32 k) = k := n32n (by omega)
  unfold f_Pn_begin_s35
  dsimp only
  refine ok_le (fun hc => ok_s ?_) (fun hc => ok_g (by omega) (ok_s ⟨⟨k + 1, by omega, n32s (by omega), Fr.upA q2 (by decide) (by decide), fun o ho => ?_⟩, ?_⟩))
  · have e : k = 40 := by omega
    subst e
    exact ⟨f1.trans (q2.mono (by decide)), hA.2.kept (q2 17 4 (by decide)) (q2 17 5 (by decide)) (q2.row 18 rfl (by decide)), fun o ho => q3 o ho⟩
  · show up2 J 31 (Int32.toNatClampNeg (n32 k)) (0 &&& 1) 31 o = 0
    rw [kt]
    by_cases e : o = k
    · rw [e, up2_self]
      decide
    · rw [up2_nk _ _ _ _ _ e]
      exact q3 o (by omega)
  · show (41 - (n32 k + 1).toInt).toNat < (41 - (n32 k).toInt).toNat
    rw [i32p (by omega) (by omega)]
    omega
noncomputable def drQ (I : xm_I) : QQ := qOf I (drw I).2 (drw I).1.1
noncomputable def drS (I : xm_I) : MS := ems (drw I).1 (wm (drQ I) (plQ (drQ I)) (QG (drQ I)))
abbrev WDC : List Nat := [18, 18004, 18005, 31, 32, 33, 34, 35, 31012, 31013, 39001, 39002, 39003, 39004, 24, 22004, 22005, 22006, 22007, 40, 41, 42, 43, 44, 45, 46, 47, 48, 40013, 40014, 40015, 19, 20, 18003, 18006, 1009]
abbrev WLC : List Nat := [36, 37, 39005, 39006, 39007, 39008]
theorem sealed {n : Nat} {I T : xm_I} {L M : xm_L} (hst : Sta n I T) (hok : Sta n I I) (f : Fr WP I T) (fL : Fr WLC L M) (hC : CM T (drw I).1) (hD : DA T (drw I).2) : ok (f_D_draw_b49 n T M) (fun q => Fr WDC I q.2.1 ∧ Fr WLC L q.2.2 ∧ endC I q.2.1 (drQ I) (drw I).1 (plQ (drQ I)) (Int32.toNatClampNeg (I 21 3)) (QG (drQ I)) ∧ q.2.1 21 4 = I 21 3 ∧ q.2.1 21 7 = n32 (rdQ (drQ I)) ∧ SL q.2.1 (drS I).1 ∧ q.2.1 0 9 = (if 0 < (I 14 10).toInt then 0 else 6) ∧ q.1 = (if 0 < (I 14 10).toInt then n32 (drS I).1.length else 0)) := by
  obtain ⟨o1, o2, o3⟩ := drw_ok hok
  unfold f_D_draw_b49
  refine ok_b (ok_mono (placeAll hst hD o2 o1 hC) (fun A hA => ?_))
  obtain ⟨fA, eA, a4, a7⟩ := hA
  refine ok_b (ok_mono (seal_ok eA.1) (fun B hB => ?_))
  obtain ⟨fB, sB⟩ := hB
  have b10 : B 14 10 = I 14 10 := by rw [fB 14 10 (by decide), fA 14 10 (by decide)]; exact hst.2 14 10 (by decide)
  have eB : ∀ v : Int32, endC I (up2 B 0 9 v) (drQ I) (drw I).1 (plQ (drQ I)) (Int32.toNatClampNeg (I 21 3)) (QG (drQ I)) := by
    intro v
    obtain ⟨c1, c2, c3, c4, c5⟩ := eA
    refine ⟨c1.kept (fB 17 4 (by decide)) (fB 17 5 (by decide)) (fB.row 18 rfl (by decide)), ?_, ?_, fun j hj => ?_, fun l hl hj => ?_⟩
    · show B 21 5 = _
      rw [fB 21 5 (by decide)]
      exact c2
    · show B 21 6 = _
      rw [fB 21 6 (by decide)]
      exact c3
    · show B 24 _ = _
      rw [fB.row 24 rfl (by decide)]
      exact c4 j hj
    · show B 24 _ = _
      rw [fB.row 24 rfl (by decide)]
      exact c5 l hl hj
  have fr : ∀ v : Int32, Fr WDC I (up2 B 0 9 v) := fun v => Fr.up (((f.mono (by decide)).trans (fA.mono (by decide))).trans (fB.mono (by decide))) (by decide)
  have b4 : B 21 4 = I 21 3 := by rw [fB 21 4 (by decide)]; exact a4
  have b7 : B 21 7 = n32 (rdQ (drQ I)) := by rw [fB 21 7 (by decide)]; exact a7
  refine ok_e (e_Fr_hasScale B) (ok_ib (fun hn => ?_) (fun hy => ok_s ?_))
  · rw [b10] at hn
    unfold f_D_endWith f_D_endWith_b0
    simp only [Option.bind_some]
    refine ok_s ⟨fr 6, fL, eB 6, b4, b7, sB, ?_, ?_⟩
    · rw [if_neg hn]
      exact up2_self B 0 9 6
    · rw [if_neg hn]
  · rw [b10] at hy
    refine ⟨fr 0, fL, eB 0, b4, b7, sB, ?_, ?_⟩
    · rw [if_pos hy]
      exact up2_self B 0 9 0
    · rw [if_pos hy]
      exact (eB 0).1.2.1
theorem drawC {n : Nat} {I : xm_I} {L : xm_L} (hst : Sta n I I) : ok (f_D_draw n I L) (fun q => Fr WDC I q.2.1 ∧ Fr WLC L q.2.2 ∧ endC I q.2.1 (drQ I) (drw I).1 (plQ (drQ I)) (Int32.toNatClampNeg (I 21 3)) (QG (drQ I)) ∧ q.2.1 21 4 = I 21 3 ∧ q.2.1 21 7 = n32 (rdQ (drQ I)) ∧ SL q.2.1 (drS I).1 ∧ q.2.1 0 9 = (if 0 < (I 14 10).toInt then 0 else 6) ∧ q.1 = (if 0 < (I 14 10).toInt then n32 (drS I).1.length else 0)) := by
  unfold f_D_draw f_D_draw_b0
  refine ok_b (ok_mono beginC (fun A hA => ?_))
  obtain ⟨fA, cA, dA⟩ := hA
  have sA : Sta n I A := hst.of fA dWP
  have a10 : A 14 10 = I 14 10 := sA.2 14 10 (by decide)
  refine ok_e (e_Fr_hasScale A) (ok_ib (fun hn => ?_) (fun hy => ?_))
  · rw [a10] at hn
    have e : drw I = (frm I, d0) := if_neg hn
    refine sealed sA hst fA (Fr.refl _ _) ?_ ?_
    · rw [e]
      exact cA
    · rw [e]
      exact dA
  · rw [a10] at hy
    have e : drw I = (ems (mdr I).1 (solA I), (mdr I).2) := if_pos hy
    refine ok_b (ok_mono (paintGrid_f sA hy cA) (fun B hB => ?_))
    have sB : Sta n I B := sA.of hB.1 dWX
    have dB : DA B d0 := dA.kept (hB.1.row 31 rfl (by decide)) (hB.1.row 32 rfl (by decide)) (hB.1.row 33 rfl (by decide))
    have fB : Fr WP I B := fA.trans (hB.1.mono (by decide))
    refine ok_b (ok_mono (paintAreas (L := L) sB hy hB.2 dB) (fun C hC => ?_))
    obtain ⟨c1, c2, c3, c4⟩ := hC
    have sC : Sta n I C.1 := sB.of c1 dWP
    refine ok_b (ok_mono (paintOthers (L := C.2) sC hy c2 c3) (fun D hD => ?_))
    obtain ⟨e1, e2, e3, e4⟩ := hD
    have sD : Sta n I D.1 := sC.of e1 dWP
    refine ok_b (ok_mono (paintSolids_f (L := D.2) sD hy e3) (fun E hE => ?_))
    obtain ⟨g1, g2, g3⟩ := hE
    have sE : Sta n I E.1 := sD.of g1 dWX
    refine sealed sE hst (((fB.trans c1).trans e1).trans (g1.mono (by decide))) (((c4.mono (by decide)).trans (e2.mono (by decide))).trans (g2.mono (by decide))) ?_ ?_
    · rw [e]
      exact g3
    · rw [e]
      exact e4.kept (g1.row 31 rfl (by decide)) (g1.row 32 rfl (by decide)) (g1.row 33 rfl (by decide))
/-! the reference -/
theorem gs_none (I : xm_I) (k : Nat) : gsL I d0 k = [] := by
  induction k with
  | zero => rfl
  | succ k ih =>
    rw [gsL_succ, ih]
    rfl
abbrev WLM : List Nat := [77, 78, 50043, 50044, 50045, 50046, 50039, 50040]
abbrev WB0 : List Nat := [50038, 50047, 50049, 50050, 50058, 50059, 50060, 50056, 73, 76]
def ST0 (I0 I J : xm_I) : Prop := Fr WB0 I J ∧ J 49 38 = 0 ∧ J 49 47 = 1 ∧ J 49 49 = 0 ∧ J 49 50 = 0 ∧ J 49 58 = 0 ∧ J 49 59 = 0 ∧ J 49 60 = 0 ∧ J 49 56 = I0 21 3
theorem ST0.row {I0 I J : xm_I} {a k : Nat} {v : Int32} (h : ST0 I0 I J) (ha : a = 73 ∨ a = 76) : ST0 I0 I (up2 J a k v) := by
  obtain ⟨h0, h1, h2, h3, h4, h5, h6, h7, h8⟩ := h
  rcases ha with rfl | rfl
  · exact ⟨Fr.upA h0 (by decide) (by decide), h1, h2, h3, h4, h5, h6, h7, h8⟩
  · exact ⟨Fr.upA h0 (by decide) (by decide), h1, h2, h3, h4, h5, h6, h7, h8⟩
set_option maxRecDepth 100000 in
theorem dWB0 : ∀ x ∈ STC, x ∉ WB0 := by decide
def endM (I0 : xm_I) (q : Int32 × xm_I × xm_L) : Prop := MM q.2.1 (drS I0) ∧ OB q.2.1 (octs (drS I0).1) ∧ q.2.1 49 38 = (if 0 < (I0 14 10).toInt then 0 else 6) ∧ q.2.1 49 47 = 1 ∧ q.2.1 49 56 = I0 21 3 ∧ q.2.1 49 58 = n32 (Int32.toNatClampNeg (I0 21 3) - (QG (drQ I0) - ov (plQ (drQ I0)) (QG (drQ I0)))) ∧ q.2.1 49 59 = n32 (cv (drQ I0) (plQ (drQ I0)) (QG (drQ I0))) ∧ q.2.1 49 60 = n32 (rdQ (drQ I0)) ∧ (∀ g, g < QG (drQ I0) → q.2.1 76 (lab (drQ I0) g) = n32 (plQ (drQ I0) g)) ∧ (∀ l, l < Int32.toNatClampNeg (I0 21 3) → (∀ g, g < QG (drQ I0) → lab (drQ I0) g ≠ l) → q.2.1 76 l = 8) ∧ q.1 = (if 0 < (I0 14 10).toInt then n32 (drS I0).1.length else 0)
theorem drawMt {n : Nat} {I0 I J : xm_I} {L : xm_L} (hok : Sta n I0 I0) (hst : Sta n I0 I) (h0 : ST0 I0 I J) (h73 : ∀ o, o < Int32.toNatClampNeg (I0 6 9) → J 73 o = 0) (h76 : ∀ l, l < Int32.toNatClampNeg (I0 21 3) → J 76 l = 8) : ok ((f_M_add 70 (J 49 19) (J 49 20) 0 0 0 J).bind fun p_1 => (f_M_hasScale p_1 L).bind fun p_2 => if p_2.1 = 0 then ((f_M_lay (up2 (up2 p_1 49 38 6) 49 58 (up2 p_1 49 38 6 49 37))).bind fun p_6 => some ((.inr (0, p_6, p_2.2) : (Int32 × xm_I) ⊕ (Int32 × xm_I × xm_L)))) else ((f_M_drawGrid p_1 p_2.2).bind fun p_3 => (f_M_draw_b140 (0, p_3, p_2.2)).map .inr)) (fun r => ∃ q, r = .inr q ∧ Fr WM I q.2.1 ∧ Fr WLM L q.2.2 ∧ endM I0 q) := by
  obtain ⟨o1, o2, o3⟩ := drw_ok hok
  obtain ⟨f0, s38, s47, s49, s50, s58, s59, s60, s56⟩ := h0
  have sJ : Sta n I0 J := hst.of f0 dWB0
  have h20 := hok.1.2.2.2.2.1
  have hW := sJ.1.2.2.1
  have c4 : J 49 19 = I0 14 4 := by rw [hW.1.2.2.2.2.1]; exact sJ.2 14 4 (by decide)
  have c5 : J 49 20 = I0 14 5 := by rw [hW.1.2.2.2.2.2.1]; exact sJ.2 14 5 (by decide)
  have hM0 : MM J ([], 0) := ⟨by decide, s49, s50, fun i m h => by cases h⟩
  rw [c4, c5]
  refine ok_b (ok_mono (mm_add hM0) (fun A hA => ?_))
  obtain ⟨fA, mA⟩ := hA
  have sA : Sta n I0 A := sJ.of (fA.mono (W := WM) (by decide)) dWM
  have a10 : A 14 10 = I0 14 10 := sA.2 14 10 (by decide)
  have fIA : Fr WM I A := (f0.mono (by decide)).trans (fA.mono (by decide))
  have dA : DM A (Int32.toNatClampNeg (I0 6 9)) d0 := fun o ho => by
    show A 73 o = 0
    rw [fA.row 73 rfl (by decide)]
    exact h73 o ho
  have a76 : ∀ l, l < Int32.toNatClampNeg (I0 21 3) → A 76 l = 8 := fun l hl => by
    rw [fA.row 76 rfl (by decide)]
    exact h76 l hl
  by_cases hs : 0 < (I0 14 10).toInt
  · have e : drw I0 = (ems (mdr I0).1 (solA I0), (mdr I0).2) := if_pos hs
    have eS : f_M_hasScale A L = some (1, LSc A L) := by
      rw [e_M_hasScale sA.1.2.2.1 L]
      exact if_pos (by rw [a10]; exact hs)
    have hL : HL I0 (LSc A L) := ⟨by show (A 14 9).toInt64 = _; rw [sA.2 14 9 (by decide)], by show (A 14 10).toInt64 = _; rw [a10]⟩
    have fLS : Fr WLM L (LSc A L) := Fr.up (Fr.up (Fr.refl _ _) (by decide)) (by decide)
    refine ok_e eS (ok_f (by show ¬ (1 : Int32) = 0; decide) (ok_b (ok_mono (m_drawGrid sA hL hs mA) (fun B hB => ok_m ?_))))
    have sB : Sta n I0 B := sA.of (hB.1.mono (W := WM) (by decide)) dWM
    have dB : DM B (Int32.toNatClampNeg (I0 6 9)) d0 := dA.kept (hB.1.row 73 rfl (by decide)) (hB.1.row 74 rfl (by decide)) (hB.1.row 75 rfl (by decide))
    refine drawAreas sB hL hs hB.2 dB (fun C MC c1 c1' c2 c3 => ?_)
    have sC : Sta n I0 C := sB.of c1 dWAr
    have hLC : HL I0 MC := hL.ag rfl rfl ⟨c1' 49 39 (by decide), c1' 49 40 (by decide)⟩
    refine drawOthers sC hLC hs c2 c3 (fun D MD e1 e1' e2 e3 => ?_)
    have sD : Sta n I0 D := sC.of e1 dWO
    have hLD : HL I0 MD := hLC.ag rfl rfl ⟨e1' 49 39 (by decide), e1' 49 40 (by decide)⟩
    refine drawSolids sD hLD hs e2 (fun E ME g1 g1' g2 => ?_)
    have sE : Sta n I0 E := sD.of (g1.mono (W := WM) (by decide)) dWM
    have fJE : Fr [71, 50049, 50050, 50061, 50062, 50063, 50064, 73, 74, 75, 50067, 50041, 50042, 68, 50034] J E := ((((fA.mono (by decide)).trans (hB.1.mono (by decide))).trans (c1.mono (by decide))).trans (e1.mono (by decide))).trans (g1.mono (by decide))
    have dE : DM E (Int32.toNatClampNeg (I0 6 9)) (drw I0).2 := by
      rw [e]
      exact e3.kept (g1.row 73 rfl (by decide)) (g1.row 74 rfl (by decide)) (g1.row 75 rfl (by decide))
    have mE : MM E (drw I0).1 := by
      rw [e]
      exact g2
    unfold f_M_draw_b249
    refine ok_b (ok_mono (placeM (L := ME) sE dE o2 o1 mE (by rw [fJE 49 58 (by decide), s58]) (by rw [fJE 49 59 (by decide), s59]) (by rw [fJE 49 60 (by decide), s60]) (fun l hl => by rw [fJE.row 76 rfl (by decide)]; exact h76 l hl)) (fun P hP => ?_))
    obtain ⟨p1, p1', p2, p3, p4, p5, p6, p7⟩ := hP
    refine ok_b (ok_mono (lay_ok p2) (fun T hT => ok_s ⟨_, rfl, ?_, ?_, ?_⟩))
    · exact (((f0.mono (by decide)).trans (fJE.mono (by decide))).trans (p1.mono (by decide))).trans (hT.1.mono (by decide))
    · exact (((fLS.trans (c1'.mono (by decide))).trans (e1'.mono (by decide))).trans (g1'.mono (by decide))).trans (p1'.mono (by decide))
    · have mT : MM T (drS I0) := p2.kept (hT.1 49 49 (by decide)) (hT.1 49 50 (by decide)) (hT.1.row 71 rfl (by decide))
      refine ⟨mT, hT.2, ?_, ?_, ?_, ?_, ?_, ?_, fun g hg => ?_, fun l hl hne => ?_, ?_⟩
      · show T 49 38 = _
        rw [if_pos hs, hT.1 49 38 (by decide), p1 49 38 (by decide), fJE 49 38 (by decide), s38]
      · show T 49 47 = _
        rw [hT.1 49 47 (by decide), p1 49 47 (by decide), fJE 49 47 (by decide), s47]
      · show T 49 56 = _
        rw [hT.1 49 56 (by decide), p1 49 56 (by decide), fJE 49 56 (by decide), s56]
      · show T 49 58 = _
        rw [hT.1 49 58 (by decide)]
        exact p3
      · show T 49 59 = _
        rw [hT.1 49 59 (by decide)]
        exact p4
      · show T 49 60 = _
        rw [hT.1 49 60 (by decide)]
        exact p5
      · show T 76 _ = _
        rw [hT.1.row 76 rfl (by decide)]
        exact p6 g hg
      · show T 76 _ = _
        rw [hT.1.row 76 rfl (by decide)]
        exact p7 l hl hne
      · show T 49 49 = _
        rw [if_pos hs]
        exact mT.2.1
  · have e : drw I0 = (frm I0, d0) := if_neg hs
    have eS : f_M_hasScale A L = some (0, L) := by
      rw [e_M_hasScale sA.1.2.2.1 L]
      exact if_neg (by rw [a10]; exact hs)
    have eg : QG (drQ I0) = 0 := by
      show (gsL I0 (drw I0).2 (Int32.toNatClampNeg (I0 21 3))).length = 0
      rw [e, gs_none]
      rfl
    have eD : drS I0 = frm I0 := by
      unfold drS
      rw [eg, e]
      rfl
    have mT0 : MM (up2 (up2 A 49 38 6) 49 58 (up2 A 49 38 6 49 37)) (frm I0) := mA
    refine ok_e eS (ok_t rfl (ok_b (ok_mono (lay_ok mT0) (fun T hT => ok_s ⟨_, rfl, ?_, Fr.refl _ _, ?_⟩))))
    · exact (Fr.up (Fr.up fIA (by decide)) (by decide)).trans (hT.1.mono (by decide))
    · have mT : MM T (drS I0) := by
        rw [eD]
        exact mT0.kept (hT.1 49 49 (by decide)) (hT.1 49 50 (by decide)) (hT.1.row 71 rfl (by decide))
      have a37 : A 49 37 = I0 21 3 := by rw [sA.1.2.2.2.2.2.1.1]; exact sA.2 21 3 (by decide)
      refine ⟨mT, by rw [eD]; exact hT.2, ?_, ?_, ?_, ?_, ?_, ?_, fun g hg => ?_, fun l hl hne => ?_, ?_⟩
      · show T 49 38 = _
        rw [if_neg hs, hT.1 49 38 (by decide)]
        rfl
      · show T 49 47 = _
        rw [hT.1 49 47 (by decide)]
        show A 49 47 = _
        rw [fA 49 47 (by decide), s47]
      · show T 49 56 = _
        rw [hT.1 49 56 (by decide)]
        show A 49 56 = _
        rw [fA 49 56 (by decide), s56]
      · show T 49 58 = _
        rw [hT.1 49 58 (by decide)]
        show A 49 37 = _
        rw [a37, eg]
        show _ = n32 (Int32.toNatClampNeg (I0 21 3) - (0 - 0))
        rw [Nat.sub_self, Nat.sub_zero, n32x h20.1]
      · show T 49 59 = _
        rw [hT.1 49 59 (by decide)]
        show A 49 59 = _
        rw [fA 49 59 (by decide), s59, eg]
        rfl
      · show T 49 60 = _
        rw [hT.1 49 60 (by decide)]
        show A 49 60 = _
        have er : rdQ (drQ I0) = 0 := if_neg (by rw [eg]; omega)
        rw [fA 49 60 (by decide), s60, er]
        rfl
      · rw [eg] at hg
        omega
      · show T 76 _ = _
        rw [hT.1.row 76 rfl (by decide)]
        show A 76 l = _
        exact a76 l hl
      · rw [if_neg hs]
theorem drawM {n : Nat} {I0 I : xm_I} {L : xm_L} (hok : Sta n I0 I0) (hst : Sta n I0 I) : ok (f_M_draw I L) (fun q => Fr WM I q.2.1 ∧ Fr WLM L q.2.2 ∧ endM I0 q) := by
  have e69 : I 6 9 = I0 6 9 := hst.2 6 9 (by decide)
  have e3 : I 21 3 = I0 21 3 := hst.2 21 3 (by decide)
  have h20 := hst.1.2.2.2.2.1
  rw [e3] at h20
  have g40 : 0 ≤ (I0 6 9).toInt ∧ (I0 6 9).toInt ≤ 40 := by rw [← e69]; exact hst.1.2.1.1
  have t := tn32 g40.1
  have t3 := tn32 h20.1
  have i37 : I 49 37 = I0 21 3 := by rw [hst.1.2.2.2.2.2.1.1, e3]
  have i11 : I 49 11 = I0 6 9 := by rw [hst.1.2.1.2.2.1.1, e69]
  unfold f_M_draw f_M_draw_b0 f_M_draw_b45
  dsimp only
  refine lp_inv (fun st => ∃ o : Nat, o ≤ Int32.toNatClampNeg (I0 6 9) ∧ st.1 = n32 o ∧ ST0 I0 I st.2 ∧ ∀ j, j < o → st.2 73 j = 0) (fun st => (41 - st.1.toInt).toNat) _ ?_ _ ⟨0, by omega, rfl, ⟨?_, rfl, rfl, rfl, rfl, rfl, rfl, rfl, i37⟩, fun j hj => by omega⟩
  · rintro ⟨oo, J⟩ ⟨o, ho, q1, q2, q3⟩
    simp only at q1 q2 q3
    subst q1
    have oi : (n32 o).toInt = o := n32i (by omega)
    have ot : Int32.toNatClampNeg (n32 o) = o := n32n (by omega)
    have j11 : J 49 11 = I0 6 9 := by rw [q2.1 49 11 (by decide), i11]
    unfold f_M_draw_s45
    dsimp only
    refine ok_le (fun hc => ?_) (fun hc => ?_)
    · rw [j11] at hc
      have e : o = Int32.toNatClampNeg (I0 6 9) := by omega
      subst e
      refine ok_m ?_
      unfold f_M_draw_b68
      refine ok_mono (lp_inv (fun st => ∃ k : Nat, k ≤ Int32.toNatClampNeg (I0 21 3) ∧ st.1 = n32 k ∧ ST0 I0 I st.2 ∧ (∀ j, j < Int32.toNatClampNeg (I0 6 9) → st.2 73 j = 0) ∧ ∀ l, l < k → st.2 76 l = 8) (fun st => (21 - st.1.toInt).toNat) (fun q : Int32 × xm_I × xm_L => Fr WM I q.2.1 ∧ Fr WLM L q.2.2 ∧ endM I0 q) ?_ (0, J) ⟨0, by omega, rfl, q2, q3, fun l hl => by omega⟩) (fun q hq => hq)
      rintro ⟨kk, V⟩ ⟨k, hk, v1, v2, v3, v4⟩
      simp only at v1 v2 v3 v4
      subst v1
      have ki : (n32 k).toInt = k := n32i (by omega)
      have kt : Int32.toNatClampNeg (n32 k) = k := n32n (by omega)
      have v37 : V 49 37 = I0 21 3 := by rw [v2.1 49 37 (by decide), i37]
      unfold f_M_draw_s68
      dsimp only
      refine ok_le (fun hd => ?_) (fun hd => ?_)
      · rw [v37] at hd
        have e : k = Int32.toNatClampNeg (I0 21 3) := by omega
        subst e
        refine ok_mono (drawMt (L := L) hok hst v2 v3 v4) (fun r hr => ?_)
        obtain ⟨q, rfl, h1⟩ := hr
        exact h1
      · rw [v37] at hd
        refine ok_g (by omega) (ok_s ⟨⟨k + 1, by omega, n32s (by omega), v2.row (Or.inr rfl), v3, fun l hl => ?_⟩, ?_⟩)
        · show up2 V 76 (Int32.toNatClampNeg (n32 k)) 8 76 l = 8
          rw [kt]
          by_cases e : l = k
          · rw [e, up2_self]
          · rw [up2_nk _ _ _ _ _ e]
            exact v4 l (by omega)
        · show (21 - (n32 k + 1).toInt).toNat < (21 - (n32 k).toInt).toNat
          rw [i32p (by omega) (by omega)]
          omega
    · rw [j11] at hc
      refine ok_g (by omega) (ok_s ⟨⟨o + 1, by omega, n32s (by omega), q2.row (Or.inl rfl), fun j hj => ?_⟩, ?_⟩)
      · show up2 J 73 (Int32.toNatClampNeg (n32 o)) (0 &&& 1) 73 j = 0
        rw [ot]
        by_cases e : j = o
        · rw [e, up2_self]
          decide
        · rw [up2_nk _ _ _ _ _ e]
          exact q3 j (by omega)
      · show (41 - (n32 o + 1).toInt).toNat < (41 - (n32 o).toInt).toNat
        rw [i32p (by omega) (by omega)]
        omega
  · exact Fr.up (Fr.up (Fr.up (Fr.up (Fr.up (Fr.up (Fr.up (Fr.up (Fr.refl _ _) (by decide)) (by decide)) (by decide)) (by decide)) (by decide)) (by decide)) (by decide)) (by decide)
set_option maxRecDepth 100000 in
theorem dWDC : ∀ x ∈ STC, x ∉ WDC := by decide
theorem c_draw {n : Nat} {I : xm_I} {L : xm_L} (hst : Sta n I I) : ok (f_D_draw n I L) (fun p => Fr WDC I p.2.1 ∧ ok (f_M_draw p.2.1 p.2.2) (fun q => p.1 = q.1 ∧ Sta n I q.2.1 ∧ Fr WM p.2.1 q.2.1 ∧ IvC q.2.1 ∧ IvD q.2.1 ∧ Fr (WLC ++ WLM) L q.2.2)) := by
  refine ok_mono (drawC hst) (fun p hp => ?_)
  obtain ⟨f1, fl1, ec, c4, c7, cs, c9, cr⟩ := hp
  have sP : Sta n I p.2.1 := hst.of f1 dWDC
  refine ⟨f1, ok_mono (drawM (L := p.2.2) hst sP) (fun q hq => ?_)⟩
  obtain ⟨f2, fl2, m1, m2, m3, m4, m5, m6, m7, m8, m9, m10, m11⟩ := hq
  obtain ⟨e1, e2, e3, e4, e5⟩ := ec
  have h20 := hst.1.2.2.2.2.1
  have t3 := tn32 h20.1
  have q4 : q.2.1 21 4 = I 21 3 := by rw [f2 21 4 (by decide)]; exact c4
  refine ⟨by rw [cr, m11], sP.of f2 dWM, f2, ?_, ⟨⟨drS I, ?_, m1, ?_, m2, fun h => ?_⟩, ?_, ?_, fun h => ?_, fun l hl => ?_, ?_, ?_, ?_⟩, (fl1.mono (fun x hx => List.mem_append_left _ hx)).trans (fl2.mono (fun x hx => List.mem_append_right _ hx))⟩
  · show q.2.1 0 9 = q.2.1 49 38
    rw [f2 0 9 (by decide), c9, m3]
  · exact e1.kept (f2 17 4 (by decide)) (f2 17 5 (by decide)) (f2.row 18 rfl (by decide))
  · unfold SL at cs ⊢
    rw [f2 17 6 (by decide), f2.row 19 rfl (by decide)]
    exact cs
  · rw [m4] at h
    exact absurd h (by decide)
  · rw [q4]
    exact h20
  · rw [q4]
    exact m5
  · rw [m4] at h
    exact absurd h (by decide)
  · rw [q4] at hl
    have hl' : l < Int32.toNatClampNeg (I 21 3) := by omega
    rw [f2.row 24 rfl (by decide)]
    by_cases c : ∃ g, g < QG (drQ I) ∧ lab (drQ I) g = l
    · obtain ⟨g, hg, rfl⟩ := c
      rw [m9 g hg, e4 g hg]
    · have hne : ∀ g, g < QG (drQ I) → lab (drQ I) g ≠ l := fun g hg e => c ⟨g, hg, e⟩
      rw [m10 l hl' hne, e5 l (by omega) hne]
  · rw [f2 21 5 (by decide), m6, e2]
  · rw [f2 21 6 (by decide), m7, e3]
  · rw [f2 21 7 (by decide), m8, c7]
