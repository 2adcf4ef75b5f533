/-! ===== the labels placed by the class ===== -/
noncomputable def plQ (Q : QQ) : Nat → Nat := if 6 < QG Q then (rr Q 10).2.2 else fun j => Int32.toNatClampNeg (bestF Q j)
noncomputable def rdQ (Q : QQ) : Nat := if 6 < QG Q then (rr Q 10).1 else 0
theorem plQ_ok (Q : QQ) : P8 (plQ Q) ∧ VL Q (plQ Q) (QG Q) ∧ (¬ 6 < QG Q → ∀ j, bestF Q j = n32 (plQ Q j)) := by
  unfold plQ
  by_cases c : 6 < QG Q
  · rw [if_pos c]
    have f := rr_feas Q 10
    exact ⟨f.1, f.2.1, fun h => absurd c h⟩
  · rw [if_neg c]
    obtain ⟨x, h1, h2, h3⟩ := best_leaf (Q := Q) (by omega)
    have e : ∀ j, Int32.toNatClampNeg (bestF Q j) = x j := fun j => by rw [h1 j, n32n (by have := h2 j; omega)]
    refine ⟨fun j => by show Int32.toNatClampNeg (bestF Q j) ≤ 8; rw [e]; exact h2 j, fun j hj hne => ?_, fun _ j => ?_⟩
    · have hne' : Int32.toNatClampNeg (bestF Q j) ≠ 8 := hne
      show qc Q j (Int32.toNatClampNeg (bestF Q j)) ≠ -1
      rw [e] at hne' ⊢
      exact h3 j hj hne'
    · show bestF Q j = n32 (Int32.toNatClampNeg (bestF Q j))
      rw [e]
      exact h1 j
theorem rdQ_b (Q : QQ) : rdQ Q ≤ 10 := by
  unfold rdQ
  split
  · exact (rr_n Q 10).1
  · omega
/-- the marks of the labels -/
def wm (Q : QQ) (pl : Nat → Nat) : Nat → List M6
  | 0 => []
  | g + 1 => wm Q pl g ++ (if pl g = 8 then [] else [(87, qx Q g (pl g), qy Q g (pl g), Q.1 23 (lab Q g), n32 (lab Q g), 0)])
theorem gs_pre (I : xm_I) (d : Anc) (k j : Nat) : ∃ r, gsL I d (k + j) = gsL I d k ++ r := by
  induction j with
  | zero => exact ⟨[], (List.append_nil _).symm⟩
  | succ j ih =>
    obtain ⟨r, hr⟩ := ih
    refine ⟨r ++ (if (d (lbO I (k + j))).isSome = true then [k + j] else []), ?_⟩
    have : gsL I d (k + (j + 1)) = gsL I d (k + j) ++ (if (d (lbO I (k + j))).isSome = true then [k + j] else []) := gsL_succ I d (k + j)
    rw [this, hr, List.append_assoc]
noncomputable def qOf (I0 : xm_I) (d : Anc) (ms : List M6) : QQ := (I0, d, gsL I0 d (Int32.toNatClampNeg (I0 21 3)), ms)
theorem lab_of {I0 : xm_I} {d : Anc} {ms : List M6} {g : Nat} (hg : g < QG (qOf I0 d ms)) : (gsL I0 d (Int32.toNatClampNeg (I0 21 3)))[g]? = some (lab (qOf I0 d ms) g) := by
  have hg' : g < (gsL I0 d (Int32.toNatClampNeg (I0 21 3))).length := hg
  show _ = some (((gsL I0 d (Int32.toNatClampNeg (I0 21 3)))[g]?).getD 0)
  rw [List.getElem?_eq_getElem hg']
  rfl
theorem qOf_ok {n : Nat} {I0 I : xm_I} {d : Anc} {ms : List M6} (hst : Sta n I0 I) (hms : ms.length ≤ 600) : QOK (qOf I0 d ms) := by
  have e3 : I 21 3 = I0 21 3 := hst.2 21 3 (by decide)
  have h20 := hst.1.2.2.2.2.1
  rw [e3] at h20
  have t := tn32 h20.1
  have hl := gsL_le I0 d (Int32.toNatClampNeg (I0 21 3))
  refine ⟨?_, hms, fun g hg => ?_, fun g h hg hh e => ?_⟩
  · show (gsL I0 d (Int32.toNatClampNeg (I0 21 3))).length ≤ 20
    omega
  · have h1 := lab_of hg
    have h2 := gsL_mem (List.mem_of_getElem? h1)
    exact ⟨by show (lab (qOf I0 d ms) g : Int) < (I0 21 3).toInt; omega, h2.2, by omega, h1⟩
  · have h1 := lab_of hg
    have h2 := lab_of hh
    rw [← e] at h2
    exact gsL_inj h1 h2
abbrev WPL : List Nat := [24, 22004, 22005, 22006, 22007, 40, 41, 42, 43, 44, 45, 46, 47, 48, 40013, 40014, 40015, 18, 18004, 18005]
set_option maxRecDepth 100000 in
theorem dWPL : ∀ x ∈ STC, x ∉ WPL := by decide
theorem beginLb {I : xm_I} : ok (f_Lb_beginDrawing I) (fun J => Fr [24, 22004, 22005, 22006, 22007] I J ∧ J 21 4 = I 21 3 ∧ J 21 5 = I 21 3 ∧ J 21 6 = 0 ∧ J 21 7 = 0 ∧ ∀ l, l < 20 → J 24 l = 8) := by
  have k20 : (20 : Int32).toInt = 20 := by decide
  unfold f_Lb_beginDrawing f_Lb_beginDrawing_b0 f_Lb_beginDrawing_b28
  dsimp only
  refine lp_inv (fun t => ∃ k : Nat, k ≤ 20 ∧ t.1 = n32 k ∧ Fr [24, 22004, 22005, 22006, 22007] I t.2 ∧ t.2 21 4 = I 21 3 ∧ t.2 21 5 = I 21 3 ∧ t.2 21 6 = 0 ∧ t.2 21 7 = 0 ∧ ∀ l, l < k → t.2 24 l = 8) (fun t => (21 - t.1.toInt).toNat) _ ?_ _ ⟨0, by omega, rfl, Fr.up (Fr.up (Fr.up (Fr.up (Fr.refl _ _) (by decide)) (by decide)) (by decide)) (by decide), rfl, rfl, rfl, rfl, fun l hl => by omega⟩
  rintro ⟨kk, J⟩ ⟨k, hk, q1, q2, q3, q4, q5, q6, q7⟩
  simp only at q1 q2 q3 q4 q5 q6 q7
  subst q1
  have ki : (n32 k).toInt = k := n32i (by omega)
  have kt : Int32.toNatClampNeg (n32 k) = k := n32n (by omega)
  unfold f_Lb_beginDrawing_s28
  dsimp only
  refine ok_le (fun hc => ok_s ?_) (fun hc => ok_g (by omega) (ok_s ⟨⟨k + 1, by omega, n32s (by omega), Fr.upA q2 (by decide) (by decide), q3, q4, q5, q6, fun l hl => ?_⟩, ?_⟩))
  · have e : k = 20 := by omega
    subst e
    exact ⟨q2, q3, q4, q5, q6, q7⟩
  · show up2 J 24 (Int32.toNatClampNeg (n32 k)) 8 24 l = 8
    rw [kt]
    by_cases e : l = k
    · rw [e, up2_self]
    · rw [up2_nk _ _ _ _ _ e]
      exact q7 l (by omega)
  · show (21 - (n32 k + 1).toInt).toNat < (21 - (n32 k).toInt).toNat
    rw [i32p (by omega) (by omega)]
    omega
def endC (I0 J : xm_I) (Q : QQ) (s : MS) (pl : Nat → Nat) (m g : Nat) : Prop := CM J (ems s (wm Q pl g)) ∧ J 21 5 = n32 (m - (g - ov pl g)) ∧ J 21 6 = n32 (cv Q pl g) ∧ (∀ j, j < g → J 24 (lab Q j) = n32 (pl j)) ∧ ∀ l, l < 20 → (∀ j, j < g → lab Q j ≠ l) → J 24 l = 8
theorem markG {n : Nat} {I0 J : xm_I} {d : Anc} {s : MS} {pl : Nat → Nat} {g : Nat} (hst : Sta n I0 J) (hQ : QOK (qOf I0 d s.1)) (hC : CQ J (qOf I0 d s.1)) (h8 : P8 pl) (hv : VL (qOf I0 d s.1) pl (QG (qOf I0 d s.1))) (hP : Pc J pl (QG (qOf I0 d s.1))) (hg : g < QG (qOf I0 d s.1)) (hE : endC I0 J (qOf I0 d s.1) s pl (Int32.toNatClampNeg (I0 21 3)) g) : ok (f_Pl_markGuest (n32 g) J) (fun V => Fr [24, 22005, 22006, 18, 18004, 18005] J V ∧ endC I0 V (qOf I0 d s.1) s pl (Int32.toNatClampNeg (I0 21 3)) (g + 1)) := by
  have e3 : J 21 3 = I0 21 3 := hst.2 21 3 (by decide)
  have h20 := hst.1.2.2.2.2.1
  rw [e3] at h20
  have t := tn32 h20.1
  have hl := gsL_le I0 d (Int32.toNatClampNeg (I0 21 3))
  have hG : QG (qOf I0 d s.1) = (gsL I0 d (Int32.toNatClampNeg (I0 21 3))).length := rfl
  generalize hq : qOf I0 d s.1 = Q at *
  have Q1 : Q.1 = I0 := by rw [← hq]; rfl
  have k0 := z0
  have k8 : (8 : Int32).toInt = 8 := by decide
  have gi : (n32 g).toInt = g := n32i (by omega)
  have gt : Int32.toNatClampNeg (n32 g) = g := n32n (by omega)
  have h42 : J 42 (Int32.toNatClampNeg (n32 g)) = n32 (pl g) := by rw [gt]; exact hP g hg
  have p8 := h8 g
  have ob := ov_le pl g
  have cb := cv_le hQ h8 g
  obtain ⟨c1, c2, c3, c4, c5⟩ := hE
  have hov : ov pl (g + 1) = ov pl g + (if pl g = 8 then 1 else 0) := rfl
  have hcv : cv Q pl (g + 1) = cv Q pl g + (if pl g = 8 then 0 else (qc Q g (pl g)).toInt.toNat) := rfl
  have hwm : wm Q pl (g + 1) = wm Q pl g ++ (if pl g = 8 then [] else [(87, qx Q g (pl g), qy Q g (pl g), Q.1 23 (lab Q g), n32 (lab Q g), 0)]) := rfl
  obtain ⟨l1, l2, l3, l4⟩ := hQ.2.2.1 g hg
  rw [Q1] at l1
  unfold f_Pl_markGuest f_Pl_markGuest_b0
  refine ok_g (by omega) ?_
  dsimp only
  rw [h42]
  by_cases c : pl g = 8
  · rw [if_pos c] at hov hcv hwm
    refine ok_f (by rw [lt32, n32i (by omega)]; omega) (ok_f (by rw [lt32, n32i (by omega)]; omega) (ok_s ⟨Fr.refl _ _, ?_, ?_, ?_, fun j hj => ?_, fun l hl' hj => ?_⟩))
    · rw [hwm, List.append_nil]
      exact c1
    · rw [hov, c2]
      congr 1
      omega
    · rw [hcv, c3]
      rfl
    · by_cases e : j = g
      · rw [e, c]
        exact c5 (lab Q g) l3 (fun i hi hh => by have := hQ.2.2.2 i g (by omega) hg hh; omega)
      · exact c4 j (by omega)
    · exact c5 l hl' (fun j hj' => hj j (by omega))
  · rw [if_neg c] at hov hcv hwm
    have hp8 : pl g < 8 := by omega
    have hpos := qc_pos hQ hp8 (hv g hg c)
    have h40 : J 40 (Int32.toNatClampNeg (n32 g)) = n32 (lab Q g) := by rw [gt]; exact (hC.2.1 g hg).1
    have ex := (ix8 (g := g) (p := pl g) (by omega) hp8).1
    have it : Int32.toNatClampNeg (n32 (8 * g + pl g)) = 8 * g + pl g := n32n (by omega)
    have gx : 0 ≤ (n32 (8 * g + pl g)).toInt ∧ (n32 (8 * g + pl g)).toInt < 160 := by rw [n32i (by omega)]; omega
    obtain ⟨b1, b2, b3⟩ := hC.2.2 g (pl g) hg hp8
    have li : (n32 (lab Q g)).toInt = lab Q g := n32i (by omega)
    have lt : Int32.toNatClampNeg (n32 (lab Q g)) = lab Q g := n32n (by omega)
    refine ok_f (by rw [lt32, n32i (by omega)]; omega) (ok_t (by rw [lt32, n32i (by omega)]; omega) (ok_g (by omega) ?_))
    rw [h40, ex]
    refine ok_g gx ?_
    rw [it, b3]
    unfold f_Lb_place f_Lb_place_b0
    rw [e_Lb_has, bi_t (by rw [e3, li]; omega)]
    simp only [Option.bind_some]
    rw [if_neg (by decide), gd_p _ (by omega)]
    simp only [Option.bind_some]
    rw [lt]
    have fV : Fr [24, 22005, 22006, 18, 18004, 18005] J (up2 (up2 (up2 J 24 (lab Q g) (n32 (pl g))) 21 5 (J 21 5 - 1)) 21 6 (J 21 6 + qc Q g (pl g))) := Fr.up (Fr.up (Fr.upA (Fr.refl _ _) (by decide) (by decide)) (by decide)) (by decide)
    have hT : Sta n I0 (up2 (up2 (up2 J 24 (lab Q g) (n32 (pl g))) 21 5 (J 21 5 - 1)) 21 6 (J 21 6 + qc Q g (pl g))) := hst.of (fV.mono (W := WPL) (by decide)) dWPL
    have hlet := (e_objectOf hT l1).2
    have hCM : CM (up2 (up2 (up2 J 24 (lab Q g) (n32 (pl g))) 21 5 (J 21 5 - 1)) 21 6 (J 21 6 + qc Q g (pl g))) (ems s (wm Q pl g)) := c1
    refine ok_g gx (ok_g gx (ok_e hlet ?_))
    have b1' : up2 (up2 (up2 J 24 (lab Q g) (n32 (pl g))) 21 5 (J 21 5 - 1)) 21 6 (J 21 6 + qc Q g (pl g)) 43 (8 * g + pl g) = qx Q g (pl g) := b1
    have b2' : up2 (up2 (up2 J 24 (lab Q g) (n32 (pl g))) 21 5 (J 21 5 - 1)) 21 6 (J 21 6 + qc Q g (pl g)) 44 (8 * g + pl g) = qy Q g (pl g) := b2
    have e56 : up2 (up2 J 24 (lab Q g) (n32 (pl g))) 21 5 (J 21 5 - 1) 21 6 = J 21 6 := rfl
    have e55 : up2 J 24 (lab Q g) (n32 (pl g)) 21 5 = J 21 5 := rfl
    rw [e55, e56, b1', b2']
    refine ok_b (ok_mono (mk_add hCM) (fun V hV => ok_s ⟨fV.trans (hV.1.mono (by decide)), ?_, ?_, ?_, fun j hj => ?_, fun l hl' hj => ?_⟩))
    · rw [hwm, ems_app, Q1]
      exact hV.2
    · rw [hV.1 21 5 (by decide), hov]
      show J 21 5 - 1 = _
      rw [c2, eq32, i32s (by rw [n32i (by omega), z1]; omega), n32i (by omega), n32i (by omega), z1]
      omega
    · rw [hV.1 21 6 (by decide), hcv]
      show J 21 6 + qc Q g (pl g) = _
      rw [c3, eq32, i32a (by rw [n32i (by omega)]; omega), n32i (by omega), n32i (by omega)]
      omega
    · rw [hV.1.row 24 rfl (by decide)]
      show up2 J 24 (lab Q g) (n32 (pl g)) 24 (lab Q j) = _
      by_cases e : j = g
      · rw [e, up2_self]
      · rw [up2_nk _ _ _ _ _ (fun hh => e (hQ.2.2.2 j g (by omega) hg hh))]
        exact c4 j (by omega)
    · rw [hV.1.row 24 rfl (by decide)]
      show up2 J 24 (lab Q g) (n32 (pl g)) 24 l = _
      rw [up2_nk _ _ _ _ _ (fun hh => hj g (by omega) hh.symm)]
      exact c5 l hl' (fun j hj' => hj j (by omega))
theorem placeAll {n : Nat} {I0 I : xm_I} {d : Anc} {s : MS} (hst : Sta n I0 I) (hD : DA I d) (hA : oka d) (hm : okl s.1) (hC : CM I s) : ok (f_Pl_placeAll I) (fun J => Fr WPL I J ∧ endC I0 J (qOf I0 d s.1) s (plQ (qOf I0 d s.1)) (Int32.toNatClampNeg (I0 21 3)) (QG (qOf I0 d s.1)) ∧ J 21 4 = I0 21 3 ∧ J 21 7 = n32 (rdQ (qOf I0 d s.1))) := by
  have e3 : I 21 3 = I0 21 3 := hst.2 21 3 (by decide)
  have h20 := hst.1.2.2.2.2.1
  rw [e3] at h20
  have t := tn32 h20.1
  have hQ := qOf_ok (d := d) hst hC.1
  have hl := gsL_le I0 d (Int32.toNatClampNeg (I0 21 3))
  have hG : QG (qOf I0 d s.1) = (gsL I0 d (Int32.toNatClampNeg (I0 21 3))).length := rfl
  obtain ⟨h8, hv, hbf⟩ := plQ_ok (qOf I0 d s.1)
  unfold f_Pl_placeAll f_Pl_placeAll_b0 f_Pl_placeAll_b13
  refine ok_b (ok_mono beginLb (fun A hA1 => ?_))
  obtain ⟨fA, a4, a5, a6, a7, a24⟩ := hA1
  have sA : Sta n I0 A := hst.of (fA.mono (W := WPL) (by decide)) dWPL
  have hDA : DA A d := hD.kept (fA.row 31 rfl (by decide)) (fA.row 32 rfl (by decide)) (fA.row 33 rfl (by decide))
  refine ok_b (ok_mono (gather_g sA hDA) (fun B hB1 => ?_))
  obtain ⟨fB, b13, bt'⟩ := hB1
  have sB : Sta n I0 B := sA.of fB dWG
  have hT : GT I0 B (gsL I0 d (Int32.toNatClampNeg (I0 21 3))) := ⟨b13, fun g l hg => ⟨(bt' g l hg).1, (bt' g l hg).2.1⟩⟩
  have f0 : Fr WPL I B := (fA.mono (by decide)).trans (fB.mono (by decide))
  have hgs : ∀ g l : Nat, (gsL I0 d (Int32.toNatClampNeg (I0 21 3)))[g]? = some l → (l : Int) < (I0 21 3).toInt := by
    intro g l hg
    have := (gsL_mem (List.mem_of_getElem? hg)).1
    omega
  refine lp_inv (fun st => ∃ g : Nat, g ≤ (gsL I0 d (Int32.toNatClampNeg (I0 21 3))).length ∧ st.1 = n32 g ∧ Fr WB3 B st.2 ∧ BXs I0 st.2 d (gsL I0 d (Int32.toNatClampNeg (I0 21 3))) [] (8 * g)) (fun st => (21 - st.1.toInt).toNat) _ ?_ (0, B) ⟨0, by omega, rfl, Fr.refl _ _, fun i l hi => by omega⟩
  rintro ⟨gg, J⟩ ⟨g, hg, q1, q2, q3⟩
  simp only at q1 q2 q3
  subst q1
  have gi : (n32 g).toInt = g := n32i (by omega)
  have sJ : Sta n I0 J := sB.of q2 dWB3
  have hTJ : GT I0 J (gsL I0 d (Int32.toNatClampNeg (I0 21 3))) := hT.kept (q2 39 13 (by decide)) (q2.row 40 rfl (by decide)) (q2.row 41 rfl (by decide))
  have j13 : (J 39 13).toInt = (gsL I0 d (Int32.toNatClampNeg (I0 21 3))).length := by rw [hTJ.1, n32i (by omega)]
  have fJ : Fr WPL I J := f0.trans (q2.mono (by decide))
  unfold f_Pl_placeAll_s13
  dsimp only
  refine ok_le (fun hc => ?_) (fun hc => ?_)
  · have e : g = (gsL I0 d (Int32.toNatClampNeg (I0 21 3))).length := by omega
    subst e
    have hCJ : CM J s := hC.kept (by rw [q2 17 4 (by decide), fB 17 4 (by decide), fA 17 4 (by decide)]) (by rw [q2 17 5 (by decide), fB 17 5 (by decide), fA 17 5 (by decide)]) (by rw [q2.row 18 rfl (by decide), fB.row 18 rfl (by decide), fA.row 18 rfl (by decide)])
    refine ok_b (ok_mono (addCosts sJ hA hm hTJ (by omega) hgs hCJ q3) (fun V hV => ?_))
    obtain ⟨fV, hBV⟩ := hV
    have sV : Sta n I0 V := sJ.of fV dW45
    have hTV : GT I0 V (gsL I0 d (Int32.toNatClampNeg (I0 21 3))) := hTJ.kept (fV 39 13 (by decide)) (fV.row 40 rfl (by decide)) (fV.row 41 rfl (by decide))
    have hCQ : CQ V (qOf I0 d s.1) := by
      refine ⟨hTV.1, fun g hg => hTV.2 g _ (lab_of hg), fun g p hg hp => ?_⟩
      have e1 : (8 * g + p) / 8 = g := by omega
      have e2 : (8 * g + p) % 8 = p := by omega
      have hg' : g < (gsL I0 d (Int32.toNatClampNeg (I0 21 3))).length := hg
      have := hBV (8 * g + p) (lab (qOf I0 d s.1) g) (by omega) (by rw [e1]; exact lab_of hg)
      rw [e2] at this
      exact this
    have hP8 : Pc V (fun _ => 8) (QG (qOf I0 d s.1)) := by
      intro j hj
      rw [fV.row 42 rfl (by decide), q2.row 42 rfl (by decide)]
      exact (bt' j _ (lab_of hj)).2.2
    have f1 : Fr WPL I V := fJ.trans (fV.mono (by decide))
    have hCV : CM V s := hCJ.kept (fV 17 4 (by decide)) (fV 17 5 (by decide)) (fV.row 18 rfl (by decide))
    have v21 : V 21 4 = I0 21 3 ∧ V 21 5 = I0 21 3 ∧ V 21 6 = 0 ∧ V 21 7 = 0 ∧ ∀ l, l < 20 → V 24 l = 8 := by
      rw [fV 21 4 (by decide), fV 21 5 (by decide), fV 21 6 (by decide), fV 21 7 (by decide), fV.row 24 rfl (by decide), q2 21 4 (by decide), q2 21 5 (by decide), q2 21 6 (by decide), q2 21 7 (by decide), q2.row 24 rfl (by decide), fB 21 4 (by decide), fB 21 5 (by decide), fB 21 6 (by decide), fB 21 7 (by decide), fB.row 24 rfl (by decide), ← e3]
      exact ⟨a4, a5, a6, a7, a24⟩
    have v13 : (V 39 13).toInt = QG (qOf I0 d s.1) := by rw [hCQ.1, n32i (by omega)]
    have tail : ∀ T : xm_I, Fr [42, 46, 47, 48, 40014, 40015, 22007] V T → T 21 7 = n32 (rdQ (qOf I0 d s.1)) → Pc T (plQ (qOf I0 d s.1)) (QG (qOf I0 d s.1)) → ok (f_Pl_placeAll_b63 T) (fun J => Fr WPL I J ∧ endC I0 J (qOf I0 d s.1) s (plQ (qOf I0 d s.1)) (Int32.toNatClampNeg (I0 21 3)) (QG (qOf I0 d s.1)) ∧ J 21 4 = I0 21 3 ∧ J 21 7 = n32 (rdQ (qOf I0 d s.1))) := by
      intro T fT t7 hPT
      unfold f_Pl_placeAll_b63 f_Pl_placeAll_b65
      have sT : Sta n I0 T := sV.of (fT.mono (W := WPL) (by decide)) dWPL
      have e0 : endC I0 T (qOf I0 d s.1) s (plQ (qOf I0 d s.1)) (Int32.toNatClampNeg (I0 21 3)) 0 := by
        refine ⟨hCV.kept (fT 17 4 (by decide)) (fT 17 5 (by decide)) (fT.row 18 rfl (by decide)), ?_, ?_, fun j hj => by omega, fun l hl' _ => ?_⟩
        · rw [fT 21 5 (by decide), v21.2.1]
          show _ = n32 (Int32.toNatClampNeg (I0 21 3))
          rw [n32x h20.1]
        · rw [fT 21 6 (by decide), v21.2.2.1]
          rfl
        · rw [fT.row 24 rfl (by decide)]
          exact v21.2.2.2.2 l hl'
      refine lp_inv (fun st => ∃ g : Nat, g ≤ QG (qOf I0 d s.1) ∧ st.1 = n32 g ∧ Fr [24, 22005, 22006, 18, 18004, 18005] T st.2 ∧ endC I0 st.2 (qOf I0 d s.1) s (plQ (qOf I0 d s.1)) (Int32.toNatClampNeg (I0 21 3)) g) (fun st => (21 - st.1.toInt).toNat) _ ?_ (0, T) ⟨0, by omega, rfl, Fr.refl _ _, e0⟩
      rintro ⟨ii, W⟩ ⟨i, hi, r1, r2, r3⟩
      simp only at r1 r2 r3
      subst r1
      have iI : (n32 i).toInt = i := n32i (by omega)
      have sW : Sta n I0 W := sT.of (r2.mono (W := WPL) (by decide)) dWPL
      have cW : CQ W (qOf I0 d s.1) := (hCQ.kept fT (by decide)).kept r2 (by decide)
      have w13 : (W 39 13).toInt = QG (qOf I0 d s.1) := by rw [cW.1, n32i (by omega)]
      have pW : Pc W (plQ (qOf I0 d s.1)) (QG (qOf I0 d s.1)) := fun j hj => by rw [r2.row 42 rfl (by decide)]; exact hPT j hj
      unfold f_Pl_placeAll_s65
      dsimp only
      refine ok_le (fun hd => ok_s ?_) (fun hd => ?_)
      · have e : i = QG (qOf I0 d s.1) := by omega
        subst e
        refine ⟨(f1.trans (fT.mono (by decide))).trans (r2.mono (by decide)), r3, ?_, ?_⟩
        · rw [r2 21 4 (by decide), fT 21 4 (by decide)]
          exact v21.1
        · rw [r2 21 7 (by decide)]
          exact t7
      · refine ok_b (ok_mono (markG sW hQ cW h8 hv pW (by omega) r3) (fun X hX => ok_s ⟨⟨i + 1, by omega, n32s (by omega), r2.trans hX.1, hX.2⟩, ?_⟩))
        show (21 - (n32 i + 1).toInt).toNat < (21 - (n32 i).toInt).toNat
        rw [i32p (by omega) (by omega)]
        omega
    have k6 := z6
    refine ok_lt (fun h6 => ?_) (fun h6 => ?_)
    · have c6 : 6 < QG (qOf I0 d s.1) := by omega
      have ep : plQ (qOf I0 d s.1) = (rr (qOf I0 d s.1) 10).2.2 := if_pos c6
      have er : rdQ (qOf I0 d s.1) = (rr (qOf I0 d s.1) 10).1 := if_pos c6
      refine ok_b (ok_mono (goRoundsC hCQ hQ hP8) (fun q hq => ok_m (tail _ (Fr.up (hq.2.1.mono (by decide)) (by decide)) ?_ ?_)))
      · rw [up2_self, hq.1, er]
      · rw [ep]
        exact hq.2.2
    · have c6 : ¬ 6 < QG (qOf I0 d s.1) := by omega
      have er : rdQ (qOf I0 d s.1) = 0 := if_neg c6
      refine ok_b (ok_mono (findBestC hCQ hQ (by omega) hP8) (fun q hq => ok_m (tail q (hq.1.mono (by decide)) ?_ (fun j hj => ?_))))
      · rw [hq.1 21 7 (by decide), v21.2.2.2.1, er]
        rfl
      · rw [hq.2 j hj]
        exact hbf c6 j
  · have hg' : g < (gsL I0 d (Int32.toNatClampNeg (I0 21 3))).length := by omega
    have hlab := lab_of (ms := s.1) hg'
    have hgm := gsL_mem (List.mem_of_getElem? hlab)
    have hDJ : DA J d := hDA.kept (by rw [q2.row 31 rfl (by decide), fB.row 31 rfl (by decide)]) (by rw [q2.row 32 rfl (by decide), fB.row 32 rfl (by decide)]) (by rw [q2.row 33 rfl (by decide), fB.row 33 rfl (by decide)])
    refine ok_b (ok_mono (setBoxes sJ hDJ hTJ (by omega) hlab (hgs _ _ hlab) hgm.2 q3) (fun V hV => ok_s ⟨⟨g + 1, by omega, n32s (by omega), q2.trans hV.1, hV.2⟩, ?_⟩))
    show (21 - (n32 g + 1).toInt).toNat < (21 - (n32 g).toInt).toNat
    rw [i32p (by omega) (by omega)]
    omega
