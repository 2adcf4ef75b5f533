/-! ===== the labels placed by the reference ===== -/
abbrev WPM : List Nat := [79, 80, 50070, 50041, 50042, 76, 81, 82, 50060, 50073, 50074, 50058, 50059, 71, 50049, 50050]
set_option maxRecDepth 100000 in
theorem dWPM : ∀ x ∈ STC, x ∉ WPM := by decide
theorem gam {I0 : xm_I} {d : Anc} {ms : List M6} {k : Nat} (hk : k < Int32.toNatClampNeg (I0 21 3)) : ((d (lbO I0 k)).isSome = true → (gsL I0 d k).length < QG (qOf I0 d ms) ∧ lab (qOf I0 d ms) (gsL I0 d k).length = k ∧ (gsL I0 d (k + 1)).length = (gsL I0 d k).length + 1) ∧ (¬ (d (lbO I0 k)).isSome = true → (gsL I0 d (k + 1)).length = (gsL I0 d k).length ∧ ∀ g, g < QG (qOf I0 d ms) → lab (qOf I0 d ms) g ≠ k) := by
  have hs := gsL_succ I0 d k
  refine ⟨fun h => ?_, fun h => ⟨?_, fun g hg e => ?_⟩⟩
  · rw [if_pos h] at hs
    obtain ⟨r, hr⟩ := gs_pre I0 d (k + 1) (Int32.toNatClampNeg (I0 21 3) - (k + 1))
    have e : k + 1 + (Int32.toNatClampNeg (I0 21 3) - (k + 1)) = Int32.toNatClampNeg (I0 21 3) := by omega
    rw [e, hs] at hr
    have hlen : (gsL I0 d k).length < QG (qOf I0 d ms) := by
      show _ < (gsL I0 d (Int32.toNatClampNeg (I0 21 3))).length
      rw [hr, List.length_append, List.length_append]
      show _ < _ + 1 + _
      omega
    refine ⟨hlen, ?_, ?_⟩
    · have := lab_of (ms := ms) hlen
      rw [hr, List.append_assoc, List.getElem?_append_right (Nat.le_refl _), Nat.sub_self] at this
      exact (Option.some.inj this).symm
    · rw [hs, List.length_append]
      rfl
  · rw [if_neg h, List.append_nil] at hs
    rw [hs]
  · have h1 := lab_of hg
    have := (gsL_mem (List.mem_of_getElem? h1)).2
    rw [e] at this
    exact h this
theorem sumsM {n : Nat} {I0 I : xm_I} {L : xm_L} {d : Anc} {s : MS} {pl : Nat → Nat} (h : MDQ n I (qOf I0 d s.1)) (hQ : QOK (qOf I0 d s.1)) (h8 : P8 pl) (hv : VL (qOf I0 d s.1) pl (QG (qOf I0 d s.1))) (hM : MM I s) (h58 : I 49 58 = 0) (h59 : I 49 59 = 0) (hg76 : ∀ g, g < QG (qOf I0 d s.1) → I 76 (lab (qOf I0 d s.1) g) = n32 (pl g)) (hn76 : ∀ l, l < Int32.toNatClampNeg (I0 21 3) → (∀ g, g < QG (qOf I0 d s.1) → lab (qOf I0 d s.1) g ≠ l) → I 76 l = 8) : ok (f_M_place_b123 I L) (fun q => q.2 = L ∧ Fr [50058, 50059, 71, 50049, 50050] I q.1 ∧ MM q.1 (ems s (wm (qOf I0 d s.1) pl (QG (qOf I0 d s.1)))) ∧ q.1 49 58 = n32 (Int32.toNatClampNeg (I0 21 3) - (QG (qOf I0 d s.1) - ov pl (QG (qOf I0 d s.1)))) ∧ q.1 49 59 = n32 (cv (qOf I0 d s.1) pl (QG (qOf I0 d s.1)))) := by
  have hst : Sta n I0 I := h.1
  have e3 : I 21 3 = I0 21 3 := hst.2 21 3 (by decide)
  have h20 := hst.1.2.2.2.2.1
  rw [e3] at h20
  have t := tn32 h20.1
  have hD : DM I (Int32.toNatClampNeg (I0 6 9)) d := h.2.1
  have eG : (gsL I0 d (Int32.toNatClampNeg (I0 21 3))).length = QG (qOf I0 d s.1) := rfl
  have gm := fun k hk => gam (I0 := I0) (d := d) (ms := s.1) (k := k) hk
  have q1' : (qOf I0 d s.1).1 = I0 := rfl
  have qd : (qOf I0 d s.1).2.1 = d := rfl
  have qxe : ∀ g p, qx (qOf I0 d s.1) g p = bxX I0 d (lab (qOf I0 d s.1) g) p := fun _ _ => rfl
  have qye : ∀ g p, qy (qOf I0 d s.1) g p = bxY I0 d (lab (qOf I0 d s.1) g) p := fun _ _ => rfl
  generalize hq : qOf I0 d s.1 = Q at *
  have k88 : (8 : Int32) = n32 8 := rfl
  have k8 : (8 : Int32).toInt = 8 := by decide
  unfold f_M_place_b123 f_M_place_b125
  refine lp_inv (fun st => ∃ k : Nat, k ≤ Int32.toNatClampNeg (I0 21 3) ∧ st.1 = n32 k ∧ Fr [50058, 50059] I st.2 ∧ st.2 49 58 = n32 (k - ((gsL I0 d k).length - ov pl (gsL I0 d k).length)) ∧ st.2 49 59 = n32 (cv Q pl (gsL I0 d k).length)) (fun st => (21 - st.1.toInt).toNat) _ ?_ (0, I) ⟨0, by omega, rfl, Fr.refl _ _, h58, h59⟩
  rintro ⟨kk, J⟩ ⟨k, hk, r1, r2, r3, r4⟩
  simp only at r1 r2 r3 r4
  subst r1
  have ki : (n32 k).toInt = k := n32i (by omega)
  have kt : Int32.toNatClampNeg (n32 k) = k := n32n (by omega)
  have j37 : J 49 37 = I0 21 3 := by rw [r2 49 37 (by decide), hst.1.2.2.2.2.2.1.1, e3]
  have hlen := gsL_le I0 d k
  have ob := ov_le pl (gsL I0 d k).length
  have cb := cv_le hQ h8 (gsL I0 d k).length
  have dec : (21 - (n32 k + 1).toInt).toNat < (21 - (n32 k).toInt).toNat := by
    rw [i32p (by omega) (by omega)]
    omega
  have es := n32s (k := k) (by omega)
  unfold f_M_place_s125
  dsimp only
  refine ok_le (fun hc => ?_) (fun hc => ?_)
  · rw [j37] at hc
    have e : k = Int32.toNatClampNeg (I0 21 3) := by omega
    subst e
    rw [eG] at r3 r4
    refine ok_m ?_
    unfold f_M_place_b206
    have hMJ : MM J s := hM.kept (r2 49 49 (by decide)) (r2 49 50 (by decide)) (r2.row 71 rfl (by decide))
    refine ok_mono (lp_inv (fun st => ∃ k : Nat, k ≤ Int32.toNatClampNeg (I0 21 3) ∧ st.1 = n32 k ∧ Fr [71, 50049, 50050] J st.2 ∧ MM st.2 (ems s (wm Q pl (gsL I0 d k).length))) (fun st => (21 - st.1.toInt).toNat) (fun q : xm_I × xm_L => q.2 = L ∧ Fr [50058, 50059, 71, 50049, 50050] I q.1 ∧ MM q.1 (ems s (wm Q pl (QG Q))) ∧ q.1 49 58 = n32 (Int32.toNatClampNeg (I0 21 3) - (QG Q - ov pl (QG Q))) ∧ q.1 49 59 = n32 (cv Q pl (QG Q))) ?_ (0, J) ⟨0, by omega, rfl, Fr.refl _ _, hMJ⟩) (fun q hq => hq)
    rintro ⟨ii, V⟩ ⟨i, hi, v1, v2, v3⟩
    simp only at v1 v2 v3
    subst v1
    have iI : (n32 i).toInt = i := n32i (by omega)
    have it : Int32.toNatClampNeg (n32 i) = i := n32n (by omega)
    have fV : Fr [50058, 50059, 71, 50049, 50050] I V := (r2.mono (by decide)).trans (v2.mono (by decide))
    have sV : Sta n I0 V := hst.of (fV.mono (W := WPM) (by decide)) dWPM
    have v37 : V 49 37 = I0 21 3 := by rw [v2 49 37 (by decide), j37]
    have dec2 : (21 - (n32 i + 1).toInt).toNat < (21 - (n32 i).toInt).toNat := by
      rw [i32p (by omega) (by omega)]
      omega
    have es2 := n32s (k := i) (by omega)
    unfold f_M_place_s206 f_M_place_b261
    dsimp only
    refine ok_le (fun hd => ok_s ?_) (fun hd => ?_)
    · rw [v37] at hd
      have e : i = Int32.toNatClampNeg (I0 21 3) := by omega
      subst e
      rw [eG] at v3
      refine ⟨rfl, fV, v3, ?_, ?_⟩
      · show V 49 58 = _
        rw [v2 49 58 (by decide)]
        exact r3
      · show V 49 59 = _
        rw [v2 49 59 (by decide)]
        exact r4
    · rw [v37] at hd
      refine ok_g (by omega) ?_
      have hi' : i < Int32.toNatClampNeg (I0 21 3) := by omega
      have hil : (i : Int) < (I0 21 3).toInt := by omega
      obtain ⟨g1, g2⟩ := gm i hi'
      have v76 : V 76 = I 76 := fV.row 76 rfl (by decide)
      by_cases cs : (d (lbO I0 i)).isSome = true
      · obtain ⟨a1, a2, a3⟩ := g1 cs
        have p8 := h8 (gsL I0 d i).length
        have hw : wm Q pl ((gsL I0 d i).length + 1) = wm Q pl (gsL I0 d i).length ++ (if pl (gsL I0 d i).length = 8 then [] else [(87, qx Q (gsL I0 d i).length (pl (gsL I0 d i).length), qy Q (gsL I0 d i).length (pl (gsL I0 d i).length), Q.1 23 (lab Q (gsL I0 d i).length), n32 (lab Q (gsL I0 d i).length), 0)]) := rfl
        have e76 : V 76 (Int32.toNatClampNeg (n32 i)) = n32 (pl (gsL I0 d i).length) := by
          have := hg76 _ a1
          rw [a2] at this
          rw [it, v76]
          exact this
        by_cases c8 : pl (gsL I0 d i).length = 8
        · rw [if_pos c8, List.append_nil] at hw
          refine ok_t (by rw [e76, c8]; decide) (ok_s ⟨⟨i + 1, by omega, es2, v2, ?_⟩, dec2⟩)
          rw [a3, hw]
          exact v3
        · rw [if_neg c8] at hw
          have hp8 : pl (gsL I0 d i).length < 8 := by omega
          have hDV : DM V (Int32.toNatClampNeg (I0 6 9)) d := hD.kept (fV.row 73 rfl (by decide)) (fV.row 74 rfl (by decide)) (fV.row 75 rfl (by decide))
          obtain ⟨b1, b2⟩ := e_boxM sV hDV hil cs hp8
          obtain ⟨gl, _, _, r70, _⟩ := r70_of sV hil
          refine ok_f (by rw [e76, le32, n32i (by omega)]; omega) (ok_g gl ?_)
          rw [e76]
          refine ok_e b1 (ok_g gl (ok_e b2 (ok_g gl ?_)))
          rw [it, r70]
          refine ok_b (ok_mono (mm_add v3) (fun X hX => ok_s ⟨⟨i + 1, by omega, es2, v2.trans hX.1, ?_⟩, dec2⟩))
          rw [a3, hw, ems_app, qxe, qye, a2, q1']
          exact hX.2
      · obtain ⟨a3, a4⟩ := g2 cs
        have e76 : V 76 (Int32.toNatClampNeg (n32 i)) = 8 := by
          rw [it, v76]
          exact hn76 i hi' a4
        refine ok_t (by rw [e76]; decide) (ok_s ⟨⟨i + 1, by omega, es2, v2, ?_⟩, dec2⟩)
        rw [a3]
        exact v3
  · rw [j37] at hc
    have hk' : k < Int32.toNatClampNeg (I0 21 3) := by omega
    obtain ⟨g1, g2⟩ := gm k hk'
    have j76 : J 76 = I 76 := r2.row 76 rfl (by decide)
    unfold f_M_place_b154 f_M_place_b194
    dsimp only
    refine ok_g (by omega) ?_
    by_cases cs : (d (lbO I0 k)).isSome = true
    · obtain ⟨a1, a2, a3⟩ := g1 cs
      have p8 := h8 (gsL I0 d k).length
      have hov : ov pl ((gsL I0 d k).length + 1) = ov pl (gsL I0 d k).length + (if pl (gsL I0 d k).length = 8 then 1 else 0) := rfl
      have hcv : cv Q pl ((gsL I0 d k).length + 1) = cv Q pl (gsL I0 d k).length + (if pl (gsL I0 d k).length = 8 then 0 else (qc Q (gsL I0 d k).length (pl (gsL I0 d k).length)).toInt.toNat) := rfl
      have e76 : J 76 (Int32.toNatClampNeg (n32 k)) = n32 (pl (gsL I0 d k).length) := by
        have := hg76 _ a1
        rw [a2] at this
        rw [kt, j76]
        exact this
      by_cases c8 : pl (gsL I0 d k).length = 8
      · rw [if_pos c8] at hov hcv
        have e8 : J 76 (Int32.toNatClampNeg (n32 k)) = 8 := by rw [e76, c8]; rfl
        refine ok_t e8 (ok_g (by omega) (ok_t e8 (ok_s ⟨⟨k + 1, by omega, es, Fr.up (Fr.up r2 (by decide)) (by decide), ?_, ?_⟩, dec⟩)))
        · show J 49 58 + 1 = _
          rw [r3, a3, hov, n32s (by omega)]
          congr 1
          omega
        · show J 49 59 + 0 = _
          rw [r4, a3, hcv, Nat.add_zero]
          exact Int32.add_zero _
      · rw [if_neg c8] at hov hcv
        have hp8 : pl (gsL I0 d k).length < 8 := by omega
        have hpos := qc_pos hQ hp8 (hv _ a1 c8)
        have e8 : ¬ J 76 (Int32.toNatClampNeg (n32 k)) = 8 := by
          rw [e76, k88, eq32, n32i (by omega), n32i (by omega)]
          omega
        obtain ⟨_, l2⟩ := h.lb hQ a1
        have l3 := l2 _ hp8
        rw [a2] at l3
        have ex := (ix8 (g := k) (p := pl (gsL I0 d k).length) (by omega) hp8).2
        have eI : 8 * n32 k + J 76 (Int32.toNatClampNeg (n32 k)) = n32 (8 * k + pl (gsL I0 d k).length) := by rw [e76, ex]
        refine ok_f e8 (ok_g (by omega) (ok_f e8 (ok_g (by omega) (ok_g ?_ (ok_s ⟨⟨k + 1, by omega, es, Fr.up (Fr.up r2 (by decide)) (by decide), ?_, ?_⟩, dec⟩)))))
        · show 0 ≤ (8 * n32 k + J 76 (Int32.toNatClampNeg (n32 k))).toInt ∧ (8 * n32 k + J 76 (Int32.toNatClampNeg (n32 k))).toInt < 160
          rw [eI, n32i (by omega)]
          omega
        · show J 49 58 + 0 = _
          rw [r3, a3, hov, Nat.add_zero]
          have e1 : ∀ x : Int32, x + 0 = x := Int32.add_zero
          rw [e1]
          congr 1
          omega
        · show J 49 59 + J 79 (Int32.toNatClampNeg (8 * n32 k + J 76 (Int32.toNatClampNeg (n32 k)))) = _
          rw [eI, n32n (by omega), r2.row 79 rfl (by decide), l3, r4, a3, hcv, eq32, i32a (by rw [n32i (by omega)]; omega), n32i (by omega), n32i (by omega)]
          omega
    · obtain ⟨a3, a4⟩ := g2 cs
      have e8 : J 76 (Int32.toNatClampNeg (n32 k)) = 8 := by
        rw [kt, j76]
        exact hn76 k hk' a4
      refine ok_t e8 (ok_g (by omega) (ok_t e8 (ok_s ⟨⟨k + 1, by omega, es, Fr.up (Fr.up r2 (by decide)) (by decide), ?_, ?_⟩, dec⟩)))
      · show J 49 58 + 1 = _
        rw [r3, a3, n32s (by omega)]
        congr 1
        omega
      · show J 49 59 + 0 = _
        rw [r4, a3]
        exact Int32.add_zero _
theorem placeM {n : Nat} {I0 I : xm_I} {L : xm_L} {d : Anc} {s : MS} (hst : Sta n I0 I) (hD : DM I (Int32.toNatClampNeg (I0 6 9)) d) (hA : oka d) (hm : okl s.1) (hM : MM I s) (h58 : I 49 58 = 0) (h59 : I 49 59 = 0) (h60 : I 49 60 = 0) (h76 : ∀ l, l < Int32.toNatClampNeg (I0 21 3) → I 76 l = 8) : ok (f_M_place I L) (fun q => Fr WPM I q.1 ∧ Fr WL L q.2 ∧ MM q.1 (ems s (wm (qOf I0 d s.1) (plQ (qOf I0 d s.1)) (QG (qOf I0 d s.1)))) ∧ q.1 49 58 = n32 (Int32.toNatClampNeg (I0 21 3) - (QG (qOf I0 d s.1) - ov (plQ (qOf I0 d s.1)) (QG (qOf I0 d s.1)))) ∧ q.1 49 59 = n32 (cv (qOf I0 d s.1) (plQ (qOf I0 d s.1)) (QG (qOf I0 d s.1))) ∧ q.1 49 60 = n32 (rdQ (qOf I0 d s.1)) ∧ (∀ g, g < QG (qOf I0 d s.1) → q.1 76 (lab (qOf I0 d s.1) g) = n32 (plQ (qOf I0 d s.1) g)) ∧ ∀ l, l < Int32.toNatClampNeg (I0 21 3) → (∀ g, g < QG (qOf I0 d s.1) → lab (qOf I0 d s.1) g ≠ l) → q.1 76 l = 8) := by
  have hQ := qOf_ok (d := d) hst hM.1
  obtain ⟨p8, hv, hbf⟩ := plQ_ok (qOf I0 d s.1)
  refine mplace hst hD hA hm hM (fun J M fJ fM hT => ?_)
  have hMD : MDQ n J (qOf I0 d s.1) := ⟨hst.of fJ dWMp, hD.kept (fJ.row 73 rfl (by decide)) (fJ.row 74 rfl (by decide)) (fJ.row 75 rfl (by decide)), hT⟩
  have h20 := hQ.1
  have j70 : (J 49 70).toInt = QG (qOf I0 d s.1) := by rw [hMD.2.2.1]; exact n32i (show QG (qOf I0 d s.1) < 2147483648 by omega)
  have j60 : J 49 60 = 0 := by rw [fJ 49 60 (by decide), h60]
  have j76 : J 76 = I 76 := fJ.row 76 rfl (by decide)
  have hlab : ∀ g, g < QG (qOf I0 d s.1) → lab (qOf I0 d s.1) g < Int32.toNatClampNeg (I0 21 3) := fun g hg => (gsL_mem (List.mem_of_getElem? (lab_of hg))).1
  have tail : ∀ T : xm_I, Fr WQ J T → T 49 60 = n32 (rdQ (qOf I0 d s.1)) → (∀ g, g < QG (qOf I0 d s.1) → T 76 (lab (qOf I0 d s.1) g) = n32 (plQ (qOf I0 d s.1) g)) → (∀ l, (∀ g, g < QG (qOf I0 d s.1) → lab (qOf I0 d s.1) g ≠ l) → T 76 l = J 76 l) → ok (f_M_place_b123 T M) (fun q => Fr WPM I q.1 ∧ Fr WL L q.2 ∧ MM q.1 (ems s (wm (qOf I0 d s.1) (plQ (qOf I0 d s.1)) (QG (qOf I0 d s.1)))) ∧ q.1 49 58 = n32 (Int32.toNatClampNeg (I0 21 3) - (QG (qOf I0 d s.1) - ov (plQ (qOf I0 d s.1)) (QG (qOf I0 d s.1)))) ∧ q.1 49 59 = n32 (cv (qOf I0 d s.1) (plQ (qOf I0 d s.1)) (QG (qOf I0 d s.1))) ∧ q.1 49 60 = n32 (rdQ (qOf I0 d s.1)) ∧ (∀ g, g < QG (qOf I0 d s.1) → q.1 76 (lab (qOf I0 d s.1) g) = n32 (plQ (qOf I0 d s.1) g)) ∧ ∀ l, l < Int32.toNatClampNeg (I0 21 3) → (∀ g, g < QG (qOf I0 d s.1) → lab (qOf I0 d s.1) g ≠ l) → q.1 76 l = 8) := by
    intro T fT t60 tg tn'
    have hn : ∀ l, l < Int32.toNatClampNeg (I0 21 3) → (∀ g, g < QG (qOf I0 d s.1) → lab (qOf I0 d s.1) g ≠ l) → T 76 l = 8 := by
      intro l hl hne
      rw [tn' l hne, j76]
      exact h76 l hl
    have hMT : MM T s := (hM.kept (fJ 49 49 (by decide)) (fJ 49 50 (by decide)) (fJ.row 71 rfl (by decide))).kept (fT 49 49 (by decide)) (fT 49 50 (by decide)) (fT.row 71 rfl (by decide))
    refine ok_mono (sumsM (L := M) (hMD.kept fT) hQ p8 hv hMT (by rw [fT 49 58 (by decide), fJ 49 58 (by decide), h58]) (by rw [fT 49 59 (by decide), fJ 49 59 (by decide), h59]) tg hn) (fun q hq => ?_)
    obtain ⟨a1, a2, a3, a4, a5⟩ := hq
    refine ⟨((fJ.mono (by decide)).trans (fT.mono (by decide))).trans (a2.mono (by decide)), by rw [a1]; exact fM, a3, a4, a5, ?_, fun g hg => ?_, fun l hl hne => ?_⟩
    · rw [a2 49 60 (by decide)]
      exact t60
    · rw [a2.row 76 rfl (by decide)]
      exact tg g hg
    · rw [a2.row 76 rfl (by decide)]
      exact hn l hl hne
  have k6 := z6
  refine ok_lt (fun h6 => ?_) (fun h6 => ?_)
  · have c6 : 6 < QG (qOf I0 d s.1) := by omega
    have ep : plQ (qOf I0 d s.1) = (rr (qOf I0 d s.1) 10).2.2 := if_pos c6
    have er : rdQ (qOf I0 d s.1) = (rr (qOf I0 d s.1) 10).1 := if_pos c6
    refine ok_b (ok_mono (goRoundM hMD hQ j60 (fun j hj => by rw [j76]; exact h76 _ (hlab j hj))) (fun T hT' => tail T hT'.1 ?_ (fun g hg => ?_) hT'.2.2.2))
    · rw [er]
      exact hT'.2.1
    · rw [ep]
      exact hT'.2.2.1 g hg
  · have c6 : ¬ 6 < QG (qOf I0 d s.1) := by omega
    have er : rdQ (qOf I0 d s.1) = 0 := if_neg c6
    refine ok_b (ok_mono (findBestM hMD hQ (by omega)) (fun T hT' => tail T hT'.1 ?_ (fun g hg => ?_) hT'.2.2.2))
    · rw [hT'.2.1, j60, er]
      rfl
    · rw [hT'.2.2.1 g hg]
      exact hbf c6 g
