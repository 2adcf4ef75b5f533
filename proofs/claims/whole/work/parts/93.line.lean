/-! ===== one line, by both ===== -/
abbrev WH : List Nat := [18, 18004, 18005, 31013]
abbrev WN : List Nat := [71, 50049, 50050, 50061, 50062, 50063, 50064, 50067]
set_option maxRecDepth 100000 in
theorem dWH : ∀ x ∈ STC, x ∉ WH := by decide
set_option maxRecDepth 100000 in
theorem dWN : ∀ x ∈ STC, x ∉ WN := by decide
theorem TK.kept {I J : xm_I} {X Y : Nat → Int32} {n : Nat} (h : TK I X Y n) (f : Fr WH I J) : TK J X Y n := by
  refine ⟨by rw [f 30 12 (by decide)]; exact h.1, fun k hk => ?_⟩
  rw [f.row 34 rfl (by decide), f.row 35 rfl (by decide)]
  exact h.2 k hk
theorem strkC {n : Nat} {I0 J : xm_I} {M : xm_L} {s : MS} {j : Nat} {y st : Int32} {l : List Cr} {a b : Cr} (hst : Sta n I0 J) (hsc : 0 < (I0 14 10).toInt) (hj : 2 * j + 1 < 12) (hr : rowsL M 36 37 l) (ha : l[2 * j]? = some a) (hb : l[2 * j + 1]? = some b) (sa : sml a) (sb : sml b) (hC : CM J s) : ok (f_Pn_paintHatchStroke (n32 (2 * j)) y st J M) (fun K => Fr [18, 18004, 18005] J K ∧ CM K (ems s (strk I0 y.toInt st a b))) := by
  have ji : (n32 (2 * j)).toInt = ((2 * j : Nat) : Int) := n32i (by omega)
  have jt : Int32.toNatClampNeg (n32 (2 * j)) = 2 * j := n32n (by omega)
  have es : n32 (2 * j) + 1 = n32 (2 * j + 1) := n32s (by omega)
  have ji1 : (n32 (2 * j + 1)).toInt = ((2 * j + 1 : Nat) : Int) := n32i (by omega)
  have jt1 : Int32.toNatClampNeg (n32 (2 * j + 1)) = 2 * j + 1 := n32n (by omega)
  obtain ⟨a1, a2⟩ := hr _ _ ha
  obtain ⟨b1, b2⟩ := hr _ _ hb
  have e0 : J 14 0 = I0 14 0 := hst.2 14 0 (by decide)
  have e1 : J 14 1 = I0 14 1 := hst.2 14 1 (by decide)
  have e10 : J 14 10 = I0 14 10 := hst.2 14 10 (by decide)
  obtain ⟨sx, sy⟩ := hst.sx
  have hsc' : 0 < (J 14 10).toInt := by rw [e10]; exact hsc
  have k0 := z0
  have k12 : (12 : Int32).toInt = 12 := by decide
  have g0 : 0 ≤ (n32 (2 * j)).toInt ∧ (n32 (2 * j)).toInt < 12 := by omega
  have g1 : 0 ≤ (n32 (2 * j + 1)).toInt ∧ (n32 (2 * j + 1)).toInt < 12 := by omega
  have y6 : y.toInt64 = i6 y.toInt := i6_of (i64of y)
  have fin : ∀ p q : Cr, p = cutL I0 a → q = cutR I0 b → ok (f_Pn_paintHatchStroke_b165 y st p.1 p.2 q.1 q.2 J M) (fun K => Fr [18, 18004, 18005] J K ∧ CM K (ems s (strk I0 y.toInt st a b))) := by
    intro p q hp hq
    have gp : gdn p.2 := by rw [hp]; exact (cut_sml sa).1
    have gq : gdn q.2 := by rw [hq]; exact (cut_sml sb).2
    unfold f_Pn_paintHatchStroke_b165 strk
    rw [← hp, ← hq]
    refine ok_i (fun hle => ?_) (fun hle => ?_)
    · rw [if_pos hle]
      refine ok_e (e_Mk_isFull J) (ok_ib (fun hf => ?_) (fun hf => ?_))
      · refine ok_e (e_Fr_sheetY hst.1.2.2.1 hsc' gd1 _) (ok_e (e_Fr_sheetX hst.1.2.2.1 hsc' gp _) (ok_e (e_Fr_sheetX hst.1.2.2.1 hsc' gq _) (ok_b (ok_mono (mk_add hC) (fun K hK => ok_s ⟨hK.1, ?_⟩)))))
        have := hK.2
        rw [sx, sy, y6] at this
        exact this
      · refine ok_b (ok_mono (mk_lose hC) (fun K hK => ok_s ⟨hK.1, ?_⟩))
        have := hK.2
        rw [ems_one]
        unfold em
        rw [if_neg]
        · exact this
        · obtain ⟨c1, c2, _⟩ := hC
          rw [c2, n32i (by omega)] at hf
          omega
    · rw [if_neg hle]
      exact ok_s ⟨Fr.refl _ _, hC⟩
  have b103 : ∀ p : Cr, p = cutL I0 a → ∀ xr : Int32, (xr = 0 ∧ b.1 ≤ (I0 14 1).toInt64 * b.2) ∨ (xr = 1 ∧ ¬ b.1 ≤ (I0 14 1).toInt64 * b.2) → ok (f_Pn_paintHatchStroke_b120 (n32 (2 * j)) y st xr p.1 p.2 J M) (fun K => Fr [18, 18004, 18005] J K ∧ CM K (ems s (strk I0 y.toInt st a b))) := by
    intro p hp xr hx
    unfold f_Pn_paintHatchStroke_b120 f_Pn_paintHatchStroke_b146
    rcases hx with ⟨hx, hb'⟩ | ⟨hx, hb'⟩
    · refine ok_t hx (ok_g (by rw [es]; exact g1) (ok_t hx (ok_g (by rw [es]; exact g1) ?_)))
      rw [es, jt1, b1, b2]
      exact fin p b hp (by unfold cutR; rw [if_pos hb'])
    · have hn : ¬ xr = 0 := by rw [hx]; decide
      refine ok_f hn (ok_f hn ?_)
      rw [e1]
      exact fin p ((I0 14 1).toInt64, 1) hp (by unfold cutR; rw [if_neg hb'])
  have b79 : ∀ xl : Int32, (xl = 0 ∧ (I0 14 0).toInt64 * a.2 ≤ a.1) ∨ (xl = 1 ∧ ¬ (I0 14 0).toInt64 * a.2 ≤ a.1) → ∀ xr : Int32, (xr = 0 ∧ b.1 ≤ (I0 14 1).toInt64 * b.2) ∨ (xr = 1 ∧ ¬ b.1 ≤ (I0 14 1).toInt64 * b.2) → ok (f_Pn_paintHatchStroke_b79 (n32 (2 * j)) y st xl xr J M) (fun K => Fr [18, 18004, 18005] J K ∧ CM K (ems s (strk I0 y.toInt st a b))) := by
    intro xl hl xr hx
    unfold f_Pn_paintHatchStroke_b79 f_Pn_paintHatchStroke_b103
    rcases hl with ⟨hl, ha'⟩ | ⟨hl, ha'⟩
    · refine ok_t hl (ok_g g0 (ok_t hl (ok_g g0 ?_)))
      rw [jt, a1, a2]
      exact b103 a (by unfold cutL; rw [if_pos ha']) xr hx
    · have hn : ¬ xl = 0 := by rw [hl]; decide
      refine ok_f hn (ok_f hn ?_)
      rw [e0]
      exact b103 ((I0 14 0).toInt64, 1) (by unfold cutL; rw [if_neg ha']) xr hx
  have b43 : ∀ xl : Int32, (xl = 0 ∧ (I0 14 0).toInt64 * a.2 ≤ a.1) ∨ (xl = 1 ∧ ¬ (I0 14 0).toInt64 * a.2 ≤ a.1) → ok (f_Pn_paintHatchStroke_b43 (n32 (2 * j)) y st xl J M) (fun K => Fr [18, 18004, 18005] J K ∧ CM K (ems s (strk I0 y.toInt st a b))) := by
    intro xl hl
    unfold f_Pn_paintHatchStroke_b43
    refine ok_g (by rw [es]; exact g1) (ok_g (by rw [es]; exact g1) (ok_i (fun c => ?_) (fun c => ?_)))
    · rw [es, jt1, b1, b2, e1] at c
      exact b79 xl hl 0 (Or.inl ⟨rfl, c⟩)
    · rw [es, jt1, b1, b2, e1] at c
      exact b79 xl hl 1 (Or.inr ⟨rfl, c⟩)
  unfold f_Pn_paintHatchStroke f_Pn_paintHatchStroke_b0
  refine ok_f (by rw [lt32]; omega) (ok_t (by rw [es, lt32]; omega) (ok_g g0 (ok_g g0 (ok_i (fun c => ?_) (fun c => ?_)))))
  · rw [jt, a1, a2, e0] at c
    exact b43 0 (Or.inl ⟨rfl, c⟩)
  · rw [jt, a1, a2, e0] at c
    exact b43 1 (Or.inr ⟨rfl, c⟩)
theorem lineC {n : Nat} {I0 I : xm_I} {L : xm_L} {s : MS} {X Y : Nat → Int32} {N : Nat} {y st : Int32} (hst : Sta n I0 I) (hsc : 0 < (I0 14 10).toInt) (h : XY X Y) (hN : 3 ≤ N ∧ N ≤ 12) (tk : TK I X Y N) (hy : -40000 ≤ y.toInt ∧ y.toInt ≤ 40000) (hC : CM I s) : ok (f_Pn_paintHatch y st I L) (fun q => Fr WH I q.1 ∧ CM q.1 (ems s (strN I0 y.toInt st (crs X Y N y.toInt N) (crC Y N y.toInt N / 2))) ∧ Fr [36, 37] L q.2) := by
  have k2 := z2
  unfold f_Pn_paintHatch f_Pn_paintHatch_b0 f_Pn_paintHatch_b7
  dsimp only
  refine lp_inv (fun t => ∃ k : Nat, k ≤ N ∧ t.1 = n32 k ∧ Fr [31013] I t.2.1 ∧ t.2.1 30 13 = n32 (crs X Y N y.toInt k).length ∧ rowsL t.2.2 36 37 (crs X Y N y.toInt k) ∧ Fr [36, 37] L t.2.2) (fun t => (13 - t.1.toInt).toNat) _ ?_ (0, up2 I 30 13 0, L) ⟨0, by omega, rfl, Fr.up (Fr.refl _ _) (by decide), rfl, (fun i q hq => by cases hq), Fr.refl _ _⟩
  rintro ⟨kk, J, M⟩ ⟨k, hk, q1, q2, q3, q4, q5⟩
  simp only at q1 q2 q3 q4 q5
  subst q1
  have ki : (n32 k).toInt = k := n32i (by omega)
  have kt : Int32.toNatClampNeg (n32 k) = k := n32n (by omega)
  have fJ : Fr WH I J := q2.mono (by decide)
  have tkJ := tk.kept fJ
  have j12 : (J 30 12).toInt = N := by rw [tkJ.1, n32i (by omega)]
  have es := n32s (k := k) (by omega)
  have es1 : (n32 k + 1).toInt = (k : Int) + 1 := by rw [es, n32i (by omega)]; omega
  unfold f_Pn_paintHatch_s7
  dsimp only
  refine ok_le (fun hc => ?_) (fun hc => ?_)
  · have e : k = N := by omega
    subst e
    have hl := crs_len X Y k y.toInt k
    have hev := crC_even (Y := Y) (n := k) y.toInt (by omega)
    have hcl := crC_le Y k y.toInt k
    have hall := crs_all (X := X) (Y := Y) (n := k) (y := y.toInt) (P := sml) (fun i _ hc => crP_sml h hc) k (by omega)
    refine ok_m ?_
    unfold f_Pn_paintHatch_b84
    have hCJ : CM J s := hC.kept (q2 17 4 (by decide)) (q2 17 5 (by decide)) (q2.row 18 rfl (by decide))
    refine ok_mono (lp_inv (fun t => ∃ j : Nat, 2 * j ≤ crC Y k y.toInt k ∧ t.1 = n32 (2 * j) ∧ Fr WH I t.2 ∧ t.2 30 13 = n32 (crs X Y k y.toInt k).length ∧ CM t.2 (ems s (strN I0 y.toInt st (crs X Y k y.toInt k) j))) (fun t => (13 - t.1.toInt).toNat) (fun q : xm_I × xm_L => Fr WH I q.1 ∧ CM q.1 (ems s (strN I0 y.toInt st (crs X Y k y.toInt k) (crC Y k y.toInt k / 2))) ∧ Fr [36, 37] L q.2) ?_ (0, J) ⟨0, by omega, rfl, fJ, q3, hCJ⟩) (fun q hq => hq)
    rintro ⟨jj, K⟩ ⟨j, hj, r1, r2, r3, r4⟩
    simp only at r1 r2 r3 r4
    subst r1
    have ji : (n32 (2 * j)).toInt = ((2 * j : Nat) : Int) := n32i (by omega)
    have js : (n32 (2 * j) + 1).toInt = ((2 * j : Nat) : Int) + 1 := by rw [n32s (by omega), n32i (by omega)]; omega
    have j2 : (n32 (2 * j) + 2).toInt = ((2 * j : Nat) : Int) + 2 := by rw [i32a (by omega), ji, k2]
    unfold f_Pn_paintHatch_s84
    dsimp only
    have r3' : (K 30 13).toInt = (crC Y k y.toInt k : Int) := by rw [r3, hl, n32i (by omega)]
    refine ok_le (fun hd => ok_s ?_) (fun hd => ?_)
    · have e : j = crC Y k y.toInt k / 2 := by omega
      rw [← e]
      exact ⟨r2, r4, q5⟩
    · have h1 : 2 * j + 1 < crC Y k y.toInt k := by omega
      obtain ⟨a, ha⟩ : ∃ a, (crs X Y k y.toInt k)[2 * j]? = some a := ⟨_, List.getElem?_eq_getElem (by omega)⟩
      obtain ⟨b, hb⟩ : ∃ b, (crs X Y k y.toInt k)[2 * j + 1]? = some b := ⟨_, List.getElem?_eq_getElem (by omega)⟩
      refine ok_b (ok_mono (strkC (hst.of r2 dWH) hsc (by omega) q4 ha hb (hall _ (List.mem_of_getElem? ha)) (hall _ (List.mem_of_getElem? hb)) r4) (fun V hV => ok_s ⟨⟨j + 1, by omega, ?_, r2.trans (hV.1.mono (by decide)), ?_, ?_⟩, ?_⟩))
      · rw [eq32, j2, n32i (by omega)]
        omega
      · show V 30 13 = _
        rw [hV.1 30 13 (by decide)]
        exact r3
      · have := hV.2
        show CM V (ems s (strN I0 y.toInt st (crs X Y k y.toInt k) j ++ strk I0 y.toInt st (((crs X Y k y.toInt k)[2 * j]?).getD (0, 0)) (((crs X Y k y.toInt k)[2 * j + 1]?).getD (0, 0))))
        rw [ha, hb, ems_app]
        exact this
      · show (13 - (n32 (2 * j) + 2).toInt).toNat < (13 - (n32 (2 * j)).toInt).toNat
        omega
  · have hk' : k < N := by omega
    have dec : (13 - (n32 k + 1).toInt).toNat < (13 - (n32 k).toInt).toNat := by omega
    have hnx : nxk N k < N := by unfold nxk; split <;> omega
    obtain ⟨c1, c2⟩ := tkJ.2 k hk'
    obtain ⟨c3, c4⟩ := tkJ.2 _ hnx
    have nt : Int32.toNatClampNeg (n32 (nxk N k)) = nxk N k := n32n (by omega)
    have hl := crs_len X Y N y.toInt k
    have hcl := crC_le Y N y.toInt k
    have stp : ∀ u v : Int32, ((u = 0 ∧ y.toInt < (Y k).toInt) ∨ (u = 1 ∧ ¬ y.toInt < (Y k).toInt)) → ((v = 0 ∧ y.toInt < (Y (nxk N k)).toInt) ∨ (v = 1 ∧ ¬ y.toInt < (Y (nxk N k)).toInt)) → ok (f_Pn_paintHatch_b65 y st (n32 k) (n32 (nxk N k)) u v J M) (fun x => Sum.elim (fun s' => (∃ k : Nat, k ≤ N ∧ s'.1 = n32 k ∧ Fr [31013] I s'.2.1 ∧ s'.2.1 30 13 = n32 (crs X Y N y.toInt k).length ∧ rowsL s'.2.2 36 37 (crs X Y N y.toInt k) ∧ Fr [36, 37] L s'.2.2) ∧ (13 - s'.1.toInt).toNat < (13 - (n32 k).toInt).toNat) (fun q => Fr WH I q.1 ∧ CM q.1 (ems s (strN I0 y.toInt st (crs X Y N y.toInt N) (crC Y N y.toInt N / 2))) ∧ Fr [36, 37] L q.2) x) := by
      intro u v hu hv
      unfold f_Pn_paintHatch_b65 f_Pn_paintHatch_b76
      have hcu : crs X Y N y.toInt (k + 1) = if crB Y N k y.toInt then ins (crs X Y N y.toInt k) (crP X Y N k y.toInt) else crs X Y N y.toInt k := rfl
      refine ok_i (fun huv => ?_) (fun huv => ?_)
      · have nc : ¬ crB Y N k y.toInt := by
          unfold crB
          rcases hu with ⟨u1, u2⟩ | ⟨u1, u2⟩ <;> rcases hv with ⟨v1, v2⟩ | ⟨v1, v2⟩
          · omega
          · rw [u1, v1] at huv; exact absurd huv (by decide)
          · rw [u1, v1] at huv; exact absurd huv (by decide)
          · omega
        rw [if_neg nc] at hcu
        exact ok_s ⟨⟨k + 1, by omega, es, q2, by rw [hcu]; exact q3, by rw [hcu]; exact q4, q5⟩, dec⟩
      · have nc : crB Y N k y.toInt := by
          unfold crB
          rcases hu with ⟨u1, u2⟩ | ⟨u1, u2⟩ <;> rcases hv with ⟨v1, v2⟩ | ⟨v1, v2⟩
          · exact absurd (u1.trans v1.symm) huv
          · omega
          · omega
          · exact absurd (u1.trans v1.symm) huv
        rw [if_pos nc] at hcu
        refine ok_b (ok_mono (meetC h hN.2 hk' tkJ hy nc (by omega) q3 q4) (fun q hq => ok_s ⟨⟨k + 1, by omega, es, ?_, ?_, ?_, q5.trans hq.2.1⟩, dec⟩))
        · rw [hq.1]
          exact Fr.up q2 (by decide)
        · rw [hq.1, hcu]
          exact up2_self _ _ _ _
        · rw [hcu]
          exact hq.2.2
    have b49 : ∀ u : Int32, ((u = 0 ∧ y.toInt < (Y k).toInt) ∨ (u = 1 ∧ ¬ y.toInt < (Y k).toInt)) → ok (f_Pn_paintHatch_b49 y st (n32 k) (n32 (nxk N k)) u J M) (fun x => Sum.elim (fun s' => (∃ k : Nat, k ≤ N ∧ s'.1 = n32 k ∧ Fr [31013] I s'.2.1 ∧ s'.2.1 30 13 = n32 (crs X Y N y.toInt k).length ∧ rowsL s'.2.2 36 37 (crs X Y N y.toInt k) ∧ Fr [36, 37] L s'.2.2) ∧ (13 - s'.1.toInt).toNat < (13 - (n32 k).toInt).toNat) (fun q => Fr WH I q.1 ∧ CM q.1 (ems s (strN I0 y.toInt st (crs X Y N y.toInt N) (crC Y N y.toInt N / 2))) ∧ Fr [36, 37] L q.2) x) := by
      intro u hu
      unfold f_Pn_paintHatch_b49
      refine ok_g (by rw [n32i (by omega)]; omega) (ok_lt (fun c => ?_) (fun c => ?_))
      · rw [nt, c4] at c
        exact stp u 0 hu (Or.inl ⟨rfl, c⟩)
      · rw [nt, c4] at c
        exact stp u 1 hu (Or.inr ⟨rfl, by omega⟩)
    have b32 : ok (f_Pn_paintHatch_b32 y st (n32 k) (n32 (nxk N k)) J M) (fun x => Sum.elim (fun s' => (∃ k : Nat, k ≤ N ∧ s'.1 = n32 k ∧ Fr [31013] I s'.2.1 ∧ s'.2.1 30 13 = n32 (crs X Y N y.toInt k).length ∧ rowsL s'.2.2 36 37 (crs X Y N y.toInt k) ∧ Fr [36, 37] L s'.2.2) ∧ (13 - s'.1.toInt).toNat < (13 - (n32 k).toInt).toNat) (fun q => Fr WH I q.1 ∧ CM q.1 (ems s (strN I0 y.toInt st (crs X Y N y.toInt N) (crC Y N y.toInt N / 2))) ∧ Fr [36, 37] L q.2) x) := by
      unfold f_Pn_paintHatch_b32
      refine ok_g (by omega) (ok_lt (fun c => ?_) (fun c => ?_))
      · rw [kt, c2] at c
        exact b49 0 (Or.inl ⟨rfl, c⟩)
      · rw [kt, c2] at c
        exact b49 1 (Or.inr ⟨rfl, by omega⟩)
    refine ok_le (fun hd => ?_) (fun hd => ?_)
    · have e : nxk N k = 0 := by unfold nxk; rw [if_neg (by omega)]
      rw [e] at b32
      exact b32
    · have e : nxk N k = k + 1 := by unfold nxk; rw [if_pos (by omega)]
      rw [e] at b32
      rw [es]
      exact b32
theorem strkM {n : Nat} {I0 J : xm_I} {M : xm_L} {s : MS} {j o : Nat} {y : Int64} {l : List Cr} {a b : Cr} {K : (Int32 × xm_I) ⊕ ((Int64 × xm_I × xm_L) ⊕ (xm_I × xm_L)) → Prop} (hst : Sta n I0 J) (hL : HL I0 M) (hsc : 0 < (I0 14 10).toInt) (ho : o < 40) (hj : 2 * j + 1 < 12) (hr : rowsL M 77 78 l) (ha : l[2 * j]? = some a) (hb : l[2 * j + 1]? = some b) (sa : sml a) (sb : sml b) (hM : MM J s) (hK : ∀ V, Fr WS J V → MM V (ems s (strk I0 y.toInt (I0 8 o) a b)) → K (.inl (n32 (2 * j) + 2, V))) : ok (if (J 49 15).toInt64 * (M 78 (Int32.toNatClampNeg (n32 (2 * j)))) ≤ M 77 (Int32.toNatClampNeg (n32 (2 * j))) then f_M_drawArea_b148 (n32 o) y (n32 (2 * j)) 0 J M else f_M_drawArea_b148 (n32 o) y (n32 (2 * j)) 1 J M) K := by
  have ji : (n32 (2 * j)).toInt = ((2 * j : Nat) : Int) := n32i (by omega)
  have jt : Int32.toNatClampNeg (n32 (2 * j)) = 2 * j := n32n (by omega)
  have es : n32 (2 * j) + 1 = n32 (2 * j + 1) := n32s (by omega)
  have ji1 : (n32 (2 * j + 1)).toInt = ((2 * j + 1 : Nat) : Int) := n32i (by omega)
  have jt1 : Int32.toNatClampNeg (n32 (2 * j + 1)) = 2 * j + 1 := n32n (by omega)
  have oi : 0 ≤ (n32 o).toInt ∧ (n32 o).toInt < 40 := by rw [n32i (by omega)]; omega
  have ot : Int32.toNatClampNeg (n32 o) = o := n32n (by omega)
  obtain ⟨a1, a2⟩ := hr _ _ ha
  obtain ⟨b1, b2⟩ := hr _ _ hb
  have hW := hst.1.2.2.1
  have e0 : J 49 15 = I0 14 0 := by rw [hW.1.1]; exact hst.2 14 0 (by decide)
  have e1 : J 49 16 = I0 14 1 := by rw [hW.1.2.1]; exact hst.2 14 1 (by decide)
  have e57 : J 57 = I0 8 := by
    have : J 57 = J 8 := hst.1.2.1.2.2.1.2.2.2.1
    rw [this]
    exact hst.2.row 8 rfl (by decide)
  have g0 : 0 ≤ (n32 (2 * j)).toInt ∧ (n32 (2 * j)).toInt < 12 := by omega
  have g1 : 0 ≤ (n32 (2 * j + 1)).toInt ∧ (n32 (2 * j + 1)).toInt < 12 := by omega
  have y6 : y = i6 y.toInt := i6_of rfl
  have fin : ∀ p q : Cr, p = cutL I0 a → q = cutR I0 b → ok (f_M_drawArea_b267 (n32 o) y (n32 (2 * j)) p.1 p.2 q.1 q.2 J M) K := by
    intro p q hp hq
    have gp : gdn p.2 := by rw [hp]; exact (cut_sml sa).1
    have gq : gdn q.2 := by rw [hq]; exact (cut_sml sb).2
    have hu : strk I0 y.toInt (I0 8 o) a b = if p.1 * q.2 ≤ q.1 * p.2 then [(83, SX I0 p.1 p.2, SY I0 (i6 y.toInt) 1, SX I0 q.1 q.2, SY I0 (i6 y.toInt) 1, I0 8 o)] else [] := by
      unfold strk
      rw [← hp, ← hq]
    unfold f_M_drawArea_b267 f_M_drawArea_b305
    refine ok_i (fun hle => ?_) (fun hle => ?_)
    · rw [if_neg (by rw [le64]; rw [lt64] at hle; omega)] at hu
      rw [hu] at hK
      exact ok_s (hK J (Fr.refl _ _) hM)
    · rw [if_pos (by rw [le64]; rw [lt64] at hle; omega)] at hu
      refine ok_g oi (ok_b (ok_mono (m_stroke hst hL hsc gp gd1 gq gd1 hM) (fun V hV => ok_s (hK V hV.1 ?_))))
      rw [hu, ems_one]
      have := hV.2.1
      rw [e57, ot] at this
      rw [← y6]
      exact this
  have b103 : ∀ p : Cr, p = cutL I0 a → ∀ xr : Int32, (xr = 0 ∧ b.1 ≤ (I0 14 1).toInt64 * b.2) ∨ (xr = 1 ∧ ¬ b.1 ≤ (I0 14 1).toInt64 * b.2) → ok (f_M_drawArea_b223 (n32 o) y (n32 (2 * j)) xr p.1 p.2 J M) K := by
    intro p hp xr hx
    unfold f_M_drawArea_b223 f_M_drawArea_b247
    rcases hx with ⟨hx, hb'⟩ | ⟨hx, hb'⟩
    · refine ok_t hx (ok_g (by rw [es]; exact g1) (ok_t hx (ok_g (by rw [es]; exact g1) ?_)))
      rw [es, jt1, b1, b2]
      exact fin p b hp (by unfold cutR; rw [if_pos hb'])
    · have hn : ¬ xr = 0 := by rw [hx]; decide
      refine ok_f hn (ok_f hn ?_)
      rw [e1]
      exact fin p ((I0 14 1).toInt64, 1) hp (by unfold cutR; rw [if_neg hb'])
  have b79 : ∀ xl : Int32, (xl = 0 ∧ (I0 14 0).toInt64 * a.2 ≤ a.1) ∨ (xl = 1 ∧ ¬ (I0 14 0).toInt64 * a.2 ≤ a.1) → ∀ xr : Int32, (xr = 0 ∧ b.1 ≤ (I0 14 1).toInt64 * b.2) ∨ (xr = 1 ∧ ¬ b.1 ≤ (I0 14 1).toInt64 * b.2) → ok (f_M_drawArea_b183 (n32 o) y (n32 (2 * j)) xl xr J M) K := by
    intro xl hl xr hx
    unfold f_M_drawArea_b183 f_M_drawArea_b205
    rcases hl with ⟨hl, ha'⟩ | ⟨hl, ha'⟩
    · refine ok_t hl (ok_g g0 (ok_t hl (ok_g g0 ?_)))
      rw [jt, a1, a2]
      exact b103 a (by unfold cutL; rw [if_pos ha']) xr hx
    · have hn : ¬ xl = 0 := by rw [hl]; decide
      refine ok_f hn (ok_f hn ?_)
      rw [e0]
      exact b103 ((I0 14 0).toInt64, 1) (by unfold cutL; rw [if_neg ha']) xr hx
  have b43 : ∀ xl : Int32, (xl = 0 ∧ (I0 14 0).toInt64 * a.2 ≤ a.1) ∨ (xl = 1 ∧ ¬ (I0 14 0).toInt64 * a.2 ≤ a.1) → ok (f_M_drawArea_b148 (n32 o) y (n32 (2 * j)) xl J M) K := by
    intro xl hl
    unfold f_M_drawArea_b148
    refine ok_g (by rw [es]; exact g1) (ok_g (by rw [es]; exact g1) (ok_i (fun c => ?_) (fun c => ?_)))
    · rw [es, jt1, b1, b2, e1] at c
      exact b79 xl hl 0 (Or.inl ⟨rfl, c⟩)
    · rw [es, jt1, b1, b2, e1] at c
      exact b79 xl hl 1 (Or.inr ⟨rfl, c⟩)
  refine ok_i (fun c => ?_) (fun c => ?_)
  · rw [jt, a1, a2, e0] at c
    exact b43 0 (Or.inl ⟨rfl, c⟩)
  · rw [jt, a1, a2, e0] at c
    exact b43 1 (Or.inr ⟨rfl, c⟩)
set_option maxRecDepth 100000 in
theorem lineM {n : Nat} {I0 I : xm_I} {L : xm_L} {s : MS} {o : Nat} {y : Int64} (hst : Sta n I0 I) (hL : HL I0 L) (hsc : 0 < (I0 14 10).toInt) (ho : (o : Int) < (I0 6 9).toInt) (h3 : 3 ≤ (I0 10 o).toInt) (hy : -40000 ≤ y.toInt ∧ y.toInt ≤ 40000) (hM : MM I s) : ok (f_M_drawArea_b38 (n32 o) y (0, up2 I 49 67 0, L)) (fun r => ∃ J M, r = .inl (y + (J 49 23).toInt64, J, M) ∧ Fr WN I J ∧ Fr [77, 78] L M ∧ MM J (ems s (hsA I0 o y.toInt))) := by
  have k2 := z2
  have e69 : I 6 9 = I0 6 9 := hst.2 6 9 (by decide)
  have o40 : o < 40 := by
    have := hst.1.2.1.1
    rw [e69] at this
    omega
  have oi : 0 ≤ (n32 o).toInt ∧ (n32 o).toInt < 40 := by rw [n32i (by omega)]; omega
  have ot : Int32.toNatClampNeg (n32 o) = o := n32n (by omega)
  have c12 : (I0 10 o).toInt ≤ 12 := by
    have := (hst.1.2.1.ct (vo_n hst.1.2.1 (o := o) (by rw [e69]; exact ho))).2.2.1
    rw [ot, hst.2.row 10 rfl (by decide)] at this
    exact this
  have tN := tn32 (x := I0 10 o) (by omega)
  have hXY : XY (CX I0 o) (CY I0 o) := by
    have c := hst.cx
    rw [← c.1, ← c.2]
    exact ⟨fun k => (CX_b hst.1.1 o k).1, fun k => (CX_b hst.1.1 o k).2⟩
  unfold hsA
  generalize hNN : Int32.toNatClampNeg (I0 10 o) = N at *
  unfold f_M_drawArea_b38
  refine lp_inv (fun t => ∃ k : Nat, k ≤ N ∧ t.1 = n32 k ∧ Fr [50067] I t.2.1 ∧ Fr [77, 78] L t.2.2 ∧ t.2.1 49 67 = n32 (crs (CX I0 o) (CY I0 o) N y.toInt k).length ∧ rowsL t.2.2 77 78 (crs (CX I0 o) (CY I0 o) N y.toInt k)) (fun t => (13 - t.1.toInt).toNat) _ ?_ (0, up2 I 49 67 0, L) ⟨0, by omega, rfl, Fr.up (Fr.refl _ _) (by decide), Fr.refl _ _, rfl, fun i q hq => by cases hq⟩
  rintro ⟨kk, J, M⟩ ⟨k, hk, q1, q2, q2', q3, q4⟩
  simp only at q1 q2 q2' q3 q4
  subst q1
  have ki : (n32 k).toInt = k := n32i (by omega)
  have kt : Int32.toNatClampNeg (n32 k) = k := n32n (by omega)
  have fJ : Fr WN I J := q2.mono (by decide)
  have hJ : Sta n I0 J := hst.of fJ dWN
  have j10 : J 10 = I0 10 := hJ.2.row 10 rfl (by decide)
  have j56 : J 56 (Int32.toNatClampNeg (n32 o)) = I0 10 o := by
    have : J 56 = J 10 := hJ.1.2.1.2.2.1.2.2.2.2.1
    rw [this, ot, j10]
  have es := n32s (k := k) (by omega)
  have es1 : (n32 k + 1).toInt = (k : Int) + 1 := by rw [es, n32i (by omega)]; omega
  have hl := crs_len (CX I0 o) (CY I0 o) N y.toInt k
  have hcl := crC_le (CY I0 o) N y.toInt k
  unfold f_M_drawArea_s38
  dsimp only
  refine ok_g oi (ok_le (fun hc => ?_) (fun hc => ?_))
  · rw [j56] at hc
    have e : k = N := by omega
    subst e
    have hev := crC_even (Y := CY I0 o) (n := k) y.toInt (by omega)
    have hall := crs_all (X := CX I0 o) (Y := CY I0 o) (n := k) (y := y.toInt) (P := sml) (fun i _ hc => crP_sml hXY hc) k (by omega)
    refine ok_m ?_
    unfold f_M_drawArea_b108
    have hMJ : MM J s := hM.kept (q2 49 49 (by decide)) (q2 49 50 (by decide)) (q2.row 71 rfl (by decide))
    have hLM : HL I0 M := hL.ag rfl rfl ⟨q2' 49 39 (by decide), q2' 49 40 (by decide)⟩
    refine ok_mono (lp_inv (fun t => ∃ j : Nat, 2 * j ≤ crC (CY I0 o) k y.toInt k ∧ t.1 = n32 (2 * j) ∧ Fr WS J t.2 ∧ MM t.2 (ems s (strN I0 y.toInt (I0 8 o) (crs (CX I0 o) (CY I0 o) k y.toInt k) j))) (fun t => (13 - t.1.toInt).toNat) (fun r : (Int64 × xm_I × xm_L) ⊕ (xm_I × xm_L) => ∃ J M, r = .inl (y + (J 49 23).toInt64, J, M) ∧ Fr WN I J ∧ Fr [77, 78] L M ∧ MM J (ems s (strN I0 y.toInt (I0 8 o) (crs (CX I0 o) (CY I0 o) k y.toInt k) (crC (CY I0 o) k y.toInt k / 2)))) ?_ (0, J) ⟨0, by omega, rfl, Fr.refl _ _, hMJ⟩) (fun q hq => hq)
    rintro ⟨jj, K⟩ ⟨j, hj, r1, r2, r4⟩
    simp only at r1 r2 r4
    subst r1
    have ji : (n32 (2 * j)).toInt = ((2 * j : Nat) : Int) := n32i (by omega)
    have js : (n32 (2 * j) + 1).toInt = ((2 * j : Nat) : Int) + 1 := by rw [n32s (by omega), n32i (by omega)]; omega
    have j2 : (n32 (2 * j) + 2).toInt = ((2 * j : Nat) : Int) + 2 := by rw [i32a (by omega), ji, k2]
    unfold f_M_drawArea_s108
    dsimp only
    have r3' : (K 49 67).toInt = (crC (CY I0 o) k y.toInt k : Int) := by rw [r2 49 67 (by decide), q3, hl, n32i (by omega)]
    refine ok_le (fun hd => ok_s ?_) (fun hd => ?_)
    · have e : j = crC (CY I0 o) k y.toInt k / 2 := by omega
      rw [← e]
      exact ⟨K, M, rfl, fJ.trans (r2.mono (by decide)), q2', r4⟩
    · have h1 : 2 * j + 1 < crC (CY I0 o) k y.toInt k := by omega
      obtain ⟨a, ha⟩ : ∃ a, (crs (CX I0 o) (CY I0 o) k y.toInt k)[2 * j]? = some a := ⟨_, List.getElem?_eq_getElem (by omega)⟩
      obtain ⟨b, hb⟩ : ∃ b, (crs (CX I0 o) (CY I0 o) k y.toInt k)[2 * j + 1]? = some b := ⟨_, List.getElem?_eq_getElem (by omega)⟩
      refine ok_g (by omega) (ok_g (by omega) (strkM (hJ.of r2 dWS) hLM hsc o40 (by omega) q4 ha hb (hall _ (List.mem_of_getElem? ha)) (hall _ (List.mem_of_getElem? hb)) r4 (fun V hV1 hV2 => ?_)))
      refine ⟨⟨j + 1, by omega, ?_, r2.trans hV1, ?_⟩, ?_⟩
      · rw [eq32, j2, n32i (by omega)]
        omega
      · show MM V (ems s (strN I0 y.toInt (I0 8 o) (crs (CX I0 o) (CY I0 o) k y.toInt k) j ++ strk I0 y.toInt (I0 8 o) (((crs (CX I0 o) (CY I0 o) k y.toInt k)[2 * j]?).getD (0, 0)) (((crs (CX I0 o) (CY I0 o) k y.toInt k)[2 * j + 1]?).getD (0, 0))))
        rw [ha, hb, ems_app]
        exact hV2
      · show (13 - (n32 (2 * j) + 2).toInt).toNat < (13 - (n32 (2 * j)).toInt).toNat
        omega
  · rw [j56] at hc
    have hk' : k < N := by omega
    have hnx : nxk N k < N := by unfold nxk; split <;> omega
    have nm := nxt_mod (k := n32 k) (n := I0 10 o) (by omega) (by omega) (by omega)
    have en : (n32 k + 1) - (n32 k + 1) / (I0 10 o) * (I0 10 o) = n32 (nxk N k) := by
      rw [nm]
      unfold nxk
      by_cases hh : k + 1 < N
      · rw [if_pos hh, if_neg (by rw [le32]; omega), es]
      · rw [if_neg hh, if_pos (by rw [le32]; omega)]
        rfl
    refine ok_g oi (ok_g (by rw [j56, eq32, z0]; omega) ?_)
    rw [j56, en]
    have cx := hJ.cx
    have j69 : J 6 9 = I0 6 9 := hJ.2 6 9 (by decide)
    obtain ⟨_, _, u1, u2⟩ := xy_n (k := k) (o := o) hJ.1.1 hJ.1.2.1 (by rw [j69]; exact ho) (by rw [j10]; omega) (by omega)
    obtain ⟨_, _, u3, u4⟩ := xy_n (k := nxk N k) (o := o) hJ.1.1 hJ.1.2.1 (by rw [j69]; exact ho) (by rw [j10]; omega) (by omega)
    rw [cx.1] at u1 u3
    rw [cx.2] at u2 u4
    refine ok_e u1 (ok_e u2 (ok_e u3 (ok_e u4 (ok_b (ok_mono (crossM hXY hy (by omega) q3 q4) (fun q hq => ok_s ⟨⟨k + 1, by omega, es, ?_, q2'.trans hq.2.1, ?_, hq.2.2⟩, ?_⟩))))))
    · rw [hq.1]
      exact Fr.up q2 (by decide)
    · rw [hq.1]
      exact up2_self _ _ _ _
    · show (13 - (n32 k + 1).toInt).toNat < (13 - (n32 k).toInt).toNat
      omega
