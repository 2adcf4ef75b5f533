/-! ===== the same, with anchors left alone ===== -/
abbrev WX : List Nat := [18, 18004, 18005, 34, 35, 31012, 31013, 39001, 39002, 39003, 39004]
set_option maxRecDepth 100000 in
theorem dWX : ∀ x ∈ STC, x ∉ WX := by decide
set_option maxRecDepth 100000 in
theorem gridStroke_f {n : Nat} {I0 I : xm_I} {s : MS} {x up : Int32} (hst : Sta n I0 I) (hs : 0 < (I0 14 10).toInt) (hC : CM I s) : ok (f_Pn_paintGridStroke x up I) (fun J => Fr WX I J ∧ CM J (em s (if up = 0 then ghm I0 x.toInt64 else gvm I0 x.toInt64))) := by
  have e10 : I 14 10 = I0 14 10 := hst.2 14 10 (by decide)
  have e0 : I 14 0 = I0 14 0 := hst.2 14 0 (by decide)
  have e1 : I 14 1 = I0 14 1 := hst.2 14 1 (by decide)
  have e2 : I 14 2 = I0 14 2 := hst.2 14 2 (by decide)
  have e3 : I 14 3 = I0 14 3 := hst.2 14 3 (by decide)
  have hW := hst.1.2.2.1
  obtain ⟨sx, sy⟩ := hst.sx
  have hs' : 0 < (I 14 10).toInt := by rw [e10]; exact hs
  have eX : ∀ m : Int64, f_Fr_sheetX m 1 I = some (SX I0 m 1) := fun m => by rw [e_Fr_sheetX hW hs' gd1, sx]
  have eY : ∀ m : Int64, f_Fr_sheetY m 1 I = some (SY I0 m 1) := fun m => by rw [e_Fr_sheetY hW hs' gd1, sy]
  unfold f_Pn_paintGridStroke f_Pn_paintGridStroke_b0
  by_cases hu : up = 0
  · rw [show (if up = 0 then ghm I0 x.toInt64 else gvm I0 x.toInt64) = ghm I0 x.toInt64 from if_pos hu]
    refine ok_t hu (ok_e (eY _) (ok_e (eX _) (ok_e (eX _) (ok_b (ok_mono (mk_add hC) (fun J hJ => ok_s ⟨hJ.1.mono (by decide), ?_⟩))))))
    have := hJ.2
    rw [e0, e1] at this
    exact this
  · rw [show (if up = 0 then ghm I0 x.toInt64 else gvm I0 x.toInt64) = gvm I0 x.toInt64 from if_neg hu]
    refine ok_f hu (ok_e (eX _) (ok_e (eY _) (ok_e (eY _) (ok_b (ok_mono (mk_add hC) (fun J hJ => ok_s ⟨hJ.1.mono (by decide), ?_⟩))))))
    have := hJ.2
    rw [e2, e3] at this
    exact this
set_option maxRecDepth 100000 in
theorem gridWay_f {n : Nat} {I0 I : xm_I} {s : MS} {lo hi up : Int32} (hst : Sta n I0 I) (hs : 0 < (I0 14 10).toInt) (hg : 0 < (I0 14 7).toInt) (hlo : -40000 ≤ lo.toInt ∧ lo.toInt ≤ 40000) (hhi : -40000 ≤ hi.toInt ∧ hi.toInt ≤ 40000) (hC : CM I s) : ok (f_Pn_paintGridWay lo hi up I) (fun J => Fr WX I J ∧ CM J (ems s ((List.range (mulN lo.toInt hi.toInt (I0 14 7).toInt)).map fun k => if up = 0 then ghm I0 (g64 lo.toInt (I0 14 7).toInt k) else gvm I0 (g64 lo.toInt (I0 14 7).toInt k)))) := by
  have e7 : I 14 7 = I0 14 7 := hst.2 14 7 (by decide)
  have hg4 : (I0 14 7).toInt ≤ 40000 := by
    have := hst.1.2.2.1.2.2.1.1.2
    rw [e7] at this
    exact this
  have hG : 0 < (I 14 7).toInt ∧ (I 14 7).toInt ≤ 40000 := by rw [e7]; exact ⟨hg, hg4⟩
  obtain ⟨f, hf1, hf2⟩ := e_multipleFrom (a := lo) (g := I 14 7) (by omega) hG
  obtain ⟨N, hN1, hN2⟩ := e_multiplesWithin (a := lo) (b := hi) (g := I 14 7) (by omega) (by omega) hG
  rw [e7] at hf2 hN2
  obtain ⟨a1, a2, a3, a4⟩ := hC
  have hC' : CM I s := ⟨a1, a2, a3, a4⟩
  have si : (I 17 4).toInt = s.1.length := by rw [a2, n32i (by omega)]
  have hNle := mulN_le (a := lo.toInt) (b := hi.toInt) hg (by omega)
  have k600 : (600 : Int32).toInt = 600 := by decide
  have h6 : (600 - I 17 4).toInt = 600 - s.1.length := by rw [i32s (by omega), k600, si]
  generalize hxs : ((List.range (mulN lo.toInt hi.toInt (I0 14 7).toInt)).map fun k => if up = 0 then ghm I0 (g64 lo.toInt (I0 14 7).toInt k) else gvm I0 (g64 lo.toInt (I0 14 7).toInt k)) = xs
  have xl : xs.length = mulN lo.toInt hi.toInt (I0 14 7).toInt := by rw [← hxs, List.length_map, List.length_range]
  have mm := mnI_i N (600 - I 17 4)
  have hk0 : 0 ≤ (mnI N (600 - I 17 4)).toInt := by omega
  have tk := tn32 hk0
  unfold f_Pn_paintGridWay f_Pn_paintGridWay_b0 f_Pn_paintGridWay_b47
  dsimp only
  refine ok_e hf1 (ok_e hN1 (ok_e (e_Jm_min_I _ _) ?_))
  refine lp_inv (fun st => ∃ i : Nat, i ≤ Int32.toNatClampNeg (mnI N (600 - I 17 4)) ∧ st.1 = n32 i ∧ Fr WX I st.2 ∧ CM st.2 (ems s (xs.take i))) (fun st => (601 - st.1.toInt).toNat) _ ?_ (0, I) ⟨0, by omega, rfl, Fr.refl _ _, hC'⟩
  rintro ⟨ii, J⟩ ⟨i, hi1, e1, e2, e3⟩
  simp only at e1 e2 e3
  subst e1
  have i1 : (n32 i).toInt = i := n32i (by omega)
  unfold f_Pn_paintGridWay_s47
  dsimp only
  refine ok_le (fun hc => ?_) (fun hc => ?_)
  · have ei : i = Int32.toNatClampNeg (mnI N (600 - I 17 4)) := by omega
    refine ok_b (ok_mono (mk_lose e3) (fun K hK => ok_s ⟨e2.trans (hK.1.mono (by decide)), ?_⟩))
    have hsplit : ems s xs = ems (ems s (xs.take i)) (xs.drop i) := by rw [← ems_app, List.take_append_drop]
    have ht : (xs.take i).length = i := by rw [List.length_take]; omega
    have hd : (xs.drop i).length = xs.length - i := List.length_drop
    have hel := ems_len (s := s) (xs := xs.take i) (by omega)
    have hxk : N - mnI N (600 - I 17 4) = n32 (xs.length - i) := by
      rw [eq32, i32s (by omega), n32i (by omega)]
      omega
    rw [hsplit]
    have hK2 := hK.2
    rw [hxk] at hK2
    by_cases hfull : i = xs.length
    · have hnil : xs.drop i = [] := by rw [hfull]; exact List.drop_length
      rw [hnil, ems_nil]
      rw [hfull, Nat.sub_self] at hK2
      have : ((ems s (List.take xs.length xs)).1, (ems s (List.take xs.length xs)).2 + n32 0) = ems s (xs.take i) := by
        rw [hfull]
        show (_, _ + (0 : Int32)) = _
        rw [Int32.add_zero]
      rw [this] at hK2
      exact hK2
    · rw [ems_full (by rw [hel.1]; omega), hd]
      exact hK2
  · have hiN : i < xs.length := by omega
    have hb := (mulN_lt (a := lo.toInt) (b := hi.toInt) hg i).mp (by omega)
    have hm := mulF_b (a := lo.toInt) hg
    have hstJ : Sta n I0 J := hst.of e2 dWX
    have hpos : 0 ≤ (i : Int) * (I0 14 7).toInt := Int.mul_nonneg (by omega) (by omega)
    have p0 : (n32 i * I 14 7).toInt = i * (I0 14 7).toInt := by rw [i32m (by rw [i1, e7]; omega), i1, e7]
    have p1 : (f + n32 i * I 14 7).toInt = mulF lo.toInt (I0 14 7).toInt + i * (I0 14 7).toInt := by rw [i32a (by omega), hf2, p0]
    have p2 : (f + n32 i * I 14 7).toInt64 = g64 lo.toInt (I0 14 7).toInt i := by rw [eq64, i64of, p1, g64_i (by omega)]
    have es := n32s (k := i) (by omega)
    refine ok_b (ok_mono (gridStroke_f (up := up) (x := f + n32 i * I 14 7) hstJ hs e3) (fun K hK => ok_s ⟨⟨i + 1, by omega, es, e2.trans hK.1, ?_⟩, ?_⟩))
    · have hK2 := hK.2
      rw [p2] at hK2
      have ht : xs.take (i + 1) = xs.take i ++ [if up = 0 then ghm I0 (g64 lo.toInt (I0 14 7).toInt i) else gvm I0 (g64 lo.toInt (I0 14 7).toInt i)] := by
        rw [← hxs]
        exact rg_take _ _ _ (by omega)
      rw [ht, ems_app]
      exact hK2
    · show (601 - (n32 i + 1).toInt).toNat < (601 - (n32 i).toInt).toNat
      rw [i32p (by omega) (by omega)]
      omega
set_option maxRecDepth 100000 in
theorem paintGrid_f {n : Nat} {I0 I : xm_I} {s : MS} (hst : Sta n I0 I) (hs : 0 < (I0 14 10).toInt) (hC : CM I s) : ok (f_Pn_paintGrid I) (fun J => Fr WX I J ∧ CM J (ems s (gridL I0))) := by
  have e7 : I 14 7 = I0 14 7 := hst.2 14 7 (by decide)
  have e0 : I 14 0 = I0 14 0 := hst.2 14 0 (by decide)
  have e1 : I 14 1 = I0 14 1 := hst.2 14 1 (by decide)
  have e2 : I 14 2 = I0 14 2 := hst.2 14 2 (by decide)
  have e3 : I 14 3 = I0 14 3 := hst.2 14 3 (by decide)
  obtain ⟨b1, b2, _⟩ := hst.1.2.2.1.2.1
  unfold f_Pn_paintGrid f_Pn_paintGrid_b0 gridL
  refine ok_lt (fun hc => ?_) (fun hc => ?_)
  · rw [z0, e7] at hc
    rw [if_pos hc, ems_app]
    refine ok_b (ok_mono (gridWay_f (up := 1) hst hs hc (by omega) (by omega) hC) (fun J hJ => ?_))
    have hJst : Sta n I0 J := hst.of hJ.1 dWX
    have f2 : J 14 2 = I0 14 2 := hJst.2 14 2 (by decide)
    have f3 : J 14 3 = I0 14 3 := hJst.2 14 3 (by decide)
    have hJ2 := hJ.2
    rw [e0, e1] at hJ2
    refine ok_b (ok_mono (gridWay_f (up := 0) hJst hs hc (by rw [f2, ← e2]; omega) (by rw [f3, ← e3]; omega) hJ2) (fun K hK => ok_s ⟨hJ.1.trans hK.1, ?_⟩))
    have hK2 := hK.2
    rw [f2, f3] at hK2
    exact hK2
  · rw [z0, e7] at hc
    rw [if_neg (by omega)]
    exact ok_s ⟨Fr.refl _ _, hC⟩
theorem paintEdge_f {I : xm_I} {L : xm_L} {ms : MS} {n s q : Nat} {st : Int32} (hp : IvP I) (h : IvS I n) (hW : IvW I) (hsc : 0 < (I 14 10).toInt) (hs : (s : Int) < (I 15 1).toInt) (hq : q < 144) (he : isE I s q = true) (hh : ¬ (¬ bhd I s q = 0 ∧ ¬ I 12 9 = 0)) (hst : st = if bhd I s q = 0 then 0 else 1) (hC : CM I ms) : ok (f_Pn_paintEdge (86 + 8 * s) (n32 q) (I 15 2) st I L) (fun r => Fr WX I r.1 ∧ Fr WK L r.2 ∧ CM r.1 (ems ms (resE I s q))) := by
  obtain ⟨v1, v2⟩ := E_v h hs hq he
  obtain ⟨x1, y1⟩ := e_So_across h hs v1
  obtain ⟨x2, y2⟩ := e_So_across h hs v2
  obtain ⟨bx1, by1⟩ := F_b hp h hs v1
  obtain ⟨bx2, by2⟩ := F_b hp h hs v2
  obtain ⟨h1, h2, h3, h4, h5, h6, h7⟩ := h
  obtain ⟨⟨a1, a2, a3, a4⟩, ⟨b1, b2, b3⟩, _, _⟩ := h6 s hs
  have p60 : (I 1 4).toInt ≤ 60 := hp.1.2
  have px := e_Pt_xNow (I := I) (x := I (86 + 8 * s) 0) a1.1 a1.2 p60
  have py := e_Pt_yNow (I := I) (x := I (86 + 8 * s) 0) a1.1 a1.2 p60
  have k12 : (12 : Int32).toInt = 12 := by decide
  have qi : (n32 q).toInt = q := n32i (by omega)
  have d1 : (n32 q / 12).toInt = ((q / 12 : Nat) : Int) := by
    rw [Int32.toInt_div_of_ne_right _ _ (by decide), qi, k12, Int.tdiv_eq_ediv_of_nonneg (by omega)]
    omega
  have e1 : n32 q / 12 = n32 (q / 12) := by rw [eq32, d1, n32i (by omega)]
  have d2 : (n32 q / 12 * 12).toInt = 12 * ((q / 12 : Nat) : Int) := by rw [i32m (by rw [d1, k12]; omega), d1, k12]; omega
  have e2 : n32 q - n32 q / 12 * 12 = n32 (q % 12) := by rw [eq32, i32s (by omega), d2, qi, n32i (by omega)]; omega
  unfold f_Pn_paintEdge f_Pn_paintEdge_b0 f_Pn_paintEdge_b105
  refine ok_e px (ok_e py (ok_e (show f_So_lesserOf (n32 q) = some (n32 (q / 12)) by rw [← e1]; rfl) (ok_e (show f_So_greaterOf (n32 q) = some (n32 (q % 12)) by rw [← e2]; rfl) (ok_e x1 (ok_e y1 (ok_e x2 (ok_e y2 ?_)))))))
  refine ok_e (show f_Cu_setWay _ _ _ _ I = some (setW I (FX I s (q / 12)) (FY I s (q / 12)) (FX I s (q % 12)) (FY I s (q % 12))) from rfl) ?_
  have w3 : (setW I (FX I s (q / 12)) (FY I s (q / 12)) (FX I s (q % 12)) (FY I s (q % 12))) 38 3 = FX I s (q % 12) - FX I s (q / 12) := rfl
  have w4 : (setW I (FX I s (q / 12)) (FY I s (q / 12)) (FX I s (q % 12)) (FY I s (q % 12))) 38 4 = FY I s (q % 12) - FY I s (q / 12) := rfl
  have fJ : Fr WX I (setW I (FX I s (q / 12)) (FY I s (q / 12)) (FX I s (q % 12)) (FY I s (q % 12))) := Fr.up (Fr.up (Fr.up (Fr.up (Fr.refl _ _) (by decide)) (by decide)) (by decide)) (by decide)
  have hCJ : CM (setW I (FX I s (q / 12)) (FY I s (q / 12)) (FX I s (q % 12)) (FY I s (q % 12))) ms := hC
  have z3' : FX I s (q % 12) - FX I s (q / 12) = 0 ↔ (FX I s (q % 12)).toInt = (FX I s (q / 12)).toInt := by rw [eq32, i32s (by omega), z0]; omega
  have z4' : FY I s (q % 12) - FY I s (q / 12) = 0 ↔ (FY I s (q % 12)).toInt = (FY I s (q / 12)).toInt := by rw [eq32, i32s (by omega), z0]; omega
  have go : ((FX I s (q % 12)).toInt ≠ (FX I s (q / 12)).toInt ∨ (FY I s (q % 12)).toInt ≠ (FY I s (q / 12)).toInt) → ok (f_Pn_paintEdge_b110 st 1 (setW I (FX I s (q / 12)) (FY I s (q / 12)) (FX I s (q % 12)) (FY I s (q % 12))) L) (fun r => Fr WX I r.1 ∧ Fr WK L r.2 ∧ CM r.1 (ems ms (resE I s q))) := by
    intro hne
    have en : ¬ (FX I s (q / 12) = FX I s (q % 12) ∧ FY I s (q / 12) = FY I s (q % 12)) := by
      rintro ⟨u1, u2⟩
      rcases hne with hne | hne
      · exact hne (by rw [u1])
      · exact hne (by rw [u2])
    have er : resE I s q = (match wayC I (FX I s (q / 12)).toInt (FY I s (q / 12)).toInt (FX I s (q % 12)).toInt (FY I s (q % 12)).toInt (k0F 1) (k0T 1) with
  | none => []
  | some (F, T) => [wayM I (FX I s (q / 12)).toInt (FY I s (q / 12)).toInt (FX I s (q % 12)).toInt (FY I s (q % 12)).toInt F T (if bhd I s q = 0 then 0 else 1)]) := by
      unfold resE
      rw [if_neg en, if_neg hh]
      rfl
    rw [er]
    unfold f_Pn_paintEdge_b110
    refine ok_f (by decide) (ok_b (ok_mono (cutWay (L := L) (k := 1) hW hsc (by omega) (by omega) (by omega) (by omega) hne) (fun r hr => ?_)))
    obtain ⟨r1, r2⟩ := hr
    cases hc : wayC I (FX I s (q / 12)).toInt (FY I s (q / 12)).toInt (FX I s (q % 12)).toInt (FY I s (q % 12)).toInt (k0F 1) (k0T 1) with
    | none =>
      rw [hc] at r2
      exact ok_t r2 (ok_s ⟨fJ, r1, hCJ⟩)
    | some FT =>
      obtain ⟨F, T⟩ := FT
      rw [hc] at r2
      obtain ⟨u1, u2, u3, u4, u5⟩ := r2
      refine ok_f (by rw [u1]; decide) (ok_e u2 (ok_e u3 (ok_e u4 (ok_e u5 (ok_b (ok_mono (mk_add hCJ) (fun K hK => ok_s ⟨fJ.trans (hK.1.mono (by decide)), r1, ?_⟩)))))))
      have := hK.2
      rw [hst] at this
      exact this
  refine ok_i (fun c3 => ok_i (fun c4 => ?_) (fun c4 => go (Or.inr fun k => c4 (z4'.mpr k)))) (fun c3 => go (Or.inl fun k => c3 (z3'.mpr k)))
  have g3 := z3'.mp c3
  have g4 := z4'.mp c4
  have er : resE I s q = [] := by
    unfold resE
    rw [if_pos ⟨by rw [eq32, g3], by rw [eq32, g4]⟩]
  rw [er]
  unfold f_Pn_paintEdge_b110
  exact ok_t rfl (ok_s ⟨fJ, Fr.refl _ _, hCJ⟩)
theorem paintSolid_f {n : Nat} {I0 I : xm_I} {L : xm_L} {ms : MS} {s : Nat} (hst : Sta n I0 I) (hsc : 0 < (I0 14 10).toInt) (hs : (s : Int) < (I0 15 1).toInt) (hC : CM I ms) : ok (f_Pn_paintSolid (86 + 8 * s) (I 15 2) I L) (fun r => Fr WX I r.1 ∧ Fr WK L r.2 ∧ CM r.1 (ems ms (flatL (resE I0 s) (EL I0 s 144)))) := by
  have k144 : (144 : Int32).toInt = 144 := by decide
  have e151 : I 15 1 = I0 15 1 := hst.2 15 1 (by decide)
  have e152 : I 15 2 = I0 15 2 := hst.2 15 2 (by decide)
  have hS := hst.1.2.2.2.1
  have s4 : s < 4 := by
    have := hS.1.2
    rw [e151] at this
    omega
  unfold f_Pn_paintSolid f_Pn_paintSolid_b0 f_Pn_paintSolid_b9
  refine ok_b (ok_mono (e_facesSeen hS (by rw [e151]; exact hs)) (fun m hm => ?_))
  refine lp_inv (fun st => ∃ p : Nat, p ≤ 144 ∧ st.1 = n32 p ∧ Fr WX I st.2.1 ∧ Fr WK L st.2.2 ∧ CM st.2.1 (ems ms (flatL (resE I0 s) (EL I0 s p)))) (fun st => (145 - st.1.toInt).toNat) _ ?_ (0, I, L) ⟨0, by omega, rfl, Fr.refl _ _, Fr.refl _ _, hC⟩
  rintro ⟨pp, J, M⟩ ⟨p, hp, q1, q2, q3, q4⟩
  simp only at q1 q2 q3 q4
  subst q1
  have pi : (n32 p).toInt = p := n32i (by omega)
  have hJ : Sta n I0 J := hst.of q2 dWX
  have j151 : J 15 1 = I0 15 1 := hJ.2 15 1 (by decide)
  have j152 : J 15 2 = I0 15 2 := hJ.2 15 2 (by decide)
  have j10 : J 14 10 = I0 14 10 := hJ.2 14 10 (by decide)
  obtain ⟨g1, g2, g3⟩ := hJ.EL s4
  obtain ⟨y1, y2⟩ := hJ.ey s4
  obtain ⟨y3, y4⟩ := hst.ey s4
  obtain ⟨t1, t2⟩ := EL_step I0 s p
  unfold f_Pn_paintSolid_s9
  dsimp only
  refine ok_le (fun hc => ok_s ?_) (fun hc => ?_)
  · have e : p = 144 := by omega
    rw [e] at q4
    exact ⟨q2, q3, q4⟩
  · have dec : (145 - (n32 p + 1).toInt).toNat < (145 - (n32 p).toInt).toNat := by
      rw [i32p (by omega) (by omega)]
      omega
    have es := n32s (k := p) (by omega)
    have hp' : p < 144 := by omega
    have ed := e_So_isEdge (I := J) (s := s) hp'
    rw [g1] at ed
    refine ok_e ed (ok_ib (fun hn => ?_) (fun hy => ?_))
    · unfold f_Pn_paintSolid_b70
      exact ok_s ⟨⟨p + 1, by omega, es, q2, q3, by rw [t2 hn]; exact q4⟩, dec⟩
    · have bh : f_So_isBehind (86 + 8 * s) (n32 p) m J = some (bhd J s p) := e_isBehind hp' (by
        intro g
        rw [y2, y1, ← y4, ← y3]
        exact hm g)
      rw [g3] at bh
      have hid := e_Fg_isHidden (I := J) (x := 9) (by decide) (by decide)
      have j12 : J 12 = I0 12 := hJ.2.row 12 rfl (by decide)
      rw [show Int32.toNatClampNeg 9 = 9 from rfl, j12] at hid
      have go : ∀ st : Int32, (st = if bhd I0 s p = 0 then 0 else 1) → ¬ (¬ bhd I0 s p = 0 ∧ ¬ I0 12 9 = 0) → ok (f_Pn_paintSolid_b67 (86 + 8 * s) (I 15 2) m (n32 p) (86 + 8 * s) (n32 p) (I 15 2) st J M) (fun x => Sum.elim (fun s' => (∃ p : Nat, p ≤ 144 ∧ s'.1 = n32 p ∧ Fr WX I s'.2.1 ∧ Fr WK L s'.2.2 ∧ CM s'.2.1 (ems ms (flatL (resE I0 s) (EL I0 s p)))) ∧ (145 - s'.1.toInt).toNat < (145 - (n32 p).toInt).toNat) (fun r => Fr WX I r.1 ∧ Fr WK L r.2 ∧ CM r.1 (ems ms (flatL (resE I0 s) (EL I0 s 144)))) x) := by
        intro st hst' hh
        unfold f_Pn_paintSolid_b67 f_Pn_paintSolid_b70
        rw [e152, ← j152]
        refine ok_b (ok_mono (paintEdge_f (ms := ems ms (flatL (resE I0 s) (EL I0 s p))) hJ.1.1 hJ.1.2.2.2.1 hJ.1.2.2.1 (by rw [j10]; exact hsc) (by rw [j151]; exact hs) hp' (by rw [g1]; exact hy) (by rw [g3, j12]; exact hh) (by rw [g3]; exact hst') q4) (fun r hr => ok_s ⟨⟨p + 1, by omega, es, q2.trans hr.1, q3.trans hr.2.1, ?_⟩, dec⟩))
        have := hr.2.2
        rw [g2] at this
        rw [t1 hy, ems_app]
        exact this
      unfold f_Pn_paintSolid_b52
      refine ok_e bh (ok_i (fun hb => ok_t hb (go 0 (by rw [if_pos hb]) (fun k => k.1 hb))) (fun hb => ok_e hid (ok_ib (fun hz => ok_f hb (go 1 (by rw [if_neg hb]) (fun k => hz k.2))) (fun hz => ?_))))
      unfold f_Pn_paintSolid_b70
      refine ok_s ⟨⟨p + 1, by omega, es, q2, q3, ?_⟩, dec⟩
      have er : resE I0 s p = [] := by
        unfold resE
        by_cases c : FX I0 s (p / 12) = FX I0 s (p % 12) ∧ FY I0 s (p / 12) = FY I0 s (p % 12)
        · rw [if_pos c]
        · rw [if_neg c, if_pos ⟨hb, hz⟩]
      rw [t1 hy, er, List.append_nil]
      exact q4
theorem paintSolids_f {n : Nat} {I0 I : xm_I} {L : xm_L} {ms : MS} (hst : Sta n I0 I) (hsc : 0 < (I0 14 10).toInt) (hC : CM I ms) : ok (f_Pn_paintSolids n I L) (fun r => Fr WX I r.1 ∧ Fr WK L r.2 ∧ CM r.1 (ems ms (solA I0))) := by
  have e151 : I 15 1 = I0 15 1 := hst.2 15 1 (by decide)
  have g4 : 0 ≤ (I0 15 1).toInt ∧ (I0 15 1).toInt ≤ 4 := by rw [← e151]; exact hst.1.2.2.2.1.1
  have t := tn32 g4.1
  have hid := e_Fg_isHidden (I := I) (x := 8) (by decide) (by decide)
  have j12 : I 12 = I0 12 := hst.2.row 12 rfl (by decide)
  rw [show Int32.toNatClampNeg 8 = 8 from rfl, j12] at hid
  unfold f_Pn_paintSolids f_Pn_paintSolids_b0 f_Pn_paintSolids_b15 solA
  refine ok_e hid (ok_ib (fun hn => ?_) (fun hy => ?_))
  · have h8 : I0 12 8 = 0 := Classical.byContradiction hn
    rw [if_pos h8]
    refine lp_inv (fun st => ∃ s : Nat, s ≤ Int32.toNatClampNeg (I0 15 1) ∧ st.1 = n32 s ∧ Fr WX I st.2.1 ∧ Fr WK L st.2.2 ∧ CM st.2.1 (ems ms (solL I0 s))) (fun st => (5 - st.1.toInt).toNat) _ ?_ (0, I, L) ⟨0, by omega, rfl, Fr.refl _ _, Fr.refl _ _, hC⟩
    rintro ⟨ss, J, M⟩ ⟨s, hs, q1, q2, q3, q4⟩
    simp only at q1 q2 q3 q4
    subst q1
    have si : (n32 s).toInt = s := n32i (by omega)
    have sn : Int32.toNatClampNeg (n32 s) = s := n32n (by omega)
    have hJ : Sta n I0 J := hst.of q2 dWX
    have j151 : J 15 1 = I0 15 1 := hJ.2 15 1 (by decide)
    unfold f_Pn_paintSolids_s15 f_Pn_paintSolids_b42
    dsimp only
    refine ok_le (fun hc => ok_s ?_) (fun hc => ?_)
    · rw [j151] at hc
      have e : s = Int32.toNatClampNeg (I0 15 1) := by omega
      rw [e] at q4
      exact ⟨q2, q3, q4⟩
    · rw [j151] at hc
      have fd := e_Ss_find (x := n32 s) hJ.1.2.2.2.1 (by rw [j151]; omega)
      rw [sn] at fd
      have dec : (5 - (n32 s + 1).toInt).toNat < (5 - (n32 s).toInt).toNat := by
        rw [i32p (by omega) (by omega)]
        omega
      refine ok_e fd.1 ?_
      show ok (gd (xm_sd n (86 + 8 * s)) _) _
      refine ok_g fd.2 (ok_b (ok_mono (paintSolid_f (ms := ems ms (solL I0 s)) hJ hsc (by omega) q4) (fun r hr => ok_s ⟨⟨s + 1, by omega, n32s (by omega), q2.trans hr.1, q3.trans hr.2.1, ?_⟩, dec⟩)))
      show CM r.1 (ems ms (solL I0 s ++ flatL (resE I0 s) (EL I0 s 144)))
      rw [ems_app]
      exact hr.2.2
  · rw [if_neg hy]
    exact ok_s ⟨Fr.refl _ _, Fr.refl _ _, hC⟩
