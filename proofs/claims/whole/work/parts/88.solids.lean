/-! ===== solids are drawn ===== -/
def acr (I : xm_I) (s v : Nat) : Int32 := if I 15 2 = 0 then vtx I s v 0 else if I 15 2 = 1 then vtx I s v 0 else if I 15 2 = 2 then -(vtx I s v 2) else if I 15 2 = 3 then (2 * vtx I s v 0) - vtx I s v 2 else vtx I s v 0 - vtx I s v 2
def ris (I : xm_I) (s v : Nat) : Int32 := if I 15 2 = 0 then vtx I s v 1 else if I 15 2 = 1 then -(vtx I s v 2) else if I 15 2 = 2 then vtx I s v 1 else if I 15 2 = 3 then (2 * vtx I s v 1) - vtx I s v 2 else ((2 * vtx I s v 1) - vtx I s v 0) - vtx I s v 2
def FX (I : xm_I) (s v : Nat) : Int32 := PX I (Int32.toNatClampNeg (I (86 + 8 * s) 0)) + I (86 + 8 * s) 1 * acr I s v
def FY (I : xm_I) (s v : Nat) : Int32 := PY I (Int32.toNatClampNeg (I (86 + 8 * s) 0)) + I (86 + 8 * s) 1 * ris I s v
theorem F_b {I : xm_I} {n s v : Nat} (hp : IvP I) (h : IvS I n) (hs : (s : Int) < (I 15 1).toInt) (hv : (v : Int) < (I (86 + 8 * s) 9).toInt) : (-100000 ≤ (FX I s v).toInt ∧ (FX I s v).toInt ≤ 100000) ∧ (-100000 ≤ (FY I s v).toInt ∧ (FY I s v).toInt ≤ 100000) := by
  obtain ⟨h1, h2, h3, h4, h5, h6, h7⟩ := h
  obtain ⟨⟨a1, a2, a3, a4⟩, ⟨b1, b2, b3⟩, _, _⟩ := h6 s hs
  have v0 := (b3 v 0 hv (by omega)).2
  have v1 := (b3 v 1 hv (by omega)).2
  have v2 := (b3 v 2 hv (by omega)).2
  have k2 := z2
  have px := PX_i hp (Int32.toNatClampNeg (I (86 + 8 * s) 0))
  have py := PY_i hp (Int32.toNatClampNeg (I (86 + 8 * s) 0))
  have t0 : (2 * vtx I s v 0).toInt = 2 * (vtx I s v 0).toInt := by rw [i32m (by rw [k2]; omega), k2]
  have t1 : (2 * vtx I s v 1).toInt = 2 * (vtx I s v 1).toInt := by rw [i32m (by rw [k2]; omega), k2]
  have n2 : (-(vtx I s v 2)).toInt = -(vtx I s v 2).toInt := i32n (by omega)
  have u1 : (2 * vtx I s v 0 - vtx I s v 2).toInt = 2 * (vtx I s v 0).toInt - (vtx I s v 2).toInt := by rw [i32s (by omega), t0]
  have u2 : (vtx I s v 0 - vtx I s v 2).toInt = (vtx I s v 0).toInt - (vtx I s v 2).toInt := by rw [i32s (by omega)]
  have u3 : (2 * vtx I s v 1 - vtx I s v 2).toInt = 2 * (vtx I s v 1).toInt - (vtx I s v 2).toInt := by rw [i32s (by omega), t1]
  have u4 : (2 * vtx I s v 1 - vtx I s v 0).toInt = 2 * (vtx I s v 1).toInt - (vtx I s v 0).toInt := by rw [i32s (by omega), t1]
  have u5 : (2 * vtx I s v 1 - vtx I s v 0 - vtx I s v 2).toInt = 2 * (vtx I s v 1).toInt - (vtx I s v 0).toInt - (vtx I s v 2).toInt := by rw [i32s (by omega), u4]
  have ba : -400 ≤ (acr I s v).toInt ∧ (acr I s v).toInt ≤ 400 := by
    unfold acr
    (repeat' split) <;> omega
  have br : -400 ≤ (ris I s v).toInt ∧ (ris I s v).toInt ≤ 400 := by
    unfold ris
    (repeat' split) <;> omega
  have m1 := mul_ab (a := (I (86 + 8 * s) 1).toInt) (b := (acr I s v).toInt) (m := 50) (n := 400) (by omega) (by omega) (by omega) (by omega)
  have m2 := mul_ab (a := (I (86 + 8 * s) 1).toInt) (b := (ris I s v).toInt) (m := 50) (n := 400) (by omega) (by omega) (by omega) (by omega)
  have e1 : (I (86 + 8 * s) 1 * acr I s v).toInt = (I (86 + 8 * s) 1).toInt * (acr I s v).toInt := i32m (by omega)
  have e2 : (I (86 + 8 * s) 1 * ris I s v).toInt = (I (86 + 8 * s) 1).toInt * (ris I s v).toInt := i32m (by omega)
  unfold FX FY
  rw [i32a (by omega), i32a (by omega)]
  omega
theorem e_So_across {I : xm_I} {n s v : Nat} (h : IvS I n) (hs : (s : Int) < (I 15 1).toInt) (hv : (v : Int) < (I (86 + 8 * s) 9).toInt) : f_So_acrossOf (86 + 8 * s) (n32 v) (I 15 2) I = some (I (86 + 8 * s) 1 * acr I s v) ∧ f_So_risingOf (86 + 8 * s) (n32 v) (I 15 2) I = some (I (86 + 8 * s) 1 * ris I s v) := by
  obtain ⟨h1, h2, h3, h4, h5, h6, h7⟩ := h
  obtain ⟨_, ⟨b1, b2, b3⟩, _, _⟩ := h6 s hs
  have vi : (n32 v).toInt = v := n32i (by omega)
  have vt : Int32.toNatClampNeg (n32 v) = v := n32n (by omega)
  have g : 0 ≤ (n32 v).toInt ∧ (n32 v).toInt < 12 := by omega
  have k0 := z0
  constructor
  · unfold f_So_acrossOf f_So_acrossOf_b0 acr
    rw [if_neg (by rw [lt32]; omega), if_pos (by rw [lt32]; omega)]
    simp only [gd_p _ g, vt]
    (repeat' split) <;> rfl
  · unfold f_So_risingOf f_So_risingOf_b0 ris
    rw [if_neg (by rw [lt32]; omega), if_pos (by rw [lt32]; omega)]
    simp only [gd_p _ g, vt]
    (repeat' split) <;> rfl
theorem ix36 {s v ax : Nat} (hs : s < 4) (hv : v < 12) (hax : ax < 3) : (((36 * n32 s) + (3 * n32 v)) + n32 ax).toInt = ((36 * s + 3 * v + ax : Nat) : Int) ∧ Int32.toNatClampNeg (((36 * n32 s) + (3 * n32 v)) + n32 ax) = 36 * s + 3 * v + ax := by
  have k3 := z3
  have k36 : (36 : Int32).toInt = 36 := by decide
  have si : (n32 s).toInt = s := n32i (by omega)
  have vi : (n32 v).toInt = v := n32i (by omega)
  have ai : (n32 ax).toInt = ax := n32i (by omega)
  have w0 : (36 * n32 s).toInt = 36 * s := by rw [i32m (by rw [k36]; omega), k36, si]
  have w1 : (3 * n32 v).toInt = 3 * v := by rw [i32m (by rw [k3]; omega), k3, vi]
  have w2 : (36 * n32 s + 3 * n32 v).toInt = 36 * s + 3 * v := by rw [i32a (by omega), w0, w1]
  have w3 : (36 * n32 s + 3 * n32 v + n32 ax).toInt = 36 * s + 3 * v + ax := by rw [i32a (by omega), w2, ai]
  have := tn32 (x := 36 * n32 s + 3 * n32 v + n32 ax) (by omega)
  omega
theorem e_M_flat {I : xm_I} {n s v : Nat} (hp : IvP I) (h : IvS I n) (hs : (s : Int) < (I 15 1).toInt) (hv : (v : Int) < (I (86 + 8 * s) 9).toInt) : f_M_flatX (n32 s) (n32 v) I = some (FX I s v) ∧ f_M_flatY (n32 s) (n32 v) I = some (FY I s v) := by
  obtain ⟨h1, h2, h3, h4, h5, h6, h7⟩ := h
  obtain ⟨⟨a1, a2, a3, a4⟩, ⟨b1, b2, b3⟩, _, _⟩ := h6 s hs
  have p60 : (I 1 4).toInt ≤ 60 := hp.1.2
  have si : (n32 s).toInt = s := n32i (by omega)
  have st : Int32.toNatClampNeg (n32 s) = s := n32n (by omega)
  have gs : 0 ≤ (n32 s).toInt ∧ (n32 s).toInt < 4 := by omega
  obtain ⟨x0, y0⟩ := ix36 (s := s) (v := v) (ax := 0) (by omega) (by omega) (by omega)
  obtain ⟨x1, y1⟩ := ix36 (s := s) (v := v) (ax := 1) (by omega) (by omega) (by omega)
  obtain ⟨x2, y2⟩ := ix36 (s := s) (v := v) (ax := 2) (by omega) (by omega) (by omega)
  have e0 : ((36 * n32 s) + (3 * n32 v)) + n32 0 = (36 * n32 s) + (3 * n32 v) := Int32.add_zero _
  rw [e0] at x0 y0
  have n1 : n32 1 = 1 := rfl
  have n2 : n32 2 = 2 := rfl
  rw [n1] at x1 y1
  rw [n2] at x2 y2
  have q0 := (b3 v 0 hv (by omega)).1
  have q1 := (b3 v 1 hv (by omega)).1
  have q2 := (b3 v 2 hv (by omega)).1
  have px := e_M_nowX hp (x := I (86 + 8 * s) 0) a1.1 (by have := a1.2; omega)
  have py := e_M_nowY hp (x := I (86 + 8 * s) 0) a1.1 (by have := a1.2; omega)
  have k0 := z0
  have k1 := z1
  have k2 := z2
  have fx : ∀ y : Int32, f_M_flatX_b78 (n32 s) y I = some (PX I (Int32.toNatClampNeg (I (86 + 8 * s) 0)) + I (86 + 8 * s) 1 * y) := by
    intro y
    unfold f_M_flatX_b78
    rw [gd_p _ gs, st, a2, px]
    simp only [Option.bind_some]
    rw [gd_p _ gs, a4]
  have fy : ∀ y : Int32, f_M_flatY_b102 (n32 s) y I = some (PY I (Int32.toNatClampNeg (I (86 + 8 * s) 0)) + I (86 + 8 * s) 1 * y) := by
    intro y
    unfold f_M_flatY_b102
    rw [gd_p _ gs, st, a2, py]
    simp only [Option.bind_some]
    rw [gd_p _ gs, a4]
  constructor
  · unfold f_M_flatX f_M_flatX_b0
    rw [gd_p _ (by omega), gd_p _ (by omega)]
    dsimp only
    rw [y0, y2, q0, q2, h4]
    simp only [fx]
    unfold FX acr
    by_cases c0 : I 15 2 = 0
    · rw [if_neg (by rw [c0]; decide), if_pos c0]
    · by_cases c1 : I 15 2 = 1
      · rw [if_neg (by rw [c1]; decide), if_neg c0, if_pos c1]
      · have c0' : (I 15 2).toInt ≠ 0 := fun k => c0 (by rw [eq32, k, k0])
        have c1' : (I 15 2).toInt ≠ 1 := fun k => c1 (by rw [eq32, k, k1])
        rw [if_pos (by rw [le32]; omega), if_neg c0, if_neg c1]
        (repeat' split) <;> rfl
  · unfold f_M_flatY f_M_flatY_b0
    rw [gd_p _ (by omega), gd_p _ (by omega), gd_p _ (by omega)]
    dsimp only
    rw [y0, y1, y2, q0, q1, q2, h4]
    simp only [fy]
    unfold FY ris
    by_cases c0 : I 15 2 = 0
    · rw [if_neg (by rw [c0]; decide), if_neg (by rw [c0]; decide), if_neg (by rw [c0]; decide), if_pos c0]
    · by_cases c1 : I 15 2 = 1
      · rw [if_pos c1, if_neg c0, if_pos c1]
      · by_cases c2 : I 15 2 = 2
        · rw [if_neg c1, if_neg (by rw [c2]; decide), if_neg (by rw [c2]; decide), if_neg c0, if_neg c1, if_pos c2]
        · by_cases c3 : I 15 2 = 3
          · rw [if_neg c1, if_pos c3, if_neg c0, if_neg c1, if_neg c2, if_pos c3]
          · have c4 : I 15 2 = 4 := by
              have e : ∀ v : Int32, ¬ I 15 2 = v → (I 15 2).toInt ≠ v.toInt := fun v hv k => hv (by rw [eq32, k])
              have d0 := e _ c0
              have d1 := e _ c1
              have d2 := e _ c2
              have d3 := e _ c3
              have := z3
              have := z4
              rw [eq32]
              omega
            rw [if_neg c1, if_neg c3, if_pos c4, if_neg c0, if_neg c1, if_neg c2, if_neg c3]
/-- the two ends of an edge are vertices -/
theorem E_v {I : xm_I} {n s p : Nat} (h : IvS I n) (hs : (s : Int) < (I 15 1).toInt) (hp : p < 144) (he : isE I s p = true) : ((p / 12 : Nat) : Int) < (I (86 + 8 * s) 9).toInt ∧ ((p % 12 : Nat) : Int) < (I (86 + 8 * s) 9).toInt := by
  obtain ⟨f, hf, hb⟩ := (isE_bit h hs hp).mp he
  obtain ⟨h1, h2, h3, h4, h5, h6, h7⟩ := h
  obtain ⟨_, _, ⟨c1, c2, c3⟩, d⟩ := h6 s hs
  have t := tn32 c1.1
  obtain ⟨_, _, k, hk, ha⟩ := (d p f hp).mp hb
  obtain ⟨e1, e2, _⟩ := c3 f (by omega)
  have hm : (k + 1) % fz I s f < fz I s f := Nat.mod_lt _ (by omega)
  have g1 := e2 k hk
  have g2 := e2 _ hm
  have t1 := tn32 g1.1
  have t2 := tn32 g2.1
  rcases ha with ⟨u1, u2⟩ | ⟨u1, u2⟩ <;> omega
noncomputable def bhd (I : xm_I) (s q : Nat) : Int32 := @bi (¬ snA I s q (Int32.toNatClampNeg (I (86 + 8 * s) 10))) (Classical.propDecidable _)
/-- the marks of one edge -/
noncomputable def resE (I : xm_I) (s q : Nat) : List M6 :=
  if FX I s (q / 12) = FX I s (q % 12) ∧ FY I s (q / 12) = FY I s (q % 12) then [] else
  if ¬ bhd I s q = 0 ∧ ¬ I 12 9 = 0 then [] else
  match wayC I (FX I s (q / 12)).toInt (FY I s (q / 12)).toInt (FX I s (q % 12)).toInt (FY I s (q % 12)).toInt (k0F 1) (k0T 1) with
  | none => []
  | some (F, T) => [wayM I (FX I s (q / 12)).toInt (FY I s (q / 12)).toInt (FX I s (q % 12)).toInt (FY I s (q % 12)).toInt F T (if bhd I s q = 0 then 0 else 1)]
theorem paintEdge {I : xm_I} {L : xm_L} {ms : MS} {n s q : Nat} {st : Int32} (hp : IvP I) (h : IvS I n) (hW : IvW I) (hsc : 0 < (I 14 10).toInt) (hs : (s : Int) < (I 15 1).toInt) (hq : q < 144) (he : isE I s q = true) (hh : ¬ (¬ bhd I s q = 0 ∧ ¬ I 12 9 = 0)) (hst : st = if bhd I s q = 0 then 0 else 1) (hC : CM I ms) : ok (f_Pn_paintEdge (86 + 8 * s) (n32 q) (I 15 2) st I L) (fun r => Fr WP I r.1 ∧ Fr WK L r.2 ∧ CM r.1 (ems ms (resE I s q))) := by
  obtain ⟨v1, v2⟩ := E_v h hs hq he
  obtain ⟨x1, y1⟩ := e_So_across h hs v1
  obtain ⟨x2, y2⟩ := e_So_across h hs v2
  obtain ⟨bx1, by1⟩ := F_b hp h hs v1
  obtain ⟨bx2, by2⟩ := F_b hp h hs v2
  obtain ⟨h1, h2, h3, h4, h5, h6, h7⟩ := h
  obtain ⟨⟨a1, a2, a3, a4⟩, ⟨b1, b2, b3⟩, _, _⟩ := h6 s hs
  have p60 : (I 1 4).toInt ≤ 60 := hp.1.2
  have px := e_Pt_xNow (I := I) (x := I (86 + 8 * s) 0) a1.1 a1.2 p60
  have py := e_Pt_yNow (I := I) (x := I (86 + 8 * s) 0) a1.1 a1.2 p60
  have k12 : (12 : Int32).toInt = 12 := by decide
  have qi : (n32 q).toInt = q := n32i (by omega)
  have d1 : (n32 q / 12).toInt = ((q / 12 : Nat) : Int) := by
    rw [Int32.toInt_div_of_ne_right _ _ (by decide), qi, k12, Int.tdiv_eq_ediv_of_nonneg (by omega)]
    omega
  have e1 : n32 q / 12 = n32 (q / 12) := by rw [eq32, d1, n32i (by omega)]
  have d2 : (n32 q / 12 * 12).toInt = 12 * ((q / 12 : Nat) : Int) := by rw [i32m (by rw [d1, k12]; omega), d1, k12]; omega
  have e2 : n32 q - n32 q / 12 * 12 = n32 (q % 12) := by rw [eq32, i32s (by omega), d2, qi, n32i (by omega)]; omega
  unfold f_Pn_paintEdge f_Pn_paintEdge_b0 f_Pn_paintEdge_b105
  refine ok_e px (ok_e py (ok_e (show f_So_lesserOf (n32 q) = some (n32 (q / 12)) by rw [← e1]; rfl) (ok_e (show f_So_greaterOf (n32 q) = some (n32 (q % 12)) by rw [← e2]; rfl) (ok_e x1 (ok_e y1 (ok_e x2 (ok_e y2 ?_)))))))
  refine ok_e (show f_Cu_setWay _ _ _ _ I = some (setW I (FX I s (q / 12)) (FY I s (q / 12)) (FX I s (q % 12)) (FY I s (q % 12))) from rfl) ?_
  have w3 : (setW I (FX I s (q / 12)) (FY I s (q / 12)) (FX I s (q % 12)) (FY I s (q % 12))) 38 3 = FX I s (q % 12) - FX I s (q / 12) := rfl
  have w4 : (setW I (FX I s (q / 12)) (FY I s (q / 12)) (FX I s (q % 12)) (FY I s (q % 12))) 38 4 = FY I s (q % 12) - FY I s (q / 12) := rfl
  have fJ : Fr WP I (setW I (FX I s (q / 12)) (FY I s (q / 12)) (FX I s (q % 12)) (FY I s (q % 12))) := Fr.up (Fr.up (Fr.up (Fr.up (Fr.refl _ _) (by decide)) (by decide)) (by decide)) (by decide)
  have hCJ : CM (setW I (FX I s (q / 12)) (FY I s (q / 12)) (FX I s (q % 12)) (FY I s (q % 12))) ms := hC
  have z3' : FX I s (q % 12) - FX I s (q / 12) = 0 ↔ (FX I s (q % 12)).toInt = (FX I s (q / 12)).toInt := by rw [eq32, i32s (by omega), z0]; omega
  have z4' : FY I s (q % 12) - FY I s (q / 12) = 0 ↔ (FY I s (q % 12)).toInt = (FY I s (q / 12)).toInt := by rw [eq32, i32s (by omega), z0]; omega
  have go : ((FX I s (q % 12)).toInt ≠ (FX I s (q / 12)).toInt ∨ (FY I s (q % 12)).toInt ≠ (FY I s (q / 12)).toInt) → ok (f_Pn_paintEdge_b110 st 1 (setW I (FX I s (q / 12)) (FY I s (q / 12)) (FX I s (q % 12)) (FY I s (q % 12))) L) (fun r => Fr WP I r.1 ∧ Fr WK L r.2 ∧ CM r.1 (ems ms (resE I s q))) := by
    intro hne
    have en : ¬ (FX I s (q / 12) = FX I s (q % 12) ∧ FY I s (q / 12) = FY I s (q % 12)) := by
      rintro ⟨u1, u2⟩
      rcases hne with hne | hne
      · exact hne (by rw [u1])
      · exact hne (by rw [u2])
    have er : resE I s q = (match wayC I (FX I s (q / 12)).toInt (FY I s (q / 12)).toInt (FX I s (q % 12)).toInt (FY I s (q % 12)).toInt (k0F 1) (k0T 1) with
  | none => []
  | some (F, T) => [wayM I (FX I s (q / 12)).toInt (FY I s (q / 12)).toInt (FX I s (q % 12)).toInt (FY I s (q % 12)).toInt F T (if bhd I s q = 0 then 0 else 1)]) := by
      unfold resE
      rw [if_neg en, if_neg hh]
    rw [er]
    unfold f_Pn_paintEdge_b110
    refine ok_f (by decide) (ok_b (ok_mono (cutWay (L := L) (k := 1) hW hsc (by omega) (by omega) (by omega) (by omega) hne) (fun r hr => ?_)))
    obtain ⟨r1, r2⟩ := hr
    cases hc : wayC I (FX I s (q / 12)).toInt (FY I s (q / 12)).toInt (FX I s (q % 12)).toInt (FY I s (q % 12)).toInt (k0F 1) (k0T 1) with
    | none =>
      rw [hc] at r2
      exact ok_t r2 (ok_s ⟨fJ, r1, hCJ⟩)
    | some FT =>
      obtain ⟨F, T⟩ := FT
      rw [hc] at r2
      obtain ⟨u1, u2, u3, u4, u5⟩ := r2
      refine ok_f (by rw [u1]; decide) (ok_e u2 (ok_e u3 (ok_e u4 (ok_e u5 (ok_b (ok_mono (mk_add hCJ) (fun K hK => ok_s ⟨fJ.trans (hK.1.mono (by decide)), r1, ?_⟩)))))))
      have := hK.2
      rw [hst] at this
      exact this
  refine ok_i (fun c3 => ok_i (fun c4 => ?_) (fun c4 => go (Or.inr fun k => c4 (z4'.mpr k)))) (fun c3 => go (Or.inl fun k => c3 (z3'.mpr k)))
  have g3 := z3'.mp c3
  have g4 := z4'.mp c4
  have er : resE I s q = [] := by
    unfold resE
    rw [if_pos ⟨by rw [eq32, g3], by rw [eq32, g4]⟩]
  rw [er]
  unfold f_Pn_paintEdge_b110
  exact ok_t rfl (ok_s ⟨fJ, Fr.refl _ _, hCJ⟩)
/-- rows of solids stay -/
theorem Sta.so {n : Nat} {I0 I : xm_I} (h : Sta n I0 I) {s : Nat} (hs : s < 4) (a : Nat) (h1 : 86 + 8 * s ≤ a) (h2 : a < 86 + 8 * s + 8) : I a = I0 a := by
  have hc : ∀ x : Fin 32, [0, 1, 6, 14, 15, 17, 21, 25, 30, 38, 39, 49].contains (86 + x.val) = false ∧ 86 + x.val ∈ STC := by decide
  have := hc ⟨a - 86, by omega⟩
  simp only [] at this
  have e : 86 + (a - 86) = a := by omega
  rw [e] at this
  exact h.2.row a this.1 this.2
theorem Sta.EL {n : Nat} {I0 I : xm_I} (h : Sta n I0 I) {s : Nat} (hs : s < 4) : isE I s = isE I0 s ∧ resE I s = resE I0 s ∧ bhd I s = bhd I0 s := by
  have r0 := h.so hs (86 + 8 * s) (by omega) (by omega)
  have r1 := h.so hs (86 + 8 * s + 1) (by omega) (by omega)
  have r2 := h.so hs (86 + 8 * s + 2) (by omega) (by omega)
  have r3 := h.so hs (86 + 8 * s + 3) (by omega) (by omega)
  have r4 := h.so hs (86 + 8 * s + 4) (by omega) (by omega)
  have r5 := h.so hs (86 + 8 * s + 5) (by omega) (by omega)
  have r6 := h.so hs (86 + 8 * s + 6) (by omega) (by omega)
  have r7 := h.so hs (86 + 8 * s + 7) (by omega) (by omega)
  have e0 : I 14 0 = I0 14 0 := h.2 14 0 (by decide)
  have e1 : I 14 1 = I0 14 1 := h.2 14 1 (by decide)
  have e2 : I 14 2 = I0 14 2 := h.2 14 2 (by decide)
  have e3 : I 14 3 = I0 14 3 := h.2 14 3 (by decide)
  have e15 : I 15 2 = I0 15 2 := h.2 15 2 (by decide)
  have t5 : I 1 5 = I0 1 5 := h.2 1 5 (by decide)
  have p2 : I 2 = I0 2 := h.2.row 2 rfl (by decide)
  have p3 : I 3 = I0 3 := h.2.row 3 rfl (by decide)
  have p4 : I 4 = I0 4 := h.2.row 4 rfl (by decide)
  have p5 : I 5 = I0 5 := h.2.row 5 rfl (by decide)
  have p12 : I 12 = I0 12 := h.2.row 12 rfl (by decide)
  have v0 : ∀ v, vtx I s v 0 = vtx I0 s v 0 := fun v => by show I (86 + 8 * s + 1) v = I0 (86 + 8 * s + 1) v; rw [r1]
  have v1 : ∀ v, vtx I s v 1 = vtx I0 s v 1 := fun v => by show I (86 + 8 * s + 2) v = I0 (86 + 8 * s + 2) v; rw [r2]
  have v2 : ∀ v, vtx I s v 2 = vtx I0 s v 2 := fun v => by show I (86 + 8 * s + 3) v = I0 (86 + 8 * s + 3) v; rw [r3]
  have ey : ∀ f, eye I s f = eye I0 s f := fun f => by unfold eye; rw [e15, r4, r5, r6]
  have fx : ∀ v, FX I s v = FX I0 s v := fun v => by unfold FX acr PX; rw [v0, v2, e15, r0, t5, p2, p4]
  have fy : ∀ v, FY I s v = FY I0 s v := fun v => by unfold FY ris PY; rw [v0, v1, v2, e15, r0, t5, p3, p5]
  have bh : ∀ q, bhd I s q = bhd I0 s q := by
    intro q
    have sn : snA I s q (Int32.toNatClampNeg (I (86 + 8 * s) 10)) = snA I0 s q (Int32.toNatClampNeg (I0 (86 + 8 * s) 10)) := by
      unfold snA
      rw [r0, r7]
      simp only [ey]
    unfold bhd
    rw [sn]
  have w6 : ∀ x0 y0 x1 y1 f0 t0, wayC I x0 y0 x1 y1 f0 t0 = wayC I0 x0 y0 x1 y1 f0 t0 := fun x0 y0 x1 y1 f0 t0 => by unfold wayC; rw [e0, e1, e2, e3]
  have w7 : ∀ x0 y0 x1 y1 F T st, wayM I x0 y0 x1 y1 F T st = wayM I0 x0 y0 x1 y1 F T st := SW_ag h
  refine ⟨?_, ?_, funext bh⟩
  · funext p
    unfold isE
    rw [r7]
  · funext q
    unfold resE
    simp only [fx, fy, bh, p12, w6, w7]
