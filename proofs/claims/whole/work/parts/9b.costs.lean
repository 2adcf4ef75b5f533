/-! ===== boxes and costs of the class ===== -/
theorem e_leftFrom {p : Nat} (hp : p < 8) (w : Int32) : f_Pl_leftFromAnchor (n32 p) w = some (lfA p w) := by
  have h : p = 0 ∨ p = 1 ∨ p = 2 ∨ p = 3 ∨ p = 4 ∨ p = 5 ∨ p = 6 ∨ p = 7 := by omega
  unfold f_Pl_leftFromAnchor f_Pl_leftFromAnchor_b0 lfA
  rcases h with rfl | rfl | rfl | rfl | rfl | rfl | rfl | rfl <;> rfl
theorem ix8 {g p : Nat} (hg : g < 20) (hp : p < 8) : n32 g * 8 + n32 p = n32 (8 * g + p) ∧ 8 * n32 g + n32 p = n32 (8 * g + p) := by
  have k8 : (8 : Int32).toInt = 8 := by decide
  have gi := n32i (k := g) (by omega)
  have pi := n32i (k := p) (by omega)
  have m1 : (n32 g * 8).toInt = g * 8 := by rw [i32m (by rw [gi, k8]; omega), gi, k8]
  have m2 : (8 * n32 g).toInt = 8 * g := by rw [i32m (by rw [gi, k8]; omega), gi, k8]
  constructor
  · rw [eq32, n32i (by omega), i32a (by omega), m1, pi]
    omega
  · rw [eq32, n32i (by omega), i32a (by omega), m2, pi]
    omega
theorem dv8 {i : Nat} (hi : i < 160) : n32 i / 8 = n32 (i / 8) := by
  have k8 : (8 : Int32).toInt = 8 := by decide
  rw [eq32, Int32.toInt_div_of_ne_right _ _ (by decide), n32i (by omega), k8, Int.tdiv_eq_ediv_of_nonneg (by omega), n32i (by omega)]
  omega
def GT (I0 J : xm_I) (gs : List Nat) : Prop := J 39 13 = n32 gs.length ∧ ∀ g l : Nat, gs[g]? = some l → J 40 g = n32 l ∧ J 41 g = wdt I0 l
def BXs (I0 J : xm_I) (d : Anc) (gs : List Nat) (ms : List M6) (N : Nat) : Prop := ∀ i l : Nat, i < N → gs[i / 8]? = some l → J 43 i = bxX I0 d l (i % 8) ∧ J 44 i = bxY I0 d l (i % 8) ∧ J 45 i = cst I0 d ms l (i % 8)
theorem GT.kept {I0 I J : xm_I} {gs : List Nat} (h : GT I0 I gs) (e1 : J 39 13 = I 39 13) (e2 : J 40 = I 40) (e3 : J 41 = I 41) : GT I0 J gs := by
  refine ⟨by rw [e1]; exact h.1, fun g l hg => ?_⟩
  rw [e2, e3]
  exact h.2 g l hg
theorem BXs.kept {I0 I J : xm_I} {d : Anc} {gs : List Nat} {ms : List M6} {N : Nat} (h : BXs I0 I d gs ms N) (e1 : J 43 = I 43) (e2 : J 44 = I 44) (e3 : J 45 = I 45) : BXs I0 J d gs ms N := by
  intro i l hi hg
  rw [e1, e2, e3]
  exact h i l hi hg
abbrev WB3 : List Nat := [43, 44, 45]
set_option maxRecDepth 100000 in
theorem dWB3 : ∀ x ∈ STC, x ∉ WB3 := by decide
theorem setBoxes {n : Nat} {I0 I : xm_I} {d : Anc} {gs : List Nat} {g l : Nat} (hst : Sta n I0 I) (hD : DA I d) (hT : GT I0 I gs) (hg20 : g < 20) (hg : gs[g]? = some l) (hl : (l : Int) < (I0 21 3).toInt) (hs : (d (lbO I0 l)).isSome = true) (hB : BXs I0 I d gs [] (8 * g)) : ok (f_Pl_setBoxes (n32 g) I) (fun J => Fr WB3 I J ∧ BXs I0 J d gs [] (8 * (g + 1))) := by
  obtain ⟨t1, t2⟩ := hT.2 g l hg
  have gi : (n32 g).toInt = g := n32i (by omega)
  have gt : Int32.toNatClampNeg (n32 g) = g := n32n (by omega)
  have hob := lbO_b hst hl
  obtain ⟨ax, ay⟩ := e_anchorXY hD hob.1 hs
  unfold f_Pl_setBoxes f_Pl_setBoxes_b0 f_Pl_setBoxes_b36
  refine ok_g (by omega) ?_
  rw [gt, t1]
  refine ok_e (e_objectOf hst hl).1 (ok_e ax (ok_e ay ?_))
  refine lp_inv (fun st => ∃ p : Nat, p ≤ 8 ∧ st.1 = n32 p ∧ Fr WB3 I st.2 ∧ BXs I0 st.2 d gs [] (8 * g + p)) (fun st => (9 - st.1.toInt).toNat) _ ?_ (0, I) ⟨0, by omega, rfl, Fr.refl _ _, hB⟩
  rintro ⟨pp, J⟩ ⟨p, hp, q1, q2, q3⟩
  simp only at q1 q2 q3
  subst q1
  have pi : (n32 p).toInt = p := n32i (by omega)
  have pt : Int32.toNatClampNeg (n32 p) = p := n32n (by omega)
  have k8 : (8 : Int32).toInt = 8 := by decide
  have k0 := z0
  have hJ : Sta n I0 J := hst.of q2 dWB3
  have j41 : J 41 (Int32.toNatClampNeg (n32 g)) = wdt I0 l := by rw [gt, q2.row 41 rfl (by decide)]; exact t2
  unfold f_Pl_setBoxes_s36
  dsimp only
  refine ok_le (fun hc => ok_s ?_) (fun hc => ?_)
  · have e : p = 8 := by omega
    subst e
    exact ⟨q2, q3⟩
  · have hp8 : p < 8 := by omega
    have dec : (9 - (n32 p + 1).toInt).toNat < (9 - (n32 p).toInt).toNat := by
      rw [i32p (by omega) (by omega)]
      omega
    have es := n32s (k := p) (by omega)
    have eix := (ix8 hg20 hp8).1
    refine ok_g (by omega) (ok_e (by rw [j41]; exact e_leftFrom hp8 _) (ok_g (by omega) ?_))
    rw [pt, eix]
    have e4 : J 14 4 = I0 14 4 := hJ.2 14 4 (by decide)
    have e5 : J 14 5 = I0 14 5 := hJ.2 14 5 (by decide)
    have ii : (n32 (8 * g + p)).toInt = ((8 * g + p : Nat) : Int) := n32i (by omega)
    have it : Int32.toNatClampNeg (n32 (8 * g + p)) = 8 * g + p := n32n (by omega)
    have fin : ∀ (y0 c : Int32), ((y0 = 0 ∧ c = -1) ∨ (y0 = 1 ∧ c = n32 p)) → c = cst I0 d [] l p → ok (f_Pl_setBoxes_b127 (n32 g) (getA d (Int32.toNatClampNeg (I0 22 l))).1 (getA d (Int32.toNatClampNeg (I0 22 l))).2 (n32 p) (n32 (8 * g + p)) ((getA d (Int32.toNatClampNeg (I0 22 l))).1 + lfA p (wdt I0 l)) ((getA d (Int32.toNatClampNeg (I0 22 l))).2 + xm_tp p) y0 J) (fun x => Sum.elim (fun s' => (∃ p : Nat, p ≤ 8 ∧ s'.1 = n32 p ∧ Fr WB3 I s'.2 ∧ BXs I0 s'.2 d gs [] (8 * g + p)) ∧ (9 - s'.1.toInt).toNat < (9 - (n32 p).toInt).toNat) (fun J => Fr WB3 I J ∧ BXs I0 J d gs [] (8 * (g + 1))) x) := by
      intro y0 c hy hcc
      have tail : ok (f_Pl_setBoxes_b164 (n32 g) (getA d (Int32.toNatClampNeg (I0 22 l))).1 (getA d (Int32.toNatClampNeg (I0 22 l))).2 (n32 p) (n32 (8 * g + p)) c (up2 (up2 J 43 (Int32.toNatClampNeg (n32 (8 * g + p))) ((getA d (Int32.toNatClampNeg (I0 22 l))).1 + lfA p (wdt I0 l))) 44 (Int32.toNatClampNeg (n32 (8 * g + p))) ((getA d (Int32.toNatClampNeg (I0 22 l))).2 + xm_tp p))) (fun x => Sum.elim (fun s' => (∃ p : Nat, p ≤ 8 ∧ s'.1 = n32 p ∧ Fr WB3 I s'.2 ∧ BXs I0 s'.2 d gs [] (8 * g + p)) ∧ (9 - s'.1.toInt).toNat < (9 - (n32 p).toInt).toNat) (fun J => Fr WB3 I J ∧ BXs I0 J d gs [] (8 * (g + 1))) x) := by
        unfold f_Pl_setBoxes_b164
        refine ok_g (by omega) (ok_s ⟨⟨p + 1, by omega, es, ?_, ?_⟩, dec⟩)
        · exact Fr.upA (Fr.upA (Fr.upA q2 (by decide) (by decide)) (by decide) (by decide)) (by decide) (by decide)
        · intro i l' hi hg'
          show up2 (up2 (up2 J 43 (Int32.toNatClampNeg (n32 (8 * g + p))) (bxX I0 d l p)) 44 (Int32.toNatClampNeg (n32 (8 * g + p))) (bxY I0 d l p)) 45 (Int32.toNatClampNeg (n32 (8 * g + p))) c 43 i = _ ∧ up2 (up2 (up2 J 43 (Int32.toNatClampNeg (n32 (8 * g + p))) (bxX I0 d l p)) 44 (Int32.toNatClampNeg (n32 (8 * g + p))) (bxY I0 d l p)) 45 (Int32.toNatClampNeg (n32 (8 * g + p))) c 44 i = _ ∧ up2 (up2 (up2 J 43 (Int32.toNatClampNeg (n32 (8 * g + p))) (bxX I0 d l p)) 44 (Int32.toNatClampNeg (n32 (8 * g + p))) (bxY I0 d l p)) 45 (Int32.toNatClampNeg (n32 (8 * g + p))) c 45 i = _
          rw [it]
          by_cases e : i = 8 * g + p
          · have e1 : i / 8 = g := by omega
            have e2 : i % 8 = p := by omega
            rw [e1, hg] at hg'
            cases hg'
            rw [e2, e]
            simp (disch := decide) only [up2_self, up2_ne]
            exact ⟨trivial, trivial, hcc⟩
          · simp (disch := first | decide | exact e) only [up2_ne, up2_nk]
            exact q3 i l' (by omega) hg'
      unfold f_Pl_setBoxes_b127
      refine ok_g (by omega) (ok_g (by omega) ?_)
      rcases hy with ⟨hy, hc1⟩ | ⟨hy, hc1⟩
      · refine ok_t hy ?_
        rw [hc1] at tail
        exact tail
      · refine ok_f (by rw [hy]; decide) ?_
        rw [hc1] at tail
        exact tail
    have cE : cst I0 d [] l p = if opn I0 ((getA d (Int32.toNatClampNeg (I0 22 l))).1 + lfA p (wdt I0 l)) ((getA d (Int32.toNatClampNeg (I0 22 l))).2 + xm_tp p) (wdt I0 l) = true then n32 p else -1 := rfl
    have no : ¬ (0 ≤ ((getA d (Int32.toNatClampNeg (I0 22 l))).1 + lfA p (wdt I0 l)).toInt ∧ 0 ≤ ((getA d (Int32.toNatClampNeg (I0 22 l))).2 + xm_tp p).toInt ∧ ((getA d (Int32.toNatClampNeg (I0 22 l))).1 + lfA p (wdt I0 l) + wdt I0 l).toInt ≤ (I0 14 4).toInt ∧ ((getA d (Int32.toNatClampNeg (I0 22 l))).2 + xm_tp p + 9).toInt ≤ (I0 14 5).toInt) → ok (f_Pl_setBoxes_b126 (n32 g) (getA d (Int32.toNatClampNeg (I0 22 l))).1 (getA d (Int32.toNatClampNeg (I0 22 l))).2 (n32 p) (n32 (8 * g + p)) ((getA d (Int32.toNatClampNeg (I0 22 l))).1 + lfA p (wdt I0 l)) ((getA d (Int32.toNatClampNeg (I0 22 l))).2 + xm_tp p) J) (fun x => Sum.elim (fun s' => (∃ p : Nat, p ≤ 8 ∧ s'.1 = n32 p ∧ Fr WB3 I s'.2 ∧ BXs I0 s'.2 d gs [] (8 * g + p)) ∧ (9 - s'.1.toInt).toNat < (9 - (n32 p).toInt).toNat) (fun J => Fr WB3 I J ∧ BXs I0 J d gs [] (8 * (g + 1))) x) := by
      intro hn
      unfold f_Pl_setBoxes_b126
      refine fin 0 (-1) (Or.inl ⟨rfl, rfl⟩) ?_
      rw [cE, if_neg]
      unfold opn
      rw [decide_eq_true_iff]
      exact hn
    refine ok_lt (fun h1 => no (by omega)) (fun h1 => ok_lt (fun h2 => no (by omega)) (fun h2 => ok_g (by omega) (ok_lt (fun h3 => no (by rw [e4, j41] at h3; omega)) (fun h3 => ok_lt (fun h4 => no (by rw [e5] at h4; omega)) (fun h4 => ?_)))))
    rw [e4, j41] at h3
    rw [e5] at h4
    refine fin 1 (n32 p) (Or.inr ⟨rfl, rfl⟩) ?_
    rw [cE, if_pos]
    unfold opn
    rw [decide_eq_true_iff]
    omega
/-! costs -/
theorem e_isAside {I : xm_I} {i : Nat} {ax ay l t w : Int32} {dx dy : Int64} (hi : i < 160) (h43 : I 43 i = l) (h44 : I 44 i = t) (h41 : I 41 (i / 8) = w) (hax : far1 ax) (hay : far1 ay) (hl : 0 ≤ l.toInt ∧ l.toInt ≤ 400) (ht : 0 ≤ t.toInt ∧ t.toInt ≤ 400) (hw : 6 ≤ w.toInt ∧ w.toInt ≤ 48) (hdx : -200000000 ≤ dx.toInt ∧ dx.toInt ≤ 200000000) (hdy : -200000000 ≤ dy.toInt ∧ dy.toInt ≤ 200000000) : f_Pl_isAside (n32 i) ax ay dx dy I = some (bi ((0 < dx.toInt * (t.toInt - ay.toInt) - dy.toInt * (l.toInt - ax.toInt) ∧ 0 < dx.toInt * (t.toInt - ay.toInt) - dy.toInt * (l.toInt + w.toInt - 1 - ax.toInt) ∧ 0 < dx.toInt * (t.toInt + 8 - ay.toInt) - dy.toInt * (l.toInt - ax.toInt) ∧ 0 < dx.toInt * (t.toInt + 8 - ay.toInt) - dy.toInt * (l.toInt + w.toInt - 1 - ax.toInt)) ∨ (dx.toInt * (t.toInt - ay.toInt) - dy.toInt * (l.toInt - ax.toInt) < 0 ∧ dx.toInt * (t.toInt - ay.toInt) - dy.toInt * (l.toInt + w.toInt - 1 - ax.toInt) < 0 ∧ dx.toInt * (t.toInt + 8 - ay.toInt) - dy.toInt * (l.toInt - ax.toInt) < 0 ∧ dx.toInt * (t.toInt + 8 - ay.toInt) - dy.toInt * (l.toInt + w.toInt - 1 - ax.toInt) < 0))) := by
  unfold far1 at hax hay
  have k0 := z0
  have k1 := z1
  have k9 : (9 : Int32).toInt = 9 := by decide
  have k160 : (160 : Int32).toInt = 160 := by decide
  have ii : (n32 i).toInt = i := n32i (by omega)
  have it : Int32.toNatClampNeg (n32 i) = i := n32n (by omega)
  have d8 := dv8 hi
  have i8 : (n32 (i / 8)).toInt = ((i / 8 : Nat) : Int) := n32i (by omega)
  have t8 : Int32.toNatClampNeg (n32 (i / 8)) = i / 8 := n32n (by omega)
  have gi : 0 ≤ (n32 i).toInt ∧ (n32 i).toInt < 160 := by omega
  unfold f_Pl_isAside f_Pl_isAside_b0
  rw [if_neg (by rw [lt32]; omega), if_pos (by rw [lt32]; omega), gd_p _ gi, gd_p _ gi, d8, gd_p _ (by omega), it, t8, h43, h44, h41]
  dsimp only
  have e1 : (l - ax).toInt = l.toInt - ax.toInt := i32s (by omega)
  have e2 : (t - ay).toInt = t.toInt - ay.toInt := i32s (by omega)
  have e3a : (l - ax + w).toInt = l.toInt - ax.toInt + w.toInt := by rw [i32a (by omega), e1]
  have e3 : (l - ax + w - 1).toInt = l.toInt + w.toInt - 1 - ax.toInt := by rw [i32s (by omega), e3a, k1]; omega
  have e4a : (t - ay + 9).toInt = t.toInt - ay.toInt + 9 := by rw [i32a (by omega), e2, k9]
  have e4 : (t - ay + 9 - 1).toInt = t.toInt + 8 - ay.toInt := by rw [i32s (by omega), e4a, k1]; omega
  have pr : ∀ (a b : Int32), (-200000000 ≤ a.toInt ∧ a.toInt ≤ 200000000) → (-200000000 ≤ b.toInt ∧ b.toInt ≤ 200000000) → (dx * a.toInt64 - dy * b.toInt64).toInt = dx.toInt * a.toInt - dy.toInt * b.toInt := by
    intro a b ha hb
    have m1 := mul_ab (a := dx.toInt) (b := a.toInt) (m := 200000000) (n := 200000000) (by omega) (by omega) (by omega) (by omega)
    have m2 := mul_ab (a := dy.toInt) (b := b.toInt) (m := 200000000) (n := 200000000) (by omega) (by omega) (by omega) (by omega)
    have u1 : (dx * a.toInt64).toInt = dx.toInt * a.toInt := by rw [i64m (by rw [i64of]; omega), i64of]
    have u2 : (dy * b.toInt64).toInt = dy.toInt * b.toInt := by rw [i64m (by rw [i64of]; omega), i64of]
    rw [i64s (by rw [u1, u2]; omega), u1, u2]
  have c1 := pr (t - ay) (l - ax) (by omega) (by omega)
  have c2 := pr (t - ay) (l - ax + w - 1) (by omega) (by omega)
  have c3 := pr (t - ay + 9 - 1) (l - ax) (by omega) (by omega)
  have c4 := pr (t - ay + 9 - 1) (l - ax + w - 1) (by omega) (by omega)
  rw [e1, e2] at c1
  rw [e2, e3] at c2
  rw [e1, e4] at c3
  rw [e3, e4] at c4
  have k06 : (0 : Int64).toInt = 0 := by decide
  unfold f_Pl_isAside_b146
  simp only [le64, lt64, k06, c1, c2, c3, c4]
  generalize dx.toInt * (t.toInt - ay.toInt) - dy.toInt * (l.toInt - ax.toInt) = A1 at *
  generalize dx.toInt * (t.toInt - ay.toInt) - dy.toInt * (l.toInt + w.toInt - 1 - ax.toInt) = A2 at *
  generalize dx.toInt * (t.toInt + 8 - ay.toInt) - dy.toInt * (l.toInt - ax.toInt) = A3 at *
  generalize dx.toInt * (t.toInt + 8 - ay.toInt) - dy.toInt * (l.toInt + w.toInt - 1 - ax.toInt) = A4 at *
  clear pr c1 c2 c3 c4
  (repeat' split) <;> first | (exfalso; omega) | rw [bi_t (by omega)] | rw [bi_f (by omega)]
set_option maxRecDepth 100000 in
theorem dW45 : ∀ x ∈ STC, x ∉ [45] := by decide
theorem addCost {n : Nat} {I0 I : xm_I} {d : Anc} {gs : List Nat} {ms : List M6} {m : M6} {ax ay bx bz : Int32} {cc : Nat} (hst : Sta n I0 I) (hA : oka d) (hT : GT I0 I gs) (hgl : gs.length ≤ 20) (hgs : ∀ g l : Nat, gs[g]? = some l → (l : Int) < (I0 21 3).toInt) (hms : ms.length ≤ 600) (h1 : far1 ax) (h2 : far1 ay) (h3 : far1 bx) (h4 : far1 bz) (hc : cc ≤ 10) (hm : ∀ x y w : Int, mkc x y w m = @ite _ (hitP ax.toInt ay.toInt bx.toInt bz.toInt x (x + w - 1) y (y + 8)) (Classical.propDecidable _) cc 0) (hB : BXs I0 I d gs ms (8 * gs.length)) : ok (f_Pl_addCostOfStroke ax ay bx bz (n32 cc) I) (fun J => Fr [45] I J ∧ BXs I0 J d gs (ms ++ [m]) (8 * gs.length)) := by
  have k0 := z0
  have k1 := z1
  have k8 : (8 : Int32).toInt = 8 := by decide
  have k9 : (9 : Int32).toInt = 9 := by decide
  have m1 := mnI_i ax bx
  have m2 := mxI_i ax bx
  have m3 := mnI_i ay bz
  have m4 := mxI_i ay bz
  unfold f_Pl_addCostOfStroke f_Pl_addCostOfStroke_b0 f_Pl_addCostOfStroke_b33
  refine ok_e (e_Jm_min_I _ _) (ok_e (e_Jm_max_I _ _) (ok_e (e_Jm_min_I _ _) (ok_e (e_Jm_max_I _ _) ?_)))
  refine lp_inv (fun st => ∃ i : Nat, i ≤ 8 * gs.length ∧ st.1 = n32 i ∧ Fr [45] I st.2 ∧ (∀ j l : Nat, j < 8 * gs.length → gs[j / 8]? = some l → st.2 45 j = cst I0 d (if j < i then ms ++ [m] else ms) l (j % 8))) (fun st => (200 - st.1.toInt).toNat) _ ?_ (0, I) ⟨0, by omega, rfl, Fr.refl _ _, fun j l hj hg => (hB j l hj hg).2.2⟩
  rintro ⟨i', J⟩ ⟨i, hi, q1, q2, q3⟩
  simp only at q1 q2 q3
  subst q1
  have ii : (n32 i).toInt = i := n32i (by omega)
  have it : Int32.toNatClampNeg (n32 i) = i := n32n (by omega)
  have j13 : J 39 13 = n32 gs.length := by rw [q2 39 13 (by decide)]; exact hT.1
  have e13 : (J 39 13 * 8).toInt = 8 * (gs.length : Int) := by rw [j13, i32m (by rw [n32i (by omega), k8]; omega), n32i (by omega), k8]; omega
  have r43 := q2.row 43 rfl (by decide)
  have r44 := q2.row 44 rfl (by decide)
  have r41 := q2.row 41 rfl (by decide)
  unfold f_Pl_addCostOfStroke_s33
  dsimp only
  refine ok_le (fun hc1 => ok_s ⟨q2, ?_⟩) (fun hc1 => ?_)
  · have e : i = 8 * gs.length := by omega
    intro j l hj hg
    have := q3 j l hj hg
    rw [if_pos (by omega)] at this
    rw [r43, r44]
    exact ⟨(hB j l hj hg).1, (hB j l hj hg).2.1, this⟩
  · have hi8 : i < 8 * gs.length := by omega
    have gi : 0 ≤ (n32 i).toInt ∧ (n32 i).toInt < 160 := by omega
    have d8 := dv8 (i := i) (by omega)
    have i8 : (n32 (i / 8)).toInt = ((i / 8 : Nat) : Int) := n32i (by omega)
    have t8 : Int32.toNatClampNeg (n32 (i / 8)) = i / 8 := n32n (by omega)
    obtain ⟨l, hg⟩ : ∃ l, gs[i / 8]? = some l := ⟨_, List.getElem?_eq_getElem (by omega)⟩
    have hl := hgs _ l hg
    have hw := wdt_b hst hl
    have w41 : J 41 (i / 8) = wdt I0 l := by rw [r41]; exact (hT.2 _ l hg).2
    obtain ⟨b1, b2, b3⟩ := hB i l hi8 hg
    have c45 := q3 i l hi8 hg
    rw [if_neg (by omega)] at c45
    have dec : (200 - (n32 i + 1).toInt).toNat < (200 - (n32 i).toInt).toNat := by
      rw [i32p (by omega) (by omega)]
      omega
    have es := n32s (k := i) (by omega)
    refine ok_g gi (ok_g (by rw [d8]; omega) (ok_g gi (ok_g gi ?_)))
    rw [it, d8, t8]
    have r43' : J 43 i = bxX I0 d l (i % 8) := by rw [r43]; exact b1
    have r44' : J 44 i = bxY I0 d l (i % 8) := by rw [r44]; exact b2
    have skip : cst I0 d (ms ++ [m]) l (i % 8) = cst I0 d ms l (i % 8) → ok (f_Pl_addCostOfStroke_b174 ax ay bx bz (n32 cc) (mnI ax bx) (mxI ax bx) (mnI ay bz) (mxI ay bz) (n32 i) J) (fun x => Sum.elim (fun s' => (∃ i : Nat, i ≤ 8 * gs.length ∧ s'.1 = n32 i ∧ Fr [45] I s'.2 ∧ (∀ j l : Nat, j < 8 * gs.length → gs[j / 8]? = some l → s'.2 45 j = cst I0 d (if j < i then ms ++ [m] else ms) l (j % 8))) ∧ (200 - s'.1.toInt).toNat < (200 - (n32 i).toInt).toNat) (fun J => Fr [45] I J ∧ BXs I0 J d gs (ms ++ [m]) (8 * gs.length)) x) := by
      intro he
      unfold f_Pl_addCostOfStroke_b174
      refine ok_s ⟨⟨i + 1, by omega, es, q2, fun j l' hj hg' => ?_⟩, dec⟩
      show J 45 j = _
      by_cases e : j = i
      · subst e
        rw [hg] at hg'
        cases hg'
        rw [if_pos (by omega), he]
        exact c45
      · have := q3 j l' hj hg'
        by_cases c : j < i
        · rw [if_pos c] at this
          rw [if_pos (by omega)]
          exact this
        · rw [if_neg c] at this
          rw [if_neg (by omega)]
          exact this
    by_cases ho : opn I0 (bxX I0 d l (i % 8)) (bxY I0 d l (i % 8)) (wdt I0 l) = true
    · obtain ⟨o1, o2, o3, o4⟩ := opn_b hst hA hl (by omega) ho
      have ca : cst I0 d ms l (i % 8) = n32 (i % 8 + mcs (bxX I0 d l (i % 8)).toInt (bxY I0 d l (i % 8)).toInt (wdt I0 l).toInt ms) := if_pos ho
      have cb : cst I0 d (ms ++ [m]) l (i % 8) = n32 (i % 8 + mcs (bxX I0 d l (i % 8)).toInt (bxY I0 d l (i % 8)).toInt (wdt I0 l).toInt (ms ++ [m])) := if_pos ho
      have ml := mcs_le (bxX I0 d l (i % 8)).toInt (bxY I0 d l (i % 8)).toInt (wdt I0 l).toInt ms
      have mone : mcs (bxX I0 d l (i % 8)).toInt (bxY I0 d l (i % 8)).toInt (wdt I0 l).toInt (ms ++ [m]) = mcs (bxX I0 d l (i % 8)).toInt (bxY I0 d l (i % 8)).toInt (wdt I0 l).toInt ms + mkc (bxX I0 d l (i % 8)).toInt (bxY I0 d l (i % 8)).toInt (wdt I0 l).toInt m := by rw [mcs_app]; rfl
      have hmk := hm (bxX I0 d l (i % 8)).toInt (bxY I0 d l (i % 8)).toInt (wdt I0 l).toInt
      have nohit : ¬ hitP ax.toInt ay.toInt bx.toInt bz.toInt (bxX I0 d l (i % 8)).toInt ((bxX I0 d l (i % 8)).toInt + (wdt I0 l).toInt - 1) (bxY I0 d l (i % 8)).toInt ((bxY I0 d l (i % 8)).toInt + 8) → cst I0 d (ms ++ [m]) l (i % 8) = cst I0 d ms l (i % 8) := by
        intro hn
        rw [if_neg hn] at hmk
        rw [ca, cb, mone, hmk]
        rfl
      have e11 : (bxX I0 d l (i % 8) + wdt I0 l - 1).toInt = (bxX I0 d l (i % 8)).toInt + (wdt I0 l).toInt - 1 := by rw [i32s (by omega), o3, k1]
      have e12 : (bxY I0 d l (i % 8) + 9 - 1).toInt = (bxY I0 d l (i % 8)).toInt + 8 := by rw [i32s (by omega), o4, k1]; omega
      have b134 : ¬ hitP ax.toInt ay.toInt bx.toInt bz.toInt (bxX I0 d l (i % 8)).toInt ((bxX I0 d l (i % 8)).toInt + (wdt I0 l).toInt - 1) (bxY I0 d l (i % 8)).toInt ((bxY I0 d l (i % 8)).toInt + 8) → ok (f_Pl_addCostOfStroke_b134 ax ay bx bz (n32 cc) (mnI ax bx) (mxI ax bx) (mnI ay bz) (mxI ay bz) (n32 i) J) (fun x => Sum.elim (fun s' => (∃ i : Nat, i ≤ 8 * gs.length ∧ s'.1 = n32 i ∧ Fr [45] I s'.2 ∧ (∀ j l : Nat, j < 8 * gs.length → gs[j / 8]? = some l → s'.2 45 j = cst I0 d (if j < i then ms ++ [m] else ms) l (j % 8))) ∧ (200 - s'.1.toInt).toNat < (200 - (n32 i).toInt).toNat) (fun J => Fr [45] I J ∧ BXs I0 J d gs (ms ++ [m]) (8 * gs.length)) x) := by
        intro hn
        unfold f_Pl_addCostOfStroke_b134 f_Pl_addCostOfStroke_b135
        exact ok_t rfl (skip (nohit hn))
      have cne : ¬ J 45 i = -1 := by
        rw [c45, ca, eq32, n32i (by omega)]
        have : (-1 : Int32).toInt = -1 := by decide
        omega
      refine ok_f cne (ok_g gi (ok_lt (fun w1 => b134 fun hh => ?_) (fun w1 => ok_lt (fun w2 => b134 fun hh => ?_) (fun w2 => ok_g gi (ok_lt (fun w3 => b134 fun hh => ?_) (fun w3 => ok_lt (fun w4 => b134 fun hh => ?_) (fun w4 => ?_)))))))
      · have := hh.1
        rw [r43'] at w1
        omega
      · have := hh.1
        rw [r43', w41, e11] at w2
        omega
      · have := hh.1
        rw [r44'] at w3
        omega
      · have := hh.1
        rw [r44', e12] at w4
        omega
      · rw [r43'] at w1
        rw [r43', w41, e11] at w2
        rw [r44'] at w3
        rw [r44', e12] at w4
        unfold far1 at h1 h2 h3 h4
        have dx : (bx - ax).toInt64.toInt = bx.toInt - ax.toInt := by rw [i64of, i32s (by omega)]
        have dy : (bz - ay).toInt64.toInt = bz.toInt - ay.toInt := by rw [i64of, i32s (by omega)]
        have asd := e_isAside (I := J) (i := i) (ax := ax) (ay := ay) (l := bxX I0 d l (i % 8)) (t := bxY I0 d l (i % 8)) (w := wdt I0 l) (dx := (bx - ax).toInt64) (dy := (bz - ay).toInt64) (by omega) (by rw [r43]; exact b1) (by rw [r44]; exact b2) w41 h1 h2 o1 o2 hw (by omega) (by omega)
        rw [dx, dy] at asd
        unfold f_Pl_addCostOfStroke_b135
        refine ok_f (by decide) (ok_e asd (ok_ib (fun hn => ?_) (fun hy => skip (nohit fun hh => ?_))))
        · have hit : hitP ax.toInt ay.toInt bx.toInt bz.toInt (bxX I0 d l (i % 8)).toInt ((bxX I0 d l (i % 8)).toInt + (wdt I0 l).toInt - 1) (bxY I0 d l (i % 8)).toInt ((bxY I0 d l (i % 8)).toInt + 8) := ⟨by omega, fun k => hn (Or.inl k), fun k => hn (Or.inr k)⟩
          rw [if_pos hit] at hmk
          refine ok_g gi (ok_g gi ?_)
          unfold f_Pl_addCostOfStroke_b174
          refine ok_s ⟨⟨i + 1, by omega, es, Fr.upA q2 (by decide) (by decide), fun j l' hj hg' => ?_⟩, dec⟩
          show up2 J 45 (Int32.toNatClampNeg (n32 i)) (J 45 (Int32.toNatClampNeg (n32 i)) + n32 cc) 45 j = _
          rw [it]
          by_cases e : j = i
          · subst e
            rw [hg] at hg'
            cases hg'
            rw [up2_self, if_pos (by omega), c45, ca, cb, mone, hmk, eq32, i32a (by rw [n32i (by omega), n32i (by omega)]; omega), n32i (by omega), n32i (by omega), n32i (by omega)]
            omega
          · rw [up2_nk _ _ _ _ _ e]
            have := q3 j l' hj hg'
            by_cases c : j < i
            · rw [if_pos c] at this
              rw [if_pos (by omega)]
              exact this
            · rw [if_neg c] at this
              rw [if_neg (by omega)]
              exact this
        · rcases hy with k | k
          · exact hh.2.1 k
          · exact hh.2.2 k
    · have ca : ∀ ms', cst I0 d ms' l (i % 8) = -1 := fun ms' => if_neg ho
      refine ok_t (by rw [c45]; exact ca _) ?_
      unfold f_Pl_addCostOfStroke_b134 f_Pl_addCostOfStroke_b135
      exact ok_t rfl (skip (by rw [ca, ca]))
theorem addCosts {n : Nat} {I0 I : xm_I} {d : Anc} {gs : List Nat} {s : MS} (hst : Sta n I0 I) (hA : oka d) (hm : okl s.1) (hT : GT I0 I gs) (hgl : gs.length ≤ 20) (hgs : ∀ g l : Nat, gs[g]? = some l → (l : Int) < (I0 21 3).toInt) (hC : CM I s) (hB : BXs I0 I d gs [] (8 * gs.length)) : ok (f_Pl_addCostsOfMarks I) (fun J => Fr [45] I J ∧ BXs I0 J d gs s.1 (8 * gs.length)) := by
  have hlen := hC.1
  unfold f_Pl_addCostsOfMarks f_Pl_addCostsOfMarks_b0 f_Pl_addCostsOfMarks_b2
  refine lp_inv (fun st => ∃ k : Nat, k ≤ s.1.length ∧ st.1 = n32 k ∧ Fr [45] I st.2 ∧ BXs I0 st.2 d gs (s.1.take k) (8 * gs.length)) (fun st => (601 - st.1.toInt).toNat) _ ?_ (0, I) ⟨0, by omega, rfl, Fr.refl _ _, hB⟩
  rintro ⟨kk, J⟩ ⟨k, hk, q1, q2, q3⟩
  simp only at q1 q2 q3
  subst q1
  have ki : (n32 k).toInt = k := n32i (by omega)
  have hJ : Sta n I0 J := hst.of q2 dW45
  have hCJ : CM J s := hC.kept (q2 17 4 (by decide)) (q2 17 5 (by decide)) (q2.row 18 rfl (by decide))
  have hTJ : GT I0 J gs := hT.kept (q2 39 13 (by decide)) (q2.row 40 rfl (by decide)) (q2.row 41 rfl (by decide))
  have j4 : (J 17 4).toInt = s.1.length := by rw [hCJ.2.1, n32i (by omega)]
  unfold f_Pl_addCostsOfMarks_s2 f_Pl_addCostsOfMarks_b97
  dsimp only
  refine ok_le (fun hc => ok_s ?_) (fun hc => ?_)
  · have e : k = s.1.length := by omega
    rw [e, List.take_length] at q3
    exact ⟨q2, q3⟩
  · obtain ⟨m, hkm⟩ : ∃ m, s.1[k]? = some m := ⟨_, List.getElem?_eq_getElem (by omega)⟩
    have okm' := hm m (List.mem_of_getElem? hkm)
    have dec : (601 - (n32 k + 1).toInt).toNat < (601 - (n32 k).toInt).toNat := by
      rw [i32p (by omega) (by omega)]
      omega
    have es := n32s (k := k) (by omega)
    have tk : s.1.take (k + 1) = s.1.take k ++ [m] := by rw [List.take_add_one, hkm]; rfl
    have tl : (s.1.take k).length ≤ 600 := by rw [List.length_take]; omega
    refine ok_e (e_Mk_valueAt (w := 0) hCJ hkm (by omega)) (ok_e (e_Mk_valueAt (w := 1) hCJ hkm (by omega)) (ok_e (e_Mk_valueAt (w := 2) hCJ hkm (by omega)) ?_))
    by_cases c1 : m.1 = 68
    · obtain ⟨f1, f2⟩ := okm'.1 c1
      refine ok_t c1 (ok_b (ok_mono (addCost (cc := 10) (m := m) hJ hA hTJ hgl hgs tl f1 f2 f1 f2 (by omega) (fun x y w => by unfold mkc; rw [if_pos c1]; rfl) q3) (fun K hK => ok_s ⟨⟨k + 1, by omega, es, q2.trans hK.1, ?_⟩, dec⟩)))
      rw [tk]
      exact hK.2
    · refine ok_f c1 ?_
      by_cases c2 : m.1 = 83
      · obtain ⟨⟨f1, f2⟩, f3, f4⟩ := okm'.2 c2
        refine ok_t c2 (ok_e (e_Mk_valueAt (w := 3) hCJ hkm (by omega)) (ok_e (e_Mk_valueAt (w := 4) hCJ hkm (by omega)) (ok_b (ok_mono (addCost (cc := 4) (m := m) hJ hA hTJ hgl hgs tl f1 f2 f3 f4 (by omega) (fun x y w => by unfold mkc; rw [if_neg c1, if_pos c2]; rfl) q3) (fun K hK => ok_s ⟨⟨k + 1, by omega, es, q2.trans hK.1, ?_⟩, dec⟩)))))
        rw [tk]
        exact hK.2
      · refine ok_f c2 (ok_s ⟨⟨k + 1, by omega, es, q2, ?_⟩, dec⟩)
        rw [tk]
        intro i l hi hg
        obtain ⟨b1, b2, b3⟩ := q3 i l hi hg
        refine ⟨b1, b2, ?_⟩
        show J 45 i = _
        rw [b3]
        unfold cst
        rw [mcs_app]
        have : mcs (bxX I0 d l (i % 8)).toInt (bxY I0 d l (i % 8)).toInt (wdt I0 l).toInt [m] = 0 := by
          show mkc _ _ _ m + 0 = 0
          unfold mkc
          rw [if_neg c1, if_neg c2]
        rw [this]
        rfl
