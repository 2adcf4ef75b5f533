/-! ===== the reference lays the octets; what is told of a drawing ===== -/
def mdK (x3 : Int32) (J : xm_I) (l : List Int32) (r : (Int32 × xm_I) ⊕ ((Int32 × xm_I) ⊕ xm_I)) : Prop := ∃ J', r = .inl (x3 + 1, J') ∧ Fr [72, 50052] J J' ∧ OB J' l
theorem md_loop {v64 : Int64} {v : Nat} {x1 x2 x3 : Int32} (hv : v64.toInt = (v : Int)) : ∀ (j : Nat) (u : Int64) (J : xm_I) (l : List Int32), u.toInt = ((10 ^ j : Nat) : Int) → j ≤ 9 → OB J l → l.length + j + 1 ≤ 42000 → ok (lp (f_M_lay_s104 x1 x2 x3 v64) (u, J)) (mdK x3 J (l ++ dgs v j)) := by
  intro j
  induction j with
  | zero =>
    intro u J l hu hj hB hl
    have k0 : (0 : Int64).toInt = 0 := by decide
    have u1 : u.toInt = 1 := hu
    obtain ⟨J1, hJ1, f1, B1⟩ := o0_ok (x := n32 (48 + v / 10 ^ 0 % 10)) hB (by omega)
    refine lp_step ?_
    generalize hK : (fun x => Sum.elim (fun s' => ok (lp (f_M_lay_s104 x1 x2 x3 v64) s') (mdK x3 J (l ++ dgs v 0))) (mdK x3 J (l ++ dgs v 0)) x) = K'
    unfold f_M_lay_s104
    dsimp only
    refine ok_f (by rw [le64, k0]; omega) (ok_g (by rw [eq64, k0]; omega) ?_)
    rw [(dig_val hv hu).2]
    refine ok_e hJ1 (ok_s ?_)
    rw [← hK]
    show ok (lp (f_M_lay_s104 x1 x2 x3 v64) (u / 10, J1)) _
    refine lp_step ?_
    have u0 : (u / 10).toInt = 0 := by
      have := q64 (x := u) (y := 10) (a := 1) (b := 10) (by rw [u1]; rfl) (by decide)
      rw [this]
      rfl
    have e : l ++ dgs v 0 = l ++ [n32 (48 + v / 10 ^ 0 % 10)] := by
      show l ++ [n32 (48 + v % 10)] = _
      rw [Nat.pow_zero, Nat.div_one]
    generalize hK2 : (fun x => Sum.elim (fun s' => ok (lp (f_M_lay_s104 x1 x2 x3 v64) s') (mdK x3 J (l ++ dgs v 0))) (mdK x3 J (l ++ dgs v 0)) x) = K2
    unfold f_M_lay_s104
    dsimp only
    refine ok_t (by rw [le64, k0]; omega) (ok_s ?_)
    rw [← hK2]
    exact ⟨J1, rfl, f1, by rw [e]; exact B1⟩
  | succ j ih =>
    intro u J l hu hj hB hl
    have k0 : (0 : Int64).toInt = 0 := by decide
    have tl := ten_lt (j := j + 1) hj
    obtain ⟨J1, hJ1, f1, B1⟩ := o0_ok (x := n32 (48 + v / 10 ^ (j + 1) % 10)) hB (by omega)
    refine lp_step ?_
    generalize hK : (fun x => Sum.elim (fun s' => ok (lp (f_M_lay_s104 x1 x2 x3 v64) s') (mdK x3 J (l ++ dgs v (j + 1)))) (mdK x3 J (l ++ dgs v (j + 1))) x) = K'
    unfold f_M_lay_s104
    dsimp only
    refine ok_f (by rw [le64, k0]; omega) (ok_g (by rw [eq64, k0]; omega) ?_)
    rw [(dig_val hv hu).2]
    refine ok_e hJ1 (ok_s ?_)
    rw [← hK]
    show ok (lp (f_M_lay_s104 x1 x2 x3 v64) (u / 10, J1)) _
    refine ok_mono (ih (u / 10) J1 _ (ten_div hu) (by omega) B1 (by rw [List.length_append]; show l.length + 1 + j + 1 ≤ 42000; omega)) ?_
    rintro r ⟨J2, hr, g1, g2⟩
    refine ⟨J2, hr, f1.trans g1, ?_⟩
    rw [List.append_assoc] at g2
    exact g2
theorem mu_loop {v64 : Int64} {v : Nat} {x1 x2 x3 : Int32} (hv : v64.toInt = (v : Int)) (hv2 : v ≤ 2147483648) {J : xm_I} {l : List Int32} (hB : OB J l) (hl : l.length + 10 ≤ 42000) : ok (f_M_lay_b78 x1 x2 x3 v64 J) (mdK x3 J (l ++ dgs v (dgl v 9))) := by
  unfold f_M_lay_b78 f_M_lay_b81
  refine lp_inv (fun s => ∃ j : Nat, j ≤ 9 ∧ s.toInt = ((10 ^ j : Nat) : Int) ∧ (j = 0 ∨ 10 ^ j ≤ v)) (fun s => (1000000001 - s.toInt).toNat) _ ?_ 1 ⟨0, by omega, by decide, Or.inl rfl⟩
  rintro u ⟨j, hj, hu, hv3⟩
  have tl := ten_lt (j := j) hj
  have k10 : (10 : Int64).toInt = 10 := by decide
  have k9 : (9 : Int64).toInt = 9 := by decide
  have k0 : (0 : Int64).toInt = 0 := by decide
  have hm : (u * 10).toInt = ((10 ^ (j + 1) : Nat) : Int) := by rw [i64m (by rw [hu, k10]; omega), hu, k10, Nat.pow_succ]; omega
  have hq := q64 hv hu
  have e10 : 10 ^ (j + 1) = 10 ^ j * 10 := Nat.pow_succ ..
  unfold f_M_lay_s81
  dsimp only
  refine ok_g (by rw [eq64, k0]; omega) (ok_le6 (fun hc => ok_m ?_) (fun hc => ok_s ⟨⟨j + 1, ?_, hm, Or.inr ?_⟩, ?_⟩))
  · rw [hq, k9] at hc
    have hlt : v < 10 ^ (j + 1) := by
      rw [e10]
      have := (Nat.div_lt_iff_lt_mul (show 0 < 10 ^ j by omega)).mp (show v / 10 ^ j < 10 by omega)
      omega
    rw [dgl_eq hj hv3 (Or.inr hlt)]
    unfold f_M_lay_b104
    exact md_loop hv j u J l hu hj hB (by omega)
  · rw [hq, k9] at hc
    refine Nat.not_lt.mp fun hh => ?_
    have : j = 9 := by omega
    subst this
    have : v / 10 ^ 9 ≤ 2 := by
      have e9 : 10 ^ 9 = 1000000000 := by decide
      rw [e9]
      omega
    omega
  · rw [hq, k9] at hc
    rw [e10]
    have := (Nat.le_div_iff_mul_le (show 0 < 10 ^ j by omega)).mp (show 10 ≤ v / 10 ^ j by omega)
    omega
  · rw [hm, hu]
    have : j + 1 ≤ 9 := by
      rw [hq, k9] at hc
      refine Nat.not_lt.mp fun hh => ?_
      have : j = 9 := by omega
      subst this
      have : v / 10 ^ 9 ≤ 2 := by
        have e9 : 10 ^ 9 = 1000000000 := by decide
        rw [e9]
        omega
      omega
    have tl2 := ten_lt (j := j + 1) this
    omega
theorem m_row {I : xm_I} {s : MS} {k w : Nat} {m : M6} (h : MM I s) (hk : s.1[k]? = some m) (hw : w ≤ 6) : I 71 (7 * k + w) = m6 m w := by
  obtain ⟨h1, h2, h3, h4⟩ := h
  have r := h4 k m hk
  unfold rowM at r
  have : w = 0 ∨ w = 1 ∨ w = 2 ∨ w = 3 ∨ w = 4 ∨ w = 5 ∨ w = 6 := by omega
  rcases this with rfl | rfl | rfl | rfl | rfl | rfl | rfl
  · exact r.1
  · exact r.2.1
  · exact r.2.2.1
  · exact r.2.2.2.1
  · exact r.2.2.2.2.1
  · exact r.2.2.2.2.2.1
  · exact r.2.2.2.2.2.2
theorem ix7 {k w : Nat} (hk : k < 600) (hw : w ≤ 6) : (7 * n32 k + n32 w).toInt = 7 * k + w ∧ Int32.toNatClampNeg (7 * n32 k + n32 w) = 7 * k + w := by
  have k7 := z7
  have ki : (n32 k).toInt = k := n32i (by omega)
  have wi : (n32 w).toInt = w := n32i (by omega)
  have p0 : (7 * n32 k).toInt = 7 * k := by rw [i32m (by rw [k7]; omega), k7, ki]
  have p1 : (7 * n32 k + n32 w).toInt = 7 * k + w := by rw [i32a (by omega), p0, wi]
  refine ⟨p1, ?_⟩
  have := tn32 (x := 7 * n32 k + n32 w) (by omega)
  omega
theorem ml_ok {I : xm_I} {s : MS} {k : Nat} {m : M6} {l : List Int32} {J : xm_I} (h : MM J s) (hk : s.1[k]? = some m) (hB : OB J (l ++ [m.1])) (hl : l.length ≤ 41900) (hf : Fr [72, 50052] I J) : ok (f_M_lay_b32 (n32 k) m.1 (1, J)) (fun r => ∃ J', r = .inl (n32 (k + 1), J') ∧ Fr [72, 50052] I J' ∧ OB J' (l ++ lineOf m)) := by
  have hb := nOf_b m.1
  have hlt := (List.getElem?_eq_some_iff.mp hk).1
  have h600 := h.1
  have hni : (n32 (nOf m.1)).toInt = nOf m.1 := n32i (by omega)
  unfold f_M_lay_b32
  refine lp_inv (fun st => ∃ i : Nat, i ≤ nOf m.1 ∧ st.1 = n32 (i + 1) ∧ Fr [72, 50052] J st.2 ∧ OB st.2 (l ++ lineTo m i)) (fun st => (7 - st.1.toInt).toNat) _ ?_ (1, J) ⟨0, by omega, rfl, Fr.refl _ _, hB⟩
  rintro ⟨ii, K⟩ ⟨i, hi, e1, e2, e3⟩
  simp only at e1 e2 e3
  subst e1
  have i1 : (n32 (i + 1)).toInt = ((i + 1 : Nat) : Int) := n32i (by omega)
  have hlen := lineTo_len m i
  have hl2 : (l ++ lineTo m i).length ≤ 41900 + 61 := by rw [List.length_append]; omega
  unfold f_M_lay_s32
  dsimp only
  refine ok_e (e_M_numbersOf _) (ok_lt (fun hc => ?_) (fun hc => ?_))
  · have e : i = nOf m.1 := by omega
    obtain ⟨J2, hJ2, f2, B2⟩ := o0_ok (x := 10) e3 (by omega)
    refine ok_e hJ2 (ok_s ⟨J2, ?_, hf.trans (e2.trans f2), ?_⟩)
    · rw [n32s (by omega)]
    · rw [lineTo_of, ← e, ← List.append_assoc]
      exact B2
  · obtain ⟨J2, hJ2, f2, B2⟩ := o0_ok (x := 32) e3 (by omega)
    have f2' := e2.trans f2
    have hM : MM J2 s := h.kept (f2' 49 49 (by decide)) (f2' 49 50 (by decide)) (f2'.row 71 rfl (by decide))
    obtain ⟨x1, x2⟩ := ix7 (k := k) (w := i + 1) (by omega) (by omega)
    have hrow := m_row hM hk (w := i + 1) (by omega)
    refine ok_e hJ2 (ok_g (by omega) ?_)
    rw [x2, hrow]
    have rx := i32r (m6 m (i + 1))
    have k0 : (0 : Int64).toInt = 0 := by decide
    have B2l : (l ++ lineTo m i ++ [32]).length ≤ 41900 + 62 := by rw [List.length_append]; show _ + 1 ≤ _; omega
    have dec : (7 - (n32 (i + 1) + 1).toInt).toNat < (7 - (n32 (i + 1)).toInt).toNat := by
      rw [i32p (by omega) (by omega)]
      omega
    have fin : ∀ J3, Fr [72, 50052] J2 J3 → OB J3 (l ++ lineTo m i ++ [32] ++ num8 (m6 m (i + 1))) → (∃ i_1 : Nat, i_1 ≤ nOf m.1 ∧ n32 (i + 1) + 1 = n32 (i_1 + 1) ∧ Fr [72, 50052] J J3 ∧ OB J3 (l ++ lineTo m i_1)) := by
      intro J3 g1 g2
      refine ⟨i + 1, by omega, n32s (by omega), f2'.trans g1, ?_⟩
      have e : l ++ lineTo m (i + 1) = l ++ lineTo m i ++ [32] ++ num8 (m6 m (i + 1)) := by
        show l ++ (lineTo m i ++ (32 :: num8 _)) = _
        rw [List.append_assoc, List.append_assoc]
        rfl
      rw [e]
      exact g2
    refine ok_le6 (fun hs => ?_) (fun hs => ?_)
    · rw [k0, i64of] at hs
      have hv : (m6 m (i + 1)).toInt64.toInt = (((m6 m (i + 1)).toInt.natAbs : Nat) : Int) := by rw [i64of]; omega
      refine ok_mono (mu_loop hv (by omega) B2 (by omega)) ?_
      rintro r ⟨J3, rfl, g1, g2⟩
      refine ⟨fin J3 g1 ?_, dec⟩
      have e : num8 (m6 m (i + 1)) = dgs (m6 m (i + 1)).toInt.natAbs (dgl (m6 m (i + 1)).toInt.natAbs 9) := by
        unfold num8
        rw [if_neg (by omega)]
        rfl
      rw [e]
      exact g2
    · rw [k0, i64of] at hs
      obtain ⟨J4, hJ4, f4, B4⟩ := o0_ok (x := 45) B2 (by omega)
      have hv : (-(m6 m (i + 1)).toInt64).toInt = (((m6 m (i + 1)).toInt.natAbs : Nat) : Int) := by rw [i64n (by rw [i64of]; omega), i64of]; omega
      refine ok_e hJ4 (ok_mono (mu_loop hv (by omega) B4 (by rw [List.length_append]; show _ + 1 + 10 ≤ _; omega)) ?_)
      rintro r ⟨J3, rfl, g1, g2⟩
      refine ⟨fin J3 (f4.trans g1) ?_, dec⟩
      have e : num8 (m6 m (i + 1)) = [45] ++ dgs (m6 m (i + 1)).toInt.natAbs (dgl (m6 m (i + 1)).toInt.natAbs 9) := by
        unfold num8
        rw [if_pos (by omega)]
      rw [e, ← List.append_assoc]
      exact g2
theorem lay_ok {I : xm_I} {s : MS} (h : MM I s) : ok (f_M_lay I) (fun J => Fr [72, 50052] I J ∧ OB J (octs s.1)) := by
  have h' := h
  obtain ⟨h1, h2, h3, h4⟩ := h'
  unfold f_M_lay f_M_lay_b0 f_M_lay_b7
  dsimp only
  refine lp_inv (fun st => ∃ k : Nat, k ≤ s.1.length ∧ st.1 = n32 k ∧ Fr [72, 50052] I st.2 ∧ OB st.2 (octs (s.1.take k))) (fun st => (601 - st.1.toInt).toNat) _ ?_ (0, up2 I 49 52 0) ⟨0, by omega, rfl, Fr.up (Fr.refl _ _) (by decide), rfl, by show 0 ≤ 42000; omega, fun i x hx => by simp [octs, flatL] at hx⟩
  rintro ⟨kk, J⟩ ⟨k, hk, e1, e2, e3⟩
  simp only at e1 e2 e3
  subst e1
  have ki : (n32 k).toInt = k := n32i (by omega)
  have c49 : J 49 49 = n32 s.1.length := by rw [e2 49 49 (by decide), h2]
  have si : (n32 s.1.length).toInt = s.1.length := n32i (by omega)
  unfold f_M_lay_s7
  dsimp only
  refine ok_le (fun hc => ok_s ?_) (fun hc => ?_)
  · rw [c49] at hc
    have e : k = s.1.length := by omega
    rw [e, List.take_length] at e3
    exact ⟨e2, e3⟩
  · rw [c49] at hc
    have hlt : k < s.1.length := by omega
    have hm : s.1[k]? = some s.1[k] := List.getElem?_eq_getElem hlt
    have hM : MM J s := h.kept (e2 49 49 (by decide)) (e2 49 50 (by decide)) (e2.row 71 rfl (by decide))
    obtain ⟨x1, x2⟩ := ix7 (k := k) (w := 0) (by omega) (by omega)
    have ez : 7 * n32 k + n32 0 = 7 * n32 k := Int32.add_zero _
    rw [ez] at x1 x2
    have hrow : J 71 (Int32.toNatClampNeg (7 * n32 k)) = s.1[k].1 := by
      rw [x2]
      exact m_row hM hm (w := 0) (by omega)
    have ol := octs_len (s.1.take k)
    have tk : (s.1.take k).length ≤ k := by rw [List.length_take]; omega
    refine ok_g (by omega) ?_
    rw [hrow]
    obtain ⟨J1, hJ1, f1, B1⟩ := o0_ok (x := s.1[k].1) e3 (by omega)
    have hM1 : MM J1 s := hM.kept (f1 49 49 (by decide)) (f1 49 50 (by decide)) (f1.row 71 rfl (by decide))
    refine ok_e hJ1 (ok_mono (ml_ok (I := I) hM1 hm B1 (by omega) (e2.trans f1)) ?_)
    rintro r ⟨J2, rfl, g1, g2⟩
    refine ⟨⟨k + 1, by omega, rfl, g1, ?_⟩, ?_⟩
    · have et : octs (s.1.take (k + 1)) = octs (s.1.take k) ++ lineOf s.1[k] := by
        rw [List.take_succ, hm, ← octs_snoc]
        rfl
      rw [et]
      exact g2
    · show (601 - (n32 (k + 1)).toInt).toNat < (601 - (n32 k).toInt).toNat
      rw [n32i (by omega), ki]
      omega
/-! what is told of a drawing -/
def IvD (I : xm_I) : Prop :=
  (∃ s : MS, CM I s ∧ MM I s ∧ SL I s.1 ∧ OB I (octs s.1) ∧ (I 49 47 = 0 → s.1 = [])) ∧
  ((0 ≤ (I 21 4).toInt ∧ (I 21 4).toInt ≤ 20) ∧ I 49 56 = I 21 4 ∧ (I 49 47 = 0 → I 21 4 = 0) ∧ (∀ l : Nat, (l : Int) < (I 21 4).toInt → I 76 l = I 24 l) ∧ I 49 58 = I 21 5 ∧ I 49 59 = I 21 6 ∧ I 49 60 = I 21 7)
theorem IvD.ag {I J : xm_I} (h : IvD I) (g : Ag [18004, 18005, 18, 50049, 50050, 71, 18006, 19, 50052, 72, 50047, 22004, 50056, 76, 24, 50058, 22005, 50059, 22006, 50060, 22007] I J) : IvD J := by
  obtain ⟨⟨s, h1, h2, h3, h4, h5⟩, h6⟩ := h
  unfold IvD
  rw [g 21 4 (by decide), g 21 5 (by decide), g 21 6 (by decide), g 21 7 (by decide), g 49 56 (by decide), g 49 58 (by decide), g 49 59 (by decide), g 49 60 (by decide), g 49 47 (by decide), g.row 76 rfl (by decide), g.row 24 rfl (by decide)]
  refine ⟨⟨s, h1.kept (g 17 4 (by decide)) (g 17 5 (by decide)) (g.row 18 rfl (by decide)), h2.kept (g 49 49 (by decide)) (g 49 50 (by decide)) (g.row 71 rfl (by decide)), ?_, ?_, h5⟩, h6⟩
  · unfold SL
    rw [g 17 6 (by decide), g.row 19 rfl (by decide)]
    exact h3
  · unfold OB
    rw [g 49 52 (by decide), g.row 72 rfl (by decide)]
    exact h4
theorem c_mark {x y : Int32} {I : xm_I} (h : IvD I) : ok (f_D_mark x y I) (fun p => ok (f_M_mark x y I) (fun q => p = q)) := by
  obtain ⟨⟨s, h1, h2, h3, h4, h5⟩, h6⟩ := h
  have hC := h1
  have hM := h2
  obtain ⟨a1, a2, a3, a4⟩ := h1
  obtain ⟨b1, b2, b3, b4⟩ := h2
  have si : (I 17 4).toInt = s.1.length := by rw [a2, n32i (by omega)]
  have mi : (I 49 49).toInt = s.1.length := by rw [b2, n32i (by omega)]
  have ms : (I 49 49 - 1).toInt64.toInt = (s.1.length : Int) - 1 := by rw [i64of, i32s (by have := z1; omega), z1, mi]
  unfold f_D_mark f_D_mark_b0 f_M_mark f_M_mark_b0
  refine ok_e (e_Mk_has _ _) (ok_ib (fun hc => ok_s ?_) (fun hc => ?_))
  · refine ok_i (fun _ => ok_s rfl) (fun _ => ok_e (e_M_in _ _ _) (ok_ib (fun _ => ok_s rfl) (fun hd => ?_)))
    exfalso
    rw [ms, i64of] at hd
    simp only [Int64.reduceToInt] at hd
    omega
  · have tx := tn32 hc.1
    have hd : ¬ I 49 47 = 0 := fun hz => by
      have := h5 hz
      rw [this] at si
      simp at si
      omega
    have hin : f_M_in x.toInt64 0 (I 49 49 - 1).toInt64 = some 1 := by
      rw [e_M_in, bi_t]
      rw [ms, i64of]
      simp only [Int64.reduceToInt]
      omega
    have hk : s.1[Int32.toNatClampNeg x]? = some s.1[Int32.toNatClampNeg x] := List.getElem?_eq_getElem (by omega)
    refine ok_e (e_D_isWithin _ _ _) (ok_ib (fun hy => ok_s (ok_f hd (ok_e hin (ok_f (by decide) (ok_e (e_M_in _ _ _) (ok_ib (fun _ => ok_s rfl) (fun he => ?_))))))) (fun hy => ?_))
    · exfalso
      simp only [Int64.reduceToInt, i64of, Int32.reduceToInt] at he hy
      exact hy he
    · simp only [Int32.reduceToInt] at hy
      have ty := tn32 hy.1
      have ex : x = n32 (Int32.toNatClampNeg x) := (n32x hc.1).symm
      have ey : y = n32 (Int32.toNatClampNeg y) := (n32x hy.1).symm
      have hv := e_Mk_valueAt (w := Int32.toNatClampNeg y) hC hk (by omega)
      rw [← ex, ← ey] at hv
      obtain ⟨p1, p2⟩ := ix7 (k := Int32.toNatClampNeg x) (w := Int32.toNatClampNeg y) (by omega) (by omega)
      rw [← ex, ← ey] at p1 p2
      refine ok_e hv (ok_s (ok_f hd (ok_e hin (ok_f (by decide) (ok_e (e_M_in _ _ _) (ok_ib (fun he => ?_) (fun _ => ok_g (by omega) (ok_s ?_))))))))
      · exfalso
        simp only [Int64.reduceToInt, i64of] at he
        exact he hy
      · rw [p2]
        exact (m_row hM hk (by omega)).symm
theorem e_Lb_has (x : Int32) (I : xm_I) : f_Lb_has x I = some (bi (0 ≤ x.toInt ∧ x.toInt < (I 21 3).toInt ∧ x.toInt < 20)) := by
  unfold f_Lb_has f_Lb_has_b0
  simp only [lt32, le32, Int32.reduceToInt]
  (repeat' split) <;> first | rw [bi_t (by omega)] | rw [bi_f (by omega)]
theorem c_placed {x : Int32} {I : xm_I} (hL : IvL I) (h : IvD I) : ok (f_D_placed x I) (fun p => ok (f_M_placed x I) (fun q => p = q)) := by
  obtain ⟨_, d1, d2, d3, d4, d5, d6, d7⟩ := h
  obtain ⟨l1, ⟨l2, _, _⟩, _⟩ := hL
  have l2' : (I 49 37).toInt = (I 21 3).toInt := by rw [l2]
  have ms : (I 49 37 - 1).toInt64.toInt = (I 21 3).toInt - 1 := by rw [i64of, i32s (by have := z1; omega), z1, l2']
  unfold f_D_placed f_D_placed_b0 f_Lb_drawnPlaceOf f_Lb_drawnPlaceOf_b0 f_M_placed f_M_placed_b0
  refine ok_e (e_Lb_has _ _) (ok_ib (fun hc => ok_s (ok_e (e_M_in _ _ _) (ok_ib (fun _ => ok_s rfl) (fun hd => ?_)))) (fun hc => ?_))
  · exfalso
    rw [ms, i64of] at hd
    simp only [Int64.reduceToInt] at hd
    omega
  · have hin : f_M_in x.toInt64 0 (I 49 37 - 1).toInt64 = some 1 := by
      rw [e_M_in, bi_t]
      rw [ms, i64of]
      simp only [Int64.reduceToInt]
      omega
    have tx := tn32 hc.1
    refine ok_b (ok_e (e_Lb_has _ _) (ok_ib (fun hh => absurd hc hh) (fun _ => ok_le (fun hd => ok_s (ok_s ?_)) (fun hd => ok_g (by omega) (ok_s (ok_s ?_))))))
    · refine ok_e hin (ok_f (by decide) (ok_i (fun _ => ok_s rfl) (fun _ => ok_t ?_ (ok_s rfl))))
      rw [d2, le32]
      exact hd
    · have hn : ¬ I 49 47 = 0 := fun hz => by
        have := d3 hz
        rw [this, z0] at hd
        omega
      refine ok_e hin (ok_f (by decide) (ok_f hn (ok_f ?_ (ok_g (by omega) (ok_s ?_)))))
      · rw [d2, le32]
        omega
      · exact (d4 _ (by omega)).symm
theorem fd_loop {I : xm_I} {l : List Int32} (h : OB I l) : f_M_digest I = some (fdo 17 l) := by
  obtain ⟨h1, h2, h3⟩ := h
  have li : (n32 l.length).toInt = l.length := n32i (by omega)
  unfold f_M_digest f_M_digest_b0 f_M_digest_b5
  refine ok_eq (lp_inv (fun st => ∃ i : Nat, i ≤ l.length ∧ st = (fdo 17 (l.take i), n32 i)) (fun st => (42001 - st.2.toInt).toNat) _ ?_ (17, 0) ⟨0, by omega, rfl⟩)
  rintro st ⟨i, hi, rfl⟩
  have i1 : (n32 i).toInt = i := n32i (by omega)
  have it : Int32.toNatClampNeg (n32 i) = i := n32n (by omega)
  unfold f_M_digest_s5
  dsimp only
  refine ok_le (fun hc => ok_s ?_) (fun hc => ok_g (by rw [h1] at hc; omega) (ok_s ?_))
  · rw [h1] at hc
    have e : i = l.length := by omega
    rw [e, List.take_length]
    rfl
  · rw [h1] at hc
    have hx' : l[i]? = some l[i] := List.getElem?_eq_getElem (by omega)
    rw [it, h3 i _ hx']
    refine ⟨⟨i + 1, by omega, ?_⟩, ?_⟩
    · rw [n32s (by omega), List.take_succ, hx', fdo_app]
      rfl
    · show (42001 - (n32 i + 1).toInt).toNat < (42001 - (n32 i).toInt).toNat
      rw [i32p (by omega) (by omega)]
      omega
theorem c_digest {I : xm_I} (h : IvD I) : ok (f_D_digest I) (fun p => ok (f_M_digest I) (fun q => p = q)) := by
  obtain ⟨⟨s, _, _, h3, h4, _⟩, _⟩ := h
  refine ok_s ⟨_, fd_loop h4, ?_⟩
  exact h3.1
theorem e_octetCount {I : xm_I} {s : MS} (h : CM I s) (h3 : SL I s.1) : f_Mk_octetCount I = some (n32 (octs s.1).length) := by
  obtain ⟨a1, a2, a3, a4⟩ := h
  have si : (I 17 4).toInt = s.1.length := by rw [a2, n32i (by omega)]
  have ms : (I 17 4 - 1).toInt = (s.1.length : Int) - 1 := by rw [i32s (by have := z1; omega), z1, si]
  unfold f_Mk_octetCount f_Mk_octetCount_b0
  rw [e_Mk_has]
  simp only [Option.bind_some]
  by_cases h0 : s.1.length = 0
  · rw [bi_f (by omega), if_pos rfl]
    have : s.1 = [] := List.length_eq_zero_iff.mp h0
    rw [this]
    rfl
  · rw [bi_t (by omega), if_neg (by decide), gd_p _ (by omega)]
    have tk : Int32.toNatClampNeg (I 17 4 - 1) = s.1.length - 1 := by
      have := tn32 (x := I 17 4 - 1) (by omega)
      omega
    rw [tk, h3.2 _ (by omega)]
    have : s.1.length - 1 + 1 = s.1.length := by omega
    rw [this, List.take_length]
theorem c_count {x : Int32} {I : xm_I} {n : Nat} (hP : IvP I) (hF : IvF I) (hS : IvS I n) (hL : IvL I) (h : IvD I) : ok (f_D_count x I) (fun p => ok (f_M_count x I) (fun q => p = q)) := by
  obtain ⟨⟨s, h1, h2, h3, h4, h5⟩, d1, d2, d3, d4, d5, d6, d7⟩ := h
  have e0 := hP.2.2.1.1
  have e1 := hF.2.2.1.1
  have e2 := hS.2.1
  have e3 := hL.2.1.1
  have e4 := hP.2.2.1.2.1
  have e5 := hS.2.2.2.1
  have e6 : I 49 49 = I 17 4 := by rw [h1.2.1, h2.2.1]
  have e7 : I 49 50 = I 17 5 := by rw [h1.2.2.1, h2.2.2.1]
  have e8 := e_octetCount h1 h3
  unfold f_D_count f_D_count_b0 f_M_count f_M_count_b0
  rw [e0, e1, e2, e3, e4, e5, e6, e7, d5, d6, d7, h4.1, e8]
  simp only [Option.bind_some]
  refine ok_i (fun h => ok_s (ok_t h (ok_s rfl))) (fun h => ?_)
  refine ok_i (fun h1 => ok_s (ok_f h (ok_t h1 (ok_s rfl)))) (fun h1 => ?_)
  refine ok_i (fun h2 => ok_s (ok_f h (ok_f h1 (ok_t h2 (ok_s rfl))))) (fun h2 => ?_)
  refine ok_i (fun h3 => ok_s (ok_f h (ok_f h1 (ok_f h2 (ok_t h3 (ok_s rfl)))))) (fun h3 => ?_)
  refine ok_i (fun h4 => ok_s (ok_f h (ok_f h1 (ok_f h2 (ok_f h3 (ok_t h4 (ok_s rfl))))))) (fun h4 => ?_)
  refine ok_i (fun h5 => ok_s (ok_f h (ok_f h1 (ok_f h2 (ok_f h3 (ok_f h4 (ok_t h5 (ok_s rfl)))))))) (fun h5 => ?_)
  refine ok_i (fun h6 => ok_s (ok_f h (ok_f h1 (ok_f h2 (ok_f h3 (ok_f h4 (ok_f h5 (ok_t h6 (ok_s rfl))))))))) (fun h6 => ?_)
  refine ok_i (fun h7 => ok_s (ok_f h (ok_f h1 (ok_f h2 (ok_f h3 (ok_f h4 (ok_f h5 (ok_f h6 (ok_t h7 (ok_s rfl)))))))))) (fun h7 => ?_)
  refine ok_i (fun h8 => ok_s (ok_f h (ok_f h1 (ok_f h2 (ok_f h3 (ok_f h4 (ok_f h5 (ok_f h6 (ok_f h7 (ok_t h8 (ok_s rfl))))))))))) (fun h8 => ?_)
  refine ok_i (fun h9 => ok_s (ok_f h (ok_f h1 (ok_f h2 (ok_f h3 (ok_f h4 (ok_f h5 (ok_f h6 (ok_f h7 (ok_f h8 (ok_t h9 (ok_s rfl)))))))))))) (fun h9 => ?_)
  refine ok_i (fun h10 => ok_s (ok_f h (ok_f h1 (ok_f h2 (ok_f h3 (ok_f h4 (ok_f h5 (ok_f h6 (ok_f h7 (ok_f h8 (ok_f h9 (ok_t h10 (ok_s rfl))))))))))))) (fun h10 => ?_)
  refine ok_i (fun h11 => ok_s (ok_f h (ok_f h1 (ok_f h2 (ok_f h3 (ok_f h4 (ok_f h5 (ok_f h6 (ok_f h7 (ok_f h8 (ok_f h9 (ok_f h10 (ok_t h11 (ok_s rfl)))))))))))))) (fun h11 => ?_)
  exact ok_s (ok_f h (ok_f h1 (ok_f h2 (ok_f h3 (ok_f h4 (ok_f h5 (ok_f h6 (ok_f h7 (ok_f h8 (ok_f h9 (ok_f h10 (ok_f h11 (ok_s rfl)))))))))))))
theorem octs_at {l : List M6} {k j : Nat} {m : M6} (hk : l[k]? = some m) (hj : j < (lineOf m).length) : (octs l)[(octs (l.take k)).length + j]? = (lineOf m)[j]? := by
  have e : l = l.take k ++ m :: l.drop (k + 1) := by
    have h1 := (List.getElem?_eq_some_iff.mp hk)
    obtain ⟨h1, h2⟩ := h1
    rw [← h2, ← List.drop_eq_getElem_cons h1, List.take_append_drop]
  have eo : octs l = octs (l.take k) ++ (lineOf m ++ octs (l.drop (k + 1))) := by
    have : octs (l.take k ++ m :: l.drop (k + 1)) = octs (l.take k) ++ (lineOf m ++ octs (l.drop (k + 1))) := by
      unfold octs
      rw [flatL_app]
      rfl
    rw [← e] at this
    exact this
  rw [eo, List.getElem?_append_right (by omega), List.getElem?_append_left (by omega)]
  congr 1
  omega
theorem c_octet {x : Int32} {I : xm_I} (h : IvD I) : ok (f_D_octet x I) (fun p => xl_sc I p.2 ∧ ok (f_M_octet x p.2) (fun q => p.1 = q ∧ Fr [20, 18003] I p.2)) := by
  obtain ⟨⟨s, h1, h2, h3, h4, h5⟩, _⟩ := h
  have hC := h1
  obtain ⟨a1, a2, a3, a4⟩ := h1
  obtain ⟨o1, o2, o3⟩ := h4
  have oi : (n32 (octs s.1).length).toInt = (octs s.1).length := n32i (by omega)
  have si : (I 17 4).toInt = s.1.length := by rw [a2, n32i (by omega)]
  have ms : ∀ J : xm_I, J 49 52 = I 49 52 → (J 49 52 - 1).toInt64.toInt = ((octs s.1).length : Int) - 1 := fun J hJ => by rw [hJ, o1, i64of, i32s (by have := z1; omega), z1, oi]
  have out : ¬ (0 ≤ x.toInt ∧ x.toInt < (octs s.1).length) → xl_sc I ((-1 : Int32), I).2 ∧ ok (f_M_octet x ((-1 : Int32), I).2) (fun q => ((-1 : Int32), I).1 = q ∧ Fr [20, 18003] I ((-1 : Int32), I).2) := by
    intro hn
    refine ⟨⟨rfl, rfl⟩, ?_⟩
    unfold f_M_octet f_M_octet_b0
    refine ok_e (e_M_in _ _ _) (ok_ib (fun _ => ok_s ⟨rfl, Fr.refl _ _⟩) (fun hd => ?_))
    exfalso
    rw [ms _ rfl, i64of] at hd
    simp only [Int64.reduceToInt] at hd
    omega
  unfold f_D_octet f_D_octet_b0 f_Mk_octetAt f_Mk_octetAt_b0 f_Mk_octetAt_b18
  refine ok_b (ok_lt (fun hc => ok_s (ok_s (out (by rw [z0] at hc; omega)))) (fun hc => ok_e (e_octetCount hC h3) (ok_lt (fun hd => ?_) (fun hd => ok_s (ok_s (out (by omega)))))))
  rw [z0] at hc
  rw [oi] at hd
  have tx := tn32 hc
  refine lp_inv (fun st => ∃ k : Nat, k ≤ s.1.length ∧ st = (n32 (octs (s.1.take k)).length, n32 k) ∧ ((octs (s.1.take k)).length : Int) ≤ x.toInt) (fun st => (601 - st.2.toInt).toNat) _ ?_ (0, 0) ⟨0, by omega, rfl, by show ((0 : Nat) : Int) ≤ _; omega⟩
  rintro st ⟨k, hk, rfl, hle⟩
  have ki : (n32 k).toInt = k := n32i (by omega)
  have kt : Int32.toNatClampNeg (n32 k) = k := n32n (by omega)
  unfold f_Mk_octetAt_s18
  dsimp only
  refine ok_le (fun hh => ?_) (fun hh => ?_)
  · exfalso
    rw [si, ki] at hh
    have e : k = s.1.length := by omega
    rw [e, List.take_length] at hle
    omega
  · rw [si, ki] at hh
    have hlt : k < s.1.length := by omega
    have hm : s.1[k]? = some s.1[k] := List.getElem?_eq_getElem hlt
    have et : octs (s.1.take (k + 1)) = octs (s.1.take k) ++ lineOf s.1[k] := by
      rw [List.take_succ, hm, ← octs_snoc]
      rfl
    have ol := octs_len (s.1.take (k + 1))
    have tk : (s.1.take (k + 1)).length ≤ k + 1 := by rw [List.length_take]; omega
    have ll := lineOf_len s.1[k]
    have el : (octs (s.1.take (k + 1))).length = (octs (s.1.take k)).length + (lineOf s.1[k]).length := by rw [et, List.length_append]
    have ei : (I 19 k).toInt = (octs (s.1.take (k + 1))).length := by rw [h3.2 k hlt, n32i (by omega)]
    refine ok_g (by omega) ?_
    rw [kt]
    refine ok_le (fun hq => ok_g (by omega) (ok_s ⟨⟨k + 1, by omega, ?_, ?_⟩, ?_⟩)) (fun hq => ?_)
    · rw [h3.2 k hlt, n32s (by omega)]
    · rw [ei] at hq
      exact hq
    · show (601 - (n32 k + 1).toInt).toNat < (601 - (n32 k).toInt).toNat
      rw [i32p (by omega) (by omega)]
      omega
    · rw [ei] at hq
      obtain ⟨J, hJ, f1, ⟨b1, b2, b3⟩⟩ := wr_ok hC hm
      have xs : (x - n32 (octs (s.1.take k)).length).toInt = x.toInt - (octs (s.1.take k)).length := by rw [i32s (by rw [n32i (by omega)]; omega), n32i (by omega)]
      have xt : Int32.toNatClampNeg (x - n32 (octs (s.1.take k)).length) = Int32.toNatClampNeg x - (octs (s.1.take k)).length := by
        have := tn32 (x := x - n32 (octs (s.1.take k)).length) (by omega)
        omega
      have lJ : (J 17 3).toInt = (lineOf s.1[k]).length := by rw [b1, n32i (by omega)]
      refine ok_e hJ (ok_f (by rw [le32]; omega) (ok_g (by omega) (ok_s (ok_s ⟨⟨f1.row _ rfl (by decide), f1.row _ rfl (by decide)⟩, ?_⟩))))
      rw [xt]
      have hj : Int32.toNatClampNeg x - (octs (s.1.take k)).length < (lineOf s.1[k]).length := by omega
      have hln : (lineOf s.1[k])[Int32.toNatClampNeg x - (octs (s.1.take k)).length]? = some (lineOf s.1[k])[Int32.toNatClampNeg x - (octs (s.1.take k)).length] := List.getElem?_eq_getElem hj
      have h20 := b3 _ _ hln
      have hat := octs_at hm hj
      have ex : (octs (s.1.take k)).length + (Int32.toNatClampNeg x - (octs (s.1.take k)).length) = Int32.toNatClampNeg x := by omega
      rw [ex, hln] at hat
      have h72 := o3 _ _ hat
      unfold f_M_octet f_M_octet_b0
      refine ok_e (e_M_in _ _ _) (ok_ib (fun hn => ?_) (fun _ => ok_g (by omega) (ok_s ⟨?_, f1⟩)))
      · exfalso
        rw [ms J (f1 49 52 (by decide)), i64of] at hn
        simp only [Int64.reduceToInt] at hn
        omega
      · show J 20 _ = J 72 _
        rw [h20, f1.row 72 rfl (by decide), h72]
