/-! ===== labels, groups ===== -/
def vb (I : xm_I) (x : Int32) : Prop := 0 ≤ x.toInt ∧ x.toInt < (I 6 9).toInt
def IvL (I : xm_I) : Prop := (0 ≤ (I 21 3).toInt ∧ (I 21 3).toInt ≤ 20) ∧ (I 49 37 = I 21 3 ∧ I 69 = I 22 ∧ I 70 = I 23) ∧ (∀ l : Nat, (l : Int) < (I 21 3).toInt → vb I (I 22 l) ∧ 1 ≤ (I 23 l).toInt ∧ (I 23 l).toInt ≤ 8)
def IvG1 (I : xm_I) (g : Nat) : Prop := (I 26 g = 0 ∧ (I 84 g).toInt = -1) ∨ (I 26 g = 1 ∧ I 84 g = I 28 g ∧ (0 ≤ (I 28 g).toInt ∧ (I 28 g).toInt ≤ 64) ∧ I 83 g = I 27 g ∧ (0 ≤ (I 27 g).toInt ∧ (I 27 g).toInt ≤ 8) ∧ ∀ i : Nat, (i : Int) < (I 28 g).toInt → I 85 (64 * g + i) = I 29 (64 * g + i) ∧ ((I 29 (64 * g + i)).toInt = -1 ∨ vb I (I 29 (64 * g + i))))
def IvG (I : xm_I) : Prop := ∀ g : Nat, g < 6 → IvG1 I g
def IvC (I : xm_I) : Prop := I 0 9 = I 49 38
theorem IvL.ag {I I' : xm_I} (h : IvL I) (e : (I 6 9).toInt ≤ (I' 6 9).toInt) (g : Ag [22003, 50037, 22, 23, 69, 70] I I') : IvL I' := by
  obtain ⟨h1, h2, h3⟩ := h
  unfold IvL vb
  rw [g 21 3 (by decide), g 49 37 (by decide), g.row 22 rfl (by decide), g.row 23 rfl (by decide), g.row 69 rfl (by decide), g.row 70 rfl (by decide)]
  refine ⟨h1, h2, fun l hl => ?_⟩
  obtain ⟨⟨a1, a2⟩, a3⟩ := h3 l hl
  exact ⟨⟨a1, by omega⟩, a3⟩
theorem IvG.ag {I I' : xm_I} (h : IvG I) (e : (I 6 9).toInt ≤ (I' 6 9).toInt) (g : Ag [26, 27, 28, 29, 83, 84, 85] I I') : IvG I' := by
  intro k hk
  have := h k hk
  unfold IvG1 vb at this ⊢
  rw [g.row 26 rfl (by decide), g.row 27 rfl (by decide), g.row 28 rfl (by decide), g.row 29 rfl (by decide), g.row 83 rfl (by decide), g.row 84 rfl (by decide), g.row 85 rfl (by decide)]
  rcases this with k | ⟨k1, k2, k3, k4, k5, k6⟩
  · exact Or.inl k
  · refine Or.inr ⟨k1, k2, k3, k4, k5, fun i hi => ⟨(k6 i hi).1, ?_⟩⟩
    rcases (k6 i hi).2 with q | q
    · exact Or.inl q
    · exact Or.inr ⟨q.1, by omega⟩
theorem IvC.ag {I I' : xm_I} (h : IvC I) (g : Ag [1009, 50038] I I') : IvC I' := by
  unfold IvC
  rw [g 0 9 (by decide), g 49 38 (by decide)]
  exact h
theorem e_Lb_isFull (I : xm_I) : f_Lb_isFull I = some (bi (20 ≤ (I 21 3).toInt)) := by
  unfold f_Lb_isFull f_Lb_isFull_b0
  simp only [lt32, le32, Int32.reduceToInt]
  (repeat' split) <;> first | rw [bi_t (by omega)] | rw [bi_f (by omega)]
theorem c_label {x y : Int32} {I : xm_I} (g : IvF I) (h : IvL I) : ok (f_D_label x y I) (fun p => xl_sc I p.2 ∧ ok (f_M_label x y p.2) (fun q => p.1 = q.1 ∧ Fr [22, 23, 22003, 69, 70, 50037] I q.2 ∧ (I 21 3).toInt ≤ (q.2 21 3).toInt ∧ IvL q.2)) := by
  have h' := h
  obtain ⟨h1, ⟨e1, e2, e3⟩, h3⟩ := h'
  have e1' : (I 49 37).toInt = (I 21 3).toInt := by rw [e1]
  have d1' : (I 49 11).toInt = (I 6 9).toInt := by rw [g.2.2.1.1]
  have g40 := g.1
  unfold f_D_label f_D_label_b0 f_Lb_add f_Lb_add_b0 f_M_label f_M_label_b0
  repeat' first | with_reducible refine ok_g (by first | omega | (simp (disch := omega) only [up2_self, up2_ne, up2_nk]; omega)) ?_ | with_reducible refine ok_e (e_Fg_has _ _) ?_ | with_reducible refine ok_e (e_M_isObject _ _) ?_ | with_reducible refine ok_e (e_D_isWithin _ _ _) ?_ | with_reducible refine ok_e (e_M_in _ _ _) ?_ | with_reducible refine ok_e (e_Lb_isFull _) ?_ | (with_reducible refine ok_ib (fun _ => ?_) (fun _ => ?_) <;> try (exfalso; first | omega | (simp (disch := decide) only [Int32.reduceToInt, Int64.reduceToInt, i64of, up2_self, up2_ne, up2_nk] at *; omega))) | (with_reducible refine ok_lt (fun _ => ?_) (fun _ => ?_) <;> try (exfalso; first | omega | (simp (disch := decide) only [Int32.reduceToInt, Int64.reduceToInt, i64of, up2_self, up2_ne, up2_nk] at *; omega))) | (with_reducible refine ok_le (fun _ => ?_) (fun _ => ?_) <;> try (exfalso; first | omega | (simp (disch := decide) only [Int32.reduceToInt, Int64.reduceToInt, i64of, up2_self, up2_ne, up2_nk] at *; omega))) | (with_reducible refine ok_iq (fun _ => ?_) (fun _ => ?_) <;> try (exfalso; first | omega | (simp (disch := decide) only [Int32.reduceToInt, Int64.reduceToInt, i64of, up2_self, up2_ne, up2_nk] at *; omega))) | (with_reducible refine ok_s ?_; try dsimp only) | with_reducible refine ok_b ?_ | refine x_sc ⟨rfl, rfl⟩ ?_ | fail
  all_goals try simp (disch := decide) only [Int32.reduceToInt, Int64.reduceToInt, i64of, up2_self, up2_ne, up2_nk] at *
  all_goals first | (exfalso; omega) | exact ⟨trivial, Fr.refl _ _, Int.le_refl _, h⟩ | skip
  have es : (I 21 3 + 1).toInt = (I 21 3).toInt + 1 := i32p (by omega) (by omega)
  refine ⟨by rw [e1], ?_, ?_, ?_⟩
  · (repeat first | exact Fr.refl _ _ | refine Fr.upA ?_ (by decide) (by decide) | refine Fr.up ?_ (by decide))
  · omega
  · unfold IvL vb
    simp (disch := decide) only [up2_row, up2_upd, up2_self, up2_ne, up2_nk]
    refine ⟨by omega, ⟨by rw [e1], by rw [e1, e2], by rw [e1, e3]⟩, fun l hl => ?_⟩
    have t := tn32 (x := I 21 3) (by omega)
    by_cases hl' : l = Int32.toNatClampNeg (I 21 3)
    · rw [hl', upd_at, upd_at]
      omega
    · rw [upd_ne _ _ _ _ hl', upd_ne _ _ _ _ hl']
      exact h3 l (by omega)
theorem c_code {I : xm_I} (h : IvC I) : ok (f_D_code I) (fun p => ok (f_M_code I) (fun q => p = q)) := ok_s (ok_s h)
theorem c_reach {x : Int32} {I : xm_I} (hP : IvP I) (g : IvF I) (hC : IvC I) : ok (f_D_reach x I) (fun p => xl_sc I p.2 ∧ ok (f_M_reach x p.2) (fun q => p.1 = q.1 ∧ Fr [1009, 50038] I q.2 ∧ IvC q.2)) := by
  have d1' : (I 49 11).toInt = (I 6 9).toInt := by rw [g.2.2.1.1]
  have d3 : I 54 = I 7 := g.2.2.1.2.2.1
  have g40 := g.1
  unfold f_D_reach f_D_reach_b0 f_D_endWith f_D_endWith_b0 f_M_reach f_M_reach_b0 f_M_reach_b28
  refine ok_e (e_Fg_has _ _) (ok_ib (fun hc => ok_s ⟨⟨rfl, rfl⟩, ok_e (e_M_isObject _ _) (ok_ib (fun _ => ok_s ⟨rfl, Fr.refl _ _, hC⟩) (fun hd => ?_))⟩) (fun hc => ?_))
  · exfalso
    have hd' : 0 ≤ x.toInt ∧ x.toInt < (I 49 11).toInt := hd
    omega
  · have hx : vo I x := ⟨hc.1, hc.2.1, g40.2⟩
    have hob : ∀ c : Int32, f_M_isObject x (up2 I 0 9 c) = some 1 := fun c => by
      rw [e_M_isObject, bi_t]
      show 0 ≤ x.toInt ∧ x.toInt < (I 49 11).toInt
      omega
    refine ok_e (e_Fg_kindOf hx) ?_
    by_cases h4 : I 7 (Int32.toNatClampNeg x) = 4
    · refine ok_t h4 ?_
      have ct := g.ct hx
      have hk : (I 7 (Int32.toNatClampNeg x)).toInt = 4 := by rw [h4]; decide
      have v0 : vc I x 0 := ⟨hx, by have := z0; omega, by have := z0; omega⟩
      have v1 : vc I x 1 := ⟨hx, by have := z1; omega, by have := z1; omega⟩
      have hPJ : ∀ c d : Int32, IvP (up2 (up2 I 0 9 c) 49 38 d) := fun c d => hP
      have hFJ : ∀ c d : Int32, IvF (up2 (up2 I 0 9 c) 49 38 d) := fun c d => g
      have v0J : vc (up2 (up2 I 0 9 0) 49 38 0) x 0 := v0
      have v1J : vc (up2 (up2 I 0 9 0) 49 38 0) x 1 := v1
      unfold f_Fg_squareOfSpan f_Fg_squareOfSpan_b0 f_M_squareOf f_M_squareOf_b0
      refine ok_b (ok_e (e_Fg_xOf (I := up2 I 0 9 0) hP g v1) (ok_e (e_Fg_xOf (I := up2 I 0 9 0) hP g v0) (ok_e (e_Fg_yOf (I := up2 I 0 9 0) hP g v1) (ok_e (e_Fg_yOf (I := up2 I 0 9 0) hP g v0) (ok_s (ok_s ⟨⟨rfl, rfl⟩, ?_⟩))))))
      refine ok_e (hob 0) (ok_f (by decide) (ok_g (by omega) ?_))
      refine ok_t (show I 54 (Int32.toNatClampNeg x) = 4 by rw [d3]; exact h4) (ok_t (show (0 : Int32) ≤ 0 by decide) (ok_b (ok_e (e_M_cornerX (hPJ 0 0) (hFJ 0 0) v1J) (ok_e (e_M_cornerX (hPJ 0 0) (hFJ 0 0) v0J) (ok_e (e_M_cornerY (hPJ 0 0) (hFJ 0 0) v1J) (ok_e (e_M_cornerY (hPJ 0 0) (hFJ 0 0) v0J) (ok_s (ok_s ⟨rfl, ?_, rfl⟩))))))))
      exact Fr.up (Fr.up (Fr.refl _ _) (by decide)) (by decide)
    · refine ok_f h4 (ok_b (ok_s (ok_s ⟨⟨rfl, rfl⟩, ok_e (hob 2) (ok_f (by decide) (ok_g (by omega) ?_))⟩)))
      refine ok_f (show ¬ I 54 (Int32.toNatClampNeg x) = 4 by rw [d3]; exact h4) (ok_f (by show ¬ (2 : Int32) ≤ 0; decide) (ok_s ⟨rfl, ?_, rfl⟩))
      exact Fr.up (Fr.up (Fr.refl _ _) (by decide)) (by decide)
/-! groups -/
theorem e_Gr_isNumber (x : Int32) : f_Gr_isNumber x = some (bi (0 ≤ x.toInt ∧ x.toInt < 6)) := by
  unfold f_Gr_isNumber f_Gr_isNumber_b0
  simp only [lt32, le32, Int32.reduceToInt]
  (repeat' split) <;> first | rw [bi_t (by omega)] | rw [bi_f (by omega)]
theorem e_Gr_no {I : xm_I} {x : Int32} (h : 0 ≤ x.toInt ∧ x.toInt < 6) (hm : I 26 (Int32.toNatClampNeg x) = 0) : f_Gr_isMade x I = some 0 := by
  unfold f_Gr_isMade f_Gr_isMade_b0
  rw [e_Gr_isNumber, bi_t h]
  simp only [Option.bind_some]
  rw [if_neg (by decide), gd_p _ h, if_pos hm]
theorem e_Gr_isMade {I : xm_I} {x : Int32} (h : 0 ≤ x.toInt ∧ x.toInt < 6) (hm : I 26 (Int32.toNatClampNeg x) = 1) : f_Gr_isMade x I = some 1 := by
  unfold f_Gr_isMade f_Gr_isMade_b0
  rw [e_Gr_isNumber, bi_t h]
  simp only [Option.bind_some]
  rw [if_neg (by decide), gd_p _ h, if_neg (by rw [hm]; decide)]
theorem e_Gr_placesOf {I : xm_I} {x : Int32} (h : 0 ≤ x.toInt ∧ x.toInt < 6) (hm : I 26 (Int32.toNatClampNeg x) = 1) : f_Gr_placesOf x I = some (I 28 (Int32.toNatClampNeg x)) := by
  unfold f_Gr_placesOf f_Gr_placesOf_b0
  rw [e_Gr_isMade h hm]
  simp only [Option.bind_some]
  rw [if_neg (by decide), gd_p _ h]
theorem e_Gr_hasPlace {I : xm_I} {x y : Int32} (h : 0 ≤ x.toInt ∧ x.toInt < 6) (hm : I 26 (Int32.toNatClampNeg x) = 1) : f_Gr_hasPlace x y I = some (bi (0 ≤ y.toInt ∧ y.toInt < (I 28 (Int32.toNatClampNeg x)).toInt ∧ y.toInt < 64)) := by
  unfold f_Gr_hasPlace f_Gr_hasPlace_b0
  rw [e_Gr_placesOf h hm]
  simp only [Option.bind_some, lt32, le32, Int32.reduceToInt]
  (repeat' split) <;> first | rw [bi_t (by omega)] | rw [bi_f (by omega)]
theorem ix64 {x y : Int32} (h1 : 0 ≤ x.toInt ∧ x.toInt < 6) (h3 : 0 ≤ y.toInt ∧ y.toInt < 64) : (x * 64 + y).toInt = 64 * x.toInt + y.toInt ∧ 64 * x + y = x * 64 + y ∧ Int32.toNatClampNeg (x * 64 + y) = 64 * Int32.toNatClampNeg x + Int32.toNatClampNeg y := by
  have k : (64 : Int32).toInt = 64 := by decide
  have e1 : (x * 64).toInt = 64 * x.toInt := by rw [i32m (by rw [k]; omega), k]; omega
  have e3 : (x * 64 + y).toInt = 64 * x.toInt + y.toInt := by rw [i32a (by omega), e1]
  refine ⟨e3, by rw [Int32.mul_comm], ?_⟩
  have a := tn32 (x := x) (by omega)
  have b := tn32 (x := y) (by omega)
  have c := tn32 (x := x * 64 + y) (by omega)
  omega
theorem e_Gr_memberAt {I : xm_I} {x y : Int32} (h : 0 ≤ x.toInt ∧ x.toInt < 6) (hm : I 26 (Int32.toNatClampNeg x) = 1) (hy : 0 ≤ y.toInt ∧ y.toInt < (I 28 (Int32.toNatClampNeg x)).toInt ∧ y.toInt < 64) : f_Gr_memberAt x y I = some (I 29 (64 * Int32.toNatClampNeg x + Int32.toNatClampNeg y)) := by
  unfold f_Gr_memberAt f_Gr_memberAt_b0
  obtain ⟨i1, i2, i3⟩ := ix64 h ⟨hy.1, hy.2.2⟩
  rw [e_Gr_hasPlace h hm, bi_t hy]
  simp only [Option.bind_some]
  rw [if_neg (by decide), gd_p _ (by omega), i3]
theorem e_Gr_setMember {I : xm_I} {x y z : Int32} (h : 0 ≤ x.toInt ∧ x.toInt < 6) (hm : I 26 (Int32.toNatClampNeg x) = 1) (hy : 0 ≤ y.toInt ∧ y.toInt < (I 28 (Int32.toNatClampNeg x)).toInt ∧ y.toInt < 64) : f_Gr_setMember x y z I = some (up2 I 29 (64 * Int32.toNatClampNeg x + Int32.toNatClampNeg y) z) := by
  unfold f_Gr_setMember f_Gr_setMember_b0
  obtain ⟨i1, i2, i3⟩ := ix64 h ⟨hy.1, hy.2.2⟩
  rw [e_Gr_hasPlace h hm, bi_t hy]
  simp only [Option.bind_some]
  rw [if_neg (by decide), gd_p _ (by omega), i3]
theorem e_Gr_takes {I : xm_I} {x y : Int32} (h : 0 ≤ x.toInt ∧ x.toInt < 6) (hm : I 26 (Int32.toNatClampNeg x) = 1) : f_Gr_takes x y I = some (bi ((I 27 (Int32.toNatClampNeg x)).toInt = 8 ∨ (I 27 (Int32.toNatClampNeg x)).toInt = y.toInt)) := by
  unfold f_Gr_takes f_Gr_takes_b0
  rw [e_Gr_isMade h hm]
  simp only [Option.bind_some]
  rw [if_neg (by decide), gd_p _ h, gd_p _ h]
  simp only [eq32, Int32.reduceToInt]
  (repeat' split) <;> first | rw [bi_t (by omega)] | rw [bi_f (by omega)]
theorem IvG.set {I J : xm_I} {g i : Nat} {o : Int32} (h : IvG I) (hg : g < 6) (hm : I 26 g = 1) (hi : (i : Int) < (I 28 g).toInt) (hi64 : i < 64) (ho : o.toInt = -1 ∨ vb I o) (e69 : J 6 9 = I 6 9) (r26 : J 26 = I 26) (r27 : J 27 = I 27) (r28 : J 28 = I 28) (r83 : J 83 = I 83) (r84 : J 84 = I 84) (r29 : J 29 = upd (I 29) (64 * g + i) o) (r85 : J 85 = upd (I 85) (64 * g + i) o) : IvG J := by
  intro k hk
  have := h k hk
  unfold IvG1 vb at this ⊢
  rw [e69, r26, r27, r28, r83, r84, r29, r85]
  rcases this with q | ⟨k1, k2, k3, k4, k5, k6⟩
  · exact Or.inl q
  · refine Or.inr ⟨k1, k2, k3, k4, k5, fun j hj => ?_⟩
    by_cases he : 64 * k + j = 64 * g + i
    · rw [he, upd_at, upd_at]
      exact ⟨rfl, ho⟩
    · rw [upd_ne _ _ _ _ he, upd_ne _ _ _ _ he]
      exact k6 j hj
theorem c_put {x y o : Int32} {I : xm_I} (g : IvF I) (h : IvG I) (hC : IvC I) : ok (f_D_put x y o I) (fun p => xl_sc I p.2 ∧ ok (f_M_put x y o p.2) (fun q => p.1 = q.1 ∧ Fr [1009, 50038, 29, 85] I q.2 ∧ IvC q.2 ∧ IvG q.2)) := by
  have d1' : (I 49 11).toInt = (I 6 9).toInt := by rw [g.2.2.1.1]
  have d3 : I 54 = I 7 := g.2.2.1.2.2.1
  have g40 := g.1
  by_cases hx : 0 ≤ x.toInt ∧ x.toInt < 6
  · have hg6 : Int32.toNatClampNeg x < 6 := by have := tn32 hx.1; omega
    rcases h _ hg6 with ⟨m1, m2⟩ | ⟨m1, m2, m3, m4, m5, m6⟩
    · have hno := e_Gr_no hx m1
      unfold f_D_put f_D_put_b0 f_D_put_b19 f_D_put_b94 f_D_endWith f_D_endWith_b0 f_M_put f_M_put_b0 f_M_put_b16 f_M_put_b66 f_M_put_b67 f_M_put_b115
      repeat' first | with_reducible refine ok_g (by first | omega | (simp (disch := omega) only [up2_self, up2_ne, up2_nk]; omega)) ?_ | with_reducible refine ok_e (e_Fg_has _ _) ?_ | with_reducible refine ok_e (e_M_isObject _ _) ?_ | with_reducible refine ok_e (e_Gr_isNumber _) ?_ | with_reducible refine ok_e (e_M_in _ _ _) ?_ | with_reducible refine ok_e (hno) ?_ | (with_reducible refine ok_ib (fun _ => ?_) (fun _ => ?_) <;> try (exfalso; first | omega | (simp (disch := decide) only [Int32.reduceToInt, Int64.reduceToInt, i64of, up2_self, up2_ne, up2_nk] at *; omega))) | (with_reducible refine ok_lt (fun _ => ?_) (fun _ => ?_) <;> try (exfalso; first | omega | (simp (disch := decide) only [Int32.reduceToInt, Int64.reduceToInt, i64of, up2_self, up2_ne, up2_nk] at *; omega))) | (with_reducible refine ok_le (fun _ => ?_) (fun _ => ?_) <;> try (exfalso; first | omega | (simp (disch := decide) only [Int32.reduceToInt, Int64.reduceToInt, i64of, up2_self, up2_ne, up2_nk] at *; omega))) | (with_reducible refine ok_iq (fun _ => ?_) (fun _ => ?_) <;> try (exfalso; first | omega | (simp (disch := decide) only [Int32.reduceToInt, Int64.reduceToInt, i64of, up2_self, up2_ne, up2_nk] at *; omega))) | (with_reducible refine ok_s ?_; try dsimp only) | with_reducible refine ok_b ?_ | refine x_sc ⟨rfl, rfl⟩ ?_ | fail
      all_goals try simp (disch := decide) only [Int32.reduceToInt, Int64.reduceToInt, i64of, up2_self, up2_ne, up2_nk] at *
      all_goals first | (exfalso; omega) | exact ⟨trivial, Fr.refl _ _, hC, h⟩ | exact ⟨trivial, Fr.up (Fr.up (Fr.refl _ _) (by decide)) (by decide), rfl, h⟩
    · have hyes := e_Gr_isMade hx m1
      have hpl := e_Gr_hasPlace (y := y) hx m1
      have m2' : (I 84 (Int32.toNatClampNeg x)).toInt = (I 28 (Int32.toNatClampNeg x)).toInt := by rw [m2]
      have m4' : (I 83 (Int32.toNatClampNeg x)).toInt = (I 27 (Int32.toNatClampNeg x)).toInt := by rw [m4]
      have ms : (I 84 (Int32.toNatClampNeg x) - 1).toInt = (I 84 (Int32.toNatClampNeg x)).toInt - 1 := by rw [i32s (by have := z1; omega), z1]
      have hko : vo I o → f_Fg_kindOf o I = some (I 7 (Int32.toNatClampNeg o)) := e_Fg_kindOf
      have htk := fun k => e_Gr_takes (y := k) hx m1
      have ko : vo I o → (I 7 (Int32.toNatClampNeg o)).toInt ≤ 7 := fun ho => (g.ct ho).1.2
      have k54 : (I 54 (Int32.toNatClampNeg o)).toInt = (I 7 (Int32.toNatClampNeg o)).toInt := by rw [d3]
      by_cases ho : vo I o
      · have ko' := ko ho
        have hko' := hko ho
        have hoo := ho
        unfold vo at hoo
        by_cases hy : 0 ≤ y.toInt ∧ y.toInt < (I 28 (Int32.toNatClampNeg x)).toInt ∧ y.toInt < 64
        · obtain ⟨i1, i2, i3⟩ := ix64 hx ⟨hy.1, hy.2.2⟩
          have hset := e_Gr_setMember (z := o) hx m1 hy
          have ty := tn32 hy.1
          unfold f_D_put f_D_put_b0 f_D_put_b19 f_D_put_b94 f_D_endWith f_D_endWith_b0 f_M_put f_M_put_b0 f_M_put_b16 f_M_put_b66 f_M_put_b67 f_M_put_b115
          rw [i2]
          repeat' first | with_reducible refine ok_g (by first | omega | (simp (disch := omega) only [up2_self, up2_ne, up2_nk]; omega)) ?_ | with_reducible refine ok_e (e_Fg_has _ _) ?_ | with_reducible refine ok_e (e_M_isObject _ _) ?_ | with_reducible refine ok_e (e_Gr_isNumber _) ?_ | with_reducible refine ok_e (e_M_in _ _ _) ?_ | with_reducible refine ok_e (hyes) ?_ | with_reducible refine ok_e (hpl) ?_ | with_reducible refine ok_e (hko') ?_ | with_reducible refine ok_e (htk _) ?_ | with_reducible refine ok_e (hset) ?_ | (with_reducible refine ok_ib (fun _ => ?_) (fun _ => ?_) <;> try (exfalso; first | omega | (simp (disch := decide) only [Int32.reduceToInt, Int64.reduceToInt, i64of, up2_self, up2_ne, up2_nk] at *; omega))) | (with_reducible refine ok_lt (fun _ => ?_) (fun _ => ?_) <;> try (exfalso; first | omega | (simp (disch := decide) only [Int32.reduceToInt, Int64.reduceToInt, i64of, up2_self, up2_ne, up2_nk] at *; omega))) | (with_reducible refine ok_le (fun _ => ?_) (fun _ => ?_) <;> try (exfalso; first | omega | (simp (disch := decide) only [Int32.reduceToInt, Int64.reduceToInt, i64of, up2_self, up2_ne, up2_nk] at *; omega))) | (with_reducible refine ok_iq (fun _ => ?_) (fun _ => ?_) <;> try (exfalso; first | omega | (simp (disch := decide) only [Int32.reduceToInt, Int64.reduceToInt, i64of, up2_self, up2_ne, up2_nk] at *; omega))) | (with_reducible refine ok_s ?_; try dsimp only) | with_reducible refine ok_b ?_ | refine x_sc ⟨rfl, rfl⟩ ?_ | fail
          all_goals try simp (disch := decide) only [Int32.reduceToInt, Int64.reduceToInt, i64of, up2_self, up2_ne, up2_nk] at *
          all_goals first | (exfalso; omega) | exact ⟨trivial, Fr.refl _ _, hC, h⟩ | exact ⟨trivial, Fr.up (Fr.up (Fr.refl _ _) (by decide)) (by decide), rfl, h⟩ | skip
          all_goals rw [i3]
          all_goals refine ⟨trivial, by (repeat first | exact Fr.refl _ _ | refine Fr.upA ?_ (by decide) (by decide) | refine Fr.up ?_ (by decide)), rfl, h.set (o := o) hg6 m1 (i := Int32.toNatClampNeg y) (by omega) (by omega) (Or.inr ⟨hoo.1, hoo.2.1⟩) rfl rfl rfl rfl rfl rfl (by simp (disch := decide) only [up2_row, up2_upd, up2_self, up2_ne, up2_nk]) (by simp (disch := decide) only [up2_row, up2_upd, up2_self, up2_ne, up2_nk])⟩
        · unfold f_D_put f_D_put_b0 f_D_put_b19 f_D_put_b94 f_D_endWith f_D_endWith_b0 f_M_put f_M_put_b0 f_M_put_b16 f_M_put_b66 f_M_put_b67 f_M_put_b115
          repeat' first | with_reducible refine ok_g (by first | omega | (simp (disch := omega) only [up2_self, up2_ne, up2_nk]; omega)) ?_ | with_reducible refine ok_e (e_Fg_has _ _) ?_ | with_reducible refine ok_e (e_M_isObject _ _) ?_ | with_reducible refine ok_e (e_Gr_isNumber _) ?_ | with_reducible refine ok_e (e_M_in _ _ _) ?_ | with_reducible refine ok_e (hyes) ?_ | with_reducible refine ok_e (hpl) ?_ | (with_reducible refine ok_ib (fun _ => ?_) (fun _ => ?_) <;> try (exfalso; first | omega | (simp (disch := decide) only [Int32.reduceToInt, Int64.reduceToInt, i64of, up2_self, up2_ne, up2_nk] at *; omega))) | (with_reducible refine ok_lt (fun _ => ?_) (fun _ => ?_) <;> try (exfalso; first | omega | (simp (disch := decide) only [Int32.reduceToInt, Int64.reduceToInt, i64of, up2_self, up2_ne, up2_nk] at *; omega))) | (with_reducible refine ok_le (fun _ => ?_) (fun _ => ?_) <;> try (exfalso; first | omega | (simp (disch := decide) only [Int32.reduceToInt, Int64.reduceToInt, i64of, up2_self, up2_ne, up2_nk] at *; omega))) | (with_reducible refine ok_iq (fun _ => ?_) (fun _ => ?_) <;> try (exfalso; first | omega | (simp (disch := decide) only [Int32.reduceToInt, Int64.reduceToInt, i64of, up2_self, up2_ne, up2_nk] at *; omega))) | (with_reducible refine ok_s ?_; try dsimp only) | with_reducible refine ok_b ?_ | refine x_sc ⟨rfl, rfl⟩ ?_ | fail
          all_goals try simp (disch := decide) only [Int32.reduceToInt, Int64.reduceToInt, i64of, up2_self, up2_ne, up2_nk] at *
          all_goals first | (exfalso; omega) | exact ⟨trivial, Fr.refl _ _, hC, h⟩ | exact ⟨trivial, Fr.up (Fr.up (Fr.refl _ _) (by decide)) (by decide), rfl, h⟩
      · by_cases hn : o.toInt = -1
        · by_cases hy : 0 ≤ y.toInt ∧ y.toInt < (I 28 (Int32.toNatClampNeg x)).toInt ∧ y.toInt < 64
          · obtain ⟨i1, i2, i3⟩ := ix64 hx ⟨hy.1, hy.2.2⟩
            have hset := e_Gr_setMember (z := o) hx m1 hy
            have ty := tn32 hy.1
            unfold f_D_put f_D_put_b0 f_D_put_b19 f_D_put_b94 f_D_endWith f_D_endWith_b0 f_M_put f_M_put_b0 f_M_put_b16 f_M_put_b66 f_M_put_b67 f_M_put_b115
            rw [i2]
            repeat' first | with_reducible refine ok_g (by first | omega | (simp (disch := omega) only [up2_self, up2_ne, up2_nk]; omega)) ?_ | with_reducible refine ok_e (e_Fg_has _ _) ?_ | with_reducible refine ok_e (e_M_isObject _ _) ?_ | with_reducible refine ok_e (e_Gr_isNumber _) ?_ | with_reducible refine ok_e (e_M_in _ _ _) ?_ | with_reducible refine ok_e (hyes) ?_ | with_reducible refine ok_e (hpl) ?_ | with_reducible refine ok_e (hset) ?_ | (with_reducible refine ok_ib (fun _ => ?_) (fun _ => ?_) <;> try (exfalso; first | omega | (simp (disch := decide) only [Int32.reduceToInt, Int64.reduceToInt, i64of, up2_self, up2_ne, up2_nk] at *; omega))) | (with_reducible refine ok_lt (fun _ => ?_) (fun _ => ?_) <;> try (exfalso; first | omega | (simp (disch := decide) only [Int32.reduceToInt, Int64.reduceToInt, i64of, up2_self, up2_ne, up2_nk] at *; omega))) | (with_reducible refine ok_le (fun _ => ?_) (fun _ => ?_) <;> try (exfalso; first | omega | (simp (disch := decide) only [Int32.reduceToInt, Int64.reduceToInt, i64of, up2_self, up2_ne, up2_nk] at *; omega))) | (with_reducible refine ok_iq (fun _ => ?_) (fun _ => ?_) <;> try (exfalso; first | omega | (simp (disch := decide) only [Int32.reduceToInt, Int64.reduceToInt, i64of, up2_self, up2_ne, up2_nk] at *; omega))) | (with_reducible refine ok_s ?_; try dsimp only) | with_reducible refine ok_b ?_ | refine x_sc ⟨rfl, rfl⟩ ?_ | fail
            all_goals try simp (disch := decide) only [Int32.reduceToInt, Int64.reduceToInt, i64of, up2_self, up2_ne, up2_nk] at *
            all_goals first | (exfalso; omega) | exact ⟨trivial, Fr.refl _ _, hC, h⟩ | exact ⟨trivial, Fr.up (Fr.up (Fr.refl _ _) (by decide)) (by decide), rfl, h⟩ | skip
            all_goals rw [i3]
            all_goals refine ⟨trivial, by (repeat first | exact Fr.refl _ _ | refine Fr.upA ?_ (by decide) (by decide) | refine Fr.up ?_ (by decide)), rfl, h.set (o := o) hg6 m1 (i := Int32.toNatClampNeg y) (by omega) (by omega) (Or.inl hn) rfl rfl rfl rfl rfl rfl (by simp (disch := decide) only [up2_row, up2_upd, up2_self, up2_ne, up2_nk]) (by simp (disch := decide) only [up2_row, up2_upd, up2_self, up2_ne, up2_nk])⟩
          · unfold f_D_put f_D_put_b0 f_D_put_b19 f_D_put_b94 f_D_endWith f_D_endWith_b0 f_M_put f_M_put_b0 f_M_put_b16 f_M_put_b66 f_M_put_b67 f_M_put_b115
            repeat' first | with_reducible refine ok_g (by first | omega | (simp (disch := omega) only [up2_self, up2_ne, up2_nk]; omega)) ?_ | with_reducible refine ok_e (e_Fg_has _ _) ?_ | with_reducible refine ok_e (e_M_isObject _ _) ?_ | with_reducible refine ok_e (e_Gr_isNumber _) ?_ | with_reducible refine ok_e (e_M_in _ _ _) ?_ | with_reducible refine ok_e (hyes) ?_ | with_reducible refine ok_e (hpl) ?_ | (with_reducible refine ok_ib (fun _ => ?_) (fun _ => ?_) <;> try (exfalso; first | omega | (simp (disch := decide) only [Int32.reduceToInt, Int64.reduceToInt, i64of, up2_self, up2_ne, up2_nk] at *; omega))) | (with_reducible refine ok_lt (fun _ => ?_) (fun _ => ?_) <;> try (exfalso; first | omega | (simp (disch := decide) only [Int32.reduceToInt, Int64.reduceToInt, i64of, up2_self, up2_ne, up2_nk] at *; omega))) | (with_reducible refine ok_le (fun _ => ?_) (fun _ => ?_) <;> try (exfalso; first | omega | (simp (disch := decide) only [Int32.reduceToInt, Int64.reduceToInt, i64of, up2_self, up2_ne, up2_nk] at *; omega))) | (with_reducible refine ok_iq (fun _ => ?_) (fun _ => ?_) <;> try (exfalso; first | omega | (simp (disch := decide) only [Int32.reduceToInt, Int64.reduceToInt, i64of, up2_self, up2_ne, up2_nk] at *; omega))) | (with_reducible refine ok_s ?_; try dsimp only) | with_reducible refine ok_b ?_ | refine x_sc ⟨rfl, rfl⟩ ?_ | fail
            all_goals try simp (disch := decide) only [Int32.reduceToInt, Int64.reduceToInt, i64of, up2_self, up2_ne, up2_nk] at *
            all_goals first | (exfalso; omega) | exact ⟨trivial, Fr.refl _ _, hC, h⟩ | exact ⟨trivial, Fr.up (Fr.up (Fr.refl _ _) (by decide)) (by decide), rfl, h⟩
        · unfold vo at ho
          unfold f_D_put f_D_put_b0 f_M_put f_M_put_b0
          repeat' first | with_reducible refine ok_g (by first | omega | (simp (disch := omega) only [up2_self, up2_ne, up2_nk]; omega)) ?_ | with_reducible refine ok_e (e_Fg_has _ _) ?_ | with_reducible refine ok_e (e_M_isObject _ _) ?_ | (with_reducible refine ok_ib (fun _ => ?_) (fun _ => ?_) <;> try (exfalso; first | omega | (simp (disch := decide) only [Int32.reduceToInt, Int64.reduceToInt, i64of, up2_self, up2_ne, up2_nk] at *; omega))) | (with_reducible refine ok_lt (fun _ => ?_) (fun _ => ?_) <;> try (exfalso; first | omega | (simp (disch := decide) only [Int32.reduceToInt, Int64.reduceToInt, i64of, up2_self, up2_ne, up2_nk] at *; omega))) | (with_reducible refine ok_le (fun _ => ?_) (fun _ => ?_) <;> try (exfalso; first | omega | (simp (disch := decide) only [Int32.reduceToInt, Int64.reduceToInt, i64of, up2_self, up2_ne, up2_nk] at *; omega))) | (with_reducible refine ok_iq (fun _ => ?_) (fun _ => ?_) <;> try (exfalso; first | omega | (simp (disch := decide) only [Int32.reduceToInt, Int64.reduceToInt, i64of, up2_self, up2_ne, up2_nk] at *; omega))) | (with_reducible refine ok_s ?_; try dsimp only) | with_reducible refine ok_b ?_ | refine x_sc ⟨rfl, rfl⟩ ?_ | fail
          all_goals try simp (disch := decide) only [Int32.reduceToInt, Int64.reduceToInt, i64of, up2_self, up2_ne, up2_nk] at *
          all_goals first | (exfalso; omega) | exact ⟨trivial, Fr.refl _ _, hC, h⟩
  · unfold f_D_put f_D_put_b0 f_D_put_b19 f_M_put f_M_put_b0 f_M_put_b16
    repeat' first | with_reducible refine ok_g (by first | omega | (simp (disch := omega) only [up2_self, up2_ne, up2_nk]; omega)) ?_ | with_reducible refine ok_e (e_Fg_has _ _) ?_ | with_reducible refine ok_e (e_M_isObject _ _) ?_ | with_reducible refine ok_e (e_Gr_isNumber _) ?_ | with_reducible refine ok_e (e_M_in _ _ _) ?_ | (with_reducible refine ok_ib (fun _ => ?_) (fun _ => ?_) <;> try (exfalso; first | omega | (simp (disch := decide) only [Int32.reduceToInt, Int64.reduceToInt, i64of, up2_self, up2_ne, up2_nk] at *; omega))) | (with_reducible refine ok_lt (fun _ => ?_) (fun _ => ?_) <;> try (exfalso; first | omega | (simp (disch := decide) only [Int32.reduceToInt, Int64.reduceToInt, i64of, up2_self, up2_ne, up2_nk] at *; omega))) | (with_reducible refine ok_le (fun _ => ?_) (fun _ => ?_) <;> try (exfalso; first | omega | (simp (disch := decide) only [Int32.reduceToInt, Int64.reduceToInt, i64of, up2_self, up2_ne, up2_nk] at *; omega))) | (with_reducible refine ok_iq (fun _ => ?_) (fun _ => ?_) <;> try (exfalso; first | omega | (simp (disch := decide) only [Int32.reduceToInt, Int64.reduceToInt, i64of, up2_self, up2_ne, up2_nk] at *; omega))) | (with_reducible refine ok_s ?_; try dsimp only) | with_reducible refine ok_b ?_ | refine x_sc ⟨rfl, rfl⟩ ?_ | fail
    all_goals try simp (disch := decide) only [Int32.reduceToInt, Int64.reduceToInt, i64of, up2_self, up2_ne, up2_nk] at *
    all_goals first | (exfalso; omega) | exact ⟨trivial, Fr.refl _ _, hC, h⟩
theorem c_member {x y : Int32} {I : xm_I} (h : IvG I) (hC : IvC I) : ok (f_D_member x y I) (fun p => xl_sc I p.2 ∧ ok (f_M_member x y p.2) (fun q => p.1 = q.1 ∧ Fr [1009, 50038] I q.2 ∧ IvC q.2)) := by
  by_cases hx : 0 ≤ x.toInt ∧ x.toInt < 6
  · have hg6 : Int32.toNatClampNeg x < 6 := by have := tn32 hx.1; omega
    rcases h _ hg6 with ⟨m1, m2⟩ | ⟨m1, m2, m3, m4, m5, m6⟩
    · have hno := e_Gr_no hx m1
      unfold f_D_member f_D_member_b0 f_D_endWith f_D_endWith_b0 f_M_member f_M_member_b0 f_M_member_b71
      repeat' first | with_reducible refine ok_g (by first | omega | (simp (disch := omega) only [up2_self, up2_ne, up2_nk]; omega)) ?_ | with_reducible refine ok_e (e_Gr_isNumber _) ?_ | with_reducible refine ok_e (e_M_in _ _ _) ?_ | with_reducible refine ok_e (hno) ?_ | (with_reducible refine ok_ib (fun _ => ?_) (fun _ => ?_) <;> try (exfalso; first | omega | (simp (disch := decide) only [Int32.reduceToInt, Int64.reduceToInt, i64of, up2_self, up2_ne, up2_nk] at *; omega))) | (with_reducible refine ok_lt (fun _ => ?_) (fun _ => ?_) <;> try (exfalso; first | omega | (simp (disch := decide) only [Int32.reduceToInt, Int64.reduceToInt, i64of, up2_self, up2_ne, up2_nk] at *; omega))) | (with_reducible refine ok_le (fun _ => ?_) (fun _ => ?_) <;> try (exfalso; first | omega | (simp (disch := decide) only [Int32.reduceToInt, Int64.reduceToInt, i64of, up2_self, up2_ne, up2_nk] at *; omega))) | (with_reducible refine ok_iq (fun _ => ?_) (fun _ => ?_) <;> try (exfalso; first | omega | (simp (disch := decide) only [Int32.reduceToInt, Int64.reduceToInt, i64of, up2_self, up2_ne, up2_nk] at *; omega))) | (with_reducible refine ok_s ?_; try dsimp only) | with_reducible refine ok_b ?_ | refine x_sc ⟨rfl, rfl⟩ ?_ | fail
      all_goals try simp (disch := decide) only [Int32.reduceToInt, Int64.reduceToInt, i64of, up2_self, up2_ne, up2_nk] at *
      all_goals first | (exfalso; omega) | exact ⟨trivial, Fr.up (Fr.up (Fr.refl _ _) (by decide)) (by decide), rfl⟩
    · have hyes := e_Gr_isMade hx m1
      have hpl := e_Gr_hasPlace (y := y) hx m1
      have m2' : (I 84 (Int32.toNatClampNeg x)).toInt = (I 28 (Int32.toNatClampNeg x)).toInt := by rw [m2]
      have ms : (I 84 (Int32.toNatClampNeg x) - 1).toInt = (I 84 (Int32.toNatClampNeg x)).toInt - 1 := by rw [i32s (by have := z1; omega), z1]
      by_cases hy : 0 ≤ y.toInt ∧ y.toInt < (I 28 (Int32.toNatClampNeg x)).toInt ∧ y.toInt < 64
      · obtain ⟨i1, i2, i3⟩ := ix64 hx ⟨hy.1, hy.2.2⟩
        have hat := e_Gr_memberAt hx m1 hy
        have ty := tn32 hy.1
        obtain ⟨n1, n2⟩ := m6 (Int32.toNatClampNeg y) (by omega)
        have n1' : (I 85 (64 * Int32.toNatClampNeg x + Int32.toNatClampNeg y)).toInt = (I 29 (64 * Int32.toNatClampNeg x + Int32.toNatClampNeg y)).toInt := by rw [n1]
        unfold f_D_member f_D_member_b0 f_D_endWith f_D_endWith_b0 f_M_member f_M_member_b0 f_M_member_b71
        rw [i2, i3]
        repeat' first | with_reducible refine ok_g (by first | omega | (simp (disch := omega) only [up2_self, up2_ne, up2_nk]; omega)) ?_ | with_reducible refine ok_g (by rw [i1]; omega) ?_ | with_reducible refine ok_e (e_Gr_isNumber _) ?_ | with_reducible refine ok_e (e_M_in _ _ _) ?_ | with_reducible refine ok_e (hyes) ?_ | with_reducible refine ok_e (hpl) ?_ | with_reducible refine ok_e (hat) ?_ | (with_reducible refine ok_ib (fun _ => ?_) (fun _ => ?_) <;> try (exfalso; first | omega | (simp (disch := decide) only [Int32.reduceToInt, Int64.reduceToInt, i64of, up2_self, up2_ne, up2_nk] at *; omega))) | (with_reducible refine ok_lt (fun _ => ?_) (fun _ => ?_) <;> try (exfalso; first | omega | (simp (disch := decide) only [Int32.reduceToInt, Int64.reduceToInt, i64of, up2_self, up2_ne, up2_nk] at *; omega))) | (with_reducible refine ok_le (fun _ => ?_) (fun _ => ?_) <;> try (exfalso; first | omega | (simp (disch := decide) only [Int32.reduceToInt, Int64.reduceToInt, i64of, up2_self, up2_ne, up2_nk] at *; omega))) | (with_reducible refine ok_iq (fun _ => ?_) (fun _ => ?_) <;> try (exfalso; first | omega | (simp (disch := decide) only [Int32.reduceToInt, Int64.reduceToInt, i64of, up2_self, up2_ne, up2_nk] at *; omega))) | (with_reducible refine ok_s ?_; try dsimp only) | with_reducible refine ok_b ?_ | refine x_sc ⟨rfl, rfl⟩ ?_ | fail
        all_goals try simp (disch := decide) only [Int32.reduceToInt, Int64.reduceToInt, i64of, up2_self, up2_ne, up2_nk] at *
        all_goals first | (exfalso; omega) | exact ⟨trivial, Fr.up (Fr.up (Fr.refl _ _) (by decide)) (by decide), rfl⟩ | exact ⟨n1.symm, Fr.up (Fr.up (Fr.refl _ _) (by decide)) (by decide), rfl⟩
      · unfold f_D_member f_D_member_b0 f_D_endWith f_D_endWith_b0 f_M_member f_M_member_b0 f_M_member_b71
        repeat' first | with_reducible refine ok_g (by first | omega | (simp (disch := omega) only [up2_self, up2_ne, up2_nk]; omega)) ?_ | with_reducible refine ok_e (e_Gr_isNumber _) ?_ | with_reducible refine ok_e (e_M_in _ _ _) ?_ | with_reducible refine ok_e (hyes) ?_ | with_reducible refine ok_e (hpl) ?_ | (with_reducible refine ok_ib (fun _ => ?_) (fun _ => ?_) <;> try (exfalso; first | omega | (simp (disch := decide) only [Int32.reduceToInt, Int64.reduceToInt, i64of, up2_self, up2_ne, up2_nk] at *; omega))) | (with_reducible refine ok_lt (fun _ => ?_) (fun _ => ?_) <;> try (exfalso; first | omega | (simp (disch := decide) only [Int32.reduceToInt, Int64.reduceToInt, i64of, up2_self, up2_ne, up2_nk] at *; omega))) | (with_reducible refine ok_le (fun _ => ?_) (fun _ => ?_) <;> try (exfalso; first | omega | (simp (disch := decide) only [Int32.reduceToInt, Int64.reduceToInt, i64of, up2_self, up2_ne, up2_nk] at *; omega))) | (with_reducible refine ok_iq (fun _ => ?_) (fun _ => ?_) <;> try (exfalso; first | omega | (simp (disch := decide) only [Int32.reduceToInt, Int64.reduceToInt, i64of, up2_self, up2_ne, up2_nk] at *; omega))) | (with_reducible refine ok_s ?_; try dsimp only) | with_reducible refine ok_b ?_ | refine x_sc ⟨rfl, rfl⟩ ?_ | fail
        all_goals try simp (disch := decide) only [Int32.reduceToInt, Int64.reduceToInt, i64of, up2_self, up2_ne, up2_nk] at *
        all_goals first | (exfalso; omega) | exact ⟨trivial, Fr.up (Fr.up (Fr.refl _ _) (by decide)) (by decide), rfl⟩
  · unfold f_D_member f_D_member_b0 f_M_member f_M_member_b0
    repeat' first | with_reducible refine ok_g (by first | omega | (simp (disch := omega) only [up2_self, up2_ne, up2_nk]; omega)) ?_ | with_reducible refine ok_e (e_Gr_isNumber _) ?_ | with_reducible refine ok_e (e_M_in _ _ _) ?_ | (with_reducible refine ok_ib (fun _ => ?_) (fun _ => ?_) <;> try (exfalso; first | omega | (simp (disch := decide) only [Int32.reduceToInt, Int64.reduceToInt, i64of, up2_self, up2_ne, up2_nk] at *; omega))) | (with_reducible refine ok_lt (fun _ => ?_) (fun _ => ?_) <;> try (exfalso; first | omega | (simp (disch := decide) only [Int32.reduceToInt, Int64.reduceToInt, i64of, up2_self, up2_ne, up2_nk] at *; omega))) | (with_reducible refine ok_le (fun _ => ?_) (fun _ => ?_) <;> try (exfalso; first | omega | (simp (disch := decide) only [Int32.reduceToInt, Int64.reduceToInt, i64of, up2_self, up2_ne, up2_nk] at *; omega))) | (with_reducible refine ok_iq (fun _ => ?_) (fun _ => ?_) <;> try (exfalso; first | omega | (simp (disch := decide) only [Int32.reduceToInt, Int64.reduceToInt, i64of, up2_self, up2_ne, up2_nk] at *; omega))) | (with_reducible refine ok_s ?_; try dsimp only) | with_reducible refine ok_b ?_ | refine x_sc ⟨rfl, rfl⟩ ?_ | fail
    all_goals try simp (disch := decide) only [Int32.reduceToInt, Int64.reduceToInt, i64of, up2_self, up2_ne, up2_nk] at *
    all_goals first | (exfalso; omega) | exact ⟨trivial, Fr.refl _ _, hC⟩
