/-! ===== calls on points and objects ===== -/
theorem x_sc {α : Type} {I I' : xm_I} {o : Option α} {K : α → Prop} (h : xl_sc I I') (k : ok o K) : xl_sc I I' ∧ ok o K := ⟨h, k⟩
def Ag (S : List Nat) (I I' : xm_I) : Prop := ∀ a k, cd a k ∈ S → I' a k = I a k
theorem Ag.row {S : List Nat} {I I' : xm_I} (h : Ag S I I') (c : Nat) (hc : [0, 1, 6, 14, 15, 17, 21, 25, 30, 38, 39, 49].contains c = false) (hs : c ∈ S) : I' c = I c := funext fun k => h c k (by rw [cd_row hc]; exact hs)
theorem Fr.ag {W : List Nat} {I I' : xm_I} (h : Fr W I I') (S : List Nat) (hd : ∀ x ∈ S, x ∉ W) : Ag S I I' := fun a k hs => h a k (hd _ hs)
theorem IvP.ag {I I' : xm_I} (h : IvP I) (g : Ag [2004, 2005, 2, 3, 4, 5, 50004, 50005, 50, 51, 52, 53] I I') : IvP I' := by
  have r2 := g.row 2 rfl (by decide)
  have r3 := g.row 3 rfl (by decide)
  have r4 := g.row 4 rfl (by decide)
  have r5 := g.row 5 rfl (by decide)
  have r50 := g.row 50 rfl (by decide)
  have r51 := g.row 51 rfl (by decide)
  have r52 := g.row 52 rfl (by decide)
  have r53 := g.row 53 rfl (by decide)
  have c1 := g 1 4 (by decide)
  have c2 := g 1 5 (by decide)
  have c3 := g 49 4 (by decide)
  have c4 := g 49 5 (by decide)
  unfold IvP
  rw [c1, c2, c3, c4, r2, r3, r4, r5, r50, r51, r52, r53]
  exact h
theorem IvF.ag {I I' : xm_I} (h : IvF I) (e1 : (I 1 4).toInt ≤ (I' 1 4).toInt) (g : Ag [7008, 7009, 50011, 50013, 7, 8, 9, 10, 11, 12, 13, 54, 55, 56, 57, 58, 59, 60] I I') : IvF I' := by
  obtain ⟨h1, h2, h3, h4, h5, h6, h7, h8⟩ := h
  have r7 := g.row 7 rfl (by decide)
  have r8 := g.row 8 rfl (by decide)
  have r9 := g.row 9 rfl (by decide)
  have r10 := g.row 10 rfl (by decide)
  have r11 := g.row 11 rfl (by decide)
  have r12 := g.row 12 rfl (by decide)
  have r13 := g.row 13 rfl (by decide)
  have r54 := g.row 54 rfl (by decide)
  have r55 := g.row 55 rfl (by decide)
  have r56 := g.row 56 rfl (by decide)
  have r57 := g.row 57 rfl (by decide)
  have r58 := g.row 58 rfl (by decide)
  have r59 := g.row 59 rfl (by decide)
  have r60 := g.row 60 rfl (by decide)
  have f1 := g 6 8 (by decide)
  have f2 := g 6 9 (by decide)
  have f3 := g 49 11 (by decide)
  have f4 := g 49 13 (by decide)
  unfold IvF IvO vp
  rw [f1, f2, f3, f4, r7, r8, r9, r10, r11, r12, r13, r54, r55, r56, r57, r58, r59, r60]
  refine ⟨h1, h2, h3, h4, h5, h6, fun k hk => ⟨(h7 k hk).1, ?_⟩, fun o ho => ?_⟩
  · have := (h7 k hk).2
    omega
  · obtain ⟨g1, g2, g3, g4⟩ := h8 o ho
    refine ⟨g1, g2, g3, fun k hk => ⟨(g4 k hk).1, (g4 k hk).2.1, ?_⟩⟩
    have := (g4 k hk).2.2
    omega
theorem c_tick {x : Int32} {I : xm_I} (h : IvP I) : ok (f_D_tick x I) (fun p => xl_sc I p.2 ∧ ok (f_M_tick x p.2) (fun q => p.1 = q.1 ∧ Fr [2005, 50005] I q.2 ∧ IvP q.2)) := by
  have h' := h
  obtain ⟨h1, h2, ⟨e1, e2, e3, e4, e5, e6⟩, h3, h4⟩ := h'
  unfold f_D_tick f_D_tick_b0 f_M_tick f_M_tick_b0
  repeat' first | with_reducible refine ok_e (e_D_isWithin _ _ _) ?_ | with_reducible refine ok_e (e_M_in _ _ _) ?_ | with_reducible refine ok_ib (fun _ => ?_) (fun _ => ?_) | with_reducible refine ok_lt (fun _ => ?_) (fun _ => ?_) | with_reducible refine ok_le (fun _ => ?_) (fun _ => ?_) | with_reducible refine ok_iq (fun _ => ?_) (fun _ => ?_) | (with_reducible refine ok_s ?_; try dsimp only) | with_reducible refine ok_b ?_ | refine x_sc ⟨rfl, rfl⟩ ?_ | fail
  all_goals try simp (disch := decide) only [Int32.reduceToInt, Int64.reduceToInt, i64of, up2_self, up2_ne, up2_nk] at *
  all_goals first | (exfalso; omega) | exact ⟨trivial, Fr.refl _ _, h⟩ | skip
  refine ⟨e2.symm, ?_, ?_⟩
  · (repeat first | exact Fr.refl _ _ | refine Fr.upA ?_ (by decide) (by decide) | refine Fr.up ?_ (by decide))
  · unfold IvP
    simp (disch := decide) only [up2_row, up2_upd, up2_self, up2_ne, up2_nk]
    exact ⟨h1, by omega, ⟨e1, trivial, e3, e4, e5, e6⟩, h3, h4⟩
theorem upd_all {P : Int32 → Prop} {f : Nat → Int32} {m : Nat} {v : Int32} (h : ∀ k, P (f k)) (hv : P v) (k : Nat) : P (upd f m v k) := by
  unfold upd
  split
  · exact hv
  · exact h k
theorem upd_id {f : Nat → Int32} {m : Nat} {v : Int32} (h : f m = v) : upd f m v = f := by
  funext j
  unfold upd
  split
  · rename_i e; rw [e, h]
  · rfl
theorem c_point {x y : Int32} {I : xm_I} (h : IvP I) : ok (f_D_point x y I) (fun p => xl_sc I p.2 ∧ ok (f_M_point x y p.2) (fun q => p.1 = q.1 ∧ Fr [2, 3, 2004, 50, 51, 52, 53, 50004] I q.2 ∧ (I 1 4).toInt ≤ (q.2 1 4).toInt ∧ IvP q.2)) := by
  have h' := h
  obtain ⟨h1, h2, ⟨e1, e2, e3, e4, e5, e6⟩, h3, h4⟩ := h'
  have e1' : (I 49 4).toInt = (I 1 4).toInt := by rw [e1]
  unfold f_D_point f_D_point_b0 f_Pt_add f_Pt_add_b0 f_M_point f_M_point_b0
  repeat' first | with_reducible refine ok_g (by first | omega | (simp (disch := omega) only [up2_self, up2_ne, up2_nk]; omega)) ?_ | with_reducible refine ok_e (e_D_isWithin _ _ _) ?_ | with_reducible refine ok_e (e_M_in _ _ _) ?_ | with_reducible refine ok_e (e_Pt_isFull _) ?_ | with_reducible refine ok_ib (fun _ => ?_) (fun _ => ?_) | with_reducible refine ok_lt (fun _ => ?_) (fun _ => ?_) | with_reducible refine ok_le (fun _ => ?_) (fun _ => ?_) | with_reducible refine ok_iq (fun _ => ?_) (fun _ => ?_) | (with_reducible refine ok_s ?_; try dsimp only) | with_reducible refine ok_b ?_ | refine x_sc ⟨rfl, rfl⟩ ?_ | fail
  all_goals try simp (disch := decide) only [Int32.reduceToInt, Int64.reduceToInt, i64of, up2_self, up2_ne, up2_nk] at *
  all_goals first | (exfalso; omega) | exact ⟨trivial, Fr.refl _ _, Int.le_refl _, h⟩ | skip
  have k1 : (1 : Int32).toInt = 1 := by decide
  have es : (I 1 4 + 1).toInt = (I 1 4).toInt + 1 := by rw [i32a (by omega), k1]
  refine ⟨by rw [e1], ?_, ?_, ?_⟩
  · (repeat first | exact Fr.refl _ _ | refine Fr.upA ?_ (by decide) (by decide) | refine Fr.up ?_ (by decide))
  · omega
  · unfold IvP
    simp (disch := decide) only [up2_row, up2_upd, up2_self, up2_ne, up2_nk]
    refine ⟨by omega, h2, ⟨by rw [e1], e2, by rw [e1, e3], by rw [e1, e4], ?_, ?_⟩, fun k => ?_, fun k hk => h4 k (by omega)⟩
    · rw [e1, e5, upd_id (h4 _ (by rw [tn32 (by omega)]; exact Int.le_refl _)).1]
    · rw [e1, e6, upd_id (h4 _ (by rw [tn32 (by omega)]; exact Int.le_refl _)).2]
    · obtain ⟨a1, a2, a3, a4⟩ := h3 k
      refine ⟨?_, ?_, a3, a4⟩
      · exact upd_all (P := fun z => -20000 ≤ z.toInt ∧ z.toInt ≤ 20000) (fun j => (h3 j).1) (by omega) k
      · exact upd_all (P := fun z => -20000 ≤ z.toInt ∧ z.toInt ≤ 20000) (fun j => (h3 j).2.1) (by omega) k
theorem c_move {x y z : Int32} {I : xm_I} (h : IvP I) : ok (f_D_move x y z I) (fun p => xl_sc I p.2 ∧ ok (f_M_move x y z p.2) (fun q => p.1 = q.1 ∧ Fr [4, 5, 52, 53] I q.2 ∧ IvP q.2)) := by
  have h' := h
  obtain ⟨h1, h2, ⟨e1, e2, e3, e4, e5, e6⟩, h3, h4⟩ := h'
  have e1' : (I 49 4).toInt = (I 1 4).toInt := by rw [e1]
  unfold f_D_move f_D_move_b0 f_Pt_goBy f_Pt_goBy_b0 f_M_move f_M_move_b0
  repeat' first | with_reducible refine ok_g (by first | omega | (simp (disch := omega) only [up2_self, up2_ne, up2_nk]; omega)) ?_ | with_reducible refine ok_e (e_D_isWithin _ _ _) ?_ | with_reducible refine ok_e (e_M_in _ _ _) ?_ | with_reducible refine ok_e (e_Pt_has _ _) ?_ | with_reducible refine ok_e (e_M_isPoint _ _) ?_ | with_reducible refine ok_ib (fun _ => ?_) (fun _ => ?_) | with_reducible refine ok_lt (fun _ => ?_) (fun _ => ?_) | with_reducible refine ok_le (fun _ => ?_) (fun _ => ?_) | with_reducible refine ok_iq (fun _ => ?_) (fun _ => ?_) | (with_reducible refine ok_s ?_; try dsimp only) | with_reducible refine ok_b ?_ | refine x_sc ⟨rfl, rfl⟩ ?_ | fail
  all_goals try simp (disch := decide) only [Int32.reduceToInt, Int64.reduceToInt, i64of, up2_self, up2_ne, up2_nk] at *
  all_goals first | (exfalso; omega) | exact ⟨trivial, Fr.refl _ _, h⟩ | skip
  refine ⟨trivial, ?_, ?_⟩
  · (repeat first | exact Fr.refl _ _ | refine Fr.upA ?_ (by decide) (by decide) | refine Fr.up ?_ (by decide))
  · unfold IvP
    simp (disch := decide) only [up2_row, up2_upd, up2_self, up2_ne, up2_nk]
    refine ⟨h1, h2, ⟨e1, e2, e3, e4, by rw [e5], by rw [e6]⟩, fun k => ?_, fun k hk => ?_⟩
    · obtain ⟨a1, a2, a3, a4⟩ := h3 k
      refine ⟨a1, a2, ?_, ?_⟩
      · exact upd_all (P := fun z => -100 ≤ z.toInt ∧ z.toInt ≤ 100) (fun j => (h3 j).2.2.1) (by omega) k
      · exact upd_all (P := fun z => -100 ≤ z.toInt ∧ z.toInt ≤ 100) (fun j => (h3 j).2.2.2) (by omega) k
    · have hne : ¬ k = Int32.toNatClampNeg x := by
        intro hk'
        rw [hk', tn32 (by omega)] at hk
        omega
      obtain ⟨b1, b2⟩ := h4 k hk
      unfold upd
      rw [if_neg hne, if_neg hne]
      exact ⟨b1, b2⟩
theorem c_at {x y : Int32} {I : xm_I} (h : IvP I) : ok (f_D_at x y I) (fun p => ok (f_M_at x y I) (fun q => p = q)) := by
  have h' := h
  obtain ⟨h1, h2, ⟨e1, e2, e3, e4, e5, e6⟩, h3, h4⟩ := h'
  have e1' : (I 49 4).toInt = (I 1 4).toInt := by rw [e1]
  unfold f_D_at f_D_at_b0 f_M_at f_M_at_b0
  repeat' first | with_reducible refine ok_e (e_D_isWithin _ _ _) ?_ | with_reducible refine ok_e (e_M_in _ _ _) ?_ | with_reducible refine ok_e (e_Pt_has _ _) ?_ | with_reducible refine ok_e (e_M_isPoint _ _) ?_ | with_reducible refine ok_e (e_Pt_xNow (by omega) (by omega) (by omega)) ?_ | with_reducible refine ok_e (e_Pt_yNow (by omega) (by omega) (by omega)) ?_ | with_reducible refine ok_e (e_M_nowX h (by omega) (by omega)) ?_ | with_reducible refine ok_e (e_M_nowY h (by omega) (by omega)) ?_ | with_reducible refine ok_ib (fun _ => ?_) (fun _ => ?_) | with_reducible refine ok_lt (fun _ => ?_) (fun _ => ?_) | with_reducible refine ok_le (fun _ => ?_) (fun _ => ?_) | with_reducible refine ok_iq (fun _ => ?_) (fun _ => ?_) | (with_reducible refine ok_s ?_; try dsimp only) | with_reducible refine ok_b ?_ | refine x_sc ⟨rfl, rfl⟩ ?_ | fail
  all_goals try simp (disch := decide) only [Int32.reduceToInt, Int64.reduceToInt, i64of, up2_self, up2_ne, up2_nk] at *
  all_goals first | (exfalso; omega) | rfl
theorem c_corner {x : Int32} {I : xm_I} (h : IvP I) (g : IvF I) : ok (f_D_corner x I) (fun p => xl_sc I p.2 ∧ ok (f_M_corner x p.2) (fun q => p.1 = q.1 ∧ Fr [13, 7008, 59, 50013] I q.2 ∧ IvF q.2)) := by
  have h' := h
  obtain ⟨h1, h2, ⟨e1, e2, e3, e4, e5, e6⟩, h3, h4⟩ := h'
  have e1' : (I 49 4).toInt = (I 1 4).toInt := by rw [e1]
  have g' := g
  obtain ⟨g1, g2, ⟨d1, d2, d3, d4, d5, d6, d7⟩, g4, g5, g6, g7, g8⟩ := g'
  have d1' : (I 49 11).toInt = (I 6 9).toInt := by rw [d1]
  have d2' : (I 49 13).toInt = (I 6 8).toInt := by rw [d2]
  unfold f_D_corner f_D_corner_b0 f_Fg_lengthenChain f_Fg_lengthenChain_b0 f_M_corner f_M_corner_b0
  repeat' first | with_reducible refine ok_g (by first | omega | (simp (disch := omega) only [up2_self, up2_ne, up2_nk]; omega)) ?_ | with_reducible refine ok_e (e_Pt_has _ _) ?_ | with_reducible refine ok_e (e_M_isPoint _ _) ?_ | with_reducible refine ok_e (e_Fg_chainIsFull _) ?_ | with_reducible refine ok_ib (fun _ => ?_) (fun _ => ?_) | with_reducible refine ok_lt (fun _ => ?_) (fun _ => ?_) | with_reducible refine ok_le (fun _ => ?_) (fun _ => ?_) | with_reducible refine ok_iq (fun _ => ?_) (fun _ => ?_) | (with_reducible refine ok_s ?_; try dsimp only) | with_reducible refine ok_b ?_ | refine x_sc ⟨rfl, rfl⟩ ?_ | fail
  all_goals try simp (disch := decide) only [Int32.reduceToInt, Int64.reduceToInt, i64of, up2_self, up2_ne, up2_nk] at *
  all_goals first | (exfalso; omega) | exact ⟨trivial, Fr.refl _ _, g⟩ | skip
  have k1 : (1 : Int32).toInt = 1 := by decide
  have es : (I 6 8 + 1).toInt = (I 6 8).toInt + 1 := by rw [i32a (by omega), k1]
  refine ⟨by rw [d2], ?_, ?_⟩
  · (repeat first | exact Fr.refl _ _ | refine Fr.upA ?_ (by decide) (by decide) | refine Fr.up ?_ (by decide))
  · unfold IvF IvO vp
    simp (disch := decide) only [up2_row, up2_upd, up2_self, up2_ne, up2_nk]
    refine ⟨g1, by omega, ⟨d1, by rw [d2], d3, d4, d5, d6, by rw [d2, d7]⟩, g4, g5, g6, fun k hk => ?_, g8⟩
    unfold upd
    split
    · omega
    · rename_i hne
      have := tn32 (x := I 6 8) (by omega)
      exact g7 k (by omega)
theorem c_style {x y : Int32} {I : xm_I} (h : IvP I) (g : IvF I) : ok (f_D_style x y I) (fun p => xl_sc I p.2 ∧ ok (f_M_style x y p.2) (fun q => p.1 = q.1 ∧ Fr [8, 57] I q.2 ∧ IvF q.2)) := by
  have h' := h
  obtain ⟨h1, h2, ⟨e1, e2, e3, e4, e5, e6⟩, h3, h4⟩ := h'
  have e1' : (I 49 4).toInt = (I 1 4).toInt := by rw [e1]
  have g' := g
  obtain ⟨g1, g2, ⟨d1, d2, d3, d4, d5, d6, d7⟩, g4, g5, g6, g7, g8⟩ := g'
  have d1' : (I 49 11).toInt = (I 6 9).toInt := by rw [d1]
  have d2' : (I 49 13).toInt = (I 6 8).toInt := by rw [d2]
  unfold f_D_style f_D_style_b0 f_M_style f_M_style_b0
  repeat' first | with_reducible refine ok_g (by first | omega | (simp (disch := omega) only [up2_self, up2_ne, up2_nk]; omega)) ?_ | with_reducible refine ok_e (e_Fg_has _ _) ?_ | with_reducible refine ok_e (e_M_isObject _ _) ?_ | with_reducible refine ok_e (e_D_isWithin _ _ _) ?_ | with_reducible refine ok_e (e_M_in _ _ _) ?_ | with_reducible refine ok_e (e_Fg_styleOf (by unfold vo; omega)) ?_ | with_reducible refine ok_e (e_Fg_setStyle (by unfold vo; omega)) ?_ | with_reducible refine ok_ib (fun _ => ?_) (fun _ => ?_) | with_reducible refine ok_lt (fun _ => ?_) (fun _ => ?_) | with_reducible refine ok_le (fun _ => ?_) (fun _ => ?_) | with_reducible refine ok_iq (fun _ => ?_) (fun _ => ?_) | (with_reducible refine ok_s ?_; try dsimp only) | with_reducible refine ok_b ?_ | refine x_sc ⟨rfl, rfl⟩ ?_ | fail
  all_goals try simp (disch := decide) only [Int32.reduceToInt, Int64.reduceToInt, i64of, up2_self, up2_ne, up2_nk] at *
  all_goals first | (exfalso; omega) | exact ⟨trivial, Fr.refl _ _, g⟩ | skip
  refine ⟨by rw [d4], ?_, ?_⟩
  · (repeat first | exact Fr.refl _ _ | refine Fr.upA ?_ (by decide) (by decide) | refine Fr.up ?_ (by decide))
  · unfold IvF IvO vp
    simp (disch := decide) only [up2_row, up2_upd, up2_self, up2_ne, up2_nk]
    refine ⟨g1, g2, ⟨d1, d2, d3, by rw [d4], d5, d6, d7⟩, g4, ?_, fun k hk => ?_, g7, g8⟩
    · exact upd_all (P := fun z => 0 ≤ z.toInt ∧ z.toInt ≤ 2) g5 (by omega)
    · unfold upd
      rw [if_neg]
      · exact g6 k hk
      · intro hk'
        rw [hk', tn32 (by omega)] at hk
        omega
theorem and1_01 (y : Int32) : y &&& 1 = 0 ∨ y &&& 1 = 1 := by
  have h : (y &&& 1).toBitVec = (y.toBitVec &&& 1#32) := rfl
  have h2 : (y.toBitVec &&& 1#32) = 0#32 ∨ (y.toBitVec &&& 1#32) = 1#32 := by
    have e : (y.toBitVec &&& 1#32).toNat = y.toBitVec.toNat % 2 := by
      rw [BitVec.toNat_and]
      show y.toBitVec.toNat &&& 1 = _
      exact Nat.and_one_is_mod _
    have : y.toBitVec.toNat % 2 = 0 ∨ y.toBitVec.toNat % 2 = 1 := by omega
    rcases this with k | k
    · exact Or.inl (BitVec.eq_of_toNat_eq (by rw [e, k]; rfl))
    · exact Or.inr (BitVec.eq_of_toNat_eq (by rw [e, k]; rfl))
  rcases h2 with k | k
  · exact Or.inl (Int32.toBitVec_inj.1 (by rw [h, k]; rfl))
  · exact Or.inr (Int32.toBitVec_inj.1 (by rw [h, k]; rfl))
theorem c_hide {x y : Int32} {I : xm_I} (h : IvP I) (g : IvF I) : ok (f_D_hide x y I) (fun p => xl_sc I p.2 ∧ ok (f_M_hide x y p.2) (fun q => p.1 = q.1 ∧ Fr [12, 60] I q.2 ∧ IvF q.2)) := by
  have h' := h
  obtain ⟨h1, h2, ⟨e1, e2, e3, e4, e5, e6⟩, h3, h4⟩ := h'
  have e1' : (I 49 4).toInt = (I 1 4).toInt := by rw [e1]
  have g' := g
  obtain ⟨g1, g2, ⟨d1, d2, d3, d4, d5, d6, d7⟩, g4, g5, g6, g7, g8⟩ := g'
  have d1' : (I 49 11).toInt = (I 6 9).toInt := by rw [d1]
  have d2' : (I 49 13).toInt = (I 6 8).toInt := by rw [d2]
  have k0 : (0 : Int32).toInt = 0 := by decide
  have k9 : (9 : Int32).toInt = 9 := by decide
  unfold f_D_hide f_D_hide_b0 f_D_hide_b29 f_M_hide f_M_hide_b0 f_M_hide_b29
  refine ok_e (e_D_isWithin _ _ _) (ok_ib (fun hc => ?_) (fun hc => ?_))
  · refine ok_s ⟨⟨rfl, rfl⟩, ok_e (e_M_in _ _ _) (ok_ib (fun _ => ok_s ⟨rfl, Fr.refl _ _, g⟩) (fun hd => ?_))⟩
    exfalso
    try simp (disch := decide) only [Int32.reduceToInt, Int64.reduceToInt, i64of, up2_self, up2_ne, up2_nk] at *
    omega
  · rw [k0, k9] at hc
    have fin : ∀ v : Int32, IvF (up2 (up2 I 12 (Int32.toNatClampNeg x) (y &&& 1)) 60 (Int32.toNatClampNeg x) (y &&& 1)) ∧ Fr [12, 60] I (up2 (up2 I 12 (Int32.toNatClampNeg x) (y &&& 1)) 60 (Int32.toNatClampNeg x) (y &&& 1)) := by
      intro v
      constructor
      · unfold IvF IvO vp
        simp (disch := decide) only [up2_row, up2_upd, up2_self, up2_ne, up2_nk]
        refine ⟨g1, g2, ⟨d1, d2, d3, d4, d5, by rw [d6], d7⟩, ?_, g5, g6, g7, g8⟩
        exact upd_all (P := fun z => z = 0 ∨ z = 1) g4 (and1_01 y)
      · (repeat first | exact Fr.refl _ _ | refine Fr.upA ?_ (by decide) (by decide) | refine Fr.up ?_ (by decide))
    refine ok_e (e_Fg_isHidden hc.1 hc.2) ?_
    by_cases kx : I 12 (Int32.toNatClampNeg x) = 0
    · have ky : I 60 (Int32.toNatClampNeg x) = 0 := by rw [d6]; exact kx
      refine ok_t (by rw [bi0]; exact fun k => k kx) (ok_e (e_Fg_setHidden hc.1 hc.2) (ok_s ⟨⟨rfl, rfl⟩, ok_e (e_M_in _ _ _) (ok_f ?_ (ok_g ⟨hc.1, by omega⟩ (ok_t ky (ok_g ⟨hc.1, by omega⟩ (ok_s ⟨rfl, (fin 0).2, (fin 0).1⟩)))))⟩))
      rw [bi0, Classical.not_not]
      simp only [Int64.reduceToInt, i64of]
      exact hc
    · have ky : ¬ I 60 (Int32.toNatClampNeg x) = 0 := by rw [d6]; exact kx
      refine ok_f (by rw [bi0]; exact fun k => k kx) (ok_e (e_Fg_setHidden hc.1 hc.2) (ok_s ⟨⟨rfl, rfl⟩, ok_e (e_M_in _ _ _) (ok_f ?_ (ok_g ⟨hc.1, by omega⟩ (ok_f ky (ok_g ⟨hc.1, by omega⟩ (ok_s ⟨rfl, (fin 0).2, (fin 0).1⟩)))))⟩))
      rw [bi0, Classical.not_not]
      simp only [Int64.reduceToInt, i64of]
      exact hc
theorem c_fallen {x : Int32} {I : xm_I} (h : IvP I) (g : IvF I) : ok (f_D_fallen x I) (fun p => ok (f_M_fallen x I) (fun q => p = q)) := by
  have h' := h
  obtain ⟨h1, h2, ⟨e1, e2, e3, e4, e5, e6⟩, h3, h4⟩ := h'
  have e1' : (I 49 4).toInt = (I 1 4).toInt := by rw [e1]
  have g' := g
  obtain ⟨g1, g2, ⟨d1, d2, d3, d4, d5, d6, d7⟩, g4, g5, g6, g7, g8⟩ := g'
  have d1' : (I 49 11).toInt = (I 6 9).toInt := by rw [d1]
  have d2' : (I 49 13).toInt = (I 6 8).toInt := by rw [d2]
  unfold f_D_fallen f_D_fallen_b0 f_M_fallen f_M_fallen_b0
  by_cases hx : vo I x
  · obtain ⟨c, hc1, hc2, _⟩ := m_fallen h g hx
    repeat' first | with_reducible refine ok_g (by first | omega | (simp (disch := omega) only [up2_self, up2_ne, up2_nk]; omega)) ?_ | with_reducible refine ok_e (e_Fg_has _ _) ?_ | with_reducible refine ok_e (e_M_isObject _ _) ?_ | with_reducible refine ok_e (hc1) ?_ | with_reducible refine ok_e (hc2) ?_ | with_reducible refine ok_ib (fun _ => ?_) (fun _ => ?_) | with_reducible refine ok_lt (fun _ => ?_) (fun _ => ?_) | with_reducible refine ok_le (fun _ => ?_) (fun _ => ?_) | with_reducible refine ok_iq (fun _ => ?_) (fun _ => ?_) | (with_reducible refine ok_s ?_; try dsimp only) | with_reducible refine ok_b ?_ | refine x_sc ⟨rfl, rfl⟩ ?_ | fail
    all_goals unfold vo at hx
    all_goals try simp (disch := decide) only [Int32.reduceToInt, Int64.reduceToInt, i64of, up2_self, up2_ne, up2_nk] at *
    all_goals first | (exfalso; omega) | trivial | rfl
  · repeat' first | with_reducible refine ok_e (e_Fg_has _ _) ?_ | with_reducible refine ok_e (e_M_isObject _ _) ?_ | with_reducible refine ok_ib (fun _ => ?_) (fun _ => ?_) | with_reducible refine ok_lt (fun _ => ?_) (fun _ => ?_) | with_reducible refine ok_le (fun _ => ?_) (fun _ => ?_) | with_reducible refine ok_iq (fun _ => ?_) (fun _ => ?_) | (with_reducible refine ok_s ?_; try dsimp only) | with_reducible refine ok_b ?_ | refine x_sc ⟨rfl, rfl⟩ ?_ | fail
    all_goals unfold vo at hx
    all_goals try simp (disch := decide) only [Int32.reduceToInt, Int64.reduceToInt, i64of, up2_self, up2_ne, up2_nk] at *
    all_goals first | (exfalso; omega) | trivial | rfl
theorem c_measure {x : Int32} {I : xm_I} (h : IvP I) (g : IvF I) : ok (f_D_measure x I) (fun p => ok (f_M_measure x I) (fun q => p = q)) := by
  have h' := h
  obtain ⟨h1, h2, ⟨e1, e2, e3, e4, e5, e6⟩, h3, h4⟩ := h'
  have e1' : (I 49 4).toInt = (I 1 4).toInt := by rw [e1]
  have g' := g
  obtain ⟨g1, g2, ⟨d1, d2, d3, d4, d5, d6, d7⟩, g4, g5, g6, g7, g8⟩ := g'
  have d1' : (I 49 11).toInt = (I 6 9).toInt := by rw [d1]
  have d2' : (I 49 13).toInt = (I 6 8).toInt := by rw [d2]
  unfold f_D_measure f_D_measure_b0 f_M_measure f_M_measure_b0
  by_cases hx : vo I x
  · obtain ⟨c, hc1, hc2⟩ := m_turn h g hx
    have hxx := hx
    unfold vo at hxx
    rw [d3]
    repeat' first | with_reducible refine ok_g (by first | omega | (simp (disch := omega) only [up2_self, up2_ne, up2_nk]; omega)) ?_ | with_reducible refine ok_e (e_Fg_has _ _) ?_ | with_reducible refine ok_e (e_M_isObject _ _) ?_ | with_reducible refine ok_e (e_Fg_kindOf hx) ?_ | with_reducible refine ok_e (hc1) ?_ | with_reducible refine ok_e (hc2) ?_ | with_reducible refine ok_ib (fun _ => ?_) (fun _ => ?_) | with_reducible refine ok_lt (fun _ => ?_) (fun _ => ?_) | with_reducible refine ok_le (fun _ => ?_) (fun _ => ?_) | with_reducible refine ok_iq (fun _ => ?_) (fun _ => ?_) | (with_reducible refine ok_s ?_; try dsimp only) | with_reducible refine ok_b ?_ | refine x_sc ⟨rfl, rfl⟩ ?_ | fail
    all_goals unfold vo at hx
    all_goals try simp (disch := decide) only [Int32.reduceToInt, Int64.reduceToInt, i64of, up2_self, up2_ne, up2_nk] at *
    all_goals first | (exfalso; omega) | trivial | rfl
  · repeat' first | with_reducible refine ok_e (e_Fg_has _ _) ?_ | with_reducible refine ok_e (e_M_isObject _ _) ?_ | with_reducible refine ok_ib (fun _ => ?_) (fun _ => ?_) | with_reducible refine ok_lt (fun _ => ?_) (fun _ => ?_) | with_reducible refine ok_le (fun _ => ?_) (fun _ => ?_) | with_reducible refine ok_iq (fun _ => ?_) (fun _ => ?_) | (with_reducible refine ok_s ?_; try dsimp only) | with_reducible refine ok_b ?_ | refine x_sc ⟨rfl, rfl⟩ ?_ | fail
    all_goals unfold vo at hx
    all_goals try simp (disch := decide) only [Int32.reduceToInt, Int64.reduceToInt, i64of, up2_self, up2_ne, up2_nk] at *
    all_goals first | (exfalso; omega) | trivial | rfl
