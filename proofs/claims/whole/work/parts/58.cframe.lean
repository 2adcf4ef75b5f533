/-! ===== calls on the frame ===== -/
theorem w_set {I J : xm_I} (h : IvW I) (hf : Fr [15000, 15001, 15002, 15003, 15004, 15005, 15006, 15009, 15010, 50015, 50016, 50017, 50018, 50019, 50020, 50021] I J) (h0 : J 49 15 = J 14 0 ∧ J 49 16 = J 14 1 ∧ J 49 17 = J 14 2 ∧ J 49 18 = J 14 3 ∧ J 49 19 = J 14 4 ∧ J 49 20 = J 14 5 ∧ J 49 21 = J 14 6) (hb : WB J) (hs : SC J) : IvW J := by
  obtain ⟨⟨e15, e16, e17, e18, e19, e20, e21, e22, e23⟩, _, hg, _⟩ := h
  obtain ⟨f1, f2, f3, f4, f5, f6, f7⟩ := h0
  have a7 := hf 14 7 (by decide)
  have a8 := hf 14 8 (by decide)
  have b22 := hf 49 22 (by decide)
  have b23 := hf 49 23 (by decide)
  refine ⟨⟨f1, f2, f3, f4, f5, f6, f7, by rw [a7, b22, e22], by rw [a8, b23, e23]⟩, hb, ?_, hs⟩
  rw [a7, a8]
  exact hg
theorem SC.kept {I J : xm_I} (h : SC I) (g : ∀ k, J 14 k = I 14 k) : SC J := by
  unfold SC
  rw [g 0, g 1, g 2, g 3, g 4, g 5, g 6, g 9, g 10]
  exact h
theorem sw_ok {I : xm_I} {l r b t : Int32} (h : IvW I) (h1 : -40000 ≤ l.toInt ∧ l.toInt ≤ r.toInt ∧ r.toInt ≤ 40000) (h2 : -40000 ≤ b.toInt ∧ b.toInt ≤ t.toInt ∧ t.toInt ≤ 40000) : ok (f_Fr_setWindow l r b t I) (fun J => xl_sc I J ∧ Fr [15000, 15001, 15002, 15003, 15009, 15010] I J ∧ IvW (up2 (up2 (up2 (up2 J 49 15 l) 49 16 r) 49 17 b) 49 18 t)) := by
  have h' := h
  obtain ⟨⟨e15, e16, e17, e18, e19, e20, e21, e22, e23⟩, hb, hg, hs⟩ := h'
  have hb' := hb
  obtain ⟨b1, b2, b3, b4, b5⟩ := hb'
  unfold f_Fr_setWindow f_Fr_setWindow_b0
  have hJ : WB (up2 (up2 (up2 (up2 I 14 0 l) 14 1 r) 14 2 b) 14 3 t) := ⟨h1, h2, b3, b4, b5⟩
  refine ok_b (ok_mono (rescale_ok hJ) (fun J' hJ' => ok_s ?_))
  obtain ⟨f, s⟩ := hJ'
  have f' : Fr [15000, 15001, 15002, 15003, 15009, 15010] I J' := Fr.trans (g := up2 (up2 (up2 (up2 I 14 0 l) 14 1 r) 14 2 b) 14 3 t) (Fr.up (Fr.up (Fr.up (Fr.up (Fr.refl _ _) (by decide)) (by decide)) (by decide)) (by decide)) (f.mono (by decide))
  have c0 : J' 14 0 = l := f 14 0 (by decide)
  have c1 : J' 14 1 = r := f 14 1 (by decide)
  have c2 : J' 14 2 = b := f 14 2 (by decide)
  have c3 : J' 14 3 = t := f 14 3 (by decide)
  have c4 : J' 14 4 = I 14 4 := f' 14 4 (by decide)
  have c5 : J' 14 5 = I 14 5 := f' 14 5 (by decide)
  have c6 : J' 14 6 = I 14 6 := f' 14 6 (by decide)
  refine ⟨⟨f'.row _ rfl (by decide), f'.row _ rfl (by decide)⟩, f', ?_⟩
  refine w_set (I := I) h (Fr.up (Fr.up (Fr.up (Fr.up (f'.mono (by decide)) (by decide)) (by decide)) (by decide)) (by decide)) ?_ ?_ (s.kept fun k => rfl)
  · simp (disch := decide) only [up2_self, up2_ne, up2_nk]
    rw [c0, c1, c2, c3, c4, c5, c6, f' 49 19 (by decide), f' 49 20 (by decide), f' 49 21 (by decide)]
    exact ⟨rfl, rfl, rfl, rfl, e19, e20, e21⟩
  · unfold WB
    simp (disch := decide) only [up2_self, up2_ne, up2_nk]
    rw [c0, c1, c2, c3, c4, c5, c6]
    exact ⟨h1, h2, b3, b4, b5⟩
theorem ss_ok {I : xm_I} {l r b : Int32} (h : IvW I) (h1 : 16 ≤ l.toInt ∧ l.toInt ≤ 400) (h2 : 16 ≤ r.toInt ∧ r.toInt ≤ 400) (h3 : 0 ≤ b.toInt ∧ b.toInt ≤ 7) : ok (f_Fr_setSheet l r b I) (fun J => xl_sc I J ∧ Fr [15004, 15005, 15006, 15009, 15010] I J ∧ IvW (up2 (up2 (up2 J 49 19 l) 49 20 r) 49 21 b)) := by
  have h' := h
  obtain ⟨⟨e15, e16, e17, e18, e19, e20, e21, e22, e23⟩, hb, hg, hs⟩ := h'
  have hb' := hb
  obtain ⟨b1, b2, b3, b4, b5⟩ := hb'
  unfold f_Fr_setSheet f_Fr_setSheet_b0
  have hJ : WB (up2 (up2 (up2 I 14 4 l) 14 5 r) 14 6 b) := ⟨b1, b2, h1, h2, h3⟩
  refine ok_b (ok_mono (rescale_ok hJ) (fun J' hJ' => ok_s ?_))
  obtain ⟨f, s⟩ := hJ'
  have f' : Fr [15004, 15005, 15006, 15009, 15010] I J' := Fr.trans (g := up2 (up2 (up2 I 14 4 l) 14 5 r) 14 6 b) (Fr.up (Fr.up (Fr.up (Fr.refl _ _) (by decide)) (by decide)) (by decide)) (f.mono (by decide))
  have c0 : J' 14 0 = I 14 0 := f' 14 0 (by decide)
  have c1 : J' 14 1 = I 14 1 := f' 14 1 (by decide)
  have c2 : J' 14 2 = I 14 2 := f' 14 2 (by decide)
  have c3 : J' 14 3 = I 14 3 := f' 14 3 (by decide)
  have c4 : J' 14 4 = l := f 14 4 (by decide)
  have c5 : J' 14 5 = r := f 14 5 (by decide)
  have c6 : J' 14 6 = b := f 14 6 (by decide)
  refine ⟨⟨f'.row _ rfl (by decide), f'.row _ rfl (by decide)⟩, f', ?_⟩
  refine w_set (I := I) h (Fr.up (Fr.up (Fr.up (f'.mono (by decide)) (by decide)) (by decide)) (by decide)) ?_ ?_ (s.kept fun k => rfl)
  · simp (disch := decide) only [up2_self, up2_ne, up2_nk]
    rw [c0, c1, c2, c3, c4, c5, c6, f' 49 15 (by decide), f' 49 16 (by decide), f' 49 17 (by decide), f' 49 18 (by decide)]
    exact ⟨e15, e16, e17, e18, rfl, rfl, rfl⟩
  · unfold WB
    simp (disch := decide) only [up2_self, up2_ne, up2_nk]
    rw [c0, c1, c2, c3, c4, c5, c6]
    exact ⟨b1, b2, h1, h2, h3⟩
theorem e_M_isSide (x : Int32) : f_M_isSide x = some (bi (-40000 ≤ x.toInt ∧ x.toInt ≤ 40000)) := by
  unfold f_M_isSide f_M_isSide_b0
  simp only [lt32, le32, Int32.reduceToInt]
  (repeat' split) <;> first | rw [bi_t (by omega)] | rw [bi_f (by omega)]
theorem c_window {x y z w : Int32} {I : xm_I} (h : IvW I) : ok (f_D_window x y z w I) (fun p => xl_sc I p.2 ∧ ok (f_M_window x y z w p.2) (fun q => p.1 = q.1 ∧ Fr [15000, 15001, 15002, 15003, 15009, 15010, 50015, 50016, 50017, 50018] I q.2 ∧ IvW q.2)) := by
  by_cases hc : (-40000 ≤ x.toInt ∧ x.toInt ≤ y.toInt ∧ y.toInt ≤ 40000) ∧ (-40000 ≤ z.toInt ∧ z.toInt ≤ w.toInt ∧ w.toInt ≤ 40000)
  · obtain ⟨J, hJ, j1, j2, j3⟩ := sw_ok h hc.1 hc.2
    unfold f_D_window f_D_window_b0 f_D_window_b57 f_D_window_b58 f_M_window f_M_window_b0
    repeat' first | refine x_sc j1 ?_ | with_reducible refine ok_e (e_D_isWithin _ _ _) ?_ | with_reducible refine ok_e (e_M_isSide _) ?_ | with_reducible refine ok_e (hJ) ?_ | (with_reducible refine ok_ib (fun _ => ?_) (fun _ => ?_) <;> try (exfalso; first | omega | (simp (disch := decide) only [Int32.reduceToInt, Int64.reduceToInt, i64of, up2_self, up2_ne, up2_nk] at *; omega))) | (with_reducible refine ok_lt (fun _ => ?_) (fun _ => ?_) <;> try (exfalso; first | omega | (simp (disch := decide) only [Int32.reduceToInt, Int64.reduceToInt, i64of, up2_self, up2_ne, up2_nk] at *; omega))) | (with_reducible refine ok_le (fun _ => ?_) (fun _ => ?_) <;> try (exfalso; first | omega | (simp (disch := decide) only [Int32.reduceToInt, Int64.reduceToInt, i64of, up2_self, up2_ne, up2_nk] at *; omega))) | (with_reducible refine ok_iq (fun _ => ?_) (fun _ => ?_) <;> try (exfalso; first | omega | (simp (disch := decide) only [Int32.reduceToInt, Int64.reduceToInt, i64of, up2_self, up2_ne, up2_nk] at *; omega))) | (with_reducible refine ok_s ?_; try dsimp only) | with_reducible refine ok_b ?_ | refine x_sc ⟨rfl, rfl⟩ ?_ | fail
    all_goals try simp (disch := decide) only [Int32.reduceToInt, Int64.reduceToInt, i64of, up2_self, up2_ne, up2_nk] at *
    all_goals first | (exfalso; omega) | (refine ⟨trivial, ?_, j3⟩)
    exact Fr.up (Fr.up (Fr.up (Fr.up (j2.mono (by decide)) (by decide)) (by decide)) (by decide)) (by decide)
  · unfold f_D_window f_D_window_b0 f_D_window_b57 f_D_window_b58 f_M_window f_M_window_b0
    repeat' first | with_reducible refine ok_e (e_D_isWithin _ _ _) ?_ | with_reducible refine ok_e (e_M_isSide _) ?_ | (with_reducible refine ok_ib (fun _ => ?_) (fun _ => ?_) <;> try (exfalso; first | omega | (simp (disch := decide) only [Int32.reduceToInt, Int64.reduceToInt, i64of, up2_self, up2_ne, up2_nk] at *; omega))) | (with_reducible refine ok_lt (fun _ => ?_) (fun _ => ?_) <;> try (exfalso; first | omega | (simp (disch := decide) only [Int32.reduceToInt, Int64.reduceToInt, i64of, up2_self, up2_ne, up2_nk] at *; omega))) | (with_reducible refine ok_le (fun _ => ?_) (fun _ => ?_) <;> try (exfalso; first | omega | (simp (disch := decide) only [Int32.reduceToInt, Int64.reduceToInt, i64of, up2_self, up2_ne, up2_nk] at *; omega))) | (with_reducible refine ok_iq (fun _ => ?_) (fun _ => ?_) <;> try (exfalso; first | omega | (simp (disch := decide) only [Int32.reduceToInt, Int64.reduceToInt, i64of, up2_self, up2_ne, up2_nk] at *; omega))) | (with_reducible refine ok_s ?_; try dsimp only) | with_reducible refine ok_b ?_ | refine x_sc ⟨rfl, rfl⟩ ?_ | fail
    all_goals try simp (disch := decide) only [Int32.reduceToInt, Int64.reduceToInt, i64of, up2_self, up2_ne, up2_nk] at *
    all_goals first | (exfalso; omega) | exact ⟨trivial, Fr.refl _ _, h⟩
theorem c_sheet {x y z : Int32} {I : xm_I} (h : IvW I) : ok (f_D_sheet x y z I) (fun p => xl_sc I p.2 ∧ ok (f_M_sheet x y z p.2) (fun q => p.1 = q.1 ∧ Fr [15004, 15005, 15006, 15009, 15010, 50019, 50020, 50021] I q.2 ∧ IvW q.2)) := by
  by_cases hc : (16 ≤ x.toInt ∧ x.toInt ≤ 400) ∧ (16 ≤ y.toInt ∧ y.toInt ≤ 400) ∧ (0 ≤ z.toInt ∧ z.toInt ≤ 7)
  · obtain ⟨J, hJ, j1, j2, j3⟩ := ss_ok h hc.1 hc.2.1 hc.2.2
    unfold f_D_sheet f_D_sheet_b0 f_D_sheet_b38 f_D_sheet_b39 f_M_sheet f_M_sheet_b0
    repeat' first | refine x_sc j1 ?_ | with_reducible refine ok_e (e_D_isWithin _ _ _) ?_ | with_reducible refine ok_e (e_M_in _ _ _) ?_ | with_reducible refine ok_e (hJ) ?_ | (with_reducible refine ok_ib (fun _ => ?_) (fun _ => ?_) <;> try (exfalso; first | omega | (simp (disch := decide) only [Int32.reduceToInt, Int64.reduceToInt, i64of, up2_self, up2_ne, up2_nk] at *; omega))) | (with_reducible refine ok_lt (fun _ => ?_) (fun _ => ?_) <;> try (exfalso; first | omega | (simp (disch := decide) only [Int32.reduceToInt, Int64.reduceToInt, i64of, up2_self, up2_ne, up2_nk] at *; omega))) | (with_reducible refine ok_le (fun _ => ?_) (fun _ => ?_) <;> try (exfalso; first | omega | (simp (disch := decide) only [Int32.reduceToInt, Int64.reduceToInt, i64of, up2_self, up2_ne, up2_nk] at *; omega))) | (with_reducible refine ok_iq (fun _ => ?_) (fun _ => ?_) <;> try (exfalso; first | omega | (simp (disch := decide) only [Int32.reduceToInt, Int64.reduceToInt, i64of, up2_self, up2_ne, up2_nk] at *; omega))) | (with_reducible refine ok_s ?_; try dsimp only) | with_reducible refine ok_b ?_ | refine x_sc ⟨rfl, rfl⟩ ?_ | fail
    all_goals try simp (disch := decide) only [Int32.reduceToInt, Int64.reduceToInt, i64of, up2_self, up2_ne, up2_nk] at *
    all_goals first | (exfalso; omega) | (refine ⟨trivial, ?_, j3⟩)
    exact Fr.up (Fr.up (Fr.up (j2.mono (by decide)) (by decide)) (by decide)) (by decide)
  · unfold f_D_sheet f_D_sheet_b0 f_D_sheet_b38 f_D_sheet_b39 f_M_sheet f_M_sheet_b0
    repeat' first | with_reducible refine ok_e (e_D_isWithin _ _ _) ?_ | with_reducible refine ok_e (e_M_in _ _ _) ?_ | (with_reducible refine ok_ib (fun _ => ?_) (fun _ => ?_) <;> try (exfalso; first | omega | (simp (disch := decide) only [Int32.reduceToInt, Int64.reduceToInt, i64of, up2_self, up2_ne, up2_nk] at *; omega))) | (with_reducible refine ok_lt (fun _ => ?_) (fun _ => ?_) <;> try (exfalso; first | omega | (simp (disch := decide) only [Int32.reduceToInt, Int64.reduceToInt, i64of, up2_self, up2_ne, up2_nk] at *; omega))) | (with_reducible refine ok_le (fun _ => ?_) (fun _ => ?_) <;> try (exfalso; first | omega | (simp (disch := decide) only [Int32.reduceToInt, Int64.reduceToInt, i64of, up2_self, up2_ne, up2_nk] at *; omega))) | (with_reducible refine ok_iq (fun _ => ?_) (fun _ => ?_) <;> try (exfalso; first | omega | (simp (disch := decide) only [Int32.reduceToInt, Int64.reduceToInt, i64of, up2_self, up2_ne, up2_nk] at *; omega))) | (with_reducible refine ok_s ?_; try dsimp only) | with_reducible refine ok_b ?_ | refine x_sc ⟨rfl, rfl⟩ ?_ | fail
    all_goals try simp (disch := decide) only [Int32.reduceToInt, Int64.reduceToInt, i64of, up2_self, up2_ne, up2_nk] at *
    all_goals first | (exfalso; omega) | exact ⟨trivial, Fr.refl _ _, h⟩
theorem c_grid {x : Int32} {I : xm_I} (h : IvW I) : ok (f_D_grid x I) (fun p => xl_sc I p.2 ∧ ok (f_M_grid x p.2) (fun q => p.1 = q.1 ∧ Fr [15007, 50022] I q.2 ∧ IvW q.2)) := by
  have h' := h
  obtain ⟨⟨e15, e16, e17, e18, e19, e20, e21, e22, e23⟩, hb, hg, hs⟩ := h'
  have hb' := hb
  obtain ⟨b1, b2, b3, b4, b5⟩ := hb'
  unfold f_D_grid f_D_grid_b0 f_M_grid f_M_grid_b0
  repeat' first | with_reducible refine ok_e (e_D_isWithin _ _ _) ?_ | with_reducible refine ok_e (e_M_in _ _ _) ?_ | (with_reducible refine ok_ib (fun _ => ?_) (fun _ => ?_) <;> try (exfalso; first | omega | (simp (disch := decide) only [Int32.reduceToInt, Int64.reduceToInt, i64of, up2_self, up2_ne, up2_nk] at *; omega))) | (with_reducible refine ok_lt (fun _ => ?_) (fun _ => ?_) <;> try (exfalso; first | omega | (simp (disch := decide) only [Int32.reduceToInt, Int64.reduceToInt, i64of, up2_self, up2_ne, up2_nk] at *; omega))) | (with_reducible refine ok_le (fun _ => ?_) (fun _ => ?_) <;> try (exfalso; first | omega | (simp (disch := decide) only [Int32.reduceToInt, Int64.reduceToInt, i64of, up2_self, up2_ne, up2_nk] at *; omega))) | (with_reducible refine ok_iq (fun _ => ?_) (fun _ => ?_) <;> try (exfalso; first | omega | (simp (disch := decide) only [Int32.reduceToInt, Int64.reduceToInt, i64of, up2_self, up2_ne, up2_nk] at *; omega))) | (with_reducible refine ok_s ?_; try dsimp only) | with_reducible refine ok_b ?_ | refine x_sc ⟨rfl, rfl⟩ ?_ | fail
  all_goals try simp (disch := decide) only [Int32.reduceToInt, Int64.reduceToInt, i64of, up2_self, up2_ne, up2_nk] at *
  all_goals first | (exfalso; omega) | exact ⟨trivial, Fr.refl _ _, h⟩ | skip
  refine ⟨e22.symm, ?_, ?_⟩
  · (repeat first | exact Fr.refl _ _ | refine Fr.upA ?_ (by decide) (by decide) | refine Fr.up ?_ (by decide))
  · exact ⟨⟨e15, e16, e17, e18, e19, e20, e21, rfl, e23⟩, hb, ⟨by assumption, hg.2⟩, hs⟩
theorem c_hatch {x : Int32} {I : xm_I} (h : IvW I) : ok (f_D_hatch x I) (fun p => xl_sc I p.2 ∧ ok (f_M_hatch x p.2) (fun q => p.1 = q.1 ∧ Fr [15008, 50023] I q.2 ∧ IvW q.2)) := by
  have h' := h
  obtain ⟨⟨e15, e16, e17, e18, e19, e20, e21, e22, e23⟩, hb, hg, hs⟩ := h'
  have hb' := hb
  obtain ⟨b1, b2, b3, b4, b5⟩ := hb'
  unfold f_D_hatch f_D_hatch_b0 f_M_hatch f_M_hatch_b0
  repeat' first | with_reducible refine ok_e (e_D_isWithin _ _ _) ?_ | with_reducible refine ok_e (e_M_in _ _ _) ?_ | (with_reducible refine ok_ib (fun _ => ?_) (fun _ => ?_) <;> try (exfalso; first | omega | (simp (disch := decide) only [Int32.reduceToInt, Int64.reduceToInt, i64of, up2_self, up2_ne, up2_nk] at *; omega))) | (with_reducible refine ok_lt (fun _ => ?_) (fun _ => ?_) <;> try (exfalso; first | omega | (simp (disch := decide) only [Int32.reduceToInt, Int64.reduceToInt, i64of, up2_self, up2_ne, up2_nk] at *; omega))) | (with_reducible refine ok_le (fun _ => ?_) (fun _ => ?_) <;> try (exfalso; first | omega | (simp (disch := decide) only [Int32.reduceToInt, Int64.reduceToInt, i64of, up2_self, up2_ne, up2_nk] at *; omega))) | (with_reducible refine ok_iq (fun _ => ?_) (fun _ => ?_) <;> try (exfalso; first | omega | (simp (disch := decide) only [Int32.reduceToInt, Int64.reduceToInt, i64of, up2_self, up2_ne, up2_nk] at *; omega))) | (with_reducible refine ok_s ?_; try dsimp only) | with_reducible refine ok_b ?_ | refine x_sc ⟨rfl, rfl⟩ ?_ | fail
  all_goals try simp (disch := decide) only [Int32.reduceToInt, Int64.reduceToInt, i64of, up2_self, up2_ne, up2_nk] at *
  all_goals first | (exfalso; omega) | exact ⟨trivial, Fr.refl _ _, h⟩ | skip
  refine ⟨e23.symm, ?_, ?_⟩
  · (repeat first | exact Fr.refl _ _ | refine Fr.upA ?_ (by decide) (by decide) | refine Fr.up ?_ (by decide))
  · exact ⟨⟨e15, e16, e17, e18, e19, e20, e21, e22, rfl⟩, hb, ⟨hg.1, by assumption⟩, hs⟩
theorem c_side {x : Int32} {I : xm_I} (h : IvW I) : ok (f_D_side x I) (fun p => ok (f_M_side x I) (fun q => p = q)) := by
  have h' := h
  obtain ⟨⟨e15, e16, e17, e18, e19, e20, e21, e22, e23⟩, hb, hg, hs⟩ := h'
  have hb' := hb
  obtain ⟨b1, b2, b3, b4, b5⟩ := hb'
  unfold f_D_side f_D_side_b0 f_M_side f_M_side_b0
  rw [e15, e16, e17, e18]
  repeat' first | (with_reducible refine ok_ib (fun _ => ?_) (fun _ => ?_) <;> try (exfalso; first | omega | (simp (disch := decide) only [Int32.reduceToInt, Int64.reduceToInt, i64of, up2_self, up2_ne, up2_nk] at *; omega))) | (with_reducible refine ok_lt (fun _ => ?_) (fun _ => ?_) <;> try (exfalso; first | omega | (simp (disch := decide) only [Int32.reduceToInt, Int64.reduceToInt, i64of, up2_self, up2_ne, up2_nk] at *; omega))) | (with_reducible refine ok_le (fun _ => ?_) (fun _ => ?_) <;> try (exfalso; first | omega | (simp (disch := decide) only [Int32.reduceToInt, Int64.reduceToInt, i64of, up2_self, up2_ne, up2_nk] at *; omega))) | (with_reducible refine ok_iq (fun _ => ?_) (fun _ => ?_) <;> try (exfalso; first | omega | (simp (disch := decide) only [Int32.reduceToInt, Int64.reduceToInt, i64of, up2_self, up2_ne, up2_nk] at *; omega))) | (with_reducible refine ok_s ?_; try dsimp only) | with_reducible refine ok_b ?_ | refine x_sc ⟨rfl, rfl⟩ ?_ | fail
  all_goals first | rfl | (exfalso; omega)
theorem c_scale {x : Int32} {I : xm_I} {L : xm_L} (h : IvW I) : ok (f_D_scale x I) (fun p => xl_sc I p.2 ∧ ok (f_M_scale x p.2 L) (fun q => p.1 = q.1 ∧ q.2.1 0 9 = q.2.1 49 38 ∧ Fr [1009, 50038] I q.2.1 ∧ Fr [50039, 50040] L q.2.2)) := by
  have h' := h
  obtain ⟨⟨e15, e16, e17, e18, e19, e20, e21, e22, e23⟩, hb, hg, hs⟩ := h'
  have hb' := hb
  obtain ⟨b1, b2, b3, b4, b5⟩ := hb'
  have hp := hs.pos hb
  have hw : ∀ c : Int32, IvW (up2 I 0 9 c) := fun c => h
  unfold f_D_scale f_D_scale_b0 f_D_endWith f_D_endWith_b0 f_M_scale f_M_scale_b0 f_M_scale_b14
  by_cases hd : 0 < (I 14 10).toInt
  · refine ok_e (e_Fr_hasScale I) (ok_f (by rw [bi0]; exact fun k => k hd) ?_)
    have eM : f_M_hasScale (up2 I 0 9 0) L = some (1, LSc (up2 I 0 9 0) L) := by rw [e_M_hasScale (hw 0) L]; exact if_pos hd
    have hLf : Fr [50039, 50040] L (LSc (up2 I 0 9 0) L) := Fr.up (Fr.up (Fr.refl _ _) (by decide)) (by decide)
    have v1 : (LSc (up2 I 0 9 0) L) 49 40 = (I 14 10).toInt64 := rfl
    have v2 : (LSc (up2 I 0 9 0) L) 49 39 = (I 14 9).toInt64 := rfl
    have t : ∀ y : Int32, y.toInt64.toInt32 = y := fun y => by
      have := i32r y
      rw [eq32, i32of (by rw [i64of]; omega), i64of]
    have zc : ((0 : Int32) ≤ 0) := by decide
    by_cases hx : x = 0
    · refine ok_t hx (ok_s ⟨⟨rfl, rfl⟩, ok_e eM (ok_f (by show ¬ (1 : Int32) = 0; decide) (ok_t zc (ok_t hx (ok_s ⟨?_, rfl, ?_, hLf⟩))))⟩)
      · show I 14 10 = (LSc (up2 I 0 9 0) L 49 40).toInt32
        rw [v1, t]
      · exact Fr.up (Fr.up (Fr.refl _ _) (by decide)) (by decide)
    · refine ok_f hx (ok_s ⟨⟨rfl, rfl⟩, ok_e eM (ok_f (by show ¬ (1 : Int32) = 0; decide) (ok_t zc (ok_f hx (ok_s ⟨?_, rfl, ?_, hLf⟩))))⟩)
      · show I 14 9 = (LSc (up2 I 0 9 0) L 49 39).toInt32
        rw [v2, t]
      · exact Fr.up (Fr.up (Fr.refl _ _) (by decide)) (by decide)
  · refine ok_e (e_Fr_hasScale I) (ok_t (by rw [bi0]; exact hd) ?_)
    have eM : f_M_hasScale (up2 I 0 9 6) L = some (0, L) := by rw [e_M_hasScale (hw 6) L]; exact if_neg hd
    refine ok_b (ok_s (ok_s ⟨⟨rfl, rfl⟩, ok_e eM (ok_t rfl (ok_f (by show ¬ (6 : Int32) ≤ 0; decide) (ok_s ⟨rfl, rfl, ?_, Fr.refl _ _⟩)))⟩))
    exact Fr.up (Fr.up (Fr.refl _ _) (by decide)) (by decide)
