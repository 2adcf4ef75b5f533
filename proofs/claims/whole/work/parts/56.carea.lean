/-! ===== areas ===== -/
theorem i32p {x : Int32} (h0 : -2147483648 ≤ x.toInt + 1) (h : x.toInt + 1 ≤ 2147483647) : (x + 1).toInt = x.toInt + 1 := by rw [i32a (by have := z1; omega), z1]
theorem cp_ne (I : xm_I) (a b sp dp k q j : Nat) (h : q ≠ b) : xm_cp I a b sp dp k q j = I q j := if_neg fun x => h x.1
theorem ar_loop {J : xm_I} {m : Nat} (hm : (m : Int) = (J 49 11).toInt) (h40 : m < 40) (hn : 0 ≤ (J 49 13).toInt ∧ (J 49 13).toInt ≤ 12) : ok (lp f_M_area_s36 (0, J)) (fun q => q.1 = J 49 11 + 1 - 1 ∧ Fr [55, 56, 57, 50013, 50011] J q.2 ∧ q.2 49 13 = 0 ∧ q.2 49 11 = J 49 11 + 1 ∧ q.2 56 = upd (J 56) m (J 49 13) ∧ q.2 57 = upd (J 57) m 0 ∧ (∀ j : Nat, (j : Int) < (J 49 13).toInt → q.2 55 (12 * m + j) = J 59 j) ∧ (∀ j : Nat, j < 12 * m → q.2 55 j = J 55 j)) := by
  have mt : Int32.toNatClampNeg (J 49 11) = m := by
    have := tn32 (x := J 49 11) (by omega)
    omega
  refine lp_inv (fun s => (0 ≤ s.1.toInt ∧ s.1.toInt ≤ (J 49 13).toInt) ∧ Fr [55] J s.2 ∧ (∀ j : Nat, (j : Int) < s.1.toInt → s.2 55 (12 * m + j) = J 59 j) ∧ (∀ j : Nat, j < 12 * m → s.2 55 j = J 55 j)) (fun s => (13 - s.1.toInt).toNat) _ ?_ (0, J) ⟨⟨by have := z0; simp only []; omega, by have := z0; simp only []; omega⟩, Fr.refl _ _, fun j hj => by have := z0; simp only [] at hj; omega, fun _ _ => rfl⟩
  intro s ⟨s1, s2, s3, s4⟩
  have c11 := s2 49 11 (by decide)
  have c13 := s2 49 13 (by decide)
  have r59 := s2.row 59 rfl (by decide)
  have r56 := s2.row 56 rfl (by decide)
  have r57 := s2.row 57 rfl (by decide)
  unfold f_M_area_s36
  refine ok_le (fun hc => ?_) (fun hc => ?_)
  · refine ok_g (by rw [c11]; omega) (ok_g ?_ (ok_s ?_))
    · simp (disch := decide) only [up2_ne]
      rw [c11]
      omega
    · simp (disch := decide) only [up2_row, up2_upd, up2_self, up2_ne, up2_nk, Sum.elim_inr]
      rw [c11, c13, mt, r56, r57]
      refine ⟨rfl, ?_, trivial, rfl, rfl, rfl, ?_, s4⟩
      · refine Fr.up (Fr.up (Fr.upA (Fr.upA (s2.mono (by decide)) (by decide) (by decide)) (by decide) (by decide)) (by decide)) (by decide)
      · intro j hj
        exact s3 j (by rw [c13] at hc; omega)
  · rw [c13] at hc
    have k12 := z12
    have a0 : (12 * s.2 49 11).toInt = 12 * (J 49 11).toInt := by rw [c11, i32m (by rw [k12]; omega), k12]
    have a1 : (12 * s.2 49 11 + s.1).toInt = 12 * (J 49 11).toInt + s.1.toInt := by rw [i32a (by omega), a0]
    have a2 : Int32.toNatClampNeg (12 * s.2 49 11 + s.1) = 12 * m + Int32.toNatClampNeg s.1 := by
      have h1 := tn32 (x := 12 * s.2 49 11 + s.1) (by omega)
      have h2 := tn32 (x := s.1) (by omega)
      omega
    have a3 : (s.1 + 1).toInt = s.1.toInt + 1 := i32p (by omega) (by omega)
    refine ok_g (by omega) (ok_g (by omega) (ok_s ?_))
    rw [a2]
    simp only [Sum.elim_inl]
    refine ⟨⟨by omega, Fr.upA s2 (by decide) (by decide), fun j hj => ?_, fun j hj => ?_⟩, by omega⟩
    · have h2 := tn32 (x := s.1) (by omega)
      by_cases hj' : j = Int32.toNatClampNeg s.1
      · rw [hj', up2_self, r59]
      · rw [up2_nk _ _ _ _ _ (by omega)]
        exact s3 j (by omega)
    · rw [up2_nk _ _ _ _ _ (by omega)]
      exact s4 j hj
theorem c_area {I : xm_I} (h : IvP I) (g : IvF I) : ok (f_D_area I) (fun p => xl_sc I p.2 ∧ ok (f_M_area p.2) (fun q => p.1 = q.1 ∧ Fr [7, 10, 11, 7008, 7009, 54, 55, 56, 57, 50011, 50013] I q.2 ∧ (I 6 9).toInt ≤ (q.2 6 9).toInt ∧ IvF q.2)) := by
  have h' := h
  obtain ⟨h1, h2, ⟨e1, e2, e3, e4, e5, e6⟩, h3, h4⟩ := h'
  have g' := g
  obtain ⟨g1, g2, ⟨d1, d2, d3, d4, d5, d6, d7⟩, g4, g5, g6, g7, g8⟩ := g'
  have k0 := z0
  have k12 := z12
  have k3 := z3
  have mi := tn32 g1.1
  unfold f_D_area f_D_area_b0 f_M_area f_M_area_b0 f_M_area_b36
  refine ok_le (fun hc => ?_) (fun hc => ?_)
  · refine ok_e (e_Fg_isFull _) (ok_ib (fun hf => ?_) (fun hf => ?_))
    · unfold f_Fg_addArea f_Fg_addArea_b0
      refine ok_b (ok_e (e_Fg_isFull _) (ok_ib (fun _ => ?_) (fun hf' => absurd hf' hf)))
      have a0 : (I 6 9 * 12).toInt = 12 * (I 6 9).toInt := by rw [i32m (by rw [k12]; omega), k12]; omega
      have a1 : Int32.toNatClampNeg (I 6 9 * 12) = 12 * Int32.toNatClampNeg (I 6 9) := by
        have := tn32 (x := I 6 9 * 12) (by omega)
        omega
      have t12 : Int32.toNatClampNeg 12 = 12 := by decide
      have t0 : Int32.toNatClampNeg 0 = 0 := by decide
      refine ok_g (by omega) (ok_g ?_ (ok_g ?_ (ok_s (ok_s ⟨⟨rfl, rfl⟩, ?_⟩))))
      · simp (disch := decide) only [up2_ne]
        omega
      · simp (disch := decide) only [up2_ne]
        rw [a1, t12, t0, lt32, lt32, lt32, a0]
        refine ⟨by decide, by omega, by decide, by omega, by omega⟩
      · simp (disch := decide) only [up2_self, up2_ne, up2_nk, cp_ne]
        rw [a1, t12, t0]
        generalize hm : Int32.toNatClampNeg (I 6 9) = m at *
        generalize hJ : up2 (up2 (xm_cp (up2 (up2 I 7 m 7) 10 m (I 6 8)) 13 11 0 (12 * m) 12) 6 8 0) 6 9 (I 6 9 + 1) = J
        have q11 : J 49 11 = I 49 11 := by rw [← hJ]; rfl
        have q13 : J 49 13 = I 49 13 := by rw [← hJ]; rfl
        have q59 : J 59 = I 59 := by rw [← hJ]; rfl
        have q54 : J 54 = I 54 := by rw [← hJ]; rfl
        have q55 : J 55 = I 55 := by rw [← hJ]; rfl
        have q56 : J 56 = I 56 := by rw [← hJ]; rfl
        have q57 : J 57 = I 57 := by rw [← hJ]; rfl
        have q58 : J 58 = I 58 := by rw [← hJ]; rfl
        have q9 : J 9 = I 9 := by rw [← hJ]; rfl
        have q8 : J 8 = I 8 := by rw [← hJ]; rfl
        have q12 : J 12 = I 12 := by rw [← hJ]; rfl
        have q13' : J 13 = I 13 := by rw [← hJ]; rfl
        have q60 : J 60 = I 60 := by rw [← hJ]; rfl
        have q1 : J 1 4 = I 1 4 := by rw [← hJ]; rfl
        have q68 : J 6 8 = 0 := by rw [← hJ]; rfl
        have q69 : J 6 9 = I 6 9 + 1 := by rw [← hJ]; rfl
        have q7 : J 7 = upd (I 7) m 7 := by
          rw [← hJ]
          funext j
          show (if (7 : Nat) = 7 ∧ j = m then (7 : Int32) else I 7 j) = upd (I 7) m 7 j
          simp [upd]
        have q10 : J 10 = upd (I 10) m (I 6 8) := by
          rw [← hJ]
          funext j
          show (if (10 : Nat) = 10 ∧ j = m then (I 6 8 : Int32) else I 10 j) = upd (I 10) m (I 6 8) j
          simp [upd]
        have q11r : ∀ j, J 11 j = if 12 * m ≤ j ∧ j < 12 * m + 12 then I 13 (0 + (j - 12 * m)) else I 11 j := by
          intro j
          rw [← hJ]
          show (if (11 : Nat) = 11 ∧ 12 * m ≤ j ∧ j < 12 * m + 12 then I 13 (0 + (j - 12 * m)) else I 11 j) = _
          simp
        have fJ : Fr [7, 10, 11, 7008, 7009] I J := by
          rw [← hJ]
          refine Fr.up (Fr.up ?_ (by decide)) (by decide)
          intro a j hw
          by_cases h11 : a = 11
          · exfalso
            apply hw
            rw [h11, cd_row rfl]
            decide
          · show (if a = 11 ∧ 12 * m ≤ j ∧ j < 12 * m + 12 then _ else up2 (up2 I 7 m 7) 10 m (I 6 8) a j) = I a j
            rw [if_neg (fun k => h11 k.1)]
            exact (Fr.upA (Fr.upA (Fr.refl [7, 10] I) (by decide) (by decide)) (by decide) (by decide)) a j (fun k => hw (by
              revert k
              exact fun k => by
                simp only [List.mem_cons, List.not_mem_nil, or_false] at k ⊢
                omega))
        refine ok_t (by rw [d2, le32]; omega) (ok_iq (fun k => ?_) (fun _ => ?_))
        · exfalso
          rw [d1] at k
          simp only [Int32.reduceToInt] at k
          omega
        · have mt : Int32.toNatClampNeg (I 49 11) = m := by rw [d1]; exact hm
          refine ok_g (by rw [d1]; omega) ?_
          rw [mt]
          refine ok_mono (ar_loop (J := up2 J 54 m 7) (m := m) ?_ (by omega) ?_) ?_
          · simp (disch := decide) only [up2_ne]
            rw [q11, d1]
            exact mi
          · simp (disch := decide) only [up2_ne]
            rw [q13, d2]
            exact g2
          · intro q hq
            simp (disch := decide) only [up2_ne, up2_row, q11, q13, q55, q56, q57, q59] at hq
            obtain ⟨p1, p2, p3, p4, p5, p6, p7, p8⟩ := hq
            have f1 : Fr [7, 10, 11, 7008, 7009, 54, 55, 56, 57, 50011, 50013] I q.2 := by
              refine Fr.trans (g := up2 J 54 m 7) (Fr.upA (fJ.mono (by decide)) (by decide) (by decide)) (p2.mono (by decide))
            have w : ∀ a, [0, 1, 6, 14, 15, 17, 21, 25, 30, 38, 39, 49].contains a = false → a ∉ [55, 56, 57, 50013, 50011] → a ≠ 54 → q.2 a = J a := fun a ha hw h54 => by rw [p2.row a ha hw, up2_row _ _ _ _ _ h54]
            have v : ∀ a k, cd a k ∉ [55, 56, 57, 50013, 50011] → a ≠ 54 → q.2 a k = J a k := fun a k hw h54 => by rw [p2 a k hw, up2_ne _ _ _ _ _ _ h54]
            refine ⟨?_, f1, ?_, ?_⟩
            · rw [p1, d1]
            · rw [v 6 9 (by decide) (by decide), q69, i32p (by omega) (by omega)]
              omega
            · refine g.grow (m := m) (kd := 7) (cn := I 6 8) hm.symm (by omega) ?_ ?_ ?_ ?_ ?_ ?_ ?_ ?_ ?_ ?_ ?_ ?_ ?_ ?_ ?_ ?_ ?_ ?_ ?_ ?_
              · rw [v 1 4 (by decide) (by decide), q1]
              · rw [v 6 9 (by decide) (by decide), q69]
              · exact p4
              · rw [p3, v 6 8 (by decide) (by decide), q68]
                exact ⟨rfl, by omega, by omega⟩
              · rw [w 13 rfl (by decide) (by decide), q13']
              · rw [w 59 rfl (by decide) (by decide), q59]
              · rw [w 12 rfl (by decide) (by decide), q12]
              · rw [w 60 rfl (by decide) (by decide), q60]
              · rw [w 8 rfl (by decide) (by decide), q8]
              · exact p6
              · rw [w 7 rfl (by decide) (by decide), q7]
              · rw [p2.row 54 rfl (by decide), up2_upd, q54]
              · rw [w 10 rfl (by decide) (by decide), q10]
              · rw [p5, d2]
              · intro h6
                exact absurd h6 (by decide)
              · intro o _
                rw [w 58 rfl (by decide) (by decide), w 9 rfl (by decide) (by decide), q58, q9]
                exact ⟨rfl, rfl⟩
              · intro j hj
                rw [w 11 rfl (by decide) (by decide), q11r, if_neg (by omega), p8 j hj]
                exact ⟨rfl, rfl⟩
              · have := z7
                omega
              · have := z7
                omega
              · intro k hk
                rw [w 11 rfl (by decide) (by decide), q11r, if_pos (by omega), p7 k (by rw [d2]; exact hk), d7]
                have ek : 0 + (12 * m + k - 12 * m) = k := by omega
                rw [ek]
                exact ⟨rfl, g7 k hk⟩
    · refine ok_s ⟨⟨rfl, rfl⟩, ok_t (by show 3 ≤ I 49 13; rw [d2, le32]; omega) (ok_t ?_ (ok_s ⟨rfl, Fr.refl _ _, Int.le_refl _, g⟩))⟩
      show I 49 11 = 40
      rw [d1, eq32]
      simp only [Int32.reduceToInt]
      omega
  · exact ok_s ⟨⟨rfl, rfl⟩, ok_f (by show ¬ 3 ≤ I 49 13; rw [d2, le32]; omega) (ok_s ⟨rfl, Fr.refl _ _, Int.le_refl _, g⟩)⟩
