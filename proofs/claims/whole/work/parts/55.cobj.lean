/-! ===== a new object ===== -/
theorem z0 : (0 : Int32).toInt = 0 := by decide
theorem z1 : (1 : Int32).toInt = 1 := by decide
theorem z2 : (2 : Int32).toInt = 2 := by decide
theorem z3 : (3 : Int32).toInt = 3 := by decide
theorem z4 : (4 : Int32).toInt = 4 := by decide
theorem z5 : (5 : Int32).toInt = 5 := by decide
theorem z6 : (6 : Int32).toInt = 6 := by decide
theorem z7 : (7 : Int32).toInt = 7 := by decide
theorem z8 : (8 : Int32).toInt = 8 := by decide
theorem z9 : (9 : Int32).toInt = 9 := by decide
theorem z10 : (10 : Int32).toInt = 10 := by decide
theorem z12 : (12 : Int32).toInt = 12 := by decide

theorem IvF.grow {I J : xm_I} {m : Nat} {kd cn : Int32} (g : IvF I) (hm : m = Int32.toNatClampNeg (I 6 9)) (h40 : (I 6 9).toInt < 40) (e1 : J 1 4 = I 1 4) (e69 : J 6 9 = I 6 9 + 1) (eM : J 49 11 = I 49 11 + 1) (e68 : J 49 13 = J 6 8 ∧ 0 ≤ (J 6 8).toInt ∧ (J 6 8).toInt ≤ (I 6 8).toInt) (r13 : J 13 = I 13) (r59 : J 59 = I 59) (r12 : J 12 = I 12) (r60 : J 60 = I 60) (r8 : J 8 = I 8) (r57 : J 57 = upd (I 57) m 0) (r7 : J 7 = upd (I 7) m kd) (r54 : J 54 = upd (I 54) m kd) (r10 : J 10 = upd (I 10) m cn) (r56 : J 56 = upd (I 56) m cn) (hs : kd.toInt = 6 → J 58 m = J 9 m) (hs' : ∀ o, o < m → J 58 o = I 58 o ∧ J 9 o = I 9 o) (hold : ∀ j, j < 12 * m → J 11 j = I 11 j ∧ J 55 j = I 55 j) (hk : 0 ≤ kd.toInt ∧ kd.toInt ≤ 7) (hc : (kd.toInt = 0 ∧ cn.toInt = 1) ∨ (kd.toInt = 5 ∧ cn.toInt = 3) ∨ (kd.toInt = 7 ∧ 3 ≤ cn.toInt ∧ cn.toInt ≤ 12) ∨ (kd.toInt ≠ 0 ∧ kd.toInt ≠ 5 ∧ kd.toInt ≠ 7 ∧ cn.toInt = 2)) (hnew : ∀ k : Nat, (k : Int) < cn.toInt → J 55 (12 * m + k) = J 11 (12 * m + k) ∧ vp I (J 11 (12 * m + k))) : IvF J := by
  obtain ⟨g1, g2, ⟨d1, d2, d3, d4, d5, d6, d7⟩, g4, g5, g6, g7, g8⟩ := g
  have k1 : (1 : Int32).toInt = 1 := by decide
  have es : (I 6 9 + 1).toInt = (I 6 9).toInt + 1 := by rw [i32a (by omega), k1]
  have mi : (m : Int) = (I 6 9).toInt := by rw [hm]; exact tn32 (by omega)
  unfold IvF IvO vp
  rw [e1, e69, eM, e68.1, r13, r59, r12, r60, r8, r57, r7, r54, r10, r56]
  refine ⟨by omega, by omega, ⟨by rw [d1], rfl, by rw [d3], ?_, by rw [d5], d6, d7⟩, g4, g5, fun k hk => g6 k (by omega), fun k hk => g7 k (by omega), fun o ho => ?_⟩
  · rw [d4]
    exact upd_id (g6 m (by omega))
  · by_cases ho' : o = m
    · subst ho'
      have eu : ∀ (f : Nat → Int32) (v : Int32), upd f o v o = v := fun f v => by unfold upd; rw [if_pos rfl]
      rw [eu, eu]
      exact ⟨hk, hc, hs, fun k hk' => ⟨(hnew k hk').1, (hnew k hk').2⟩⟩
    · have eu : ∀ (f : Nat → Int32) (v : Int32), upd f m v o = f o := fun f v => by unfold upd; rw [if_neg ho']
      have hlt : o < m := by omega
      rw [eu, eu]
      obtain ⟨a1, a2, a3, a4⟩ := g8 o (by omega)
      refine ⟨a1, a2, fun h6 => ?_, fun k hk' => ?_⟩
      · rw [(hs' o hlt).1, (hs' o hlt).2]
        exact a3 h6
      · have hk12 : (k : Int) < 12 := by omega
        obtain ⟨b1, b2⟩ := hold (12 * o + k) (by omega)
        rw [b1, b2]
        exact a4 k hk'
theorem upd_at (f : Nat → Int32) (m : Nat) (v : Int32) : upd f m v m = v := by unfold upd; rw [if_pos rfl]
theorem upd_ne (f : Nat → Int32) (m : Nat) (v : Int32) (j : Nat) (h : j ≠ m) : upd f m v j = f j := by unfold upd; rw [if_neg h]
theorem c_object {x a b c : Int32} {I : xm_I} (h : IvP I) (g : IvF I) : ok (f_D_object x a b c I) (fun p => xl_sc I p.2 ∧ ok (f_M_object x a b c p.2) (fun q => p.1 = q.1 ∧ Fr [7, 9, 10, 11, 7009, 54, 55, 56, 57, 58, 50011] I q.2 ∧ (I 6 9).toInt ≤ (q.2 6 9).toInt ∧ IvF q.2)) := by
  have h' := h
  obtain ⟨h1, h2, ⟨e1, e2, e3, e4, e5, e6⟩, h3, h4⟩ := h'
  have e1' : (I 49 4).toInt = (I 1 4).toInt := by rw [e1]
  have g' := g
  obtain ⟨g1, g2, ⟨d1, d2, d3, d4, d5, d6, d7⟩, g4, g5, g6, g7, g8⟩ := g'
  have d1' : (I 49 11).toInt = (I 6 9).toInt := by rw [d1]
  have d2' : (I 49 13).toInt = (I 6 8).toInt := by rw [d2]
  have hw : ∃ w : Int32, f_M_wanted x = some w ∧ ((x.toInt = 5 ∧ w.toInt = 3) ∨ (x.toInt ≠ 5 ∧ 1 ≤ x.toInt ∧ x.toInt ≤ 6 ∧ w.toInt = 2) ∨ (¬ (1 ≤ x.toInt ∧ x.toInt ≤ 6) ∧ w.toInt = 1)) := by
    unfold f_M_wanted f_M_wanted_b0
    rw [e_M_in]
    simp only [Option.bind_some, Int64.reduceToInt, i64of]
    have k1 : (1 : Int32).toInt = 1 := by decide
    have k2 : (2 : Int32).toInt = 2 := by decide
    by_cases h5 : x = 5
    · rw [if_pos h5]
      exact ⟨3, rfl, Or.inl ⟨by rw [h5]; decide, by decide⟩⟩
    · have h5' : x.toInt ≠ 5 := fun k => h5 (by rw [eq32, k]; rfl)
      rw [if_neg h5]
      by_cases h6 : 1 ≤ x.toInt ∧ x.toInt ≤ 6
      · rw [bi_t h6, if_neg (by decide)]
        exact ⟨2, rfl, by omega⟩
      · rw [bi_f h6, if_pos rfl]
        exact ⟨1, rfl, by omega⟩
  obtain ⟨w, hw, hw1⟩ := hw
  have k12 : (12 : Int32).toInt = 12 := by decide
  have k1 : (1 : Int32).toInt = 1 := by decide
  have k2 : (2 : Int32).toInt = 2 := by decide
  have k3 : (3 : Int32).toInt = 3 := by decide
  have k5 : (5 : Int32).toInt = 5 := by decide
  have k6 : (6 : Int32).toInt = 6 := by decide
  have k0 : (0 : Int32).toInt = 0 := by decide
  have n0 : 0 ≤ (I 6 9).toInt := g1.1
  have i0 : (I 6 9).toInt < 40 → (I 6 9 * 12).toInt = 12 * (I 6 9).toInt ∧ 12 * I 6 9 = I 6 9 * 12 ∧ (I 6 9 * 12 + 1).toInt = 12 * (I 6 9).toInt + 1 ∧ (I 6 9 * 12 + 2).toInt = 12 * (I 6 9).toInt + 2 ∧ Int32.toNatClampNeg (I 6 9 * 12) = 12 * Int32.toNatClampNeg (I 6 9) ∧ Int32.toNatClampNeg (I 6 9 * 12 + 1) = 12 * Int32.toNatClampNeg (I 6 9) + 1 ∧ Int32.toNatClampNeg (I 6 9 * 12 + 2) = 12 * Int32.toNatClampNeg (I 6 9) + 2 := by
    intro hlt
    have a0 : (I 6 9 * 12).toInt = 12 * (I 6 9).toInt := by rw [i32m (by rw [k12]; omega), k12]; omega
    have a1 : (I 6 9 * 12 + 1).toInt = 12 * (I 6 9).toInt + 1 := by rw [i32a (by omega), a0, k1]
    have a2 : (I 6 9 * 12 + 2).toInt = 12 * (I 6 9).toInt + 2 := by rw [i32a (by omega), a0, k2]
    have e := tn32 n0
    refine ⟨a0, Int32.mul_comm _ _, a1, a2, ?_, ?_, ?_⟩
    · have := tn32 (x := I 6 9 * 12) (by omega)
      omega
    · have := tn32 (x := I 6 9 * 12 + 1) (by omega)
      omega
    · have := tn32 (x := I 6 9 * 12 + 2) (by omega)
      omega
  have fin : ∀ (cn st : Int32), (I 6 9).toInt < 40 → 0 ≤ x.toInt → x.toInt ≤ 6 → (x.toInt = 6 → st = c) → ((x.toInt = 0 ∧ cn.toInt = 1) ∨ (x.toInt = 5 ∧ cn.toInt = 3) ∨ (x.toInt ≠ 0 ∧ x.toInt ≠ 5 ∧ cn.toInt = 2)) → vp I a → (1 < cn.toInt → vp I b) → (2 < cn.toInt → vp I c) → ∀ J : xm_I, J 1 4 = I 1 4 → J 6 9 = I 6 9 + 1 → J 49 11 = I 49 11 + 1 → J 49 13 = I 49 13 → J 6 8 = I 6 8 → J 13 = I 13 → J 59 = I 59 → J 12 = I 12 → J 60 = I 60 → J 8 = I 8 → J 57 = upd (I 57) (Int32.toNatClampNeg (I 49 11)) 0 → J 7 = upd (I 7) (Int32.toNatClampNeg (I 6 9)) x → J 54 = upd (I 54) (Int32.toNatClampNeg (I 49 11)) x → J 10 = upd (I 10) (Int32.toNatClampNeg (I 6 9)) cn → J 56 = upd (I 56) (Int32.toNatClampNeg (I 49 11)) cn → J 58 = upd (I 58) (Int32.toNatClampNeg (I 49 11)) c → J 9 = upd (I 9) (Int32.toNatClampNeg (I 6 9)) st → J 11 = upd (upd (upd (I 11) (Int32.toNatClampNeg (I 6 9 * 12)) a) (Int32.toNatClampNeg (I 6 9 * 12 + 1)) b) (Int32.toNatClampNeg (I 6 9 * 12 + 2)) c → J 55 = upd (upd (upd (I 55) (Int32.toNatClampNeg (12 * I 49 11)) a) (Int32.toNatClampNeg (12 * I 49 11 + 1)) b) (Int32.toNatClampNeg (12 * I 49 11 + 2)) c → IvF J ∧ (I 6 9).toInt ≤ (J 6 9).toInt := by
    intro cn st hlt hx0 hx6 hst hcn va vb vc' J j1 j2 j3 j4 j5 j6 j7 j8 j9 j10 j11 j12 j13 j14 j15 j16 j17 j18 j19
    obtain ⟨b0, b1, b2, b3, b4, b5, b6⟩ := i0 hlt
    rw [d1, b1, b4, b5, b6] at j19
    rw [b4, b5, b6] at j18
    rw [d1] at j11 j13 j15 j16
    constructor
    · refine g.grow (m := Int32.toNatClampNeg (I 6 9)) (kd := x) (cn := cn) rfl hlt j1 j2 j3 ⟨by rw [j4, j5, d2], by rw [j5]; exact g2.1, by rw [j5]; exact Int.le_refl _⟩ j6 j7 j8 j9 j10 j11 j12 j13 j14 j15 ?_ ?_ ?_ (by omega) (by omega) ?_
      · intro h6
        rw [j16, j17, upd_at, upd_at, hst h6]
      · intro o ho
        rw [j16, j17, upd_ne _ _ _ _ (by omega), upd_ne _ _ _ _ (by omega)]
        exact ⟨rfl, rfl⟩
      · intro j hj
        rw [j18, j19]
        simp (disch := omega) only [upd_ne]
        exact ⟨trivial, trivial⟩
      · intro k hk
        rw [j18, j19]
        have : k = 0 ∨ k = 1 ∨ k = 2 := by omega
        rcases this with rfl | rfl | rfl
        · simp (disch := omega) only [upd_ne, Nat.add_zero, upd_at]
          exact ⟨trivial, va⟩
        · simp (disch := omega) only [upd_ne, upd_at]
          exact ⟨trivial, vb (by omega)⟩
        · simp (disch := omega) only [upd_ne, upd_at]
          exact ⟨trivial, vc' (by omega)⟩
    · rw [j2, i32a (by omega), k1]
      omega
  unfold f_D_object f_D_object_b0 f_D_object_b46 f_D_object_b66 f_D_object_b90 f_Fg_add f_Fg_add_b0 f_Fg_add_b55 f_Fg_add_b76 f_M_object f_M_object_b0 f_M_object_b28 f_M_object_b46 f_M_object_b80
  repeat' first | with_reducible refine ok_g (by first | omega | (simp (disch := decide) only [up2_self, up2_ne, up2_nk] at *; omega) | (simp (disch := decide) only [Int32.reduceToInt, Int64.reduceToInt, i64of, up2_self, up2_ne, up2_nk, d1] at *; have := i0 (by omega); rw [this.2.1]; omega) | (simp (disch := decide) only [Int32.reduceToInt, Int64.reduceToInt, i64of, up2_self, up2_ne, up2_nk] at *; have := i0 (by omega); omega)) ?_ | with_reducible refine ok_e (e_Pt_has _ _) ?_ | with_reducible refine ok_e (e_M_isPoint _ _) ?_ | with_reducible refine ok_e (e_D_isWithin _ _ _) ?_ | with_reducible refine ok_e (e_M_in _ _ _) ?_ | with_reducible refine ok_e (e_Fg_isFull _) ?_ | with_reducible refine ok_e (hw) ?_ | (with_reducible refine ok_ib (fun _ => ?_) (fun _ => ?_) <;> try (exfalso; first | omega | (simp (disch := decide) only [Int32.reduceToInt, Int64.reduceToInt, i64of, up2_self, up2_ne, up2_nk] at *; omega))) | (with_reducible refine ok_lt (fun _ => ?_) (fun _ => ?_) <;> try (exfalso; first | omega | (simp (disch := decide) only [Int32.reduceToInt, Int64.reduceToInt, i64of, up2_self, up2_ne, up2_nk] at *; omega))) | (with_reducible refine ok_le (fun _ => ?_) (fun _ => ?_) <;> try (exfalso; first | omega | (simp (disch := decide) only [Int32.reduceToInt, Int64.reduceToInt, i64of, up2_self, up2_ne, up2_nk] at *; omega))) | (with_reducible refine ok_iq (fun _ => ?_) (fun _ => ?_) <;> try (exfalso; first | omega | (simp (disch := decide) only [Int32.reduceToInt, Int64.reduceToInt, i64of, up2_self, up2_ne, up2_nk] at *; omega))) | (with_reducible refine ok_s ?_; try dsimp only) | with_reducible refine ok_b ?_ | refine x_sc ⟨rfl, rfl⟩ ?_ | fail
  all_goals try simp (disch := decide) only [Int32.reduceToInt, Int64.reduceToInt, i64of, up2_self, up2_ne, up2_nk] at *
  all_goals first | (exfalso; omega) | exact ⟨trivial, Fr.refl _ _, Int.le_refl _, g⟩ | skip
  all_goals refine ⟨by rw [d1], by (repeat first | exact Fr.refl _ _ | refine Fr.upA ?_ (by decide) (by decide) | refine Fr.up ?_ (by decide)), ?_⟩
  all_goals first | (have q : x.toInt = 0 := (by omega); exact And.symm (fin 1 0 (by omega) (by omega) (by omega) (fun _ => by first | rfl | (exfalso; omega)) (by have := z1; have := z2; have := z3; omega) ⟨by omega, by omega⟩ (fun hh => by simp only [Int32.reduceToInt] at hh; first | (exfalso; omega) | exact ⟨by omega, by omega⟩) (fun hh => by simp only [Int32.reduceToInt] at hh; first | (exfalso; omega) | exact ⟨by omega, by omega⟩) _ (by simp (disch := decide) only [up2_row, up2_upd, up2_self, up2_ne, up2_nk]) (by simp (disch := decide) only [up2_row, up2_upd, up2_self, up2_ne, up2_nk]) (by simp (disch := decide) only [up2_row, up2_upd, up2_self, up2_ne, up2_nk]) (by simp (disch := decide) only [up2_row, up2_upd, up2_self, up2_ne, up2_nk]) (by simp (disch := decide) only [up2_row, up2_upd, up2_self, up2_ne, up2_nk]) (by simp (disch := decide) only [up2_row, up2_upd, up2_self, up2_ne, up2_nk]) (by simp (disch := decide) only [up2_row, up2_upd, up2_self, up2_ne, up2_nk]) (by simp (disch := decide) only [up2_row, up2_upd, up2_self, up2_ne, up2_nk]) (by simp (disch := decide) only [up2_row, up2_upd, up2_self, up2_ne, up2_nk]) (by simp (disch := decide) only [up2_row, up2_upd, up2_self, up2_ne, up2_nk]) (by simp (disch := decide) only [up2_row, up2_upd, up2_self, up2_ne, up2_nk]) (by simp (disch := decide) only [up2_row, up2_upd, up2_self, up2_ne, up2_nk]) (by simp (disch := decide) only [up2_row, up2_upd, up2_self, up2_ne, up2_nk]) (by simp (disch := decide) only [up2_row, up2_upd, up2_self, up2_ne, up2_nk]) (by simp (disch := decide) only [up2_row, up2_upd, up2_self, up2_ne, up2_nk]; rw [show w = 1 from by rw [eq32]; simp only [Int32.reduceToInt]; omega]) (by simp (disch := decide) only [up2_row, up2_upd, up2_self, up2_ne, up2_nk]) (by simp (disch := decide) only [up2_row, up2_upd, up2_self, up2_ne, up2_nk]) (by simp (disch := decide) only [up2_row, up2_upd, up2_self, up2_ne, up2_nk]) (by simp (disch := decide) only [up2_row, up2_upd, up2_self, up2_ne, up2_nk]))) | (have q : x.toInt = 5 := (by omega); exact And.symm (fin 3 0 (by omega) (by omega) (by omega) (fun _ => by first | rfl | (exfalso; omega)) (by have := z1; have := z2; have := z3; omega) ⟨by omega, by omega⟩ (fun hh => by simp only [Int32.reduceToInt] at hh; first | (exfalso; omega) | exact ⟨by omega, by omega⟩) (fun hh => by simp only [Int32.reduceToInt] at hh; first | (exfalso; omega) | exact ⟨by omega, by omega⟩) _ (by simp (disch := decide) only [up2_row, up2_upd, up2_self, up2_ne, up2_nk]) (by simp (disch := decide) only [up2_row, up2_upd, up2_self, up2_ne, up2_nk]) (by simp (disch := decide) only [up2_row, up2_upd, up2_self, up2_ne, up2_nk]) (by simp (disch := decide) only [up2_row, up2_upd, up2_self, up2_ne, up2_nk]) (by simp (disch := decide) only [up2_row, up2_upd, up2_self, up2_ne, up2_nk]) (by simp (disch := decide) only [up2_row, up2_upd, up2_self, up2_ne, up2_nk]) (by simp (disch := decide) only [up2_row, up2_upd, up2_self, up2_ne, up2_nk]) (by simp (disch := decide) only [up2_row, up2_upd, up2_self, up2_ne, up2_nk]) (by simp (disch := decide) only [up2_row, up2_upd, up2_self, up2_ne, up2_nk]) (by simp (disch := decide) only [up2_row, up2_upd, up2_self, up2_ne, up2_nk]) (by simp (disch := decide) only [up2_row, up2_upd, up2_self, up2_ne, up2_nk]) (by simp (disch := decide) only [up2_row, up2_upd, up2_self, up2_ne, up2_nk]) (by simp (disch := decide) only [up2_row, up2_upd, up2_self, up2_ne, up2_nk]) (by simp (disch := decide) only [up2_row, up2_upd, up2_self, up2_ne, up2_nk]) (by simp (disch := decide) only [up2_row, up2_upd, up2_self, up2_ne, up2_nk]; rw [show w = 3 from by rw [eq32]; simp only [Int32.reduceToInt]; omega]) (by simp (disch := decide) only [up2_row, up2_upd, up2_self, up2_ne, up2_nk]) (by simp (disch := decide) only [up2_row, up2_upd, up2_self, up2_ne, up2_nk]) (by simp (disch := decide) only [up2_row, up2_upd, up2_self, up2_ne, up2_nk]) (by simp (disch := decide) only [up2_row, up2_upd, up2_self, up2_ne, up2_nk]))) | (have q : x.toInt = 6 := (by omega); exact And.symm (fin 2 c (by omega) (by omega) (by omega) (fun _ => by first | rfl | (exfalso; omega)) (by have := z1; have := z2; have := z3; omega) ⟨by omega, by omega⟩ (fun hh => by simp only [Int32.reduceToInt] at hh; first | (exfalso; omega) | exact ⟨by omega, by omega⟩) (fun hh => by simp only [Int32.reduceToInt] at hh; first | (exfalso; omega) | exact ⟨by omega, by omega⟩) _ (by simp (disch := decide) only [up2_row, up2_upd, up2_self, up2_ne, up2_nk]) (by simp (disch := decide) only [up2_row, up2_upd, up2_self, up2_ne, up2_nk]) (by simp (disch := decide) only [up2_row, up2_upd, up2_self, up2_ne, up2_nk]) (by simp (disch := decide) only [up2_row, up2_upd, up2_self, up2_ne, up2_nk]) (by simp (disch := decide) only [up2_row, up2_upd, up2_self, up2_ne, up2_nk]) (by simp (disch := decide) only [up2_row, up2_upd, up2_self, up2_ne, up2_nk]) (by simp (disch := decide) only [up2_row, up2_upd, up2_self, up2_ne, up2_nk]) (by simp (disch := decide) only [up2_row, up2_upd, up2_self, up2_ne, up2_nk]) (by simp (disch := decide) only [up2_row, up2_upd, up2_self, up2_ne, up2_nk]) (by simp (disch := decide) only [up2_row, up2_upd, up2_self, up2_ne, up2_nk]) (by simp (disch := decide) only [up2_row, up2_upd, up2_self, up2_ne, up2_nk]) (by simp (disch := decide) only [up2_row, up2_upd, up2_self, up2_ne, up2_nk]) (by simp (disch := decide) only [up2_row, up2_upd, up2_self, up2_ne, up2_nk]) (by simp (disch := decide) only [up2_row, up2_upd, up2_self, up2_ne, up2_nk]) (by simp (disch := decide) only [up2_row, up2_upd, up2_self, up2_ne, up2_nk]; rw [show w = 2 from by rw [eq32]; simp only [Int32.reduceToInt]; omega]) (by simp (disch := decide) only [up2_row, up2_upd, up2_self, up2_ne, up2_nk]) (by simp (disch := decide) only [up2_row, up2_upd, up2_self, up2_ne, up2_nk]) (by simp (disch := decide) only [up2_row, up2_upd, up2_self, up2_ne, up2_nk]) (by simp (disch := decide) only [up2_row, up2_upd, up2_self, up2_ne, up2_nk]))) | exact And.symm (fin 2 0 (by omega) (by omega) (by omega) (fun _ => by first | rfl | (exfalso; omega)) (by have := z1; have := z2; have := z3; omega) ⟨by omega, by omega⟩ (fun hh => by simp only [Int32.reduceToInt] at hh; first | (exfalso; omega) | exact ⟨by omega, by omega⟩) (fun hh => by simp only [Int32.reduceToInt] at hh; first | (exfalso; omega) | exact ⟨by omega, by omega⟩) _ (by simp (disch := decide) only [up2_row, up2_upd, up2_self, up2_ne, up2_nk]) (by simp (disch := decide) only [up2_row, up2_upd, up2_self, up2_ne, up2_nk]) (by simp (disch := decide) only [up2_row, up2_upd, up2_self, up2_ne, up2_nk]) (by simp (disch := decide) only [up2_row, up2_upd, up2_self, up2_ne, up2_nk]) (by simp (disch := decide) only [up2_row, up2_upd, up2_self, up2_ne, up2_nk]) (by simp (disch := decide) only [up2_row, up2_upd, up2_self, up2_ne, up2_nk]) (by simp (disch := decide) only [up2_row, up2_upd, up2_self, up2_ne, up2_nk]) (by simp (disch := decide) only [up2_row, up2_upd, up2_self, up2_ne, up2_nk]) (by simp (disch := decide) only [up2_row, up2_upd, up2_self, up2_ne, up2_nk]) (by simp (disch := decide) only [up2_row, up2_upd, up2_self, up2_ne, up2_nk]) (by simp (disch := decide) only [up2_row, up2_upd, up2_self, up2_ne, up2_nk]) (by simp (disch := decide) only [up2_row, up2_upd, up2_self, up2_ne, up2_nk]) (by simp (disch := decide) only [up2_row, up2_upd, up2_self, up2_ne, up2_nk]) (by simp (disch := decide) only [up2_row, up2_upd, up2_self, up2_ne, up2_nk]) (by simp (disch := decide) only [up2_row, up2_upd, up2_self, up2_ne, up2_nk]; rw [show w = 2 from by rw [eq32]; simp only [Int32.reduceToInt]; omega]) (by simp (disch := decide) only [up2_row, up2_upd, up2_self, up2_ne, up2_nk]) (by simp (disch := decide) only [up2_row, up2_upd, up2_self, up2_ne, up2_nk]) (by simp (disch := decide) only [up2_row, up2_upd, up2_self, up2_ne, up2_nk]) (by simp (disch := decide) only [up2_row, up2_upd, up2_self, up2_ne, up2_nk]))
