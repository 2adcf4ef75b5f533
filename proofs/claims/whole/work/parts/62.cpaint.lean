/-! ===== groups are made; groups are painted ===== -/
theorem gm_loop {x n : Int32} {J : xm_I} (hx : 0 ≤ x.toInt ∧ x.toInt < 6) (hn : 0 ≤ n.toInt ∧ n.toInt ≤ 64) : ok (lp (f_Gr_make_s42 x n) (0, J)) (fun J' => Fr [29] J J' ∧ (∀ i : Nat, (i : Int) < n.toInt → J' 29 (64 * Int32.toNatClampNeg x + i) = -1) ∧ (∀ j : Nat, (j < 64 * Int32.toNatClampNeg x ∨ 64 * Int32.toNatClampNeg x + 64 ≤ j) → J' 29 j = J 29 j)) := by
  have k0 := z0
  refine lp_inv (fun s => (0 ≤ s.1.toInt ∧ s.1.toInt ≤ n.toInt) ∧ Fr [29] J s.2 ∧ (∀ i : Nat, (i : Int) < s.1.toInt → s.2 29 (64 * Int32.toNatClampNeg x + i) = -1) ∧ (∀ j : Nat, (j < 64 * Int32.toNatClampNeg x ∨ 64 * Int32.toNatClampNeg x + 64 ≤ j) → s.2 29 j = J 29 j)) (fun s => (65 - s.1.toInt).toNat) _ ?_ (0, J) ⟨⟨by simp only []; omega, by simp only []; omega⟩, Fr.refl _ _, fun j hj => by simp only [] at hj; omega, fun _ _ => rfl⟩
  intro s ⟨s1, s2, s3, s4⟩
  unfold f_Gr_make_s42
  refine ok_le (fun hc => ok_s ?_) (fun hc => ?_)
  · exact ⟨s2, fun i hi => s3 i (by omega), s4⟩
  · obtain ⟨i1, i2, i3⟩ := ix64 (x := x) (y := s.1) hx ⟨s1.1, by omega⟩
    have a3 : (s.1 + 1).toInt = s.1.toInt + 1 := i32p (by omega) (by omega)
    have t := tn32 s1.1
    refine ok_g (by omega) (ok_s ?_)
    rw [i3]
    simp only [Sum.elim_inl]
    refine ⟨⟨?_, Fr.upA s2 (by decide) (by decide), fun i hi => ?_, fun j hj => ?_⟩, ?_⟩
    · show 0 ≤ (s.1 + 1).toInt ∧ (s.1 + 1).toInt ≤ n.toInt
      omega
    · by_cases he : i = Int32.toNatClampNeg s.1
      · rw [he, up2_self]
      · rw [up2_nk _ _ _ _ _ (by omega)]
        exact s3 i (by omega)
    · rw [up2_nk _ _ _ _ _ (by omega)]
      exact s4 j hj
    · show (65 - (s.1 + 1).toInt).toNat < (65 - s.1.toInt).toNat
      omega
theorem mg_loop {x n : Int32} {J : xm_I} (hx : 0 ≤ x.toInt ∧ x.toInt < 6) (hn : 0 ≤ n.toInt ∧ n.toInt ≤ 64) : ok (lp (f_M_group_s72 x n) (0, J)) (fun q => q.1 = n ∧ Fr [85] J q.2 ∧ (∀ i : Nat, (i : Int) < n.toInt → q.2 85 (64 * Int32.toNatClampNeg x + i) = -1) ∧ (∀ j : Nat, (j < 64 * Int32.toNatClampNeg x ∨ 64 * Int32.toNatClampNeg x + 64 ≤ j) → q.2 85 j = J 85 j)) := by
  have k0 := z0
  refine lp_inv (fun s => (0 ≤ s.1.toInt ∧ s.1.toInt ≤ n.toInt) ∧ Fr [85] J s.2 ∧ (∀ i : Nat, (i : Int) < s.1.toInt → s.2 85 (64 * Int32.toNatClampNeg x + i) = -1) ∧ (∀ j : Nat, (j < 64 * Int32.toNatClampNeg x ∨ 64 * Int32.toNatClampNeg x + 64 ≤ j) → s.2 85 j = J 85 j)) (fun s => (65 - s.1.toInt).toNat) _ ?_ (0, J) ⟨⟨by simp only []; omega, by simp only []; omega⟩, Fr.refl _ _, fun j hj => by simp only [] at hj; omega, fun _ _ => rfl⟩
  intro s ⟨s1, s2, s3, s4⟩
  unfold f_M_group_s72
  refine ok_le (fun hc => ok_s ?_) (fun hc => ?_)
  · exact ⟨rfl, s2, fun i hi => s3 i (by omega), s4⟩
  · obtain ⟨i1, i2, i3⟩ := ix64 (x := x) (y := s.1) hx ⟨s1.1, by omega⟩
    have a3 : (s.1 + 1).toInt = s.1.toInt + 1 := i32p (by omega) (by omega)
    have t := tn32 s1.1
    rw [i2]
    refine ok_g (by omega) (ok_s ?_)
    rw [i3]
    simp only [Sum.elim_inl]
    refine ⟨⟨?_, Fr.upA s2 (by decide) (by decide), fun i hi => ?_, fun j hj => ?_⟩, ?_⟩
    · show 0 ≤ (s.1 + 1).toInt ∧ (s.1 + 1).toInt ≤ n.toInt
      omega
    · by_cases he : i = Int32.toNatClampNeg s.1
      · rw [he, up2_self]
      · rw [up2_nk _ _ _ _ _ (by omega)]
        exact s3 i (by omega)
    · rw [up2_nk _ _ _ _ _ (by omega)]
      exact s4 j hj
    · show (65 - (s.1 + 1).toInt).toNat < (65 - s.1.toInt).toNat
      omega
theorem c_group {x y z : Int32} {I : xm_I} (h : IvG I) (hC : IvC I) : ok (f_D_group x y z I) (fun p => xl_sc I p.2 ∧ ok (f_M_group x y z p.2) (fun q => p.1 = q.1 ∧ Fr [1009, 50038, 26, 27, 28, 29, 83, 84, 85] I q.2 ∧ IvC q.2 ∧ IvG q.2)) := by
  by_cases hc : (0 ≤ x.toInt ∧ x.toInt < 6) ∧ (0 ≤ y.toInt ∧ y.toInt ≤ 8) ∧ 0 ≤ z.toInt ∧ z.toInt ≤ 64
  · obtain ⟨hx, hy, hz⟩ := hc
    have k0 := z0
    have k64 : (64 : Int32).toInt = 64 := by decide
    have k8 := z8
    have hg6 : Int32.toNatClampNeg x < 6 := by have := tn32 hx.1; omega
    unfold f_D_group f_D_group_b0 f_Gr_make f_Gr_make_b0 f_Gr_make_b42
    refine ok_e (e_Gr_isNumber x) (ok_f (by rw [bi0]; exact fun k => k hx) (ok_e (e_D_isWithin _ _ _) (ok_f (by rw [bi0]; exact fun k => k (by omega)) (ok_t (by rw [le32]; omega) (ok_t (by rw [le32]; omega) (ok_b (ok_e (e_Gr_isNumber x) (ok_f (by rw [bi0]; exact fun k => k hx) (ok_f (by rw [lt32]; omega) (ok_t (by rw [le32]; omega) (ok_g hx (ok_g hx (ok_g hx (ok_mono (gm_loop hx hz) (fun J hJ => ok_s ?_)))))))))))))))
    obtain ⟨j1, j2, j3⟩ := hJ
    refine ⟨⟨j1.row _ rfl (by decide), j1.row _ rfl (by decide)⟩, ?_⟩
    unfold f_M_group f_M_group_b0 f_M_group_b43 f_M_group_b72
    have i1 : f_M_in x.toInt64 0 5 = some 1 := by rw [e_M_in, bi_t]; simp only [Int64.reduceToInt, i64of]; omega
    have i2 : f_M_in y.toInt64 0 8 = some 1 := by rw [e_M_in, bi_t]; simp only [Int64.reduceToInt, i64of]; omega
    refine ok_e i1 (ok_f (by decide) (ok_e i2 (ok_f (by decide) (ok_t (by rw [le32]; omega) (ok_t (by rw [le32]; omega) (ok_t (show (0 : Int32) ≤ 0 by decide) (ok_g hx (ok_g hx (ok_mono (mg_loop hx hz) (fun q hq => ?_))))))))))
    obtain ⟨q1, q2, q3, q4⟩ := hq
    have fA : Fr [1009, 50038, 26, 27, 28, 29, 83, 84, 85] I q.2 := Fr.trans (g := up2 (up2 (up2 (up2 J 0 9 0) 49 38 0) 83 (Int32.toNatClampNeg x) y) 84 (Int32.toNatClampNeg x) z) (Fr.upA (Fr.upA (Fr.up (Fr.up (Fr.trans (g := up2 (up2 (up2 I 26 (Int32.toNatClampNeg x) (1 &&& 1)) 27 (Int32.toNatClampNeg x) y) 28 (Int32.toNatClampNeg x) z) (Fr.upA (Fr.upA (Fr.upA (Fr.refl _ _) (by decide) (by decide)) (by decide) (by decide)) (by decide) (by decide)) (j1.mono (by decide))) (by decide)) (by decide)) (by decide) (by decide)) (by decide) (by decide)) (q2.mono (by decide))
    have p26 : q.2 26 = upd (I 26) (Int32.toNatClampNeg x) 1 := by
      rw [q2.row 26 rfl (by decide)]
      simp (disch := decide) only [up2_row, up2_upd, up2_self, up2_ne, up2_nk]
      rw [j1.row 26 rfl (by decide)]
      simp (disch := decide) only [up2_row, up2_upd, up2_self, up2_ne, up2_nk]
      rfl
    have p27 : q.2 27 = upd (I 27) (Int32.toNatClampNeg x) y := by
      rw [q2.row 27 rfl (by decide)]
      simp (disch := decide) only [up2_row, up2_upd, up2_self, up2_ne, up2_nk]
      rw [j1.row 27 rfl (by decide)]
      simp (disch := decide) only [up2_row, up2_upd, up2_self, up2_ne, up2_nk]
    have p28 : q.2 28 = upd (I 28) (Int32.toNatClampNeg x) z := by
      rw [q2.row 28 rfl (by decide)]
      simp (disch := decide) only [up2_row, up2_upd, up2_self, up2_ne, up2_nk]
      rw [j1.row 28 rfl (by decide)]
      simp (disch := decide) only [up2_row, up2_upd, up2_self, up2_ne, up2_nk]
    have p29 : q.2 29 = J 29 := by
      rw [q2.row 29 rfl (by decide)]
      simp (disch := decide) only [up2_row, up2_upd, up2_self, up2_ne, up2_nk]
    have p83 : q.2 83 = upd (I 83) (Int32.toNatClampNeg x) y := by
      rw [q2.row 83 rfl (by decide)]
      simp (disch := decide) only [up2_row, up2_upd, up2_self, up2_ne, up2_nk]
      rw [j1.row 83 rfl (by decide)]
      simp (disch := decide) only [up2_row, up2_upd, up2_self, up2_ne, up2_nk]
    have p84 : q.2 84 = upd (I 84) (Int32.toNatClampNeg x) z := by
      rw [q2.row 84 rfl (by decide)]
      simp (disch := decide) only [up2_row, up2_upd, up2_self, up2_ne, up2_nk]
      rw [j1.row 84 rfl (by decide)]
      simp (disch := decide) only [up2_row, up2_upd, up2_self, up2_ne, up2_nk]
    have b85 : ∀ j, (up2 (up2 (up2 (up2 J 0 9 0) 49 38 0) 83 (Int32.toNatClampNeg x) y) 84 (Int32.toNatClampNeg x) z) 85 j = I 85 j := by
      intro j
      show J 85 j = I 85 j
      rw [j1.row 85 rfl (by decide)]
      rfl
    refine ⟨q1.symm, fA, ?_, ?_⟩
    · show q.2 0 9 = q.2 49 38
      rw [q2 0 9 (by decide), q2 49 38 (by decide)]
      rfl
    · intro k hk
      have hk0 := h k hk
      unfold IvG1 vb at hk0 ⊢
      rw [p26, p27, p28, p29, p83, p84, fA 6 9 (by decide)]
      by_cases he : k = Int32.toNatClampNeg x
      · subst he
        right
        simp only [upd_at]
        refine ⟨trivial, trivial, hz, trivial, hy, fun i hi => ?_⟩
        rw [j2 i hi, q3 i hi]
        exact ⟨rfl, Or.inl (by decide)⟩
      · simp only [upd_ne _ _ _ _ he]
        rcases hk0 with k' | ⟨k1, k2, k3, k4, k5, k6⟩
        · exact Or.inl k'
        · refine Or.inr ⟨k1, k2, k3, k4, k5, fun i hi => ?_⟩
          have e1 := j3 (64 * k + i) (by omega)
          have e2 := q4 (64 * k + i) (by omega)
          rw [e1, e2, b85]
          exact k6 i hi
  · unfold f_D_group f_D_group_b0 f_D_endWith f_D_endWith_b0 f_M_group f_M_group_b0 f_M_group_b43
    repeat' first | with_reducible refine ok_g (by first | omega | (simp (disch := omega) only [up2_self, up2_ne, up2_nk]; omega)) ?_ | with_reducible refine ok_e (e_Gr_isNumber _) ?_ | with_reducible refine ok_e (e_D_isWithin _ _ _) ?_ | with_reducible refine ok_e (e_M_in _ _ _) ?_ | (with_reducible refine ok_ib (fun _ => ?_) (fun _ => ?_) <;> try (exfalso; first | omega | (simp (disch := decide) only [Int32.reduceToInt, Int64.reduceToInt, i64of, up2_self, up2_ne, up2_nk] at *; omega))) | (with_reducible refine ok_lt (fun _ => ?_) (fun _ => ?_) <;> try (exfalso; first | omega | (simp (disch := decide) only [Int32.reduceToInt, Int64.reduceToInt, i64of, up2_self, up2_ne, up2_nk] at *; omega))) | (with_reducible refine ok_le (fun _ => ?_) (fun _ => ?_) <;> try (exfalso; first | omega | (simp (disch := decide) only [Int32.reduceToInt, Int64.reduceToInt, i64of, up2_self, up2_ne, up2_nk] at *; omega))) | (with_reducible refine ok_iq (fun _ => ?_) (fun _ => ?_) <;> try (exfalso; first | omega | (simp (disch := decide) only [Int32.reduceToInt, Int64.reduceToInt, i64of, up2_self, up2_ne, up2_nk] at *; omega))) | (with_reducible refine ok_s ?_; try dsimp only) | with_reducible refine ok_b ?_ | refine x_sc ⟨rfl, rfl⟩ ?_ | fail
    all_goals try simp (disch := decide) only [Int32.reduceToInt, Int64.reduceToInt, i64of, up2_self, up2_ne, up2_nk] at *
    all_goals first | (exfalso; omega) | exact ⟨trivial, Fr.refl _ _, hC, h⟩ | exact ⟨trivial, Fr.up (Fr.up (Fr.refl _ _) (by decide)) (by decide), rfl, h⟩
/-! painting -/
def pst (row : Nat → Int32) (mem : Nat → Int32) (s : Int32) : Nat → Nat → Int32
  | 0 => row
  | i + 1 => upd (pst row mem s i) (Int32.toNatClampNeg (mem i)) s
theorem pst_all {row mem : Nat → Int32} {s : Int32} {P : Int32 → Prop} (h : ∀ j, P (row j)) (hs : P s) (i j : Nat) : P (pst row mem s i j) := by
  induction i generalizing j with
  | zero => exact h j
  | succ i ih => exact upd_all ih hs j
theorem pst_far {row mem : Nat → Int32} {s : Int32} {n i j : Nat} (h : ∀ k, k < i → Int32.toNatClampNeg (mem k) < n) (hj : n ≤ j) : pst row mem s i j = row j := by
  induction i with
  | zero => rfl
  | succ i ih =>
    have h1 := h i (by omega)
    show upd _ _ _ _ = _
    rw [upd_ne _ _ _ _ (by omega)]
    exact ih fun k hk => h k (by omega)
/-- where painting ends -/
def pend (mem : Nat → Int32) (n k : Nat) : Prop := k ≤ n ∧ (∀ i, i < k → mem i ≠ -1) ∧ (k < n → mem k = -1)
theorem pend_one {mem : Nat → Int32} {n k k' : Nat} (h : pend mem n k) (h' : pend mem n k') : k = k' := by
  obtain ⟨a1, a2, a3⟩ := h
  obtain ⟨b1, b2, b3⟩ := h'
  rcases Nat.lt_trichotomy k k' with c | c | c
  · exact absurd (a3 (by omega)) (b2 k c)
  · exact c
  · exact absurd (b3 (by omega)) (a2 k' c)
theorem dp_loop {x s : Int32} {I : xm_I} (g : IvF I) (hx : 0 ≤ x.toInt ∧ x.toInt < 6) (hm : I 26 (Int32.toNatClampNeg x) = 1) (hn : 0 ≤ (I 28 (Int32.toNatClampNeg x)).toInt ∧ (I 28 (Int32.toNatClampNeg x)).toInt ≤ 64) (hv : ∀ i : Nat, (i : Int) < (I 28 (Int32.toNatClampNeg x)).toInt → (I 29 (64 * Int32.toNatClampNeg x + i)).toInt = -1 ∨ vb I (I 29 (64 * Int32.toNatClampNeg x + i))) : ok (lp (f_D_paint_s48 x s (I 28 (Int32.toNatClampNeg x))) (0, I)) (fun p => ∃ k : Nat, pend (fun i => I 29 (64 * Int32.toNatClampNeg x + i)) (Int32.toNatClampNeg (I 28 (Int32.toNatClampNeg x))) k ∧ Fr [8, 1009] I p.2 ∧ p.2 8 = pst (I 8) (fun i => I 29 (64 * Int32.toNatClampNeg x + i)) s k ∧ ((k = Int32.toNatClampNeg (I 28 (Int32.toNatClampNeg x)) ∧ p.1 = I 28 (Int32.toNatClampNeg x) ∧ p.2 0 9 = 0) ∨ (k < Int32.toNatClampNeg (I 28 (Int32.toNatClampNeg x)) ∧ p.1 = 0 ∧ p.2 0 9 = 1))) := by
  have k0 := z0
  have g40 := g.1
  have tN := tn32 hn.1
  refine lp_inv (fun st => ∃ k : Nat, st.1 = n32 k ∧ k ≤ Int32.toNatClampNeg (I 28 (Int32.toNatClampNeg x)) ∧ (∀ i, i < k → I 29 (64 * Int32.toNatClampNeg x + i) ≠ -1) ∧ Fr [8] I st.2 ∧ st.2 8 = pst (I 8) (fun i => I 29 (64 * Int32.toNatClampNeg x + i)) s k) (fun st => (65 - st.1.toInt).toNat) _ ?_ (0, I) ⟨0, rfl, by omega, fun i hi => by omega, Fr.refl _ _, rfl⟩
  intro st ⟨k, e1, e2, e3, e4, e5⟩
  have ki : (n32 k).toInt = k := n32i (by omega)
  have kn : Int32.toNatClampNeg (n32 k) = k := n32n (by omega)
  unfold f_D_paint_s48
  rw [e1]
  refine ok_le (fun hc => ok_s ?_) (fun hc => ?_)
  · refine ⟨k, ⟨e2, e3, fun h => by omega⟩, Fr.up (e4.mono (by decide)) (by decide), ?_, Or.inl ⟨by omega, rfl, rfl⟩⟩
    show (up2 st.2 0 9 0) 8 = _
    rw [up2_row _ _ _ _ _ (by decide), e5]
  · have r26 := e4.row 26 rfl (by decide)
    have r28 := e4.row 28 rfl (by decide)
    have r29 := e4.row 29 rfl (by decide)
    have hat := e_Gr_memberAt (I := st.2) (x := x) (y := n32 k) hx (by rw [r26]; exact hm) (by rw [r28]; omega)
    rw [kn, r29] at hat
    refine ok_e hat ?_
    by_cases ho : I 29 (64 * Int32.toNatClampNeg x + k) = -1
    · refine ok_t ho ?_
      unfold f_D_endWith f_D_endWith_b0
      refine ok_b (ok_s (ok_s ⟨k, ⟨e2, e3, fun _ => ho⟩, Fr.up (e4.mono (by decide)) (by decide), ?_, Or.inr ⟨by omega, rfl, rfl⟩⟩))
      show (up2 st.2 0 9 1) 8 = _
      rw [up2_row _ _ _ _ _ (by decide), e5]
    · refine ok_f ho ?_
      have hvb : vb I (I 29 (64 * Int32.toNatClampNeg x + k)) := by
        rcases hv k (by omega) with c | c
        · exact absurd (by rw [eq32, c]; rfl) ho
        · exact c
      have hvo : vo st.2 (I 29 (64 * Int32.toNatClampNeg x + k)) := by
        have c69 := e4 6 9 (by decide)
        unfold vo
        rw [c69]
        exact ⟨hvb.1, hvb.2, g40.2⟩
      refine ok_e (e_Fg_setStyle hvo) (ok_s ⟨⟨k + 1, n32s (by omega), by omega, fun i hi => ?_, Fr.upA e4 (by decide) (by decide), ?_⟩, ?_⟩)
      · by_cases he : i = k
        · rw [he]; exact ho
        · exact e3 i (by omega)
      · show (up2 st.2 8 _ _) 8 = _
        rw [up2_upd, e5]
        rfl
      · show (65 - (n32 k + 1).toInt).toNat < (65 - (n32 k).toInt).toNat
        rw [i32p (by omega) (by omega)]
        omega
theorem mp_loop {x s : Int32} {I : xm_I} (g : (I 6 9).toInt ≤ 40) (hx : 0 ≤ x.toInt ∧ x.toInt < 6) (hc0 : I 49 38 = 0) (hn : 0 ≤ (I 84 (Int32.toNatClampNeg x)).toInt ∧ (I 84 (Int32.toNatClampNeg x)).toInt ≤ 64) (hv : ∀ i : Nat, (i : Int) < (I 84 (Int32.toNatClampNeg x)).toInt → (I 85 (64 * Int32.toNatClampNeg x + i)).toInt = -1 ∨ vb I (I 85 (64 * Int32.toNatClampNeg x + i))) : ok (lp (f_M_paint_s47 x s) (0, I)) (fun p => ∃ k : Nat, pend (fun i => I 85 (64 * Int32.toNatClampNeg x + i)) (Int32.toNatClampNeg (I 84 (Int32.toNatClampNeg x))) k ∧ Fr [57, 50038] I p.2 ∧ p.2 57 = pst (I 57) (fun i => I 85 (64 * Int32.toNatClampNeg x + i)) s k ∧ ((k = Int32.toNatClampNeg (I 84 (Int32.toNatClampNeg x)) ∧ p.1 = I 84 (Int32.toNatClampNeg x) ∧ p.2 49 38 = 0) ∨ (k < Int32.toNatClampNeg (I 84 (Int32.toNatClampNeg x)) ∧ p.1 = 0 ∧ p.2 49 38 = 1))) := by
  have k0 := z0
  have tN := tn32 hn.1
  refine lp_inv (fun st => ∃ k : Nat, k ≤ Int32.toNatClampNeg (I 84 (Int32.toNatClampNeg x)) ∧ (∀ i, i < k → I 85 (64 * Int32.toNatClampNeg x + i) ≠ -1) ∧ Fr [57, 50038] I st.2 ∧ st.2 57 = pst (I 57) (fun i => I 85 (64 * Int32.toNatClampNeg x + i)) s k ∧ ((st.1 = n32 k ∧ st.2 49 38 = 0) ∨ (st.1 = n32 (k + 1) ∧ st.2 49 38 = 1 ∧ k < Int32.toNatClampNeg (I 84 (Int32.toNatClampNeg x)) ∧ I 85 (64 * Int32.toNatClampNeg x + k) = -1))) (fun st => (65 - st.1.toInt).toNat) _ ?_ (0, I) ⟨0, by omega, fun i hi => by omega, Fr.refl _ _, rfl, Or.inl ⟨rfl, hc0⟩⟩
  intro st ⟨k, e2, e3, e4, e5, e6⟩
  have ki : (n32 k).toInt = k := n32i (by omega)
  have ki' : (n32 (k + 1)).toInt = ((k + 1 : Nat) : Int) := n32i (by omega)
  have kn : Int32.toNatClampNeg (n32 k) = k := n32n (by omega)
  have r84 := e4.row 84 rfl (by decide)
  have r85 := e4.row 85 rfl (by decide)
  unfold f_M_paint_s47 f_M_paint_b112 f_M_paint_b89 f_M_paint_b106
  refine ok_g hx ?_
  rw [r84, r85]
  rcases e6 with ⟨a1, a2⟩ | ⟨a1, a2, a3, a4⟩
  · rw [a1]
    refine ok_le (fun hc => ?_) (fun hc => ?_)
    · refine ok_m (ok_t (by rw [a2]; decide) (ok_g hx (ok_s ?_)))
      refine ⟨k, ⟨e2, e3, fun h => by omega⟩, e4, e5, Or.inl ⟨by omega, rfl, a2⟩⟩
    · obtain ⟨i1, i2, i3⟩ := ix64 (x := x) (y := n32 k) hx ⟨by omega, by omega⟩
      refine ok_t a2 ?_
      rw [i2]
      refine ok_g (by omega) ?_
      rw [i3, kn]
      by_cases ho : I 85 (64 * Int32.toNatClampNeg x + k) = -1
      · refine ok_t ho (ok_t ho (ok_s ⟨⟨k, e2, e3, Fr.up e4 (by decide), ?_, Or.inr ⟨n32s (by omega), rfl, by omega, ho⟩⟩, ?_⟩))
        · show (up2 st.2 49 38 1) 57 = _
          rw [up2_row _ _ _ _ _ (by decide), e5]
        · show (65 - (n32 k + 1).toInt).toNat < (65 - (n32 k).toInt).toNat
          rw [i32p (by omega) (by omega)]
          omega
      · have hvb : vb I (I 85 (64 * Int32.toNatClampNeg x + k)) := by
          rcases hv k (by omega) with c | c
          · exact absurd (by rw [eq32, c]; rfl) ho
          · exact c
        have hvb' := hvb
        unfold vb at hvb'
        refine ok_f ho (ok_f ho (ok_g (by omega) (ok_s ⟨⟨k + 1, by omega, fun i hi => ?_, Fr.upA (Fr.up e4 (by decide)) (by decide) (by decide), ?_, Or.inl ⟨n32s (by omega), rfl⟩⟩, ?_⟩)))
        · by_cases he : i = k
          · rw [he]; exact ho
          · exact e3 i (by omega)
        · show (up2 (up2 st.2 49 38 0) 57 _ _) 57 = _
          rw [up2_upd, up2_row _ _ _ _ _ (by decide), e5]
          rfl
        · show (65 - (n32 k + 1).toInt).toNat < (65 - (n32 k).toInt).toNat
          rw [i32p (by omega) (by omega)]
          omega
  · have fin : ∃ k' : Nat, pend (fun i => I 85 (64 * Int32.toNatClampNeg x + i)) (Int32.toNatClampNeg (I 84 (Int32.toNatClampNeg x))) k' ∧ Fr [57, 50038] I st.2 ∧ st.2 57 = pst (I 57) (fun i => I 85 (64 * Int32.toNatClampNeg x + i)) s k' ∧ ((k' = Int32.toNatClampNeg (I 84 (Int32.toNatClampNeg x)) ∧ (0 : Int32) = I 84 (Int32.toNatClampNeg x) ∧ st.2 49 38 = 0) ∨ (k' < Int32.toNatClampNeg (I 84 (Int32.toNatClampNeg x)) ∧ (0 : Int32) = 0 ∧ st.2 49 38 = 1)) := ⟨k, ⟨e2, e3, fun _ => a4⟩, e4, e5, Or.inr ⟨a3, rfl, a2⟩⟩
    rw [a1]
    refine ok_le (fun hc => ?_) (fun hc => ?_)
    · exact ok_m (ok_f (by rw [a2]; decide) (ok_s fin))
    · exact ok_f (by rw [a2]; decide) (ok_m (ok_f (by rw [a2]; decide) (ok_s fin)))
theorem IvF.style {I J : xm_I} (g : IvF I) (f : Fr [8, 57, 1009, 50038] I J) (h1 : J 57 = J 8) (h2 : ∀ k : Nat, 0 ≤ (J 8 k).toInt ∧ (J 8 k).toInt ≤ 2) (h3 : ∀ k : Nat, (I 6 9).toInt ≤ (k : Int) → J 8 k = 0) : IvF J := by
  obtain ⟨g1, g2, ⟨d1, d2, d3, d4, d5, d6, d7⟩, g4, g5, g6, g7, g8⟩ := g
  unfold IvF IvO vp
  rw [h1, f 6 9 (by decide), f 6 8 (by decide), f 49 11 (by decide), f 49 13 (by decide), f 1 4 (by decide), f.row 7 rfl (by decide), f.row 9 rfl (by decide), f.row 10 rfl (by decide), f.row 11 rfl (by decide), f.row 12 rfl (by decide), f.row 13 rfl (by decide), f.row 54 rfl (by decide), f.row 55 rfl (by decide), f.row 56 rfl (by decide), f.row 58 rfl (by decide), f.row 59 rfl (by decide), f.row 60 rfl (by decide)]
  exact ⟨g1, g2, ⟨d1, d2, d3, rfl, d5, d6, d7⟩, g4, h2, h3, g7, g8⟩
theorem c_paint {x y : Int32} {I : xm_I} (g : IvF I) (h : IvG I) (hC : IvC I) : ok (f_D_paint x y I) (fun p => xl_sc I p.2 ∧ ok (f_M_paint x y p.2) (fun q => p.1 = q.1 ∧ Fr [8, 57, 1009, 50038] I q.2 ∧ IvC q.2 ∧ IvF q.2)) := by
  have g40 := g.1
  by_cases hc : (0 ≤ x.toInt ∧ x.toInt < 6) ∧ (0 ≤ y.toInt ∧ y.toInt ≤ 2)
  · obtain ⟨hx, hy⟩ := hc
    have k0 := z0
    have k2 := z2
    have hg6 : Int32.toNatClampNeg x < 6 := by have := tn32 hx.1; omega
    have i1 : f_M_in x.toInt64 0 5 = some 1 := by rw [e_M_in, bi_t]; simp only [Int64.reduceToInt, i64of]; omega
    have i2 : f_M_in y.toInt64 0 2 = some 1 := by rw [e_M_in, bi_t]; simp only [Int64.reduceToInt, i64of]; omega
    unfold f_D_paint f_D_paint_b0 f_D_paint_b48 f_D_endWith f_D_endWith_b0
    refine ok_e (e_Gr_isNumber x) (ok_f (by rw [bi0]; exact fun k => k hx) (ok_e (e_D_isWithin _ _ _) (ok_f (by rw [bi0]; exact fun k => k (by omega)) ?_)))
    rcases h _ hg6 with ⟨m1, m2⟩ | ⟨m1, m2, m3, m4, m5, m6⟩
    · refine ok_e (e_Gr_no hx m1) (ok_t rfl (ok_b (ok_s (ok_s ⟨⟨rfl, rfl⟩, ?_⟩))))
      unfold f_M_paint f_M_paint_b0 f_M_paint_b42 f_M_paint_b47
      refine ok_e i1 (ok_f (by decide) (ok_e i2 (ok_f (by decide) (ok_g hx (ok_f ?_ ?_)))))
      · show ¬ 0 ≤ I 84 (Int32.toNatClampNeg x)
        rw [le32]
        omega
      · rw [lp_eq]
        unfold f_M_paint_s47 f_M_paint_b112
        refine ok_b (ok_g hx (ok_t ?_ (ok_m (ok_f (show ¬ (1 : Int32) ≤ 0 by decide) (ok_s (ok_s ⟨rfl, ?_, rfl, ?_⟩))))))
        · show I 84 (Int32.toNatClampNeg x) ≤ 0
          rw [le32]
          omega
        · exact Fr.up (Fr.up (Fr.refl _ _) (by decide)) (by decide)
        · exact g
    · refine ok_e (e_Gr_isMade hx m1) (ok_f (by decide) (ok_e (e_Gr_placesOf hx m1) (ok_mono (dp_loop g hx m1 m3 fun i hi => (m6 i hi).2) (fun p hp => ?_))))
      obtain ⟨k, p1, p2, p3, p4⟩ := hp
      refine ⟨⟨p2.row _ rfl (by decide), p2.row _ rfl (by decide)⟩, ?_⟩
      unfold f_M_paint f_M_paint_b0 f_M_paint_b42 f_M_paint_b47
      have r84 := p2.row 84 rfl (by decide)
      have r85 := p2.row 85 rfl (by decide)
      have r57 := p2.row 57 rfl (by decide)
      have c69 := p2 6 9 (by decide)
      have m2' : (p.2 84 (Int32.toNatClampNeg x)) = I 28 (Int32.toNatClampNeg x) := by rw [r84, m2]
      refine ok_e i1 (ok_f (by decide) (ok_e i2 (ok_f (by decide) (ok_g hx (ok_t (by rw [m2', le32]; omega) (ok_mono (mp_loop (I := up2 p.2 49 38 0) ?_ hx rfl ?_ ?_) (fun q hq => ?_)))))))
      · show (p.2 6 9).toInt ≤ 40
        rw [c69]
        exact g40.2
      · show 0 ≤ (p.2 84 (Int32.toNatClampNeg x)).toInt ∧ (p.2 84 (Int32.toNatClampNeg x)).toInt ≤ 64
        rw [m2']
        exact m3
      · intro i hi
        have hi' : (i : Int) < (p.2 84 (Int32.toNatClampNeg x)).toInt := hi
        rw [m2'] at hi'
        show (p.2 85 _).toInt = -1 ∨ (0 ≤ (p.2 85 _).toInt ∧ (p.2 85 _).toInt < (p.2 6 9).toInt)
        rw [r85, (m6 i hi').1, c69]
        exact (m6 i hi').2
      · obtain ⟨k', q1, q2, q3, q4⟩ := hq
        have e84 : (up2 p.2 49 38 0) 84 = I 84 := r84
        have e85 : (up2 p.2 49 38 0) 85 = I 85 := r85
        have e57 : (up2 p.2 49 38 0) 57 = I 8 := by
          rw [up2_row _ _ _ _ _ (by decide), r57]
          exact g.2.2.1.2.2.2.1
        rw [e84, e85, m2] at q1
        rw [e84, m2] at q4
        rw [e57, e85] at q3
        have q1' : pend (fun i => I 29 (64 * Int32.toNatClampNeg x + i)) (Int32.toNatClampNeg (I 28 (Int32.toNatClampNeg x))) k' := by
          have tN := tn32 m3.1
          obtain ⟨a1, a2, a3⟩ := q1
          refine ⟨a1, fun i hi => ?_, fun hi => ?_⟩
          · have := a2 i hi
            simp only [] at this ⊢
            rw [(m6 i (by omega)).1] at this
            exact this
          · have := a3 hi
            simp only [] at this ⊢
            rw [(m6 k' (by omega)).1] at this
            exact this
        have ek := pend_one p1 q1'
        subst ek
        have tN := tn32 m3.1
        have hrow : ∀ i, i ≤ k → pst (I 8) (fun i => I 85 (64 * Int32.toNatClampNeg x + i)) y i = pst (I 8) (fun i => I 29 (64 * Int32.toNatClampNeg x + i)) y i := by
          intro i hi
          induction i with
          | zero => rfl
          | succ i ih =>
            have h1 := p1.1
            show upd (pst _ _ _ i) (Int32.toNatClampNeg (I 85 _)) y = upd (pst _ _ _ i) (Int32.toNatClampNeg (I 29 _)) y
            rw [ih (by omega), (m6 i (by omega)).1]
        rw [hrow k (Nat.le_refl k)] at q3
        have f2 : Fr [8, 57, 1009, 50038] I q.2 := Fr.trans (g := up2 p.2 49 38 0) (Fr.up (p2.mono (by decide)) (by decide)) (q2.mono (by decide))
        have r8 : q.2 8 = pst (I 8) (fun i => I 29 (64 * Int32.toNatClampNeg x + i)) y k := by
          rw [q2.row 8 rfl (by decide), up2_row _ _ _ _ _ (by decide), p3]
        have c09 : q.2 0 9 = p.2 0 9 := q2 0 9 (by decide)
        have gIF := g
        obtain ⟨g1, g2, ⟨d1, d2, d3, d4, d5, d6, d7⟩, g4, g5, g6, g7, g8⟩ := gIF
        have hF : IvF q.2 := by
          refine g.style f2 (by rw [q3, r8]) ?_ ?_
          · rw [r8]
            exact fun j => pst_all (P := fun z => 0 ≤ z.toInt ∧ z.toInt ≤ 2) g5 hy k j
          · intro j hj
            rw [r8, pst_far (n := Int32.toNatClampNeg (I 6 9)) _ _]
            · exact g6 j hj
            · intro i hi
              have h1 := p1.1
              have t69 := tn32 g40.1
              rcases (m6 i (by omega)).2 with c | c
              · exact absurd (by rw [eq32, c]; rfl) (p1.2.1 i hi)
              · have := tn32 c.1
                have := c.2
                omega
            · have t69 := tn32 g40.1
              omega
        rcases p4 with ⟨u1, u2, u3⟩ | ⟨u1, u2, u3⟩
        · rcases q4 with ⟨w1, w2, w3⟩ | ⟨w1, w2, w3⟩
          · exact ⟨by rw [u2, w2], f2, by show q.2 0 9 = q.2 49 38; rw [c09, u3, w3], hF⟩
          · omega
        · rcases q4 with ⟨w1, w2, w3⟩ | ⟨w1, w2, w3⟩
          · omega
          · exact ⟨by rw [u2, w2], f2, by show q.2 0 9 = q.2 49 38; rw [c09, u3, w3], hF⟩
  · unfold f_D_paint f_D_paint_b0 f_M_paint f_M_paint_b0
    repeat' first | with_reducible refine ok_g (by first | omega | (simp (disch := omega) only [up2_self, up2_ne, up2_nk]; omega)) ?_ | with_reducible refine ok_e (e_Gr_isNumber _) ?_ | with_reducible refine ok_e (e_D_isWithin _ _ _) ?_ | with_reducible refine ok_e (e_M_in _ _ _) ?_ | (with_reducible refine ok_ib (fun _ => ?_) (fun _ => ?_) <;> try (exfalso; first | omega | (simp (disch := decide) only [Int32.reduceToInt, Int64.reduceToInt, i64of, up2_self, up2_ne, up2_nk] at *; omega))) | (with_reducible refine ok_lt (fun _ => ?_) (fun _ => ?_) <;> try (exfalso; first | omega | (simp (disch := decide) only [Int32.reduceToInt, Int64.reduceToInt, i64of, up2_self, up2_ne, up2_nk] at *; omega))) | (with_reducible refine ok_le (fun _ => ?_) (fun _ => ?_) <;> try (exfalso; first | omega | (simp (disch := decide) only [Int32.reduceToInt, Int64.reduceToInt, i64of, up2_self, up2_ne, up2_nk] at *; omega))) | (with_reducible refine ok_iq (fun _ => ?_) (fun _ => ?_) <;> try (exfalso; first | omega | (simp (disch := decide) only [Int32.reduceToInt, Int64.reduceToInt, i64of, up2_self, up2_ne, up2_nk] at *; omega))) | (with_reducible refine ok_s ?_; try dsimp only) | with_reducible refine ok_b ?_ | refine x_sc ⟨rfl, rfl⟩ ?_ | fail
    all_goals try simp (disch := decide) only [Int32.reduceToInt, Int64.reduceToInt, i64of, up2_self, up2_ne, up2_nk] at *
    all_goals first | (exfalso; omega) | exact ⟨trivial, Fr.refl _ _, hC, g⟩
