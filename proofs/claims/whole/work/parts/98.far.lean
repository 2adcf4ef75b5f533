/-! ===== solids' and areas' marks are not far ===== -/
theorem mem_flatL {α β : Type} {f : α → List β} {l : List α} {m : β} (h : m ∈ flatL f l) : ∃ x ∈ l, m ∈ f x := by
  induction l with
  | nil => cases h
  | cons a l ih =>
    have h' : m ∈ f a ++ flatL f l := h
    rcases List.mem_append.mp h' with h1 | h1
    · exact ⟨a, List.mem_cons_self, h1⟩
    · obtain ⟨x, hx, hm⟩ := ih h1
      exact ⟨x, List.mem_cons_of_mem _ hx, hm⟩
theorem mem_UU {β : Type} {G : Int → List β} {A : Int} {k : Nat} {m : β} (h : m ∈ UU G A k) : ∃ z : Int, m ∈ G z := by
  induction k with
  | zero => cases h
  | succ k ih =>
    have h' : m ∈ UU G A k ++ G (A + k) := h
    rcases List.mem_append.mp h' with h1 | h1
    · exact ih h1
    · exact ⟨_, h1⟩
theorem ok_edge {n : Nat} {I : xm_I} {s q : Nat} (hst : Sta n I I) (hsc : 0 < (I 14 10).toInt) (hs : (s : Int) < (I 15 1).toInt) (hq : q < 144) (he : isE I s q = true) : okl (resE I s q) := by
  have hW := hst.1.2.2.1
  have h := hst.1.2.2.2.1
  obtain ⟨v1, v2⟩ := E_v h hs hq he
  obtain ⟨bx1, by1⟩ := F_b hst.1.1 h hs v1
  obtain ⟨bx2, by2⟩ := F_b hst.1.1 h hs v2
  intro m hm
  unfold resE at hm
  split at hm
  · cases hm
  · split at hm
    · cases hm
    · split at hm
      · cases hm
      · rename_i F T hw
        have kk := k0_sm 1
        have wb := wayM_b (st := if bhd I s q = 0 then 0 else 1) hW hsc bx1 by1 bx2 by2 kk.1 kk.2 hw
        rw [List.mem_singleton.mp hm]
        exact ⟨fun hh => absurd hh (by decide : ¬ (83 : Int32) = 68), fun _ => ⟨⟨wb.1, wb.2.1⟩, wb.2.2.1, wb.2.2.2⟩⟩
theorem ok_sol {n : Nat} {I : xm_I} (hst : Sta n I I) (hsc : 0 < (I 14 10).toInt) : okl (solA I) := by
  have g4 := hst.1.2.2.2.1.1
  have t := tn32 g4.1
  have all : ∀ k : Nat, k ≤ Int32.toNatClampNeg (I 15 1) → okl (solL I k) := by
    intro k
    induction k with
    | zero => intro _ m hm; cases hm
    | succ k ih =>
      intro hk
      refine okl_app (ih (by omega)) (fun m hm => ?_)
      obtain ⟨q, hq, hm'⟩ := mem_flatL hm
      obtain ⟨h1, h2⟩ := List.mem_filter.mp hq
      exact ok_edge hst hsc (by omega) (List.mem_range.mp h1) h2 m hm'
  unfold solA
  split
  · exact all _ (Nat.le_refl _)
  · intro m hm
    cases hm
def fr4 (q : Cr) : Prop := (1 ≤ q.2.toInt ∧ q.2.toInt ≤ 60000) ∧ -40000 * q.2.toInt ≤ q.1.toInt ∧ q.1.toInt ≤ 40000 * q.2.toInt
theorem crP_fr {I : xm_I} {X Y : Nat → Int32} {n k : Nat} {y : Int} (hW : WB I) (h : XY X Y) (hy : -40000 ≤ y ∧ y ≤ 40000) (hk : k < n) (hc : crB Y n k y) : fr4 (crP X Y n k y) := by
  have s := crP_sml (X := X) h hc
  have k3 : (30000 : Int32).toInt = 30000 := by decide
  have k4 : (-30000 : Int32).toInt = -30000 := by decide
  have hW' : WB (up2 (up2 I 14 0 (-30000)) 14 1 30000) := by
    unfold WB at *
    simp (disch := decide) only [up2_self, up2_ne, up2_nk]
    exact ⟨by omega, hW.2.1, hW.2.2⟩
  have u := uncut (I := up2 (up2 I 14 0 (-30000)) 14 1 30000) hW' h hy (fun i _ => by
    have := h.1 i
    simp (disch := decide) only [up2_self, up2_ne, up2_nk]
    omega) hk hc
  simp (disch := decide) only [up2_self, up2_ne, up2_nk] at u
  unfold sml at s
  generalize crP X Y n k y = q at *
  rw [le64, le64, i64m (by rw [i64of, k4]; omega), i64m (by rw [i64of, k3]; omega), i64of, i64of, k3, k4] at u
  exact ⟨s, by omega, by omega⟩
theorem cut_fr {I : xm_I} {q : Cr} (hW : WB I) (h : fr4 q) : fr4 (cutL I q) ∧ fr4 (cutR I q) := by
  have k1 : (1 : Int64).toInt = 1 := by decide
  obtain ⟨w1, _⟩ := hW
  unfold cutL cutR
  constructor
  · split
    · exact h
    · unfold fr4
      dsimp only
      rw [k1, i64of]
      omega
  · split
    · exact h
    · unfold fr4
      dsimp only
      rw [k1, i64of]
      omega
theorem strk_ok {I : xm_I} {y : Int} {st : Int32} {a b : Cr} (h : IvW I) (hs : 0 < (I 14 10).toInt) (hy : -40000 ≤ y ∧ y ≤ 40000) (ha : fr4 a) (hb : fr4 b) : okl (strk I y st a b) := by
  have a1 := (cut_fr h.2.1 ha).1
  have b1 := (cut_fr h.2.1 hb).2
  intro m hm
  unfold strk at hm
  split at hm
  · rw [List.mem_singleton.mp hm]
    unfold fr4 at a1 b1
    have p1 := SX_n h hs (x := (cutL I a).1) (d := (cutL I a).2) (by omega) a1.2.1 a1.2.2
    have p2 := SX_n h hs (x := (cutR I b).1) (d := (cutR I b).2) (by omega) b1.2.1 b1.2.2
    have p3 := SX_1 h hs (x := i6 y) (by rw [i6_i (by omega)]; exact hy)
    exact ⟨fun hh => absurd hh (by decide : ¬ (83 : Int32) = 68), fun _ => ⟨⟨p1.1, p3.2⟩, p2.1, p3.2⟩⟩
  · cases hm
theorem hsA_ok {n : Nat} {I : xm_I} {o : Nat} {y : Int} (hst : Sta n I I) (hsc : 0 < (I 14 10).toInt) (hy : -40000 ≤ y ∧ y ≤ 40000) : okl (hsA I o y) := by
  have hW := hst.1.2.2.1
  have hXY := hst.xyc o
  have hall := crs_all (X := CX I o) (Y := CY I o) (n := Int32.toNatClampNeg (I 10 o)) (y := y) (P := fr4) (fun i hi hc => crP_fr hW.2.1 hXY hy hi hc) (Int32.toNatClampNeg (I 10 o)) (Nat.le_refl _)
  have hl := crs_len (CX I o) (CY I o) (Int32.toNatClampNeg (I 10 o)) y (Int32.toNatClampNeg (I 10 o))
  unfold hsA
  have all : ∀ j : Nat, 2 * j ≤ crC (CY I o) (Int32.toNatClampNeg (I 10 o)) y (Int32.toNatClampNeg (I 10 o)) → okl (strN I y (I 8 o) (crs (CX I o) (CY I o) (Int32.toNatClampNeg (I 10 o)) y (Int32.toNatClampNeg (I 10 o))) j) := by
    intro j
    induction j with
    | zero => intro _ m hm; cases hm
    | succ j ih =>
      intro hj
      obtain ⟨a, ha⟩ : ∃ a, (crs (CX I o) (CY I o) (Int32.toNatClampNeg (I 10 o)) y (Int32.toNatClampNeg (I 10 o)))[2 * j]? = some a := ⟨_, List.getElem?_eq_getElem (by omega)⟩
      obtain ⟨b, hb⟩ : ∃ b, (crs (CX I o) (CY I o) (Int32.toNatClampNeg (I 10 o)) y (Int32.toNatClampNeg (I 10 o)))[2 * j + 1]? = some b := ⟨_, List.getElem?_eq_getElem (by omega)⟩
      refine okl_app (ih (by omega)) ?_
      rw [ha, hb]
      exact strk_ok hW hsc hy (hall _ (List.mem_of_getElem? ha)) (hall _ (List.mem_of_getElem? hb))
  exact all _ (by omega)
theorem ok_hat {n : Nat} {I : xm_I} {o : Nat} (hst : Sta n I I) (hsc : 0 < (I 14 10).toInt) : okl (hatL I o) := by
  obtain ⟨w1, w2, _⟩ := hst.wbd
  intro m hm
  obtain ⟨z, hz⟩ := mem_UU hm
  unfold gl at hz
  split at hz
  · rename_i hc
    exact hsA_ok hst hsc (by omega) m hz
  · cases hz
theorem ok_ancA {n : Nat} {I : xm_I} {o : Nat} (hst : Sta n I I) (hsc : 0 < (I 14 10).toInt) (hN : 1 ≤ (I 10 o).toInt ∧ (I 10 o).toInt ≤ 12) : far1 (ancA I o).1 ∧ far1 (ancA I o).2 := by
  have hW := hst.1.2.2.1
  have tN := tn32 (x := I 10 o) (by omega)
  have hs : ∀ k : Nat, k ≤ 12 → (-100000000 * (k : Int) ≤ (sumX I o k).toInt ∧ (sumX I o k).toInt ≤ 100000000 * (k : Int)) ∧ (-100000000 * (k : Int) ≤ (sumY I o k).toInt ∧ (sumY I o k).toInt ≤ 100000000 * (k : Int)) := by
    intro k
    have kz : (0 : Int64).toInt = 0 := by decide
    induction k with
    | zero =>
      intro _
      show (_ ≤ (0 : Int64).toInt ∧ (0 : Int64).toInt ≤ _) ∧ (_ ≤ (0 : Int64).toInt ∧ (0 : Int64).toInt ≤ _)
      omega
    | succ k ih =>
      intro hk
      have ih' := ih (by omega)
      have b := CX_b hst.1.1 o k
      have p1 := (SX_1 hW hsc (x := (CX I o k).toInt64) (by rw [i64of]; omega)).1
      have p2 := (SX_1 hW hsc (x := (CY I o k).toInt64) (by rw [i64of]; omega)).2
      show (_ ≤ (sumX I o k + (SX I (CX I o k).toInt64 1).toInt64).toInt ∧ (sumX I o k + (SX I (CX I o k).toInt64 1).toInt64).toInt ≤ _) ∧ (_ ≤ (sumY I o k + (SY I (CY I o k).toInt64 1).toInt64).toInt ∧ (sumY I o k + (SY I (CY I o k).toInt64 1).toInt64).toInt ≤ _)
      rw [i64a (by rw [i64of]; omega), i64a (by rw [i64of]; omega), i64of, i64of]
      omega
  obtain ⟨p, q⟩ := hs (Int32.toNatClampNeg (I 10 o)) (by omega)
  have ei : (I 10 o).toInt64.toInt = (Int32.toNatClampNeg (I 10 o) : Int) := by rw [i64of]; omega
  have f1 := fl_b (x := sumX I o (Int32.toNatClampNeg (I 10 o))) (y := (I 10 o).toInt64) (B := 100000000) (by omega) (by rw [ei]; omega) (by rw [ei]; omega)
  have f2 := fl_b (x := sumY I o (Int32.toNatClampNeg (I 10 o))) (y := (I 10 o).toInt64) (B := 100000000) (by omega) (by rw [ei]; omega) (by rw [ei]; omega)
  unfold ancA far1
  dsimp only
  rw [i32of (by omega), i32of (by omega)]
  exact ⟨f1, f2⟩
/-! ===== all that is drawn before the labels ===== -/
abbrev d0 : Anc := fun _ => none
def frm (I : xm_I) : MS := em ([], 0) (70, I 14 4, I 14 5, 0, 0, 0)
noncomputable def mdr (I : xm_I) : MS × Anc := osd I (osa I (ems (frm I) (gridL I), d0) (Int32.toNatClampNeg (I 6 9))) (Int32.toNatClampNeg (I 6 9))
noncomputable def drw (I : xm_I) : MS × Anc := if 0 < (I 14 10).toInt then (ems (mdr I).1 (solA I), (mdr I).2) else (frm I, d0)
theorem drw_ok {n : Nat} {I : xm_I} (hst : Sta n I I) : okl (drw I).1.1 ∧ oka (drw I).2 ∧ (drw I).1.1.length ≤ 600 := by
  have f0 : okl (frm I).1 ∧ (frm I).1.length ≤ 600 := by
    refine ⟨okl_em (fun m hm => by cases hm) (ok_other ?_ ?_), em_le (by decide)⟩
    · show ¬ (70 : Int32) = 68
      decide
    · show ¬ (70 : Int32) = 83
      decide
  have a0 : oka d0 := fun o p h => by cases h
  unfold drw
  by_cases hs : 0 < (I 14 10).toInt
  · rw [if_pos hs]
    have g40 := hst.1.2.1.1
    have t := tn32 g40.1
    have hW := hst.1.2.2.1
    have stA : ∀ k : Nat, k ≤ Int32.toNatClampNeg (I 6 9) → okl (osa I (ems (frm I) (gridL I), d0) k).1.1 ∧ oka (osa I (ems (frm I) (gridL I), d0) k).2 ∧ (osa I (ems (frm I) (gridL I), d0) k).1.1.length ≤ 600 := by
      intro k
      induction k with
      | zero => intro _; exact ⟨okl_ems f0.1 (ok_grid hW hs), a0, ems_le f0.2⟩
      | succ k ih =>
        intro hk
        have ih' := ih (by omega)
        show okl (if I 7 k = 7 then _ else _ : MS × Anc).1.1 ∧ oka (if I 7 k = 7 then _ else _ : MS × Anc).2 ∧ (if I 7 k = 7 then _ else _ : MS × Anc).1.1.length ≤ 600
        by_cases h7 : I 7 k = 7
        · rw [if_pos h7]
          by_cases hd : drawB I k = true
          · rw [if_pos hd]
            have h3 := hst.n3 (o := k) (by omega) h7
            have an := ok_ancA hst hs (o := k) (by omega)
            exact ⟨okl_ems ih'.1 (ok_hat hst hs), oka_set ih'.2.1 ⟨far3 an.1, far3 an.2⟩, ems_le ih'.2.2⟩
          · rw [if_neg hd]
            exact ih'
        · rw [if_neg h7]
          exact ih'
    have stO : ∀ x : MS × Anc, (okl x.1.1 ∧ oka x.2 ∧ x.1.1.length ≤ 600) → ∀ k : Nat, okl (osd I x k).1.1 ∧ oka (osd I x k).2 ∧ (osd I x k).1.1.length ≤ 600 := by
      intro x hx k
      induction k with
      | zero => exact hx
      | succ k ih =>
        show okl (if I 7 k = 7 then _ else _ : MS × Anc).1.1 ∧ oka (if I 7 k = 7 then _ else _ : MS × Anc).2 ∧ (if I 7 k = 7 then _ else _ : MS × Anc).1.1.length ≤ 600
        by_cases h7 : I 7 k = 7
        · rw [if_pos h7]
          exact ih
        · rw [if_neg h7]
          by_cases hd : drawB I k = true
          · rw [if_pos hd]
            cases hr : resO I k with
            | none => exact ih
            | some r =>
              have rr := ok_res hst hs hr
              exact ⟨okl_em ih.1 rr.1, oka_set ih.2.1 rr.2, em_le ih.2.2⟩
          · rw [if_neg hd]
            exact ih
    have hm := stO _ (stA _ (Nat.le_refl _)) (Int32.toNatClampNeg (I 6 9))
    exact ⟨okl_ems hm.1 (ok_sol hst hs), hm.2.1, ems_le hm.2.2⟩
  · rw [if_neg hs]
    exact ⟨f0.1, a0, f0.2⟩
