/-! ===== the memory at the start ===== -/
theorem IKl_row {sc : xm_I} {a : Nat} : ∀ {li : List (Nat × Nat × Int32)}, (∀ e ∈ li, e.1 ≠ a) → ∀ k, IKl sc li a k = sc a k
  | [], _, _ => rfl
  | e :: es, h, k => by
    have h1 := h e List.mem_cons_self
    show up2 (IKl sc es) e.1 e.2.1 e.2.2 a k = _
    rw [up2_ne _ _ _ _ _ _ (fun q => h1 q.symm)]
    exact IKl_row (fun e' he => h e' (List.mem_cons_of_mem _ he)) k
theorem IKl_cell {sc : xm_I} {a k : Nat} : ∀ {li : List (Nat × Nat × Int32)}, (∀ e ∈ li, ¬ (e.1 = a ∧ e.2.1 = k)) → IKl sc li a k = sc a k
  | [], _ => rfl
  | e :: es, h => by
    have h1 := h e List.mem_cons_self
    show up2 (IKl sc es) e.1 e.2.1 e.2.2 a k = _
    unfold up2
    rw [if_neg (fun q => h1 ⟨q.1.symm, q.2.symm⟩)]
    exact IKl_cell (fun e' he => h e' (List.mem_cons_of_mem _ he))
theorem li_rows : ∀ e ∈ li_24, e.1 = 0 ∨ e.1 = 14 ∨ e.1 = 17 ∨ e.1 = 49 ∨ e.1 = 84 := by decide
theorem start_GI {sc : xm_I} {len : Int32} (hsc : ∀ a, a < 1000 → ∀ k, sc a k = 0) (h1 : sc 1000001 0 = len) : GI (sc 1000000) len (IKl sc li_24) L0 86 := by
  have zr : ∀ a, a < 1000 → a ≠ 0 → a ≠ 14 → a ≠ 17 → a ≠ 49 → a ≠ 84 → ∀ k, IKl sc li_24 a k = 0 := by
    intro a ha a0 a14 a17 a49 a84 k
    rw [IKl_row (fun e he => ?_) k]
    · exact hsc a ha k
    · have := li_rows e he
      omega
  have zf : ∀ a b, a < 1000 → a ≠ 0 → a ≠ 14 → a ≠ 17 → a ≠ 49 → a ≠ 84 → b < 1000 → b ≠ 0 → b ≠ 14 → b ≠ 17 → b ≠ 49 → b ≠ 84 → IKl sc li_24 a = IKl sc li_24 b := by
    intro a b a1 a2 a3 a4 a5 a6 b1 b2 b3 b4 b5 b6
    funext k
    rw [zr a a1 a2 a3 a4 a5 a6, zr b b1 b2 b3 b4 b5 b6]
  have zc : ∀ a k, a < 1000 → (∀ e ∈ li_24, ¬ (e.1 = a ∧ e.2.1 = k)) → IKl sc li_24 a k = 0 := by
    intro a k ha h
    rw [IKl_cell h]
    exact hsc a ha k
  have k0 := z0
  have k100 : (100 : Int32).toInt = 100 := by decide
  have k10 : (10 : Int32).toInt = 10 := by decide
  have k1 := z1
  have w0 : IKl sc li_24 14 0 = 0 := rfl
  have w1 : IKl sc li_24 14 1 = 100 := rfl
  have w2 : IKl sc li_24 14 2 = 0 := rfl
  have w3 : IKl sc li_24 14 3 = 100 := rfl
  have w4 : IKl sc li_24 14 4 = 100 := rfl
  have w5 : IKl sc li_24 14 5 = 100 := rfl
  have w6 : IKl sc li_24 14 6 = 0 := rfl
  have w7 : IKl sc li_24 14 7 = 0 := rfl
  have w8 : IKl sc li_24 14 8 = 10 := rfl
  have w9 : IKl sc li_24 14 9 = 1 := rfl
  have w10 : IKl sc li_24 14 10 = 1 := rfl
  have m16 : IKl sc li_24 49 16 = 100 := rfl
  have m18 : IKl sc li_24 49 18 = 100 := rfl
  have m19 : IKl sc li_24 49 19 = 100 := rfl
  have m20 : IKl sc li_24 49 20 = 100 := rfl
  have m23 : IKl sc li_24 49 23 = 10 := rfl
  have mz : ∀ k, (∀ e ∈ li_24, ¬ (e.1 = 49 ∧ e.2.1 = k)) → IKl sc li_24 49 k = 0 := fun k h => zc 49 k (by omega) h
  have a4 : IKl sc li_24 1 4 = 0 := zr 1 (by omega) (by omega) (by omega) (by omega) (by omega) (by omega) 4
  have a5 : IKl sc li_24 1 5 = 0 := zr 1 (by omega) (by omega) (by omega) (by omega) (by omega) (by omega) 5
  have f9 : IKl sc li_24 6 9 = 0 := zr 6 (by omega) (by omega) (by omega) (by omega) (by omega) (by omega) 9
  have f8 : IKl sc li_24 6 8 = 0 := zr 6 (by omega) (by omega) (by omega) (by omega) (by omega) (by omega) 8
  have s1 : IKl sc li_24 15 1 = 0 := zr 15 (by omega) (by omega) (by omega) (by omega) (by omega) (by omega) 1
  have s2 : IKl sc li_24 15 2 = 0 := zr 15 (by omega) (by omega) (by omega) (by omega) (by omega) (by omega) 2
  have l3 : IKl sc li_24 21 3 = 0 := zr 21 (by omega) (by omega) (by omega) (by omega) (by omega) (by omega) 3
  have l4 : IKl sc li_24 21 4 = 0 := zr 21 (by omega) (by omega) (by omega) (by omega) (by omega) (by omega) 4
  have l5 : IKl sc li_24 21 5 = 0 := zr 21 (by omega) (by omega) (by omega) (by omega) (by omega) (by omega) 5
  have l6 : IKl sc li_24 21 6 = 0 := zr 21 (by omega) (by omega) (by omega) (by omega) (by omega) (by omega) 6
  have l7 : IKl sc li_24 21 7 = 0 := zr 21 (by omega) (by omega) (by omega) (by omega) (by omega) (by omega) 7
  have zr2 : ∀ a, a < 1000 → a ≠ 0 ∧ a ≠ 14 ∧ a ≠ 17 ∧ a ≠ 49 ∧ a ≠ 84 → ∀ k, IKl sc li_24 a k = 0 := fun a ha h k => zr a ha h.1 h.2.1 h.2.2.1 h.2.2.2.1 h.2.2.2.2 k
  have zf2 : ∀ a b, a < 1000 → b < 1000 → (a ≠ 0 ∧ a ≠ 14 ∧ a ≠ 17 ∧ a ≠ 49 ∧ a ≠ 84) → (b ≠ 0 ∧ b ≠ 14 ∧ b ≠ 17 ∧ b ≠ 49 ∧ b ≠ 84) → IKl sc li_24 a = IKl sc li_24 b := by
    intro a b ha hb h h'
    funext k
    rw [zr2 a ha h, zr2 b hb h']
  have hP : IvP (IKl sc li_24) := by
    unfold IvP
    rw [a4, a5]
    refine ⟨by omega, by omega, ⟨mz 4 (by decide), mz 5 (by decide), zf2 _ _ (by omega) (by omega) (by omega) (by omega), zf2 _ _ (by omega) (by omega) (by omega) (by omega), zf2 _ _ (by omega) (by omega) (by omega) (by omega), zf2 _ _ (by omega) (by omega) (by omega) (by omega)⟩, fun k => ?_, fun k _ => ⟨zr2 4 (by omega) (by omega) k, zr2 5 (by omega) (by omega) k⟩⟩
    rw [zr2 2 (by omega) (by omega), zr2 3 (by omega) (by omega), zr2 4 (by omega) (by omega), zr2 5 (by omega) (by omega)]
    omega
  have hF : IvF (IKl sc li_24) := by
    unfold IvF
    rw [f9, f8]
    refine ⟨by omega, by omega, ⟨mz 11 (by decide), mz 13 (by decide), zf2 _ _ (by omega) (by omega) (by omega) (by omega), zf2 _ _ (by omega) (by omega) (by omega) (by omega), zf2 _ _ (by omega) (by omega) (by omega) (by omega), zf2 _ _ (by omega) (by omega) (by omega) (by omega), zf2 _ _ (by omega) (by omega) (by omega) (by omega)⟩, fun k => Or.inl (zr2 12 (by omega) (by omega) k), fun k => ?_, fun k _ => zr2 8 (by omega) (by omega) k, fun k hk => by omega, fun o ho => by omega⟩
    rw [zr2 8 (by omega) (by omega)]
    omega
  have hW : IvW (IKl sc li_24) := by
    unfold IvW WB SC
    rw [w0, w1, w2, w3, w4, w5, w6, w7, w8, w9, w10, m16, m18, m19, m20, m23, mz 15 (by decide), mz 17 (by decide), mz 21 (by decide), mz 22 (by decide)]
    refine ⟨⟨rfl, rfl, rfl, rfl, rfl, rfl, rfl, rfl, rfl⟩, by omega, by omega, Or.inl ⟨by omega, by omega, 100, 100, Or.inl ⟨by omega, by omega, by omega⟩, ?_⟩⟩
    decide
  have hC : IvC (IKl sc li_24) := by
    show IKl sc li_24 0 9 = IKl sc li_24 49 38
    rw [mz 38 (by decide)]
    rfl
  have hS : IvS (IKl sc li_24) 86 := by
    unfold IvS
    rw [s1, s2]
    refine ⟨by omega, mz 31 (by decide), by omega, mz 32 (by decide), rfl, fun s hs => by omega, fun s _ _ => ⟨zr2 63 (by omega) (by omega) s, zr2 65 (by omega) (by omega) s⟩⟩
  have hL : IvL (IKl sc li_24) := by
    unfold IvL
    rw [l3]
    refine ⟨by omega, ⟨mz 37 (by decide), zf2 _ _ (by omega) (by omega) (by omega) (by omega), zf2 _ _ (by omega) (by omega) (by omega) (by omega)⟩, fun l hl => by omega⟩
  have hG : IvG (IKl sc li_24) := by
    intro g hg
    left
    refine ⟨zr2 26 (by omega) (by omega) g, ?_⟩
    have h : g = 0 ∨ g = 1 ∨ g = 2 ∨ g = 3 ∨ g = 4 ∨ g = 5 := by omega
    rcases h with rfl | rfl | rfl | rfl | rfl | rfl <;> (show (-1 : Int32).toInt = -1; decide)
  have hD : IvD (IKl sc li_24) := by
    unfold IvD
    rw [l4, l5, l6, l7]
    refine ⟨⟨([], 0), ⟨by decide, zc 17 4 (by omega) (by decide), zc 17 5 (by omega) (by decide), fun i m h => by cases h⟩, ⟨by decide, mz 49 (by decide), mz 50 (by decide), fun i m h => by cases h⟩, ⟨rfl, fun k hk => absurd hk (Nat.not_lt_zero k)⟩, ⟨mz 52 (by decide), by decide, fun i x h => by cases h⟩, fun _ => rfl⟩, by omega, mz 56 (by decide), fun _ => rfl, fun l hl => by omega, mz 58 (by decide), mz 59 (by decide), mz 60 (by decide)⟩
  refine ⟨⟨hP, hF, hW, hC, hS, hL, hG, hD⟩, ⟨by omega, by omega⟩, fun a ha h9 k => zr2 a h9 (by omega) k, fun _ _ _ _ => rfl, ?_, ?_⟩
  · funext k
    exact IKl_row (fun e he => by have := li_rows e he; omega) k
  · rw [IKl_row (fun e he => by have := li_rows e he; omega)]
    exact h1
theorem RKl_mem {a k v : Nat} : ∀ {lr : List (Nat × Nat × Nat)}, RKl lr a k = some v → (a, k, v) ∈ lr
  | [], h => by cases h
  | e :: es, h => by
    have h' : up2 (RKl es) e.1 e.2.1 (some e.2.2) a k = some v := h
    unfold up2 at h'
    by_cases c : a = e.1 ∧ k = e.2.1
    · rw [if_pos c] at h'
      cases h'
      rw [c.1, c.2]
      exact List.mem_cons_self
    · rw [if_neg c] at h'
      exact List.mem_cons_of_mem _ (RKl_mem h')
theorem RKl_none {a k : Nat} : ∀ {lr : List (Nat × Nat × Nat)}, RKl lr a k = none → ∀ v, (a, k, v) ∉ lr
  | [], _, _ => List.not_mem_nil
  | e :: es, h, v => by
    have h' : up2 (RKl es) e.1 e.2.1 (some e.2.2) a k = none := h
    unfold up2 at h'
    by_cases c : a = e.1 ∧ k = e.2.1
    · rw [if_pos c] at h'
      cases h'
    · rw [if_neg c] at h'
      intro hm
      rcases List.mem_cons.mp hm with hm | hm
      · exact c (by rw [← hm]; exact ⟨rfl, rfl⟩)
      · exact RKl_none h' v hm
set_option maxRecDepth 100000 in
theorem RK_1 : ∀ e ∈ lr_94, RC 86 e.1 e.2.1 = some e.2.2 := by decide +kernel
set_option maxRecDepth 100000 in
theorem RK_2 : ((List.range 86).all fun a => (List.range (RCt.getD a []).length).all fun k => match (RCt.getD a []).getD k none with | none => true | some v => lr_94.contains (a, k, v)) = true := by decide +kernel
theorem RK_all {a : Nat} (ha : a < 86) : RC 86 a = RKl lr_94 a := by
  funext k
  cases hr : RKl lr_94 a k with
  | some v => exact RK_1 _ (RKl_mem hr)
  | none =>
    cases hc : RC 86 a k with
    | none => rfl
    | some v =>
      exfalso
      unfold RC at hc
      rw [if_pos ha] at hc
      by_cases c : a = 16
      · rw [if_pos c, if_neg (by omega)] at hc
        cases hc
      · rw [if_neg c] at hc
        have hk : k < (RCt.getD a []).length := by
          refine Nat.not_le.mp fun hk => ?_
          rw [List.getD_eq_getElem?_getD (l := RCt.getD a []), List.getElem?_eq_none hk] at hc
          cases hc
        have h2 := List.all_eq_true.mp (List.all_eq_true.mp RK_2 a (List.mem_range.mpr ha)) k (List.mem_range.mpr hk)
        rw [hc] at h2
        exact RKl_none hr v (List.contains_iff_mem.mp h2)
