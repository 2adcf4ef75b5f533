/-- the types of a class's fields, and how many there are -/
def xm_ty (c k : Nat) : FieldType := match c with
  | 0 => tyX0 k
  | 1 => tyX1 k
  | 2 => tyX2 k
  | 3 => tyX3 k
  | 4 => tyX4 k
  | 5 => tyX5 k
  | 6 => tyX6 k
  | 7 => tyX7 k
  | 8 => tyX8 k
  | 9 => tyX9 k
  | 10 => tyX10 k
  | 11 => tyX11 k
  | _ => tyX12 k
def xm_nf (c : Nat) : Nat := match c with
  | 0 => 9
  | 1 => 10
  | 2 => 11
  | 3 => 4
  | 4 => 8
  | 5 => 7
  | 6 => 14
  | 7 => 16
  | 8 => 6
  | 9 => 11
  | 10 => 3
  | 11 => 10
  | _ => 78
/-- the cells in the order in which they are made: (class, 0), or (100 ints, 101 booleans, 102 longs, 103 solids; how many) -/
def xm_lys : List (Nat × Nat) := [(11, 0), (8, 0), (100, 60), (100, 60), (100, 60), (100, 60), (1, 0), (100, 40), (100, 40), (100, 40), (100, 40), (100, 480), (101, 10), (100, 12), (2, 0), (10, 0), (103, 4), (5, 0), (100, 3600), (100, 600), (100, 62), (4, 0), (100, 20), (100, 20), (100, 20), (3, 0), (101, 6), (100, 6), (100, 6), (100, 384), (6, 0), (101, 40), (100, 40), (100, 40), (100, 12), (100, 12), (102, 12), (102, 12), (0, 0), (7, 0), (100, 20), (100, 20), (100, 20), (100, 160), (100, 160), (100, 160), (100, 6), (100, 7), (100, 7), (12, 0), (100, 60), (100, 60), (100, 60), (100, 60), (100, 40), (100, 480), (100, 40), (100, 40), (100, 40), (100, 12), (101, 10), (100, 4), (100, 4), (100, 4), (100, 144), (100, 4), (100, 40), (100, 240), (100, 264), (100, 20), (100, 20), (100, 4200), (100, 42000), (101, 40), (100, 40), (100, 40), (100, 20), (102, 12), (102, 12), (100, 160), (100, 20), (100, 7), (100, 6), (100, 6), (100, 6), (100, 384)]
def xm_sol : List (Nat × Nat) := [(9, 0), (100, 12), (100, 12), (100, 12), (100, 10), (100, 10), (100, 10), (100, 144)]
def xm_lay (a : Nat) : Nat × Nat := if a < 86 then xm_lys.getD a (200, 0) else xm_sol.getD ((a - 86) % 8) (200, 0)

/-! ===== THE PLAIN MEMORY: what the class and its reference work on, as plain functions; and its judgement over the machine ===== -/
abbrev xm_I : Type := Nat → Nat → Int32
abbrev xm_L : Type := Nat → Nat → Int64
abbrev xm_R : Type := Nat → Nat → Option Nat
/-- ints, longs and references by cell and place; how many cells there are -/
abbrev xm_H : Type := xm_I × xm_L × xm_R × Nat
def up2 {α : Type} (f : Nat → Nat → α) (a k : Nat) (v : α) : Nat → Nat → α := fun b j => if b = a ∧ j = k then v else f b j
theorem up2_row {α : Type} (f : Nat → Nat → α) (a k : Nat) (v : α) (b : Nat) (h : b ≠ a) : up2 f a k v b = f b := by
  funext j
  simp [up2, h]
theorem up2_upd (f : xm_I) (a k : Nat) (v : Int32) : up2 f a k v a = upd (f a) k v := by
  funext j
  simp [up2, upd]
theorem up2_updL (f : xm_L) (a k : Nat) (v : Int64) : up2 f a k v a = vp_updL (f a) k v := by
  funext j
  simp [up2, vp_updL]
/-- the launch's own numbers: ((first cell, script, static row, its length), script's ints, classes, array classes) -/
abbrev xm_G : Type := (Nat × Nat × Nat × Nat) × (Nat → Int32) × va_G × (Nat → ClassId)
def xm_al (g : xm_G) (a : Nat) : Nat := if a = 1000000 then g.1.2.1 else if a = 1000001 then g.1.2.2.1 else g.1.1 + a
def xm_v (g : xm_G) (v : Value) : Value := match v with
  | .ref a => .ref (xm_al g a)
  | w => w
def xm_fv (g : xm_G) (h : xm_H) (a c k : Nat) : Value := match xm_ty c k with
  | .int => .int (h.1 a k)
  | .boolean => .int (h.1 a k)
  | .long => .long (h.2.1 a k)
  | _ => va_rf ((h.2.2.1 a k).map (xm_al g))
def xm_E (g : xm_G) (h : xm_H) (a : Nat) : va_E :=
  if (xm_lay a).1 = 100 then .inl (g.2.2.2 0, (xm_lay a).2, .inl (h.1 a))
  else if (xm_lay a).1 = 101 then .inl (g.2.2.2 1, (xm_lay a).2, .inl (h.1 a))
  else if (xm_lay a).1 = 102 then .inl (g.2.2.2 2, (xm_lay a).2, .inr (.inl (h.2.1 a)))
  else if (xm_lay a).1 = 103 then .inl (g.2.2.2 3, (xm_lay a).2, .inr (.inr (.inr (.inr (fun j => (h.2.2.1 a j).map (xm_al g))))))
  else .inr ((xm_lay a).1, (List.range (xm_nf (xm_lay a).1)).map (xm_fv g h a (xm_lay a).1))
def xm_ws (g : xm_G) (h : xm_H) : va_W := (List.range h.2.2.2).map (fun a => (g.1.1 + a, xm_E g h a))
def xm_tys (g : xm_G) : List (ClassId × FieldType) := [(g.2.2.2 0, .int), (g.2.2.2 1, .boolean), (g.2.2.2 2, .long), (g.2.2.2 3, .object RX9)]
def xm_tp (j : Nat) : Int32 := [-4, -11, -12, -11, -4, 2, 3, 2].getD j 0
/-- the script stands in the memory too: its ints in cell 1000000, its length in cell 1000001 -/
def xm_Sc (g : xm_G) (I : xm_I) : Prop := I 1000000 = g.2.1 ∧ I 1000001 0 = Int32.ofNat g.1.2.2.2
theorem xm_Sc.kept {g : xm_G} {I I' : xm_I} (h : xm_Sc g I) (h1 : I' 1000000 = I 1000000) (h2 : I' 1000001 = I 1000001) : xm_Sc g I' := ⟨h1.trans h.1, by rw [h2]; exact h.2⟩
/-- the machine's heap holds the memory -/
def xm_W (g : xm_G) (h : xm_H) (U : State) (H : Heap) : Prop :=
  va_K g.2.2.1 vwCl (xm_tys g) U ∧ va_P g.2.2.1 vwCl (xm_ws g h) H ∧ H.size = g.1.1 + h.2.2.2 ∧ h.2.2.2 ≤ 1000 ∧ xm_Sc g h.1
/-- what nobody writes: the script, the static row -/
def xm_Ro (g : xm_G) (U : State) (H : Heap) : Prop :=
  (g.1.2.1 < g.1.1 ∧ g.1.2.2.1 < g.1.1 ∧ g.1.2.2.2 ≤ 2560) ∧ va_X g.1.2.1 g.1.2.2.2 g.2.1 U H ∧ va_T .int g.1.2.2.1 8 (fun j => .int (xm_tp j)) (fun q => g.1.1 ≤ q) U H ∧ va_Z "DrawLabels$Placer" "TOP_FROM_ANCHOR" "[I" (.ref g.1.2.2.1) (fun q => g.1.1 ≤ q) U H
theorem xm_ws_at {g : xm_G} {h : xm_H} {a : Nat} (ha : a < h.2.2.2) : (xm_ws g h)[a]? = some (g.1.1 + a, xm_E g h a) := by
  simp [xm_ws, ha]
theorem xm_ws_get {g : xm_G} {h : xm_H} {k : Nat} {q : Nat × va_E} (hk : (xm_ws g h)[k]? = some q) : k < h.2.2.2 ∧ q = (g.1.1 + k, xm_E g h k) := by
  have hl : k < h.2.2.2 := by
    have := (List.getElem?_eq_some_iff.mp hk).1
    simpa [xm_ws] using this
  exact ⟨hl, Option.some.inj (hk.symm.trans (xm_ws_at hl))⟩
theorem xm_D (g : xm_G) (h : xm_H) : va_D (fun q => g.1.1 ≤ q) (xm_ws g h) := by
  refine ⟨fun i j x y hi hj hxy => ?_, fun k q hk => ?_⟩
  · obtain ⟨-, rfl⟩ := xm_ws_get hi
    obtain ⟨-, rfl⟩ := xm_ws_get hj
    exact Nat.add_left_cancel hxy
  · obtain ⟨-, rfl⟩ := xm_ws_get hk
    exact Nat.le_add_right _ _
theorem xm_al_in {g : xm_G} {a : Nat} (h : a < 1000) : xm_al g a = g.1.1 + a := by
  unfold xm_al
  rw [if_neg (by omega), if_neg (by omega)]
theorem xm_v_cat (g : xm_G) (v : Value) : (xm_v g v).category = v.category := by cases v <;> rfl
/-- a cell's new contents -/
theorem xm_ws_set {g : xm_G} {h h' : xm_H} {a : Nat} (hn : h'.2.2.2 = h.2.2.2) (ho : ∀ b, b ≠ a → xm_E g h' b = xm_E g h b) : (xm_ws g h).set a (g.1.1 + a, xm_E g h' a) = xm_ws g h' := by
  apply List.ext_getElem?
  intro k
  by_cases hk : k = a
  · subst hk
    by_cases hl : k < h.2.2.2
    · rw [List.getElem?_set_self (by simpa [xm_ws] using hl), xm_ws_at (by rw [hn]; exact hl)]
    · rw [List.getElem?_eq_none (by simp [xm_ws]; omega), List.getElem?_eq_none (by simp [xm_ws, hn]; omega)]
  · rw [List.getElem?_set_ne (Ne.symm hk)]
    by_cases hl : k < h.2.2.2
    · rw [xm_ws_at hl, xm_ws_at (by rw [hn]; exact hl), ho k hk]
    · rw [List.getElem?_eq_none (by simp [xm_ws]; omega), List.getElem?_eq_none (by simp [xm_ws, hn]; omega)]
theorem xm_E_ext {g : xm_G} {h h' : xm_H} {b : Nat} (h1 : h'.1 b = h.1 b) (h2 : h'.2.1 b = h.2.1 b) (h3 : h'.2.2.1 b = h.2.2.1 b) : xm_E g h' b = xm_E g h b := by
  have e : ∀ c, xm_fv g h' b c = xm_fv g h b c := by
    intro c
    funext k
    simp only [xm_fv, h1, h2, h3]
  simp only [xm_E, h1, h2, h3, e]
theorem xm_E_int {g : xm_G} {h : xm_H} {a n : Nat} (hl : xm_lay a = (100, n)) : xm_E g h a = .inl (g.2.2.2 0, n, .inl (h.1 a)) := by
  simp [xm_E, hl]
theorem xm_E_bool {g : xm_G} {h : xm_H} {a n : Nat} (hl : xm_lay a = (101, n)) : xm_E g h a = .inl (g.2.2.2 1, n, .inl (h.1 a)) := by
  simp [xm_E, hl]
theorem xm_E_long {g : xm_G} {h : xm_H} {a n : Nat} (hl : xm_lay a = (102, n)) : xm_E g h a = .inl (g.2.2.2 2, n, .inr (.inl (h.2.1 a))) := by
  simp [xm_E, hl]
theorem xm_E_ref {g : xm_G} {h : xm_H} {a n : Nat} (hl : xm_lay a = (103, n)) : xm_E g h a = .inl (g.2.2.2 3, n, .inr (.inr (.inr (.inr (fun j => (h.2.2.1 a j).map (xm_al g)))))) := by
  simp [xm_E, hl]
theorem xm_E_obj {g : xm_G} {h : xm_H} {a c : Nat} (hl : xm_lay a = (c, 0)) (hc : c < 13) : xm_E g h a = .inr (c, (List.range (xm_nf c)).map (xm_fv g h a c)) := by
  simp only [xm_E, hl]
  rw [if_neg (by omega), if_neg (by omega), if_neg (by omega), if_neg (by omega)]
theorem xm_Ro.moved {g : xm_G} {u U : State} {H H1 : Heap} {locs : List Loc} (h : xm_Ro g u H) (hvm : u.vm.Alike U.vm) (hb : g.1.1 ≤ H.size) (hS : va_S (fun q => g.1.1 ≤ q) H H1 locs) : xm_Ro g U H1 := by
  obtain ⟨hb0, h1, h2, h3⟩ := h
  refine ⟨hb0, (va_X.moved hvm h1).kept (hS.2.1 _ (by omega) (by omega)), (va_T.moved hvm h2).kept fun a ha hn => hS.2.1 a ha hn, (va_Z.moved hvm h3).kept fun a ha hn => hS.2.1 a ha hn⟩
