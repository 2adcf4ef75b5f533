/-! ===== frames: what a turned function leaves alone ===== -/
/-- the name of a place: a row has one for all its places, an object one for each field -/
def cd (a k : Nat) : Nat := if [0, 1, 6, 14, 15, 17, 21, 25, 30, 38, 39, 49].contains a then 1000 * (a + 1) + k else a
def Fr {α : Type} (W : List Nat) (f g : Nat → Nat → α) : Prop := ∀ a k, cd a k ∉ W → g a k = f a k
theorem Fr.refl {α : Type} (W : List Nat) (f : Nat → Nat → α) : Fr W f f := fun _ _ _ => rfl
theorem Fr.trans {α : Type} {W : List Nat} {f g h : Nat → Nat → α} (h1 : Fr W f g) (h2 : Fr W g h) : Fr W f h := fun a k hw => (h2 a k hw).trans (h1 a k hw)
theorem Fr.mono {α : Type} {W W' : List Nat} {f g : Nat → Nat → α} (h : Fr W' f g) (hs : ∀ x ∈ W', x ∈ W) : Fr W f g := fun a k hw => h a k fun h' => hw (hs _ h')
theorem Fr.up {α : Type} {W : List Nat} {f g : Nat → Nat → α} {c k : Nat} {v : α} (h : Fr W f g) (hw : cd c k ∈ W) : Fr W f (up2 g c k v) := by
  intro a j hj
  have : ¬ (a = c ∧ j = k) := fun ⟨h1, h2⟩ => hj (by rw [h1, h2]; exact hw)
  simp only [up2, if_neg this]
  exact h a j hj
theorem cd_row {c : Nat} (hc : [0, 1, 6, 14, 15, 17, 21, 25, 30, 38, 39, 49].contains c = false) (k : Nat) : cd c k = c := by
  unfold cd
  rw [hc]
  rfl
theorem Fr.upA {α : Type} {W : List Nat} {f g : Nat → Nat → α} {c k : Nat} {v : α} (h : Fr W f g) (hc : [0, 1, 6, 14, 15, 17, 21, 25, 30, 38, 39, 49].contains c = false) (hw : c ∈ W) : Fr W f (up2 g c k v) := Fr.up h (by rw [cd_row hc]; exact hw)
/-- a row that stays -/
theorem Fr.row {α : Type} {W : List Nat} {f g : Nat → Nat → α} (h : Fr W f g) (c : Nat) (hc : [0, 1, 6, 14, 15, 17, 21, 25, 30, 38, 39, 49].contains c = false) (hw : c ∉ W) : g c = f c := funext fun k => h c k (by rw [cd_row hc]; exact hw)
theorem gd_some {α : Type} {c : Prop} [Decidable c] {k : Option α} {r : α} (h : gd c k = some r) : c ∧ k = some r := by
  unfold gd at h
  by_cases hc : c
  · rw [if_pos hc] at h
    exact ⟨hc, h⟩
  · rw [if_neg hc] at h
    cases h
theorem ite_some {α : Type} {c : Prop} [Decidable c] {x y : Option α} {r : α} (h : (if c then x else y) = some r) : (c ∧ x = some r) ∨ (¬ c ∧ y = some r) := by
  by_cases hc : c
  · rw [if_pos hc] at h
    exact Or.inl ⟨hc, h⟩
  · rw [if_neg hc] at h
    exact Or.inr ⟨hc, h⟩
theorem bind_some {α β : Type} {o : Option α} {f : α → Option β} {r : β} (h : o.bind f = some r) : ∃ a, o = some a ∧ f a = some r := by
  cases o with
  | none => cases h
  | some a => exact ⟨a, rfl, h⟩
theorem map_some {α β : Type} {o : Option α} {f : α → β} {r : β} (h : o.map f = some r) : ∃ a, o = some a ∧ f a = r := by
  cases o with
  | none => cases h
  | some a => exact ⟨a, rfl, Option.some.inj h⟩
theorem mo_some {α β : Type} {o : Option α} {x : Option β} {y : α → Option β} {r : β} (h : mo o x y = some r) : x = some r ∨ ∃ a, y a = some r := by
  cases o with
  | none => exact Or.inl h
  | some a => exact Or.inr ⟨a, h⟩
/-- what a loop's answer keeps -/
theorem lp_post {σ ρ : Type} {f : σ → Option (σ ⊕ ρ)} {P : σ → Prop} {K : ρ → Prop} {s : σ} {r : ρ} (hs : ∀ s x, P s → f s = some x → Sum.elim P K x) (h0 : P s) (h : lp f s = some r) : K r := by
  obtain ⟨n, hn⟩ := lp_some h
  clear h
  induction n generalizing s with
  | zero => cases hn
  | succ n ih =>
    unfold itr at hn
    cases hf : f s with
    | none => rw [hf] at hn; cases hn
    | some x =>
      rw [hf] at hn
      have h1 := hs s x h0 hf
      cases x with
      | inl s' => exact ih h1 hn
      | inr r' => cases hn; exact h1
