/-! ===== ways into 'ok'; numbers ===== -/
theorem ok_s {α : Type} {a : α} {K : α → Prop} (h : K a) : ok (some a) K := ⟨a, rfl, h⟩
theorem ok_g {α : Type} {c : Prop} [Decidable c] {k : Option α} {K : α → Prop} (hc : c) (h : ok k K) : ok (gd c k) K := by
  unfold gd
  rw [if_pos hc]
  exact h
theorem ok_i {α : Type} {c : Prop} [Decidable c] {x y : Option α} {K : α → Prop} (h1 : c → ok x K) (h2 : ¬ c → ok y K) : ok (if c then x else y) K := by
  by_cases hc : c
  · rw [if_pos hc]
    exact h1 hc
  · rw [if_neg hc]
    exact h2 hc
theorem ok_t {α : Type} {c : Prop} [Decidable c] {x y : Option α} {K : α → Prop} (hc : c) (h1 : ok x K) : ok (if c then x else y) K := by
  rw [if_pos hc]
  exact h1
theorem ok_f {α : Type} {c : Prop} [Decidable c] {x y : Option α} {K : α → Prop} (hc : ¬ c) (h1 : ok y K) : ok (if c then x else y) K := by
  rw [if_neg hc]
  exact h1
theorem ok_b {α β : Type} {o : Option α} {f : α → Option β} {K : β → Prop} (h : ok o (fun a => ok (f a) K)) : ok (o.bind f) K := by
  obtain ⟨a, ha, b, hb, hk⟩ := h
  exact ⟨b, by rw [ha]; exact hb, hk⟩
theorem ok_e {α β : Type} {o : Option α} {a : α} {f : α → Option β} {K : β → Prop} (e : o = some a) (h : ok (f a) K) : ok (o.bind f) K := by
  rw [e]
  exact h
theorem ok_m {α β : Type} {o : Option α} {f : α → β} {K : β → Prop} (h : ok o (fun a => K (f a))) : ok (o.map f) K := by
  obtain ⟨a, ha, hk⟩ := h
  exact ⟨f a, by rw [ha]; rfl, hk⟩
theorem ok_eq {α : Type} {o : Option α} {a : α} (h : ok o (fun r => r = a)) : o = some a := by
  obtain ⟨b, hb, rfl⟩ := h
  exact hb
theorem ok_and {α : Type} {o : Option α} {K : α → Prop} (h : ok o K) : ok o (fun r => o = some r ∧ K r) := by
  obtain ⟨b, hb, h⟩ := h
  exact ⟨b, hb, hb, h⟩
/-- a truth as an int -/
def bi (c : Prop) [Decidable c] : Int32 := if c then 1 else 0
theorem bi0 {c : Prop} [Decidable c] : (bi c = 0) ↔ ¬ c := by
  unfold bi
  by_cases h : c <;> simp [h]
theorem bi1 {c : Prop} [Decidable c] : (bi c = 1) ↔ c := by
  unfold bi
  by_cases h : c <;> simp [h]
theorem bi_t {c : Prop} [Decidable c] (h : c) : bi c = 1 := if_pos h
theorem bi_f {c : Prop} [Decidable c] (h : ¬ c) : bi c = 0 := if_neg h
theorem bi_iff {c d : Prop} [Decidable c] [Decidable d] (h : c ↔ d) : bi c = bi d := by
  unfold bi
  by_cases hc : c
  · rw [if_pos hc, if_pos (h.mp hc)]
  · rw [if_neg hc, if_neg fun h1 => hc (h.mpr h1)]
/-! ints -/
theorem i32r (x : Int32) : -2147483648 ≤ x.toInt ∧ x.toInt ≤ 2147483647 := ⟨Int32.le_toInt x, by have := Int32.toInt_lt x; omega⟩
theorem i64r (x : Int64) : -9223372036854775808 ≤ x.toInt ∧ x.toInt ≤ 9223372036854775807 := ⟨Int64.le_toInt x, by have := Int64.toInt_lt x; omega⟩
theorem i32a {x y : Int32} (h : -2147483648 ≤ x.toInt + y.toInt ∧ x.toInt + y.toInt ≤ 2147483647) : (x + y).toInt = x.toInt + y.toInt := by
  rw [Int32.toInt_add]
  exact Int.bmod_eq_of_le (by omega) (by omega)
theorem i32s {x y : Int32} (h : -2147483648 ≤ x.toInt - y.toInt ∧ x.toInt - y.toInt ≤ 2147483647) : (x - y).toInt = x.toInt - y.toInt := by
  rw [Int32.toInt_sub]
  exact Int.bmod_eq_of_le (by omega) (by omega)
theorem i32m {x y : Int32} (h : -2147483648 ≤ x.toInt * y.toInt ∧ x.toInt * y.toInt ≤ 2147483647) : (x * y).toInt = x.toInt * y.toInt := by
  rw [Int32.toInt_mul]
  exact Int.bmod_eq_of_le (by omega) (by omega)
theorem i32n {x : Int32} (h : x.toInt ≠ -2147483648) : (-x).toInt = -x.toInt := by
  rw [Int32.toInt_neg]
  have := i32r x
  exact Int.bmod_eq_of_le (by omega) (by omega)
theorem i64a {x y : Int64} (h : -9223372036854775808 ≤ x.toInt + y.toInt ∧ x.toInt + y.toInt ≤ 9223372036854775807) : (x + y).toInt = x.toInt + y.toInt := by
  rw [Int64.toInt_add]
  exact Int.bmod_eq_of_le (by omega) (by omega)
theorem i64s {x y : Int64} (h : -9223372036854775808 ≤ x.toInt - y.toInt ∧ x.toInt - y.toInt ≤ 9223372036854775807) : (x - y).toInt = x.toInt - y.toInt := by
  rw [Int64.toInt_sub]
  exact Int.bmod_eq_of_le (by omega) (by omega)
theorem i64m {x y : Int64} (h : -9223372036854775808 ≤ x.toInt * y.toInt ∧ x.toInt * y.toInt ≤ 9223372036854775807) : (x * y).toInt = x.toInt * y.toInt := by
  rw [Int64.toInt_mul]
  exact Int.bmod_eq_of_le (by omega) (by omega)
theorem i64n {x : Int64} (h : x.toInt ≠ -9223372036854775808) : (-x).toInt = -x.toInt := by
  rw [Int64.toInt_neg]
  have := i64r x
  exact Int.bmod_eq_of_le (by omega) (by omega)
theorem i64of (x : Int32) : x.toInt64.toInt = x.toInt := Int32.toInt_toInt64 x
theorem i32of {x : Int64} (h : -2147483648 ≤ x.toInt ∧ x.toInt ≤ 2147483647) : x.toInt32.toInt = x.toInt := by
  rw [Int64.toInt_toInt32]
  exact Int.bmod_eq_of_le (by omega) (by omega)
theorem lt32 {x y : Int32} : x < y ↔ x.toInt < y.toInt := Int32.lt_iff_toInt_lt
theorem le32 {x y : Int32} : x ≤ y ↔ x.toInt ≤ y.toInt := Int32.le_iff_toInt_le
theorem eq32 {x y : Int32} : x = y ↔ x.toInt = y.toInt := Int32.toInt_inj.symm
theorem lt64 {x y : Int64} : x < y ↔ x.toInt < y.toInt := Int64.lt_iff_toInt_lt
theorem le64 {x y : Int64} : x ≤ y ↔ x.toInt ≤ y.toInt := Int64.le_iff_toInt_le
theorem eq64 {x y : Int64} : x = y ↔ x.toInt = y.toInt := Int64.toInt_inj.symm
theorem tn32 {x : Int32} (h : 0 ≤ x.toInt) : ((x.toNatClampNeg : Nat) : Int) = x.toInt := by
  show ((x.toInt.toNat : Nat) : Int) = x.toInt
  omega
/-- the int of a small number -/
def n32 (k : Nat) : Int32 := Int32.ofNat k
theorem n32i {k : Nat} (h : k < 2147483648) : (n32 k).toInt = (k : Int) := Int32.toInt_ofNat_of_lt h
theorem n32n {k : Nat} (h : k < 2147483648) : (n32 k).toNatClampNeg = k := by
  show (n32 k).toInt.toNat = k
  rw [n32i h]
  rfl
theorem n32x {x : Int32} (h : 0 ≤ x.toInt) : n32 x.toNatClampNeg = x := by
  have := i32r x
  have e := tn32 h
  rw [eq32, n32i (by omega)]
  exact e
theorem n32s {k : Nat} (h : k + 1 < 2147483648) : n32 k + 1 = n32 (k + 1) := by
  have e1 : (1 : Int32).toInt = 1 := by decide
  rw [eq32, i32a (by rw [n32i (by omega), e1]; omega), n32i (by omega), n32i (by omega), e1]
  omega
theorem gd_p {α : Type} {c : Prop} [Decidable c] (k : Option α) (hc : c) : gd c k = k := if_pos hc
theorem up2_self {α : Type} (f : Nat → Nat → α) (a k : Nat) (v : α) : up2 f a k v a k = v := by simp [up2]
theorem up2_ne {α : Type} (f : Nat → Nat → α) (a k : Nat) (v : α) (b j : Nat) (h : b ≠ a) : up2 f a k v b j = f b j := by simp [up2, h]
theorem up2_nk {α : Type} (f : Nat → Nat → α) (a k : Nat) (v : α) (j : Nat) (h : j ≠ k) : up2 f a k v a j = f a j := by simp [up2, h]
/-! 'ok' told as a plain sentence -/
theorem oks {α : Type} {a : α} {K : α → Prop} : ok (some a) K ↔ K a := ⟨ok_some, ok_s⟩
theorem okg {α : Type} {c : Prop} [Decidable c] {k : Option α} {K : α → Prop} : ok (gd c k) K ↔ c ∧ ok k K := ⟨ok_gd, fun h => ok_g h.1 h.2⟩
theorem oki {α : Type} {c : Prop} [Decidable c] {x y : Option α} {K : α → Prop} : ok (if c then x else y) K ↔ (c → ok x K) ∧ (¬ c → ok y K) := ⟨fun h => ⟨fun hc => ok_it hc h, fun hc => ok_if hc h⟩, fun h => ok_i h.1 h.2⟩
/-- two loops, step by step alike -/
theorem lp_two {σ τ ρ ρ' : Type} {f : σ → Option (σ ⊕ ρ)} {g : τ → Option (τ ⊕ ρ')} (R : σ → τ → Prop) (μ : σ → Nat) (K : ρ → ρ' → Prop) (hb : ∀ s t, R s t → ok (f s) (fun x => ok (g t) (fun y => Sum.elim (fun s' => Sum.elim (fun t' => R s' t' ∧ μ s' < μ s) (fun _ => False) y) (fun r => Sum.elim (fun _ => False) (fun q => K r q) y) x))) : ∀ s t, R s t → ok (lp f s) (fun r => ok (lp g t) (K r)) := by
  have key : ∀ n s t, μ s < n → R s t → ok (lp f s) (fun r => ok (lp g t) (K r)) := by
    intro n
    induction n with
    | zero => intro s t h; omega
    | succ n ih =>
      intro s t hn hr
      obtain ⟨x, hx, y, hy, h⟩ := hb s t hr
      rw [lp_eq f s, hx, lp_eq g t, hy]
      cases x with
      | inl s' =>
        cases y with
        | inl t' => exact ih s' t' (by have := h.2; omega) h.1
        | inr q => exact absurd h id
      | inr r =>
        cases y with
        | inl t' => exact absurd h id
        | inr q => exact ok_s (ok_s h)
  intro s t h
  exact key (μ s + 1) s t (by omega) h
/-- a loop that is like another -/
theorem itr_same {σ τ ρ : Type} {f : σ → Option (σ ⊕ ρ)} {g : τ → Option (τ ⊕ ρ)} (R : σ → τ → Prop) (hb : ∀ s t, R s t → (∃ s' t', f s = some (.inl s') ∧ g t = some (.inl t') ∧ R s' t') ∨ (∃ r, f s = some (.inr r) ∧ g t = some (.inr r)) ∨ (f s = none ∧ g t = none)) : ∀ n s t, R s t → itr f n s = itr g n t := by
  intro n
  induction n with
  | zero => intro s t _; rfl
  | succ n ih =>
    intro s t hr
    rcases hb s t hr with ⟨s', t', h1, h2, h3⟩ | ⟨r, h1, h2⟩ | ⟨h1, h2⟩
    · simp only [itr, h1, h2]
      exact ih s' t' h3
    · simp only [itr, h1, h2]
    · simp only [itr, h1, h2]
theorem lp_same {σ τ ρ : Type} {f : σ → Option (σ ⊕ ρ)} {g : τ → Option (τ ⊕ ρ)} (R : σ → τ → Prop) (hb : ∀ s t, R s t → (∃ s' t', f s = some (.inl s') ∧ g t = some (.inl t') ∧ R s' t') ∨ (∃ r, f s = some (.inr r) ∧ g t = some (.inr r)) ∨ (f s = none ∧ g t = none)) {s : σ} {t : τ} (h : R s t) : lp f s = lp g t := by
  have hi := fun n => itr_same R hb n s t h
  cases hf : lp f s with
  | some r =>
    obtain ⟨n, hn⟩ := lp_some hf
    rw [hi n] at hn
    exact (lp_of hn).symm
  | none =>
    cases hg : lp g t with
    | none => rfl
    | some q =>
      obtain ⟨n, hn⟩ := lp_some hg
      rw [← hi n] at hn
      rw [lp_of hn] at hf
      cases hf
/-! branches, told in numbers -/
theorem ok_ib {α : Type} {c : Prop} [Decidable c] {x y : Option α} {K : α → Prop} (h1 : ¬ c → ok x K) (h2 : c → ok y K) : ok (if bi c = 0 then x else y) K := ok_i (fun h => h1 (bi0.mp h)) (fun h => h2 (Classical.not_not.mp fun k => h (bi0.mpr k)))
theorem ok_lt {α : Type} {a b : Int32} {x y : Option α} {K : α → Prop} (h1 : a.toInt < b.toInt → ok x K) (h2 : b.toInt ≤ a.toInt → ok y K) : ok (if a < b then x else y) K := ok_i (fun h => h1 (lt32.mp h)) (fun h => h2 (Int.not_lt.mp fun k => h (lt32.mpr k)))
theorem ok_le {α : Type} {a b : Int32} {x y : Option α} {K : α → Prop} (h1 : a.toInt ≤ b.toInt → ok x K) (h2 : b.toInt < a.toInt → ok y K) : ok (if a ≤ b then x else y) K := ok_i (fun h => h1 (le32.mp h)) (fun h => h2 (Int.not_le.mp fun k => h (le32.mpr k)))
theorem ok_iq {α : Type} {a b : Int32} {x y : Option α} {K : α → Prop} (h1 : a.toInt = b.toInt → ok x K) (h2 : a.toInt ≠ b.toInt → ok y K) : ok (if a = b then x else y) K := ok_i (fun h => h1 (eq32.mp h)) (fun h => h2 fun k => h (eq32.mpr k))
theorem ok_lt6 {α : Type} {a b : Int64} {x y : Option α} {K : α → Prop} (h1 : a.toInt < b.toInt → ok x K) (h2 : b.toInt ≤ a.toInt → ok y K) : ok (if a < b then x else y) K := ok_i (fun h => h1 (lt64.mp h)) (fun h => h2 (Int.not_lt.mp fun k => h (lt64.mpr k)))
theorem ok_le6 {α : Type} {a b : Int64} {x y : Option α} {K : α → Prop} (h1 : a.toInt ≤ b.toInt → ok x K) (h2 : b.toInt < a.toInt → ok y K) : ok (if a ≤ b then x else y) K := ok_i (fun h => h1 (le64.mp h)) (fun h => h2 (Int.not_le.mp fun k => h (le64.mpr k)))
theorem ok_iq6 {α : Type} {a b : Int64} {x y : Option α} {K : α → Prop} (h1 : a.toInt = b.toInt → ok x K) (h2 : a.toInt ≠ b.toInt → ok y K) : ok (if a = b then x else y) K := ok_i (fun h => h1 (eq64.mp h)) (fun h => h2 fun k => h (eq64.mpr k))
theorem up2_lit {α : Type} (f : Nat → Nat → α) (a k : Nat) (v : α) (b j : Nat) : up2 f a k v b j = if b = a ∧ j = k then v else f b j := rfl
