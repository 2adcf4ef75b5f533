/-! ===== turned functions: answers that may be wanting, loops ===== -/
def ok {α : Type} (o : Option α) (K : α → Prop) : Prop := ∃ a, o = some a ∧ K a
theorem ok_some {α : Type} {a : α} {K : α → Prop} (h : ok (some a) K) : K a := by
  obtain ⟨b, hb, hk⟩ := h
  cases hb
  exact hk
theorem ok_it {α : Type} {c : Prop} [Decidable c] {x y : Option α} {K : α → Prop} (hc : c) (h : ok (if c then x else y) K) : ok x K := by rwa [if_pos hc] at h
theorem ok_if {α : Type} {c : Prop} [Decidable c] {x y : Option α} {K : α → Prop} (hc : ¬ c) (h : ok (if c then x else y) K) : ok y K := by rwa [if_neg hc] at h
def gd {α : Type} (c : Prop) [Decidable c] (k : Option α) : Option α := if c then k else none
theorem ok_gd {α : Type} {c : Prop} [Decidable c] {k : Option α} {K : α → Prop} (h : ok (gd c k) K) : c ∧ ok k K := by
  unfold gd at h
  by_cases hc : c
  · rw [if_pos hc] at h
    exact ⟨hc, h⟩
  · rw [if_neg hc] at h
    obtain ⟨_, hb, -⟩ := h
    cases hb
theorem ok_bind {α β : Type} {o : Option α} {f : α → Option β} {K : β → Prop} (h : ok (o.bind f) K) : ok o (fun a => ok (f a) K) := by
  obtain ⟨b, hb, hk⟩ := h
  cases o with
  | none => cases hb
  | some a => exact ⟨a, rfl, b, hb, hk⟩
theorem ok_map {α β : Type} {o : Option α} {f : α → β} {K : β → Prop} (h : ok (o.map f) K) : ok o (fun a => K (f a)) := by
  obtain ⟨b, hb, hk⟩ := h
  cases o with
  | none => cases hb
  | some a =>
    cases hb
    exact ⟨a, rfl, hk⟩
theorem ok_mono {α : Type} {o : Option α} {K K' : α → Prop} (h : ok o K) (hk : ∀ a, K a → K' a) : ok o K' := by
  obtain ⟨a, ha, h⟩ := h
  exact ⟨a, ha, hk a h⟩
def mo {α β : Type} (o : Option α) (x : β) (y : α → β) : β := match o with
  | none => x
  | some a => y a
/-- n steps of a loop: a step goes on with a state, or ends with an answer -/
def itr {σ ρ : Type} (f : σ → Option (σ ⊕ ρ)) : Nat → σ → Option ρ
  | 0, _ => none
  | n + 1, s => match f s with
    | none => none
    | some (.inl s') => itr f n s'
    | some (.inr r) => some r
theorem itr_more {σ ρ : Type} {f : σ → Option (σ ⊕ ρ)} : ∀ {n : Nat} {s : σ} {r : ρ}, itr f n s = some r → ∀ k, itr f (n + k) s = some r
  | 0, _, _, h, _ => by cases h
  | n + 1, s, r, h, k => by
    rw [Nat.add_right_comm]
    unfold itr at h ⊢
    cases hf : f s with
    | none => rw [hf] at h; cases h
    | some x =>
      rw [hf] at h
      cases x with
      | inl s' => exact itr_more h k
      | inr r' => exact h
noncomputable def lp {σ ρ : Type} (f : σ → Option (σ ⊕ ρ)) (s : σ) : Option ρ := @dite (Option ρ) (∃ n r, itr f n s = some r) (Classical.propDecidable _) (fun h => itr f h.choose s) (fun _ => none)
theorem lp_of {σ ρ : Type} {f : σ → Option (σ ⊕ ρ)} {n : Nat} {s : σ} {r : ρ} (h : itr f n s = some r) : lp f s = some r := by
  unfold lp
  have hx : ∃ n r, itr f n s = some r := ⟨n, r, h⟩
  rw [dif_pos hx]
  obtain ⟨r', hr'⟩ := hx.choose_spec
  have h1 := itr_more h hx.choose
  have h2 := itr_more hr' n
  rw [Nat.add_comm] at h1
  rw [h1] at h2
  rw [hr', h2]
theorem lp_some {σ ρ : Type} {f : σ → Option (σ ⊕ ρ)} {s : σ} {r : ρ} (h : lp f s = some r) : ∃ n, itr f n s = some r := by
  unfold lp at h
  by_cases hx : ∃ n r, itr f n s = some r
  · rw [dif_pos hx] at h
    exact ⟨_, h⟩
  · rw [dif_neg hx] at h
    cases h
/-- one step of the loop -/
theorem lp_eq {σ ρ : Type} (f : σ → Option (σ ⊕ ρ)) (s : σ) : lp f s = (f s).bind (fun x => match x with | .inl s' => lp f s' | .inr r => some r) := by
  cases hf : f s with
  | none =>
    show lp f s = none
    cases hl : lp f s with
    | none => rfl
    | some r =>
      obtain ⟨n, hn⟩ := lp_some hl
      cases n with
      | zero => cases hn
      | succ n => unfold itr at hn; rw [hf] at hn; cases hn
  | some x =>
    cases x with
    | inr r =>
      show lp f s = some r
      exact lp_of (n := 1) (by unfold itr; rw [hf])
    | inl s' =>
      show lp f s = lp f s'
      cases hl : lp f s' with
      | some r =>
        obtain ⟨n, hn⟩ := lp_some hl
        exact lp_of (n := n + 1) (by unfold itr; rw [hf]; exact hn)
      | none =>
        cases hl2 : lp f s with
        | none => rfl
        | some r =>
          obtain ⟨n, hn⟩ := lp_some hl2
          cases n with
          | zero => cases hn
          | succ n =>
            unfold itr at hn
            rw [hf] at hn
            rw [lp_of hn] at hl
            cases hl
/-- what holds at every head of the loop, if it comes to its end -/
theorem lp_J {σ ρ : Type} {f : σ → Option (σ ⊕ ρ)} {G : σ → Prop} {K : ρ → Prop} (hb : ∀ s, ok (f s) (fun x => Sum.elim G K x) → G s) (s : σ) (h : ok (lp f s) K) : G s := by
  obtain ⟨r, hr, hk⟩ := h
  obtain ⟨n, hn⟩ := lp_some hr
  clear hr
  induction n generalizing s with
  | zero => cases hn
  | succ n ih =>
    unfold itr at hn
    cases hf : f s with
    | none => rw [hf] at hn; cases hn
    | some x =>
      rw [hf] at hn
      refine hb s ⟨x, hf, ?_⟩
      cases x with
      | inl s' => exact ih s' hn
      | inr r' => cases hn; exact hk
/-- a loop with an invariant and a measure comes to its end -/
theorem lp_inv {σ ρ : Type} {f : σ → Option (σ ⊕ ρ)} (P : σ → Prop) (μ : σ → Nat) (K : ρ → Prop) (hb : ∀ s, P s → ok (f s) (fun x => Sum.elim (fun s' => P s' ∧ μ s' < μ s) K x)) : ∀ s, P s → ok (lp f s) K := by
  have key : ∀ n s, μ s < n → P s → ok (lp f s) K := by
    intro n
    induction n with
    | zero => intro s h; omega
    | succ n ih =>
      intro s hn hp
      obtain ⟨x, hx, hk⟩ := hb s hp
      rw [lp_eq, hx]
      cases x with
      | inl s' => exact ih s' (by have := hk.2; omega) hk.1
      | inr r => exact ⟨r, rfl, hk⟩
  exact fun s hp => key (μ s + 1) s (Nat.lt_succ_self _) hp
/-! ===== references that stay ===== -/
def RCt : List (List (Option Nat)) := [[some 1, some 6, some 14, some 15, some 17, some 21, some 25, some 30, some 39, none],
  [some 2, some 3, some 4, some 5, none, none],
  [],
  [],
  [],
  [],
  [some 1, some 7, some 8, some 9, some 10, some 11, some 12, some 13, none, none],
  [],
  [],
  [],
  [],
  [],
  [],
  [],
  [none, none, none, none, none, none, none, none, none, none, none],
  [some 16, none, none],
  [],
  [some 18, some 19, some 20, none, none, none, none],
  [],
  [],
  [],
  [some 22, some 23, some 24, none, none, none, none, none],
  [],
  [],
  [],
  [some 26, some 27, some 28, some 29],
  [],
  [],
  [],
  [],
  [some 6, some 1, some 14, some 17, some 38, some 31, some 32, some 33, some 34, some 35, some 36, some 37, none, none],
  [],
  [],
  [],
  [],
  [],
  [],
  [],
  [some 14, none, none, none, none, none, none, none, none],
  [some 21, some 30, some 17, some 14, some 40, some 41, some 42, some 43, some 44, some 45, some 46, some 47, some 48, none, none, none],
  [],
  [],
  [],
  [],
  [],
  [],
  [],
  [],
  [],
  [some 50, some 51, some 52, some 53, none, none, some 54, some 55, some 56, some 57, some 58, none, some 59, none, some 60, none, none, none, none, none, none, none, none, none, some 61, some 62, some 63, some 64, some 65, some 66, some 67, none, none, some 68, none, some 69, some 70, none, none, none, none, none, none, none, none, none, none, none, some 71, none, none, some 72, none, some 73, some 74, some 75, none, some 76, none, none, none, none, none, none, none, some 77, some 78, none, some 79, some 80, none, some 81, some 82, none, none, some 83, some 84, some 85],
  [],
  [],
  [],
  [],
  [],
  [],
  [],
  [],
  [],
  [],
  [],
  [],
  [],
  [],
  [],
  [],
  [],
  [],
  [],
  [],
  [],
  [],
  [],
  [],
  [],
  [],
  [],
  [],
  [],
  [],
  [],
  [],
  [],
  [],
  [],
  []]
/-- the references, with n cells: the first 86 cells', the row of solids, the solids' own -/
def RC (n : Nat) : xm_R := fun a k => if a < 86 then (if a = 16 then (if k < 4 ∧ 86 + 8 * k + 8 ≤ n then some (86 + 8 * k) else none) else (RCt.getD a []).getD k none) else if (a - 86) % 8 = 0 ∧ a + 8 ≤ n ∧ 2 ≤ k ∧ k ≤ 8 then some (a + k - 1) else none
/-- a is a solid's cell -/
abbrev xm_sd (n a : Nat) : Prop := 86 ≤ a ∧ (a - 86) % 8 = 0 ∧ a + 8 ≤ n
theorem xm_in {a n : Nat} (h : Nat.ble (a + 1) 86 = true) (hn : 86 ≤ n) : a < n := Nat.lt_of_lt_of_le (Nat.le_of_ble_eq_true h) hn
theorem xm_sdR {n a k : Nat} (hs : xm_sd n a) (h1 : 2 ≤ k) (h2 : k ≤ 8) : RC n a k = some (a + k - 1) := by
  unfold RC
  rw [if_neg (by have := hs.1; omega), if_pos ⟨hs.2.1, hs.2.2, h1, h2⟩]
theorem xm_sdL {n a : Nat} (hs : xm_sd n a) (j : Nat) (hj : j < 8) {q : Nat × Nat} (hq : xm_sol.getD j (200, 0) = q) : xm_lay (a + j) = q := by
  unfold xm_lay
  rw [if_neg (by have := hs.1; omega), ← hq]
  congr 1
  have := hs.2.1
  have := hs.1
  omega
theorem xm_sdn {n a : Nat} (hs : xm_sd n a) (j : Nat) (hj : j < 8) : a + j < n := by
  have := hs.2.2
  omega
section XQ
variable {d : Nat} {M : xm_M} {pc : Nat} {Ls : List (Nat × Value)} {S : List Value} {I : xm_I} {L : xm_L} {R : xm_R} {n kc ks : Nat} {Q : Option Value → xm_H → Prop} {i index a c k : Nat}
theorem q_geti {fin : Bool} (hd : M.2.2.2.2[i]? = some (pc, .getfield index, 3)) (hf : xm_Fl M.1.cls index c k .int fin) (ha : a < n) (hl0 : xm_lay a = (c, 0)) (kk : xm_J d M (pc + 3) Ls (.int (I a k) :: S) (I, L, R, n) kc ks Q) : xm_J d M (pc) Ls (.ref a :: S) (I, L, R, n) kc ks Q := r_geti (h := (I, L, R, n)) hd hf ha hl0 kk
theorem q_getz {fin : Bool} (hd : M.2.2.2.2[i]? = some (pc, .getfield index, 3)) (hf : xm_Fl M.1.cls index c k .boolean fin) (ha : a < n) (hl0 : xm_lay a = (c, 0)) (kk : xm_J d M (pc + 3) Ls (.int (I a k) :: S) (I, L, R, n) kc ks Q) : xm_J d M (pc) Ls (.ref a :: S) (I, L, R, n) kc ks Q := r_getz (h := (I, L, R, n)) hd hf ha hl0 kk
theorem q_getl {fin : Bool} (hd : M.2.2.2.2[i]? = some (pc, .getfield index, 3)) (hf : xm_Fl M.1.cls index c k .long fin) (ha : a < n) (hl0 : xm_lay a = (c, 0)) (kk : xm_J d M (pc + 3) Ls (.long (L a k) :: S) (I, L, R, n) kc ks Q) : xm_J d M (pc) Ls (.ref a :: S) (I, L, R, n) kc ks Q := r_getl (h := (I, L, R, n)) hd hf ha hl0 kk
theorem q_getr {ty : FieldType} {fin : Bool} {b : Nat} (hd : M.2.2.2.2[i]? = some (pc, .getfield index, 3)) (hf : xm_Fl M.1.cls index c k ty fin) (hty : ty.isReference = true) (ha : a < n) (hl0 : xm_lay a = (c, 0)) (hb : R a k = some b) (kk : xm_J d M (pc + 3) Ls (.ref b :: S) (I, L, R, n) kc ks Q) : xm_J d M (pc) Ls (.ref a :: S) (I, L, R, n) kc ks Q := r_getr (h := (I, L, R, n)) hd hf (by cases ty <;> first | exact Or.inl ⟨_, rfl⟩ | exact Or.inr ⟨_, rfl⟩ | cases hty) ha hl0 hb kk
theorem q_puti {x : Int32} {fin : Bool} (hd : M.2.2.2.2[i]? = some (pc, .putfield index, 3)) (hf : xm_Fl M.1.cls index c k .int fin) (hfin : fin = true → M.1.name = "<init>" ∧ (vwCl[c]?).map (fun q => q.1) = some M.1.cls) (ha : a < n) (hl0 : xm_lay a = (c, 0)) (kk : xm_J d M (pc + 3) Ls (S) (up2 I a k x, L, R, n) kc ks Q) : xm_J d M (pc) Ls (.int x :: .ref a :: S) (I, L, R, n) kc ks Q := r_puti (h := (I, L, R, n)) hd hf hfin ha hl0 kk
theorem q_putz {x : Int32} {fin : Bool} (hd : M.2.2.2.2[i]? = some (pc, .putfield index, 3)) (hf : xm_Fl M.1.cls index c k .boolean fin) (hfin : fin = true → M.1.name = "<init>" ∧ (vwCl[c]?).map (fun q => q.1) = some M.1.cls) (ha : a < n) (hl0 : xm_lay a = (c, 0)) (hx : x = 0 ∨ x = 1) (kk : xm_J d M (pc + 3) Ls (S) (up2 I a k x, L, R, n) kc ks Q) : xm_J d M (pc) Ls (.int x :: .ref a :: S) (I, L, R, n) kc ks Q := r_putz (h := (I, L, R, n)) hd hf hfin ha hl0 hx kk
theorem q_putl {x : Int64} {fin : Bool} (hd : M.2.2.2.2[i]? = some (pc, .putfield index, 3)) (hf : xm_Fl M.1.cls index c k .long fin) (hfin : fin = true → M.1.name = "<init>" ∧ (vwCl[c]?).map (fun q => q.1) = some M.1.cls) (ha : a < n) (hl0 : xm_lay a = (c, 0)) (kk : xm_J d M (pc + 3) Ls (S) (I, up2 L a k x, R, n) kc ks Q) : xm_J d M (pc) Ls (.long x :: .ref a :: S) (I, L, R, n) kc ks Q := r_putl (h := (I, L, R, n)) hd hf hfin ha hl0 kk
theorem q_iaload {x : Int32} {N : Nat} (hd : M.2.2.2.2[i]? = some (pc, .iaload, 1)) (ha : a < n) (hl0 : xm_lay a = (100, N)) (hin : 0 ≤ x.toInt ∧ x.toInt < (N : Int)) (kk : xm_J d M (pc + 1) Ls (.int (I a x.toNatClampNeg) :: S) (I, L, R, n) kc ks Q) : xm_J d M (pc) Ls (.int x :: .ref a :: S) (I, L, R, n) kc ks Q := r_iaload (h := (I, L, R, n)) hd ha hl0 (vp_in_iff.mpr hin) kk
theorem q_baload {x : Int32} {N : Nat} (hd : M.2.2.2.2[i]? = some (pc, .baload, 1)) (ha : a < n) (hl0 : xm_lay a = (101, N)) (hin : 0 ≤ x.toInt ∧ x.toInt < (N : Int)) (kk : xm_J d M (pc + 1) Ls (.int (I a x.toNatClampNeg) :: S) (I, L, R, n) kc ks Q) : xm_J d M (pc) Ls (.int x :: .ref a :: S) (I, L, R, n) kc ks Q := r_baload (h := (I, L, R, n)) hd ha hl0 (vp_in_iff.mpr hin) kk
theorem q_laload {x : Int32} {N : Nat} (hd : M.2.2.2.2[i]? = some (pc, .laload, 1)) (ha : a < n) (hl0 : xm_lay a = (102, N)) (hin : 0 ≤ x.toInt ∧ x.toInt < (N : Int)) (kk : xm_J d M (pc + 1) Ls (.long (L a x.toNatClampNeg) :: S) (I, L, R, n) kc ks Q) : xm_J d M (pc) Ls (.int x :: .ref a :: S) (I, L, R, n) kc ks Q := r_laload (h := (I, L, R, n)) hd ha hl0 (vp_in_iff.mpr hin) kk
theorem q_aaload {x : Int32} {N : Nat} (hd : M.2.2.2.2[i]? = some (pc, .aaload, 1)) (ha : a < n) (hl0 : xm_lay a = (103, N)) (hin : 0 ≤ x.toInt ∧ x.toInt < (N : Int)) (kk : xm_J d M (pc + 1) Ls (va_rf (R a x.toNatClampNeg) :: S) (I, L, R, n) kc ks Q) : xm_J d M (pc) Ls (.int x :: .ref a :: S) (I, L, R, n) kc ks Q := r_aaload (h := (I, L, R, n)) hd ha hl0 (vp_in_iff.mpr hin) kk
theorem q_ialoadT {x : Int32} (hd : M.2.2.2.2[i]? = some (pc, .iaload, 1)) (hin : 0 ≤ x.toInt ∧ x.toInt < (8 : Int)) (kk : xm_J d M (pc + 1) Ls (.int (xm_tp x.toNatClampNeg) :: S) (I, L, R, n) kc ks Q) : xm_J d M (pc) Ls (.int x :: .ref 1000001 :: S) (I, L, R, n) kc ks Q := r_ialoadT (h := (I, L, R, n)) hd (vp_in_iff.mpr hin) kk
theorem q_iastore {x v : Int32} {N : Nat} (hd : M.2.2.2.2[i]? = some (pc, .iastore, 1)) (ha : a < n) (hl0 : xm_lay a = (100, N)) (hin : 0 ≤ x.toInt ∧ x.toInt < (N : Int)) (kk : xm_J d M (pc + 1) Ls (S) (up2 I a x.toNatClampNeg v, L, R, n) kc ks Q) : xm_J d M (pc) Ls (.int v :: .int x :: .ref a :: S) (I, L, R, n) kc ks Q := r_iastore (h := (I, L, R, n)) hd ha hl0 (vp_in_iff.mpr hin) kk
theorem q_bastore {x v : Int32} {N : Nat} (hd : M.2.2.2.2[i]? = some (pc, .bastore, 1)) (ha : a < n) (hl0 : xm_lay a = (101, N)) (hin : 0 ≤ x.toInt ∧ x.toInt < (N : Int)) (kk : xm_J d M (pc + 1) Ls (S) (up2 I a x.toNatClampNeg (v &&& 1), L, R, n) kc ks Q) : xm_J d M (pc) Ls (.int v :: .int x :: .ref a :: S) (I, L, R, n) kc ks Q := r_bastore (h := (I, L, R, n)) hd ha hl0 (vp_in_iff.mpr hin) kk
theorem q_lastore {x : Int32} {v : Int64} {N : Nat} (hd : M.2.2.2.2[i]? = some (pc, .lastore, 1)) (ha : a < n) (hl0 : xm_lay a = (102, N)) (hin : 0 ≤ x.toInt ∧ x.toInt < (N : Int)) (kk : xm_J d M (pc + 1) Ls (S) (I, up2 L a x.toNatClampNeg v, R, n) kc ks Q) : xm_J d M (pc) Ls (.long v :: .int x :: .ref a :: S) (I, L, R, n) kc ks Q := r_lastore (h := (I, L, R, n)) hd ha hl0 (vp_in_iff.mpr hin) kk
theorem q_iinc {j k0 : Nat} {z : Int} {x w : Int32} {Ls' : List (Nat × Value)} {h : xm_H} (hd : M.2.2.2.2[i]? = some (pc, .iinc j z, 3)) (hz : Int32.ofInt z = w) (hl0 : Ls[k0]? = some (j, .int x)) (hn : j < M.2.2.1) (hs : xm_s1 Ls j (.int (x + w)) = Ls') (k : xm_J d M (pc + 3) Ls' S h kc ks Q) : xm_J d M pc Ls S h kc ks Q := r_iinc hd hl0 (by rw [hz]) hn hs k
end XQ
/-! ===== calls of turned methods ===== -/
def pI {α : Type} (f : α → Int32) (g : α → xm_H) (K : α → Prop) : Option Value → xm_H → Prop := fun v h => ∃ p, v = some (.int (f p)) ∧ h = g p ∧ K p
def pL {α : Type} (f : α → Int64) (g : α → xm_H) (K : α → Prop) : Option Value → xm_H → Prop := fun v h => ∃ p, v = some (.long (f p)) ∧ h = g p ∧ K p
def pF {α : Type} (f : α → UInt32) (g : α → xm_H) (K : α → Prop) : Option Value → xm_H → Prop := fun v h => ∃ p r, v = some (.float r) ∧ alike32 r (f p) = true ∧ h = g p ∧ K p
def pR {α : Type} (f : α → Option Nat) (g : α → xm_H) (K : α → Prop) : Option Value → xm_H → Prop := fun v h => ∃ p, v = some (va_rf (f p)) ∧ h = g p ∧ K p
def pV {α : Type} (g : α → xm_H) (K : α → Prop) : Option Value → xm_H → Prop := fun v h => ∃ p, v = none ∧ h = g p ∧ K p
/-- the words of a method that is called on an object of class c; of a static one; the links of a pool -/
def xm_Vm (M : xm_M) (np c : Nat) : Prop := xm_ok M np ∧ c < 13 ∧ ∃ q : vw_C, vwCl[c]? = some q ∧ Cond.instanceMethod M.1 ∈ xm_tb ∧ Cond.selects q.1 M.1 M.1 ∈ xm_tb
def xm_Sm (M : xm_M) (np : Nat) : Prop := xm_ok M np ∧ Cond.static M.1 ∈ xm_tb
section XK
variable {d : Nat} {M : xm_M} {pc : Nat} {Ls : List (Nat × Value)} {h : xm_H} {kc ks : Nat} {Q : Option Value → xm_H → Prop} {i index a c k : Nat} {M' : xm_M} {np d' : Nat} {rest : List Value} {α : Type} {g : α → xm_H} {K : α → Prop}
theorem c_N1L {v1 : Value} {f : α → Int64} {host : String} (hd : M.2.2.2.2[i]? = some (pc, .invokestatic index, 3)) (hk : xm_Sm M' np) (hw : Cond.methodLinkNest M.1.cls index M'.1 host ∈ xm_tb) (hC : xm_C d' M' [v1] h 0 0 (pL f g K)) (hdd : d' + 1 ≤ d) (hn : 1 = np) (hsum : (rest.map fun v => v.category).sum ≤ 8) (kk : ∀ p : α, K p → xm_J d M (pc + 3) Ls (.long (f p) :: rest) (g p) kc ks Q) : xm_J d M pc Ls (v1 :: rest) h kc ks Q := r_callSN (As := [v1]) (rest := rest) hd hk.1 hw hk.2 hC hdd hn hsum rfl rfl (fun v h2 hq => by obtain ⟨p, rfl, rfl, hp⟩ := hq; exact kk p hp)
theorem c_N2I {v1 v2 : Value} {f : α → Int32} {host : String} (hd : M.2.2.2.2[i]? = some (pc, .invokestatic index, 3)) (hk : xm_Sm M' np) (hw : Cond.methodLinkNest M.1.cls index M'.1 host ∈ xm_tb) (hC : xm_C d' M' [v1, v2] h 0 0 (pI f g K)) (hdd : d' + 1 ≤ d) (hn : 2 = np) (hsum : (rest.map fun v => v.category).sum ≤ 8) (kk : ∀ p : α, K p → xm_J d M (pc + 3) Ls (.int (f p) :: rest) (g p) kc ks Q) : xm_J d M pc Ls (v2 :: v1 :: rest) h kc ks Q := r_callSN (As := [v1, v2]) (rest := rest) hd hk.1 hw hk.2 hC hdd hn hsum rfl rfl (fun v h2 hq => by obtain ⟨p, rfl, rfl, hp⟩ := hq; exact kk p hp)
theorem c_N2L {v1 v2 : Value} {f : α → Int64} {host : String} (hd : M.2.2.2.2[i]? = some (pc, .invokestatic index, 3)) (hk : xm_Sm M' np) (hw : Cond.methodLinkNest M.1.cls index M'.1 host ∈ xm_tb) (hC : xm_C d' M' [v1, v2] h 0 0 (pL f g K)) (hdd : d' + 1 ≤ d) (hn : 2 = np) (hsum : (rest.map fun v => v.category).sum ≤ 8) (kk : ∀ p : α, K p → xm_J d M (pc + 3) Ls (.long (f p) :: rest) (g p) kc ks Q) : xm_J d M pc Ls (v2 :: v1 :: rest) h kc ks Q := r_callSN (As := [v1, v2]) (rest := rest) hd hk.1 hw hk.2 hC hdd hn hsum rfl rfl (fun v h2 hq => by obtain ⟨p, rfl, rfl, hp⟩ := hq; exact kk p hp)
theorem c_N3I {v1 v2 v3 : Value} {f : α → Int32} {host : String} (hd : M.2.2.2.2[i]? = some (pc, .invokestatic index, 3)) (hk : xm_Sm M' np) (hw : Cond.methodLinkNest M.1.cls index M'.1 host ∈ xm_tb) (hC : xm_C d' M' [v1, v2, v3] h 0 0 (pI f g K)) (hdd : d' + 1 ≤ d) (hn : 3 = np) (hsum : (rest.map fun v => v.category).sum ≤ 8) (kk : ∀ p : α, K p → xm_J d M (pc + 3) Ls (.int (f p) :: rest) (g p) kc ks Q) : xm_J d M pc Ls (v3 :: v2 :: v1 :: rest) h kc ks Q := r_callSN (As := [v1, v2, v3]) (rest := rest) hd hk.1 hw hk.2 hC hdd hn hsum rfl rfl (fun v h2 hq => by obtain ⟨p, rfl, rfl, hp⟩ := hq; exact kk p hp)
theorem c_S1I {v1 : Value} {f : α → Int32} (hd : M.2.2.2.2[i]? = some (pc, .invokestatic index, 3)) (hk : xm_Sm M' np) (hw : Cond.methodLink M.1.cls index M'.1 ∈ xm_tb) (hC : xm_C d' M' [v1] h 0 0 (pI f g K)) (hdd : d' + 1 ≤ d) (hn : 1 = np) (hsum : (rest.map fun v => v.category).sum ≤ 8) (kk : ∀ p : α, K p → xm_J d M (pc + 3) Ls (.int (f p) :: rest) (g p) kc ks Q) : xm_J d M pc Ls (v1 :: rest) h kc ks Q := r_callS (As := [v1]) (rest := rest) hd hk.1 hw hk.2 hC hdd hn hsum rfl rfl (fun v h2 hq => by obtain ⟨p, rfl, rfl, hp⟩ := hq; exact kk p hp)
theorem c_S1L {v1 : Value} {f : α → Int64} (hd : M.2.2.2.2[i]? = some (pc, .invokestatic index, 3)) (hk : xm_Sm M' np) (hw : Cond.methodLink M.1.cls index M'.1 ∈ xm_tb) (hC : xm_C d' M' [v1] h 0 0 (pL f g K)) (hdd : d' + 1 ≤ d) (hn : 1 = np) (hsum : (rest.map fun v => v.category).sum ≤ 8) (kk : ∀ p : α, K p → xm_J d M (pc + 3) Ls (.long (f p) :: rest) (g p) kc ks Q) : xm_J d M pc Ls (v1 :: rest) h kc ks Q := r_callS (As := [v1]) (rest := rest) hd hk.1 hw hk.2 hC hdd hn hsum rfl rfl (fun v h2 hq => by obtain ⟨p, rfl, rfl, hp⟩ := hq; exact kk p hp)
theorem c_S2I {v1 v2 : Value} {f : α → Int32} (hd : M.2.2.2.2[i]? = some (pc, .invokestatic index, 3)) (hk : xm_Sm M' np) (hw : Cond.methodLink M.1.cls index M'.1 ∈ xm_tb) (hC : xm_C d' M' [v1, v2] h 0 0 (pI f g K)) (hdd : d' + 1 ≤ d) (hn : 2 = np) (hsum : (rest.map fun v => v.category).sum ≤ 8) (kk : ∀ p : α, K p → xm_J d M (pc + 3) Ls (.int (f p) :: rest) (g p) kc ks Q) : xm_J d M pc Ls (v2 :: v1 :: rest) h kc ks Q := r_callS (As := [v1, v2]) (rest := rest) hd hk.1 hw hk.2 hC hdd hn hsum rfl rfl (fun v h2 hq => by obtain ⟨p, rfl, rfl, hp⟩ := hq; exact kk p hp)
theorem c_S2L {v1 v2 : Value} {f : α → Int64} (hd : M.2.2.2.2[i]? = some (pc, .invokestatic index, 3)) (hk : xm_Sm M' np) (hw : Cond.methodLink M.1.cls index M'.1 ∈ xm_tb) (hC : xm_C d' M' [v1, v2] h 0 0 (pL f g K)) (hdd : d' + 1 ≤ d) (hn : 2 = np) (hsum : (rest.map fun v => v.category).sum ≤ 8) (kk : ∀ p : α, K p → xm_J d M (pc + 3) Ls (.long (f p) :: rest) (g p) kc ks Q) : xm_J d M pc Ls (v2 :: v1 :: rest) h kc ks Q := r_callS (As := [v1, v2]) (rest := rest) hd hk.1 hw hk.2 hC hdd hn hsum rfl rfl (fun v h2 hq => by obtain ⟨p, rfl, rfl, hp⟩ := hq; exact kk p hp)
theorem c_S3I {v1 v2 v3 : Value} {f : α → Int32} (hd : M.2.2.2.2[i]? = some (pc, .invokestatic index, 3)) (hk : xm_Sm M' np) (hw : Cond.methodLink M.1.cls index M'.1 ∈ xm_tb) (hC : xm_C d' M' [v1, v2, v3] h 0 0 (pI f g K)) (hdd : d' + 1 ≤ d) (hn : 3 = np) (hsum : (rest.map fun v => v.category).sum ≤ 8) (kk : ∀ p : α, K p → xm_J d M (pc + 3) Ls (.int (f p) :: rest) (g p) kc ks Q) : xm_J d M pc Ls (v3 :: v2 :: v1 :: rest) h kc ks Q := r_callS (As := [v1, v2, v3]) (rest := rest) hd hk.1 hw hk.2 hC hdd hn hsum rfl rfl (fun v h2 hq => by obtain ⟨p, rfl, rfl, hp⟩ := hq; exact kk p hp)
theorem c_S3L {v1 v2 v3 : Value} {f : α → Int64} (hd : M.2.2.2.2[i]? = some (pc, .invokestatic index, 3)) (hk : xm_Sm M' np) (hw : Cond.methodLink M.1.cls index M'.1 ∈ xm_tb) (hC : xm_C d' M' [v1, v2, v3] h 0 0 (pL f g K)) (hdd : d' + 1 ≤ d) (hn : 3 = np) (hsum : (rest.map fun v => v.category).sum ≤ 8) (kk : ∀ p : α, K p → xm_J d M (pc + 3) Ls (.long (f p) :: rest) (g p) kc ks Q) : xm_J d M pc Ls (v3 :: v2 :: v1 :: rest) h kc ks Q := r_callS (As := [v1, v2, v3]) (rest := rest) hd hk.1 hw hk.2 hC hdd hn hsum rfl rfl (fun v h2 hq => by obtain ⟨p, rfl, rfl, hp⟩ := hq; exact kk p hp)
theorem c_S4I {v1 v2 v3 v4 : Value} {f : α → Int32} (hd : M.2.2.2.2[i]? = some (pc, .invokestatic index, 3)) (hk : xm_Sm M' np) (hw : Cond.methodLink M.1.cls index M'.1 ∈ xm_tb) (hC : xm_C d' M' [v1, v2, v3, v4] h 0 0 (pI f g K)) (hdd : d' + 1 ≤ d) (hn : 4 = np) (hsum : (rest.map fun v => v.category).sum ≤ 8) (kk : ∀ p : α, K p → xm_J d M (pc + 3) Ls (.int (f p) :: rest) (g p) kc ks Q) : xm_J d M pc Ls (v4 :: v3 :: v2 :: v1 :: rest) h kc ks Q := r_callS (As := [v1, v2, v3, v4]) (rest := rest) hd hk.1 hw hk.2 hC hdd hn hsum rfl rfl (fun v h2 hq => by obtain ⟨p, rfl, rfl, hp⟩ := hq; exact kk p hp)
theorem c_V0I {f : α → Int32} (hd : M.2.2.2.2[i]? = some (pc, .invokevirtual index, 3)) (hk : xm_Vm M' np c) (hw : Cond.methodLink M.1.cls index M'.1 ∈ xm_tb) (hC : xm_C d' M' [.ref a] h 0 0 (pI f g K)) (hdd : d' + 1 ≤ d) (ha : a < h.2.2.2) (hla : xm_lay a = (c, 0)) (hn : 0 = np) (hsum : (rest.map fun v => v.category).sum ≤ 8) (kk : ∀ p : α, K p → xm_J d M (pc + 3) Ls (.int (f p) :: rest) (g p) kc ks Q) : xm_J d M pc Ls (.ref a :: rest) h kc ks Q := by
  obtain ⟨hk1, hk2, q, hk3, hk4, hk5⟩ := hk
  exact r_callV (As := []) (rest := rest) hd hk1 hw hk4 hk5 hk3 hC hdd ha hla hk2 hn hsum rfl rfl (fun v h2 hq => by obtain ⟨p, rfl, rfl, hp⟩ := hq; exact kk p hp)
theorem c_V0V  (hd : M.2.2.2.2[i]? = some (pc, .invokevirtual index, 3)) (hk : xm_Vm M' np c) (hw : Cond.methodLink M.1.cls index M'.1 ∈ xm_tb) (hC : xm_C d' M' [.ref a] h 0 0 (pV g K)) (hdd : d' + 1 ≤ d) (ha : a < h.2.2.2) (hla : xm_lay a = (c, 0)) (hn : 0 = np) (hsum : (rest.map fun v => v.category).sum ≤ 8) (kk : ∀ p : α, K p → xm_J d M (pc + 3) Ls (rest) (g p) kc ks Q) : xm_J d M pc Ls (.ref a :: rest) h kc ks Q := by
  obtain ⟨hk1, hk2, q, hk3, hk4, hk5⟩ := hk
  exact r_callV (As := []) (rest := rest) hd hk1 hw hk4 hk5 hk3 hC hdd ha hla hk2 hn hsum rfl rfl (fun v h2 hq => by obtain ⟨p, rfl, rfl, hp⟩ := hq; exact kk p hp)
theorem c_V1I {v1 : Value} {f : α → Int32} (hd : M.2.2.2.2[i]? = some (pc, .invokevirtual index, 3)) (hk : xm_Vm M' np c) (hw : Cond.methodLink M.1.cls index M'.1 ∈ xm_tb) (hC : xm_C d' M' [.ref a, v1] h 0 0 (pI f g K)) (hdd : d' + 1 ≤ d) (ha : a < h.2.2.2) (hla : xm_lay a = (c, 0)) (hn : 1 = np) (hsum : (rest.map fun v => v.category).sum ≤ 8) (kk : ∀ p : α, K p → xm_J d M (pc + 3) Ls (.int (f p) :: rest) (g p) kc ks Q) : xm_J d M pc Ls (v1 :: .ref a :: rest) h kc ks Q := by
  obtain ⟨hk1, hk2, q, hk3, hk4, hk5⟩ := hk
  exact r_callV (As := [v1]) (rest := rest) hd hk1 hw hk4 hk5 hk3 hC hdd ha hla hk2 hn hsum rfl rfl (fun v h2 hq => by obtain ⟨p, rfl, rfl, hp⟩ := hq; exact kk p hp)
theorem c_V1L {v1 : Value} {f : α → Int64} (hd : M.2.2.2.2[i]? = some (pc, .invokevirtual index, 3)) (hk : xm_Vm M' np c) (hw : Cond.methodLink M.1.cls index M'.1 ∈ xm_tb) (hC : xm_C d' M' [.ref a, v1] h 0 0 (pL f g K)) (hdd : d' + 1 ≤ d) (ha : a < h.2.2.2) (hla : xm_lay a = (c, 0)) (hn : 1 = np) (hsum : (rest.map fun v => v.category).sum ≤ 8) (kk : ∀ p : α, K p → xm_J d M (pc + 3) Ls (.long (f p) :: rest) (g p) kc ks Q) : xm_J d M pc Ls (v1 :: .ref a :: rest) h kc ks Q := by
  obtain ⟨hk1, hk2, q, hk3, hk4, hk5⟩ := hk
  exact r_callV (As := [v1]) (rest := rest) hd hk1 hw hk4 hk5 hk3 hC hdd ha hla hk2 hn hsum rfl rfl (fun v h2 hq => by obtain ⟨p, rfl, rfl, hp⟩ := hq; exact kk p hp)
theorem c_V1R {v1 : Value} {f : α → Option Nat} (hd : M.2.2.2.2[i]? = some (pc, .invokevirtual index, 3)) (hk : xm_Vm M' np c) (hw : Cond.methodLink M.1.cls index M'.1 ∈ xm_tb) (hC : xm_C d' M' [.ref a, v1] h 0 0 (pR f g K)) (hdd : d' + 1 ≤ d) (ha : a < h.2.2.2) (hla : xm_lay a = (c, 0)) (hn : 1 = np) (hsum : (rest.map fun v => v.category).sum ≤ 8) (kk : ∀ p : α, K p → xm_J d M (pc + 3) Ls (va_rf (f p) :: rest) (g p) kc ks Q) : xm_J d M pc Ls (v1 :: .ref a :: rest) h kc ks Q := by
  obtain ⟨hk1, hk2, q, hk3, hk4, hk5⟩ := hk
  exact r_callV (As := [v1]) (rest := rest) hd hk1 hw hk4 hk5 hk3 hC hdd ha hla hk2 hn hsum rfl rfl (fun v h2 hq => by obtain ⟨p, rfl, rfl, hp⟩ := hq; exact kk p hp)
theorem c_V1V {v1 : Value}  (hd : M.2.2.2.2[i]? = some (pc, .invokevirtual index, 3)) (hk : xm_Vm M' np c) (hw : Cond.methodLink M.1.cls index M'.1 ∈ xm_tb) (hC : xm_C d' M' [.ref a, v1] h 0 0 (pV g K)) (hdd : d' + 1 ≤ d) (ha : a < h.2.2.2) (hla : xm_lay a = (c, 0)) (hn : 1 = np) (hsum : (rest.map fun v => v.category).sum ≤ 8) (kk : ∀ p : α, K p → xm_J d M (pc + 3) Ls (rest) (g p) kc ks Q) : xm_J d M pc Ls (v1 :: .ref a :: rest) h kc ks Q := by
  obtain ⟨hk1, hk2, q, hk3, hk4, hk5⟩ := hk
  exact r_callV (As := [v1]) (rest := rest) hd hk1 hw hk4 hk5 hk3 hC hdd ha hla hk2 hn hsum rfl rfl (fun v h2 hq => by obtain ⟨p, rfl, rfl, hp⟩ := hq; exact kk p hp)
theorem c_V2I {v1 v2 : Value} {f : α → Int32} (hd : M.2.2.2.2[i]? = some (pc, .invokevirtual index, 3)) (hk : xm_Vm M' np c) (hw : Cond.methodLink M.1.cls index M'.1 ∈ xm_tb) (hC : xm_C d' M' [.ref a, v1, v2] h 0 0 (pI f g K)) (hdd : d' + 1 ≤ d) (ha : a < h.2.2.2) (hla : xm_lay a = (c, 0)) (hn : 2 = np) (hsum : (rest.map fun v => v.category).sum ≤ 8) (kk : ∀ p : α, K p → xm_J d M (pc + 3) Ls (.int (f p) :: rest) (g p) kc ks Q) : xm_J d M pc Ls (v2 :: v1 :: .ref a :: rest) h kc ks Q := by
  obtain ⟨hk1, hk2, q, hk3, hk4, hk5⟩ := hk
  exact r_callV (As := [v1, v2]) (rest := rest) hd hk1 hw hk4 hk5 hk3 hC hdd ha hla hk2 hn hsum rfl rfl (fun v h2 hq => by obtain ⟨p, rfl, rfl, hp⟩ := hq; exact kk p hp)
theorem c_V2L {v1 v2 : Value} {f : α → Int64} (hd : M.2.2.2.2[i]? = some (pc, .invokevirtual index, 3)) (hk : xm_Vm M' np c) (hw : Cond.methodLink M.1.cls index M'.1 ∈ xm_tb) (hC : xm_C d' M' [.ref a, v1, v2] h 0 0 (pL f g K)) (hdd : d' + 1 ≤ d) (ha : a < h.2.2.2) (hla : xm_lay a = (c, 0)) (hn : 2 = np) (hsum : (rest.map fun v => v.category).sum ≤ 8) (kk : ∀ p : α, K p → xm_J d M (pc + 3) Ls (.long (f p) :: rest) (g p) kc ks Q) : xm_J d M pc Ls (v2 :: v1 :: .ref a :: rest) h kc ks Q := by
  obtain ⟨hk1, hk2, q, hk3, hk4, hk5⟩ := hk
  exact r_callV (As := [v1, v2]) (rest := rest) hd hk1 hw hk4 hk5 hk3 hC hdd ha hla hk2 hn hsum rfl rfl (fun v h2 hq => by obtain ⟨p, rfl, rfl, hp⟩ := hq; exact kk p hp)
theorem c_V2V {v1 v2 : Value}  (hd : M.2.2.2.2[i]? = some (pc, .invokevirtual index, 3)) (hk : xm_Vm M' np c) (hw : Cond.methodLink M.1.cls index M'.1 ∈ xm_tb) (hC : xm_C d' M' [.ref a, v1, v2] h 0 0 (pV g K)) (hdd : d' + 1 ≤ d) (ha : a < h.2.2.2) (hla : xm_lay a = (c, 0)) (hn : 2 = np) (hsum : (rest.map fun v => v.category).sum ≤ 8) (kk : ∀ p : α, K p → xm_J d M (pc + 3) Ls (rest) (g p) kc ks Q) : xm_J d M pc Ls (v2 :: v1 :: .ref a :: rest) h kc ks Q := by
  obtain ⟨hk1, hk2, q, hk3, hk4, hk5⟩ := hk
  exact r_callV (As := [v1, v2]) (rest := rest) hd hk1 hw hk4 hk5 hk3 hC hdd ha hla hk2 hn hsum rfl rfl (fun v h2 hq => by obtain ⟨p, rfl, rfl, hp⟩ := hq; exact kk p hp)
theorem c_V3I {v1 v2 v3 : Value} {f : α → Int32} (hd : M.2.2.2.2[i]? = some (pc, .invokevirtual index, 3)) (hk : xm_Vm M' np c) (hw : Cond.methodLink M.1.cls index M'.1 ∈ xm_tb) (hC : xm_C d' M' [.ref a, v1, v2, v3] h 0 0 (pI f g K)) (hdd : d' + 1 ≤ d) (ha : a < h.2.2.2) (hla : xm_lay a = (c, 0)) (hn : 3 = np) (hsum : (rest.map fun v => v.category).sum ≤ 8) (kk : ∀ p : α, K p → xm_J d M (pc + 3) Ls (.int (f p) :: rest) (g p) kc ks Q) : xm_J d M pc Ls (v3 :: v2 :: v1 :: .ref a :: rest) h kc ks Q := by
  obtain ⟨hk1, hk2, q, hk3, hk4, hk5⟩ := hk
  exact r_callV (As := [v1, v2, v3]) (rest := rest) hd hk1 hw hk4 hk5 hk3 hC hdd ha hla hk2 hn hsum rfl rfl (fun v h2 hq => by obtain ⟨p, rfl, rfl, hp⟩ := hq; exact kk p hp)
theorem c_V3L {v1 v2 v3 : Value} {f : α → Int64} (hd : M.2.2.2.2[i]? = some (pc, .invokevirtual index, 3)) (hk : xm_Vm M' np c) (hw : Cond.methodLink M.1.cls index M'.1 ∈ xm_tb) (hC : xm_C d' M' [.ref a, v1, v2, v3] h 0 0 (pL f g K)) (hdd : d' + 1 ≤ d) (ha : a < h.2.2.2) (hla : xm_lay a = (c, 0)) (hn : 3 = np) (hsum : (rest.map fun v => v.category).sum ≤ 8) (kk : ∀ p : α, K p → xm_J d M (pc + 3) Ls (.long (f p) :: rest) (g p) kc ks Q) : xm_J d M pc Ls (v3 :: v2 :: v1 :: .ref a :: rest) h kc ks Q := by
  obtain ⟨hk1, hk2, q, hk3, hk4, hk5⟩ := hk
  exact r_callV (As := [v1, v2, v3]) (rest := rest) hd hk1 hw hk4 hk5 hk3 hC hdd ha hla hk2 hn hsum rfl rfl (fun v h2 hq => by obtain ⟨p, rfl, rfl, hp⟩ := hq; exact kk p hp)
theorem c_V3V {v1 v2 v3 : Value}  (hd : M.2.2.2.2[i]? = some (pc, .invokevirtual index, 3)) (hk : xm_Vm M' np c) (hw : Cond.methodLink M.1.cls index M'.1 ∈ xm_tb) (hC : xm_C d' M' [.ref a, v1, v2, v3] h 0 0 (pV g K)) (hdd : d' + 1 ≤ d) (ha : a < h.2.2.2) (hla : xm_lay a = (c, 0)) (hn : 3 = np) (hsum : (rest.map fun v => v.category).sum ≤ 8) (kk : ∀ p : α, K p → xm_J d M (pc + 3) Ls (rest) (g p) kc ks Q) : xm_J d M pc Ls (v3 :: v2 :: v1 :: .ref a :: rest) h kc ks Q := by
  obtain ⟨hk1, hk2, q, hk3, hk4, hk5⟩ := hk
  exact r_callV (As := [v1, v2, v3]) (rest := rest) hd hk1 hw hk4 hk5 hk3 hC hdd ha hla hk2 hn hsum rfl rfl (fun v h2 hq => by obtain ⟨p, rfl, rfl, hp⟩ := hq; exact kk p hp)
theorem c_V4I {v1 v2 v3 v4 : Value} {f : α → Int32} (hd : M.2.2.2.2[i]? = some (pc, .invokevirtual index, 3)) (hk : xm_Vm M' np c) (hw : Cond.methodLink M.1.cls index M'.1 ∈ xm_tb) (hC : xm_C d' M' [.ref a, v1, v2, v3, v4] h 0 0 (pI f g K)) (hdd : d' + 1 ≤ d) (ha : a < h.2.2.2) (hla : xm_lay a = (c, 0)) (hn : 4 = np) (hsum : (rest.map fun v => v.category).sum ≤ 8) (kk : ∀ p : α, K p → xm_J d M (pc + 3) Ls (.int (f p) :: rest) (g p) kc ks Q) : xm_J d M pc Ls (v4 :: v3 :: v2 :: v1 :: .ref a :: rest) h kc ks Q := by
  obtain ⟨hk1, hk2, q, hk3, hk4, hk5⟩ := hk
  exact r_callV (As := [v1, v2, v3, v4]) (rest := rest) hd hk1 hw hk4 hk5 hk3 hC hdd ha hla hk2 hn hsum rfl rfl (fun v h2 hq => by obtain ⟨p, rfl, rfl, hp⟩ := hq; exact kk p hp)
theorem c_V4V {v1 v2 v3 v4 : Value}  (hd : M.2.2.2.2[i]? = some (pc, .invokevirtual index, 3)) (hk : xm_Vm M' np c) (hw : Cond.methodLink M.1.cls index M'.1 ∈ xm_tb) (hC : xm_C d' M' [.ref a, v1, v2, v3, v4] h 0 0 (pV g K)) (hdd : d' + 1 ≤ d) (ha : a < h.2.2.2) (hla : xm_lay a = (c, 0)) (hn : 4 = np) (hsum : (rest.map fun v => v.category).sum ≤ 8) (kk : ∀ p : α, K p → xm_J d M (pc + 3) Ls (rest) (g p) kc ks Q) : xm_J d M pc Ls (v4 :: v3 :: v2 :: v1 :: .ref a :: rest) h kc ks Q := by
  obtain ⟨hk1, hk2, q, hk3, hk4, hk5⟩ := hk
  exact r_callV (As := [v1, v2, v3, v4]) (rest := rest) hd hk1 hw hk4 hk5 hk3 hC hdd ha hla hk2 hn hsum rfl rfl (fun v h2 hq => by obtain ⟨p, rfl, rfl, hp⟩ := hq; exact kk p hp)
theorem c_V5I {v1 v2 v3 v4 v5 : Value} {f : α → Int32} (hd : M.2.2.2.2[i]? = some (pc, .invokevirtual index, 3)) (hk : xm_Vm M' np c) (hw : Cond.methodLink M.1.cls index M'.1 ∈ xm_tb) (hC : xm_C d' M' [.ref a, v1, v2, v3, v4, v5] h 0 0 (pI f g K)) (hdd : d' + 1 ≤ d) (ha : a < h.2.2.2) (hla : xm_lay a = (c, 0)) (hn : 5 = np) (hsum : (rest.map fun v => v.category).sum ≤ 8) (kk : ∀ p : α, K p → xm_J d M (pc + 3) Ls (.int (f p) :: rest) (g p) kc ks Q) : xm_J d M pc Ls (v5 :: v4 :: v3 :: v2 :: v1 :: .ref a :: rest) h kc ks Q := by
  obtain ⟨hk1, hk2, q, hk3, hk4, hk5⟩ := hk
  exact r_callV (As := [v1, v2, v3, v4, v5]) (rest := rest) hd hk1 hw hk4 hk5 hk3 hC hdd ha hla hk2 hn hsum rfl rfl (fun v h2 hq => by obtain ⟨p, rfl, rfl, hp⟩ := hq; exact kk p hp)
theorem c_V5V {v1 v2 v3 v4 v5 : Value}  (hd : M.2.2.2.2[i]? = some (pc, .invokevirtual index, 3)) (hk : xm_Vm M' np c) (hw : Cond.methodLink M.1.cls index M'.1 ∈ xm_tb) (hC : xm_C d' M' [.ref a, v1, v2, v3, v4, v5] h 0 0 (pV g K)) (hdd : d' + 1 ≤ d) (ha : a < h.2.2.2) (hla : xm_lay a = (c, 0)) (hn : 5 = np) (hsum : (rest.map fun v => v.category).sum ≤ 8) (kk : ∀ p : α, K p → xm_J d M (pc + 3) Ls (rest) (g p) kc ks Q) : xm_J d M pc Ls (v5 :: v4 :: v3 :: v2 :: v1 :: .ref a :: rest) h kc ks Q := by
  obtain ⟨hk1, hk2, q, hk3, hk4, hk5⟩ := hk
  exact r_callV (As := [v1, v2, v3, v4, v5]) (rest := rest) hd hk1 hw hk4 hk5 hk3 hC hdd ha hla hk2 hn hsum rfl rfl (fun v h2 hq => by obtain ⟨p, rfl, rfl, hp⟩ := hq; exact kk p hp)
theorem c_V6V {v1 v2 v3 v4 v5 v6 : Value}  (hd : M.2.2.2.2[i]? = some (pc, .invokevirtual index, 3)) (hk : xm_Vm M' np c) (hw : Cond.methodLink M.1.cls index M'.1 ∈ xm_tb) (hC : xm_C d' M' [.ref a, v1, v2, v3, v4, v5, v6] h 0 0 (pV g K)) (hdd : d' + 1 ≤ d) (ha : a < h.2.2.2) (hla : xm_lay a = (c, 0)) (hn : 6 = np) (hsum : (rest.map fun v => v.category).sum ≤ 8) (kk : ∀ p : α, K p → xm_J d M (pc + 3) Ls (rest) (g p) kc ks Q) : xm_J d M pc Ls (v6 :: v5 :: v4 :: v3 :: v2 :: v1 :: .ref a :: rest) h kc ks Q := by
  obtain ⟨hk1, hk2, q, hk3, hk4, hk5⟩ := hk
  exact r_callV (As := [v1, v2, v3, v4, v5, v6]) (rest := rest) hd hk1 hw hk4 hk5 hk3 hC hdd ha hla hk2 hn hsum rfl rfl (fun v h2 hq => by obtain ⟨p, rfl, rfl, hp⟩ := hq; exact kk p hp)
theorem c_V7I {v1 v2 v3 v4 v5 v6 v7 : Value} {f : α → Int32} (hd : M.2.2.2.2[i]? = some (pc, .invokevirtual index, 3)) (hk : xm_Vm M' np c) (hw : Cond.methodLink M.1.cls index M'.1 ∈ xm_tb) (hC : xm_C d' M' [.ref a, v1, v2, v3, v4, v5, v6, v7] h 0 0 (pI f g K)) (hdd : d' + 1 ≤ d) (ha : a < h.2.2.2) (hla : xm_lay a = (c, 0)) (hn : 7 = np) (hsum : (rest.map fun v => v.category).sum ≤ 8) (kk : ∀ p : α, K p → xm_J d M (pc + 3) Ls (.int (f p) :: rest) (g p) kc ks Q) : xm_J d M pc Ls (v7 :: v6 :: v5 :: v4 :: v3 :: v2 :: v1 :: .ref a :: rest) h kc ks Q := by
  obtain ⟨hk1, hk2, q, hk3, hk4, hk5⟩ := hk
  exact r_callV (As := [v1, v2, v3, v4, v5, v6, v7]) (rest := rest) hd hk1 hw hk4 hk5 hk3 hC hdd ha hla hk2 hn hsum rfl rfl (fun v h2 hq => by obtain ⟨p, rfl, rfl, hp⟩ := hq; exact kk p hp)
theorem c_V9V {v1 v2 v3 v4 v5 v6 v7 v8 v9 : Value}  (hd : M.2.2.2.2[i]? = some (pc, .invokevirtual index, 3)) (hk : xm_Vm M' np c) (hw : Cond.methodLink M.1.cls index M'.1 ∈ xm_tb) (hC : xm_C d' M' [.ref a, v1, v2, v3, v4, v5, v6, v7, v8, v9] h 0 0 (pV g K)) (hdd : d' + 1 ≤ d) (ha : a < h.2.2.2) (hla : xm_lay a = (c, 0)) (hn : 9 = np) (hsum : (rest.map fun v => v.category).sum ≤ 8) (kk : ∀ p : α, K p → xm_J d M (pc + 3) Ls (rest) (g p) kc ks Q) : xm_J d M pc Ls (v9 :: v8 :: v7 :: v6 :: v5 :: v4 :: v3 :: v2 :: v1 :: .ref a :: rest) h kc ks Q := by
  obtain ⟨hk1, hk2, q, hk3, hk4, hk5⟩ := hk
  exact r_callV (As := [v1, v2, v3, v4, v5, v6, v7, v8, v9]) (rest := rest) hd hk1 hw hk4 hk5 hk3 hC hdd ha hla hk2 hn hsum rfl rfl (fun v h2 hq => by obtain ⟨p, rfl, rfl, hp⟩ := hq; exact kk p hp)
theorem c_V10I {v1 v2 v3 v4 v5 v6 v7 v8 v9 v10 : Value} {f : α → Int32} (hd : M.2.2.2.2[i]? = some (pc, .invokevirtual index, 3)) (hk : xm_Vm M' np c) (hw : Cond.methodLink M.1.cls index M'.1 ∈ xm_tb) (hC : xm_C d' M' [.ref a, v1, v2, v3, v4, v5, v6, v7, v8, v9, v10] h 0 0 (pI f g K)) (hdd : d' + 1 ≤ d) (ha : a < h.2.2.2) (hla : xm_lay a = (c, 0)) (hn : 10 = np) (hsum : (rest.map fun v => v.category).sum ≤ 8) (kk : ∀ p : α, K p → xm_J d M (pc + 3) Ls (.int (f p) :: rest) (g p) kc ks Q) : xm_J d M pc Ls (v10 :: v9 :: v8 :: v7 :: v6 :: v5 :: v4 :: v3 :: v2 :: v1 :: .ref a :: rest) h kc ks Q := by
  obtain ⟨hk1, hk2, q, hk3, hk4, hk5⟩ := hk
  exact r_callV (As := [v1, v2, v3, v4, v5, v6, v7, v8, v9, v10]) (rest := rest) hd hk1 hw hk4 hk5 hk3 hC hdd ha hla hk2 hn hsum rfl rfl (fun v h2 hq => by obtain ⟨p, rfl, rfl, hp⟩ := hq; exact kk p hp)
end XK
