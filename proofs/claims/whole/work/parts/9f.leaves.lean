/-! ===== the best places: all candidates in their order ===== -/
def ov (pl : Nat → Nat) : Nat → Nat
  | 0 => 0
  | k + 1 => ov pl k + (if pl k = 8 then 1 else 0)
noncomputable def cv (Q : QQ) (pl : Nat → Nat) : Nat → Nat
  | 0 => 0
  | k + 1 => cv Q pl k + (if pl k = 8 then 0 else (qc Q k (pl k)).toInt.toNat)
theorem ov_congr {p q : Nat → Nat} {k : Nat} (h : ∀ j, j < k → p j = q j) : ov p k = ov q k := by
  induction k with
  | zero => rfl
  | succ k ih =>
    unfold ov
    rw [ih fun j hj => h j (by omega), h k (by omega)]
theorem cv_congr {Q : QQ} {p q : Nat → Nat} {k : Nat} (h : ∀ j, j < k → p j = q j) : cv Q p k = cv Q q k := by
  induction k with
  | zero => rfl
  | succ k ih =>
    unfold cv
    rw [ih fun j hj => h j (by omega), h k (by omega)]
theorem ov_mono (p : Nat → Nat) (k j : Nat) : ov p k ≤ ov p (k + j) := by
  induction j with
  | zero => exact Nat.le_refl _
  | succ j ih =>
    have : ov p (k + (j + 1)) = ov p (k + j) + (if p (k + j) = 8 then 1 else 0) := rfl
    omega
theorem cv_mono (Q : QQ) (p : Nat → Nat) (k j : Nat) : cv Q p k ≤ cv Q p (k + j) := by
  induction j with
  | zero => exact Nat.le_refl _
  | succ j ih =>
    have : cv Q p (k + (j + 1)) = cv Q p (k + j) + (if p (k + j) = 8 then 0 else (qc Q (k + j) (p (k + j))).toInt.toNat) := rfl
    omega
theorem ov_le (p : Nat → Nat) (k : Nat) : ov p k ≤ k := by
  induction k with
  | zero => exact Nat.le_refl _
  | succ k ih =>
    unfold ov
    split <;> omega
theorem cv_le {Q : QQ} (hQ : QOK Q) {p : Nat → Nat} (h8 : P8 p) (k : Nat) : cv Q p k ≤ 6010 * k := by
  induction k with
  | zero => exact Nat.le_refl _
  | succ k ih =>
    unfold cv
    split
    · omega
    · have := qc_b hQ k (p := p k) (by have := h8 k; omega)
      omega
theorem set_pre (p : Nat → Nat) (g v : Nat) : ∀ j, j < g → setP p g v j = p j := fun j hj => by unfold setP; rw [if_neg (by omega)]
theorem set_at (p : Nat → Nat) (g v : Nat) : setP p g v g = v := by unfold setP; rw [if_pos rfl]
theorem set_8 {p : Nat → Nat} {g v : Nat} (h : P8 p) (hv : v ≤ 8) : P8 (setP p g v) := by
  intro j
  unfold setP
  split
  · exact hv
  · exact h j
theorem ov_set (p : Nat → Nat) (g v : Nat) : ov (setP p g v) (g + 1) = ov p g + (if v = 8 then 1 else 0) := by
  show ov (setP p g v) g + (if setP p g v g = 8 then 1 else 0) = _
  rw [ov_congr (set_pre p g v), set_at]
theorem cv_set (Q : QQ) (p : Nat → Nat) (g v : Nat) : cv Q (setP p g v) (g + 1) = cv Q p g + (if v = 8 then 0 else (qc Q g v).toInt.toNat) := by
  show cv Q (setP p g v) g + (if setP p g v g = 8 then 0 else (qc Q g (setP p g v g)).toInt.toNat) = _
  rw [cv_congr (set_pre p g v), set_at]
noncomputable def finB (Q : QQ) (pl : Nat → Nat) (g p : Nat) : Bool := if p = 8 then true else FRb Q pl g g p
abbrev Bst : Type := Nat × Nat × (Nat → Int32)
abbrev lt2 (Q : QQ) (pl : Nat → Nat) (B : Bst) : Prop := ov pl (QG Q) < B.1 ∨ (ov pl (QG Q) = B.1 ∧ cv Q pl (QG Q) < B.2.1)
noncomputable def upB (Q : QQ) (B : Bst) (pl : Nat → Nat) : Bst := if lt2 Q pl B then (ov pl (QG Q), cv Q pl (QG Q), fun j => n32 (pl j)) else B
def fl9 {β : Type} (F : Nat → List β) : Nat → Nat → List β
  | _, 0 => []
  | q, n + 1 => F q ++ fl9 F (q + 1) n
theorem fl9_snoc {β : Type} (F : Nat → List β) (q n : Nat) : fl9 F q (n + 1) = fl9 F q n ++ F (q + n) := by
  induction n generalizing q with
  | zero => exact List.append_nil _
  | succ n ih =>
    show F q ++ fl9 F (q + 1) (n + 1) = (F q ++ fl9 F (q + 1) n) ++ F (q + (n + 1))
    rw [ih, List.append_assoc]
    congr 3
    omega
theorem mem_fl9 {β : Type} {F : Nat → List β} {x : β} {q n : Nat} : x ∈ fl9 F q n ↔ ∃ p, q ≤ p ∧ p < q + n ∧ x ∈ F p := by
  induction n generalizing q with
  | zero =>
    constructor
    · intro h
      cases h
    · rintro ⟨p, h1, h2, _⟩
      omega
  | succ n ih =>
    show x ∈ F q ++ fl9 F (q + 1) n ↔ _
    rw [List.mem_append, ih]
    constructor
    · rintro (h | ⟨p, h1, h2, h3⟩)
      · exact ⟨q, by omega, by omega, h⟩
      · exact ⟨p, by omega, by omega, h3⟩
    · rintro ⟨p, h1, h2, h3⟩
      by_cases e : p = q
      · subst e
        exact Or.inl h3
      · exact Or.inr ⟨p, by omega, by omega, h3⟩
noncomputable def lv (Q : QQ) : Nat → Nat → (Nat → Nat) → List (Nat → Nat)
  | 0, _, pl => [pl]
  | r + 1, g, pl => fl9 (fun p => if finB Q pl g p = true then lv Q r (g + 1) (setP pl g p) else []) 0 9
noncomputable def fb (Q : QQ) (B : Bst) (l : List (Nat → Nat)) : Bst := l.foldl (upB Q) B
theorem fb_app (Q : QQ) (B : Bst) (a b : List (Nat → Nat)) : fb Q B (a ++ b) = fb Q (fb Q B a) b := List.foldl_append
theorem fb_no {Q : QQ} {B : Bst} {l : List (Nat → Nat)} (h : ∀ x ∈ l, ¬ lt2 Q x B) : fb Q B l = B := by
  induction l with
  | nil => rfl
  | cons x l ih =>
    show fb Q (upB Q B x) l = B
    have : upB Q B x = B := if_neg (h x List.mem_cons_self)
    rw [this]
    exact ih fun y hy => h y (List.mem_cons_of_mem _ hy)
theorem fb_same {Q : QQ} {B C : Bst} {l : List (Nat → Nat)} (h : ∃ x ∈ l, lt2 Q x B ∧ lt2 Q x C) : fb Q B l = fb Q C l := by
  induction l generalizing B C with
  | nil =>
    obtain ⟨x, hx, _⟩ := h
    cases hx
  | cons y l ih =>
    obtain ⟨x, hx, h1, h2⟩ := h
    show fb Q (upB Q B y) l = fb Q (upB Q C y) l
    unfold upB
    by_cases a : lt2 Q y B <;> by_cases b : lt2 Q y C
    · rw [if_pos a, if_pos b]
    · rw [if_pos a, if_neg b]
      refine ih ⟨x, ?_, ?_, h2⟩
      · rcases List.mem_cons.mp hx with e | e
        · subst e
          exact absurd h2 b
        · exact e
      · show ov x (QG Q) < ov y (QG Q) ∨ (ov x (QG Q) = ov y (QG Q) ∧ cv Q x (QG Q) < cv Q y (QG Q))
        omega
    · rw [if_neg a, if_pos b]
      refine ih ⟨x, ?_, h1, ?_⟩
      · rcases List.mem_cons.mp hx with e | e
        · subst e
          exact absurd h1 a
        · exact e
      · show ov x (QG Q) < ov y (QG Q) ∨ (ov x (QG Q) = ov y (QG Q) ∧ cv Q x (QG Q) < cv Q y (QG Q))
        omega
    · rw [if_neg a, if_neg b]
      refine ih ⟨x, ?_, h1, h2⟩
      rcases List.mem_cons.mp hx with e | e
      · subst e
        exact absurd h1 a
      · exact e
theorem fb_leaf {Q : QQ} {B : Bst} {l : List (Nat → Nat)} (h : ∃ x ∈ l, lt2 Q x B) : ∃ x ∈ l, fb Q B l = (ov x (QG Q), cv Q x (QG Q), fun j => n32 (x j)) := by
  have gen : ∀ (l : List (Nat → Nat)) (B : Bst), fb Q B l = B ∨ ∃ x ∈ l, fb Q B l = (ov x (QG Q), cv Q x (QG Q), fun j => n32 (x j)) := by
    intro l
    induction l with
    | nil => exact fun B => Or.inl rfl
    | cons y l ih =>
      intro B
      have hu : fb Q B (y :: l) = fb Q (upB Q B y) l := rfl
      rcases ih (upB Q B y) with e | ⟨x, hx, e⟩
      · by_cases c : lt2 Q y B
        · right
          refine ⟨y, List.mem_cons_self, ?_⟩
          rw [hu, e]
          exact if_pos c
        · left
          rw [hu, e]
          exact if_neg c
      · exact Or.inr ⟨x, List.mem_cons_of_mem _ hx, by rw [hu]; exact e⟩
  induction l generalizing B with
  | nil =>
    obtain ⟨x, hx, _⟩ := h
    cases hx
  | cons y l ih =>
    obtain ⟨x, hx, h1⟩ := h
    have hu : fb Q B (y :: l) = fb Q (upB Q B y) l := rfl
    rw [hu]
    by_cases c : lt2 Q y B
    · have e : upB Q B y = (ov y (QG Q), cv Q y (QG Q), fun j => n32 (y j)) := if_pos c
      rw [e]
      rcases gen l (ov y (QG Q), cv Q y (QG Q), fun j => n32 (y j)) with e2 | ⟨z, hz, e2⟩
      · exact ⟨y, List.mem_cons_self, e2⟩
      · exact ⟨z, List.mem_cons_of_mem _ hz, e2⟩
    · have e : upB Q B y = B := if_neg c
      rw [e]
      have hx' : x ∈ l := by
        rcases List.mem_cons.mp hx with e | e
        · subst e
          exact absurd h1 c
        · exact e
      obtain ⟨z, hz, e2⟩ := ih ⟨x, hx', h1⟩
      exact ⟨z, List.mem_cons_of_mem _ hz, e2⟩
theorem fb_b {Q : QQ} (hQ : QOK Q) {B : Bst} {l : List (Nat → Nat)} (hl : ∀ x ∈ l, P8 x) (hB : B.1 ≤ 100 ∧ B.2.1 ≤ 200000) : (fb Q B l).1 ≤ 100 ∧ (fb Q B l).2.1 ≤ 200000 := by
  induction l generalizing B with
  | nil => exact hB
  | cons y l ih =>
    refine ih (B := upB Q B y) (fun x hx => hl x (List.mem_cons_of_mem _ hx)) ?_
    have h1 := ov_le y (QG Q)
    have h2 := cv_le hQ (hl y List.mem_cons_self) (QG Q)
    have h3 := hQ.1
    unfold upB
    split
    · show ov y (QG Q) ≤ 100 ∧ cv Q y (QG Q) ≤ 200000
      omega
    · exact hB
theorem lv_step {Q : QQ} {r g : Nat} {pl x : Nat → Nat} (h : x ∈ lv Q (r + 1) g pl) : ∃ p, p ≤ 8 ∧ finB Q pl g p = true ∧ x ∈ lv Q r (g + 1) (setP pl g p) := by
  obtain ⟨p, _, h2, h3⟩ := mem_fl9.mp h
  refine ⟨p, by omega, ?_⟩
  by_cases c : finB Q pl g p = true
  · rw [if_pos c] at h3
    exact ⟨c, h3⟩
  · rw [if_neg c] at h3
    cases h3
theorem lv_8 {Q : QQ} {r g : Nat} {pl : Nat → Nat} (h8 : P8 pl) : ∀ x ∈ lv Q r g pl, P8 x ∧ (∀ j, j < g → x j = pl j) ∧ ∀ j, g ≤ j → j < g + r → x j ≠ 8 → qc Q j (x j) ≠ -1 := by
  induction r generalizing g pl with
  | zero =>
    intro x hx
    rw [List.mem_singleton.mp hx]
    exact ⟨h8, fun j _ => rfl, fun j h1 h2 => by omega⟩
  | succ r ih =>
    intro x hx
    obtain ⟨p, hp, hf, hx'⟩ := lv_step hx
    obtain ⟨a, b, c⟩ := ih (set_8 h8 hp) x hx'
    refine ⟨a, fun j hj => by rw [b j (by omega), set_pre _ _ _ j hj], fun j h1 h2 h3 => ?_⟩
    by_cases e : j = g
    · subst e
      have e2 := b j (by omega)
      rw [set_at] at e2
      rw [e2]
      rw [e2] at h3
      unfold finB at hf
      rw [if_neg h3] at hf
      exact (FRb_iff.mp hf).1
    · exact c j (by omega) (by omega) h3
/-- what no candidate can go below -/
noncomputable def lsI (Q : QQ) (g : Nat) : Nat → Int32
  | 0 => -1
  | k + 1 => if qc Q g k = -1 then lsI Q g k else if lsI Q g k = -1 then qc Q g k else if (lsI Q g k).toInt ≤ (qc Q g k).toInt then lsI Q g k else qc Q g k
theorem ls_b {Q : QQ} (hQ : QOK Q) (g k : Nat) (hk : k ≤ 8) : ((lsI Q g k).toInt = -1 ∨ (0 ≤ (lsI Q g k).toInt ∧ (lsI Q g k).toInt ≤ 6010)) ∧ ∀ p, p < k → qc Q g p ≠ -1 → lsI Q g k ≠ -1 ∧ (lsI Q g k).toInt ≤ (qc Q g p).toInt := by
  have km : (-1 : Int32).toInt = -1 := by decide
  induction k with
  | zero => exact ⟨Or.inl km, fun p hp => by omega⟩
  | succ k ih =>
    obtain ⟨i1, i2⟩ := ih (by omega)
    have qb := qc_b hQ g (p := k) (by omega)
    have n1 : ∀ x : Int32, x ≠ -1 ↔ x.toInt ≠ -1 := fun x => by rw [ne_eq, eq32, km]
    unfold lsI
    by_cases c : qc Q g k = -1
    · rw [if_pos c]
      refine ⟨i1, fun p hp hq => ?_⟩
      by_cases e : p = k
      · subst e
        exact absurd c hq
      · exact i2 p (by omega) hq
    · rw [if_neg c]
      have c' := (n1 _).mp c
      by_cases c2 : lsI Q g k = -1
      · rw [if_pos c2]
        refine ⟨qb, fun p hp hq => ?_⟩
        by_cases e : p = k
        · subst e
          exact ⟨c, Int.le_refl _⟩
        · exact absurd c2 (i2 p (by omega) hq).1
      · rw [if_neg c2]
        by_cases c3 : (lsI Q g k).toInt ≤ (qc Q g k).toInt
        · rw [if_pos c3]
          refine ⟨i1, fun p hp hq => ⟨c2, ?_⟩⟩
          by_cases e : p = k
          · subst e
            exact c3
          · exact (i2 p (by omega) hq).2
        · rw [if_neg c3]
          refine ⟨qb, fun p hp hq => ⟨c, ?_⟩⟩
          by_cases e : p = k
          · subst e
            exact Int.le_refl _
          · have := (i2 p (by omega) hq).2
            omega
noncomputable def lO (Q : QQ) : Nat → Nat → Nat
  | 0, _ => 0
  | r + 1, g => lO Q r (g + 1) + (if lsI Q g 8 = -1 then 1 else 0)
noncomputable def lC (Q : QQ) : Nat → Nat → Nat
  | 0, _ => 0
  | r + 1, g => lC Q r (g + 1) + (if lsI Q g 8 = -1 then 0 else (lsI Q g 8).toInt.toNat)
theorem lO_le {Q : QQ} (hQ : QOK Q) (r g : Nat) : lO Q r g ≤ r ∧ lC Q r g ≤ 6010 * r := by
  induction r generalizing g with
  | zero => exact ⟨Nat.le_refl _, Nat.le_refl _⟩
  | succ r ih =>
    have := ih (g + 1)
    have b := (ls_b hQ g 8 (Nat.le_refl _)).1
    unfold lO lC
    split <;> omega
theorem lv_lb {Q : QQ} (hQ : QOK Q) {r g : Nat} {pl : Nat → Nat} (hr : g + r = QG Q) (h8 : P8 pl) : ∀ x ∈ lv Q r g pl, ov pl g + lO Q r g ≤ ov x (QG Q) ∧ (ov x (QG Q) = ov pl g + lO Q r g → cv Q pl g + lC Q r g ≤ cv Q x (QG Q)) := by
  induction r generalizing g pl with
  | zero =>
    intro x hx
    rw [List.mem_singleton.mp hx]
    have e : QG Q = g := by omega
    rw [e]
    exact ⟨Nat.le_refl _, fun _ => Nat.le_refl _⟩
  | succ r ih =>
    intro x hx
    obtain ⟨p, hp, hf, hx'⟩ := lv_step hx
    obtain ⟨a, b⟩ := ih (by omega) (set_8 h8 hp) x hx'
    rw [ov_set] at a b
    rw [cv_set] at b
    have l1 : lO Q (r + 1) g = lO Q r (g + 1) + (if lsI Q g 8 = -1 then 1 else 0) := rfl
    have l2 : lC Q (r + 1) g = lC Q r (g + 1) + (if lsI Q g 8 = -1 then 0 else (lsI Q g 8).toInt.toNat) := rfl
    rw [l1, l2]
    by_cases c8 : p = 8
    · rw [if_pos c8] at a b
      rw [if_pos c8] at b
      by_cases c : lsI Q g 8 = -1
      · rw [if_pos c, if_pos c]
        exact ⟨by omega, fun h => by have := b (by omega); omega⟩
      · rw [if_neg c, if_neg c]
        exact ⟨by omega, fun h => by omega⟩
    · rw [if_neg c8] at a b
      rw [if_neg c8] at b
      unfold finB at hf
      rw [if_neg c8] at hf
      have hq := (FRb_iff.mp hf).1
      obtain ⟨n1, n2⟩ := (ls_b hQ g 8 (Nat.le_refl _)).2 p (by omega) hq
      rw [if_neg n1, if_neg n1]
      refine ⟨by omega, fun h => ?_⟩
      have := b (by omega)
      omega
/-- a good candidate is one of them -/
def Feas (Q : QQ) (R : Nat → Nat) : Prop := P8 R ∧ (∀ g, g < QG Q → R g ≠ 8 → qc Q g (R g) ≠ -1) ∧ ∀ g h, g < QG Q → h < QG Q → g ≠ h → R g ≠ 8 → R h ≠ 8 → mt Q g (R g) h (R h) = false
theorem lvs_has {Q : QQ} {R : Nat → Nat} (hR : Feas Q R) {r g : Nat} {pl : Nat → Nat} (hr : g + r = QG Q) (hp : ∀ j, j < g → pl j = R j) : ∃ x ∈ lv Q r g pl, ∀ j, j < QG Q → x j = R j := by
  induction r generalizing g pl with
  | zero => exact ⟨pl, List.mem_singleton.mpr rfl, fun j hj => hp j (by omega)⟩
  | succ r ih =>
    have hpre : ∀ j, j < g + 1 → setP pl g (R g) j = R j := by
      intro j hj
      by_cases e : j = g
      · subst e
        exact set_at _ _ _
      · rw [set_pre _ _ _ j (by omega)]
        exact hp j (by omega)
    obtain ⟨x, hx, hx2⟩ := ih (g := g + 1) (pl := setP pl g (R g)) (by omega) hpre
    have h8 := hR.1 g
    have hf : finB Q pl g (R g) = true := by
      unfold finB
      split
      · rfl
      · rename_i c
        refine FRb_iff.mpr ⟨hR.2.1 g (by omega) c, fun j hj hne hj8 => ?_⟩
        rw [hp j hj] at hj8 ⊢
        exact hR.2.2 g j (by omega) (by omega) (fun k => hne k.symm) c hj8
    refine ⟨x, mem_fl9.mpr ⟨R g, by omega, by omega, ?_⟩, hx2⟩
    rw [if_pos hf]
    exact hx
theorem rnd_feas {Q : QQ} {pl : Nat → Nat} (h : Feas Q pl) (g : Nat) : Feas Q (rnd Q pl g).1 := by
  induction g with
  | zero => exact h
  | succ g ih =>
    have h8 := rnd_8 h.1 (Q := Q) (g + 1)
    have cb := ch_b Q (rnd Q pl g).1 (QG Q) g 8 (Nat.le_refl _)
    have e : (rnd Q pl (g + 1)).1 = setP (rnd Q pl g).1 g (ch Q (rnd Q pl g).1 (QG Q) g 8) := rfl
    refine ⟨h8, fun j hj hne => ?_, fun i j hi hj hij i8 j8 => ?_⟩
    · rw [e] at hne ⊢
      by_cases c : j = g
      · subst c
        rw [set_at] at hne ⊢
        rcases cb with cb | cb
        · exact absurd cb hne
        · exact (FRb_iff.mp cb.2).1
      · have : setP (rnd Q pl g).1 g (ch Q (rnd Q pl g).1 (QG Q) g 8) j = (rnd Q pl g).1 j := by unfold setP; rw [if_neg c]
        rw [this] at hne ⊢
        exact ih.2.1 j hj hne
    · rw [e] at i8 j8 ⊢
      have ne : ∀ k, k ≠ g → setP (rnd Q pl g).1 g (ch Q (rnd Q pl g).1 (QG Q) g 8) k = (rnd Q pl g).1 k := fun k c => by unfold setP; rw [if_neg c]
      by_cases ci : i = g
      · subst ci
        have cj : j ≠ i := fun k => hij k.symm
        rw [ne j cj] at j8 ⊢
        rw [set_at] at i8 ⊢
        rcases cb with cb | cb
        · exact absurd cb i8
        · exact (FRb_iff.mp cb.2).2 j hj cj j8
      · by_cases cj : j = g
        · subst cj
          rw [ne i ci] at i8 ⊢
          rw [set_at] at j8 ⊢
          rcases cb with cb | cb
          · exact absurd cb j8
          · rw [mt_sym]
            exact (FRb_iff.mp cb.2).2 i hi ci i8
        · rw [ne i ci] at i8 ⊢
          rw [ne j cj] at j8 ⊢
          exact ih.2.2 i j hi hj hij i8 j8
theorem rr_feas (Q : QQ) (k : Nat) : Feas Q (rr Q k).2.2 := by
  induction k with
  | zero => exact ⟨fun _ => Nat.le_refl _, fun _ _ h => absurd rfl h, fun _ _ _ _ _ h _ => absurd rfl h⟩
  | succ k ih =>
    unfold rr
    split
    · exact rnd_feas ih _
    · exact ih
