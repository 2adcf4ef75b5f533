/-! ===== a stroke and a box: by corners, and by cutting ===== -/
theorem narF_iff {a d : Int} {f q : Fq} (hd : 0 < d) (hf : 0 < f.2) (hq : 0 < q.2) : (0 < (narF a d (some f)).2) ∧ (qle (narF a d (some f)) q ↔ qle (a, d) q ∧ qle f q) := by
  have hp : 0 < (narF a d (some f)).2 := by
    unfold narF
    dsimp only
    split
    · exact hf
    · exact hd
  refine ⟨hp, fun h => ?_, ?_⟩
  · obtain ⟨g1, g2⟩ := narF_ge a d (some f)
    exact ⟨qle_trans hd hp hq g1 h, qle_trans hf hp hq (g2 f rfl) h⟩
  · rintro ⟨h1, h2⟩
    unfold narF
    dsimp only
    split
    · exact h2
    · exact h1
theorem narT_iff {a d : Int} {f q : Fq} (hd : 0 < d) (hf : 0 < f.2) (hq : 0 < q.2) : (0 < (narT a d (some f)).2) ∧ (qle q (narT a d (some f)) ↔ qle q (a, d) ∧ qle q f) := by
  have hp : 0 < (narT a d (some f)).2 := by
    unfold narT
    dsimp only
    split
    · exact hf
    · exact hd
  refine ⟨hp, fun h => ?_, ?_⟩
  · obtain ⟨g1, g2⟩ := narT_le a d (some f)
    exact ⟨qle_trans hq hp hd h g1, qle_trans hq hp hf h (g2 f rfl)⟩
  · rintro ⟨h1, h2⟩
    unfold narT
    dsimp only
    split
    · exact h2
    · exact h1
def axF (a w lo hi : Int) (f : Fq) : Fq := if w = 0 then f else if w ≤ 0 then narF (a - hi) (-w) (some f) else narF (lo - a) w (some f)
def axT (a w lo hi : Int) (t : Fq) : Fq := if w = 0 then t else if w ≤ 0 then narT (a - lo) (-w) (some t) else narT (hi - a) w (some t)
theorem axs_ft (a w lo hi : Int) (f t : Fq) : (axs a w lo hi (some f) (some t)).2 = (some (axF a w lo hi f), some (axT a w lo hi t)) ∧ ((axs a w lo hi (some f) (some t)).1 = true ↔ (w = 0 → lo ≤ a ∧ a ≤ hi)) := by
  unfold axs axF axT
  by_cases h0 : w = 0
  · rw [if_pos h0, if_pos h0, if_pos h0]
    exact ⟨rfl, by rw [decide_eq_true_iff]; exact ⟨fun h _ => h, fun h => h h0⟩⟩
  · rw [if_neg h0, if_neg h0, if_neg h0]
    by_cases h1 : w ≤ 0
    · rw [if_pos h1, if_pos h1, if_pos h1]
      exact ⟨rfl, fun _ h => absurd h h0, fun _ => rfl⟩
    · rw [if_neg h1, if_neg h1, if_neg h1]
      exact ⟨rfl, fun _ h => absurd h h0, fun _ => rfl⟩
theorem axF_iff {a w lo hi : Int} {f q : Fq} (hf : 0 < f.2) (hq : 0 < q.2) : 0 < (axF a w lo hi f).2 ∧ (qle (axF a w lo hi f) q ↔ (qle f q ∧ (w < 0 → (a - hi) * q.2 ≤ q.1 * -w) ∧ (0 < w → (lo - a) * q.2 ≤ q.1 * w))) := by
  unfold axF
  by_cases h0 : w = 0
  · rw [if_pos h0]
    exact ⟨hf, fun h => ⟨h, fun k => by omega, fun k => by omega⟩, fun h => h.1⟩
  · rw [if_neg h0]
    by_cases h1 : w ≤ 0
    · rw [if_pos h1]
      have g := narF_iff (a := a - hi) (d := -w) (f := f) (q := q) (by omega) hf hq
      refine ⟨g.1, fun h => ?_, fun h => g.2.mpr ⟨h.2.1 (by omega), h.1⟩⟩
      have := g.2.mp h
      exact ⟨this.2, fun _ => this.1, fun k => by omega⟩
    · rw [if_neg h1]
      have g := narF_iff (a := lo - a) (d := w) (f := f) (q := q) (by omega) hf hq
      refine ⟨g.1, fun h => ?_, fun h => g.2.mpr ⟨h.2.2 (by omega), h.1⟩⟩
      have := g.2.mp h
      exact ⟨this.2, fun k => by omega, fun _ => this.1⟩
theorem axT_iff {a w lo hi : Int} {f q : Fq} (hf : 0 < f.2) (hq : 0 < q.2) : 0 < (axT a w lo hi f).2 ∧ (qle q (axT a w lo hi f) ↔ (qle q f ∧ (w < 0 → q.1 * -w ≤ (a - lo) * q.2) ∧ (0 < w → q.1 * w ≤ (hi - a) * q.2))) := by
  unfold axT
  by_cases h0 : w = 0
  · rw [if_pos h0]
    exact ⟨hf, fun h => ⟨h, fun k => by omega, fun k => by omega⟩, fun h => h.1⟩
  · rw [if_neg h0]
    by_cases h1 : w ≤ 0
    · rw [if_pos h1]
      have g := narT_iff (a := a - lo) (d := -w) (f := f) (q := q) (by omega) hf hq
      refine ⟨g.1, fun h => ?_, fun h => g.2.mpr ⟨h.2.1 (by omega), h.1⟩⟩
      have := g.2.mp h
      exact ⟨this.2, fun _ => this.1, fun k => by omega⟩
    · rw [if_neg h1]
      have g := narT_iff (a := hi - a) (d := w) (f := f) (q := q) (by omega) hf hq
      refine ⟨g.1, fun h => ?_, fun h => g.2.mpr ⟨h.2.2 (by omega), h.1⟩⟩
      have := g.2.mp h
      exact ⟨this.2, fun k => by omega, fun _ => this.1⟩
/-- the box meets the stroke: told by its corners -/
def hitP (ax ay bx bz l r b t : Int) : Prop :=
  (l ≤ max ax bx ∧ min ax bx ≤ r ∧ b ≤ max ay bz ∧ min ay bz ≤ t) ∧
  ¬ (0 < (bx - ax) * (b - ay) - (bz - ay) * (l - ax) ∧ 0 < (bx - ax) * (b - ay) - (bz - ay) * (r - ax) ∧ 0 < (bx - ax) * (t - ay) - (bz - ay) * (l - ax) ∧ 0 < (bx - ax) * (t - ay) - (bz - ay) * (r - ax)) ∧
  ¬ ((bx - ax) * (b - ay) - (bz - ay) * (l - ax) < 0 ∧ (bx - ax) * (b - ay) - (bz - ay) * (r - ax) < 0 ∧ (bx - ax) * (t - ay) - (bz - ay) * (l - ax) < 0 ∧ (bx - ax) * (t - ay) - (bz - ay) * (r - ax) < 0)
theorem sat_pure {u v p q nu nv np nq X Y : Int} (hl : u ≤ v) (hb : p ≤ q) (h1 : nu = -u) (h2 : nv = -v) (h3 : np = -p) (h4 : nq = -q) : ((X = 0 → u ≤ 0 ∧ 0 ≤ v) ∧ (Y = 0 → p ≤ 0 ∧ 0 ≤ q) ∧ ((X < 0 → 0 ≤ nu ∧ nv ≤ -X) ∧ (0 < X → 0 ≤ v ∧ u ≤ X)) ∧ (Y < 0 → (0 ≤ np ∧ (X < 0 → nv * -Y ≤ np * -X) ∧ (0 < X → u * -Y ≤ np * X)) ∧ (nq ≤ -Y ∧ (X < 0 → nq * -X ≤ nu * -Y) ∧ (0 < X → nq * X ≤ v * -Y))) ∧ (0 < Y → (0 ≤ q ∧ (X < 0 → nv * Y ≤ q * -X) ∧ (0 < X → u * Y ≤ q * X)) ∧ (p ≤ Y ∧ (X < 0 → p * -X ≤ nu * Y) ∧ (0 < X → p * X ≤ v * Y)))) ↔ ((u ≤ max 0 X ∧ min 0 X ≤ v ∧ p ≤ max 0 Y ∧ min 0 Y ≤ q) ∧ ¬ (0 < X * p - Y * u ∧ 0 < X * p - Y * v ∧ 0 < X * q - Y * u ∧ 0 < X * q - Y * v) ∧ ¬ (X * p - Y * u < 0 ∧ X * p - Y * v < 0 ∧ X * q - Y * u < 0 ∧ X * q - Y * v < 0)) := by
  subst h1 h2 h3 h4
  have mo : ∀ c d e : Int, c ≤ d → (0 ≤ e → c * e ≤ d * e) ∧ (e ≤ 0 → d * e ≤ c * e) := fun c d e h => ⟨fun he => Int.mul_le_mul_of_nonneg_right h he, fun he => Int.mul_le_mul_of_nonpos_right h he⟩
  have m1 := mo _ _ X hb
  have m2 := mo _ _ Y hl
  have z1 := mo u 0 Y
  have z2 := mo 0 v Y
  have z3 := mo p 0 X
  have z4 := mo 0 q X
  rw [Int.zero_mul] at z1 z2 z3 z4
  have x1 : X * p = p * X := Int.mul_comm ..
  have x2 : X * q = q * X := Int.mul_comm ..
  have x3 : Y * u = u * Y := Int.mul_comm ..
  have x4 : Y * v = v * Y := Int.mul_comm ..
  simp only [Int.neg_mul, Int.mul_neg, Int.neg_neg, x1, x2, x3, x4]
  clear x1 x2 x3 x4 mo
  rcases Int.lt_trichotomy X 0 with hX | hX | hX <;> rcases Int.lt_trichotomy Y 0 with hY | hY | hY
  all_goals first
    | (subst hX; subst hY; simp only [Int.mul_zero]; omega)
    | (subst hX; simp only [Int.mul_zero] at *; generalize u * Y = uY at *; generalize v * Y = vY at *; omega)
    | (subst hY; simp only [Int.mul_zero] at *; generalize p * X = pX at *; generalize q * X = qX at *; omega)
    | (generalize u * Y = uY at *; generalize v * Y = vY at *; generalize p * X = pX at *; generalize q * X = qX at *; omega)
    | fail
theorem CL_iff {ax ay bx bz l r b t : Int} (hl : l ≤ r) (hb : b ≤ t) : (CL ax ay bx bz l r b t (some (0, 1)) (some (1, 1))).isSome = true ↔ hitP ax ay bx bz l r b t := by
  obtain ⟨a1, a2⟩ := axs_ft ax (bx - ax) l r (0, 1) (1, 1)
  have p1 : (0 : Int) < ((0, 1) : Fq).2 := by decide
  have p2 : (0 : Int) < ((1, 1) : Fq).2 := by decide
  have fx := fun q hq => axF_iff (a := ax) (w := bx - ax) (lo := l) (hi := r) (f := (0, 1)) (q := q) p1 hq
  have tx := fun q hq => axT_iff (a := ax) (w := bx - ax) (lo := l) (hi := r) (f := (1, 1)) (q := q) p2 hq
  have pfx := (fx (1, 1) p2).1
  have ptx := (tx (1, 1) p2).1
  obtain ⟨b1, b2⟩ := axs_ft ay (bz - ay) b t (axF ax (bx - ax) l r (0, 1)) (axT ax (bx - ax) l r (1, 1))
  have fy := fun q hq => axF_iff (a := ay) (w := bz - ay) (lo := b) (hi := t) (f := axF ax (bx - ax) l r (0, 1)) (q := q) pfx hq
  have ty := fun q hq => axT_iff (a := ay) (w := bz - ay) (lo := b) (hi := t) (f := axT ax (bx - ax) l r (1, 1)) (q := q) ptx hq
  have pfy := (fy (1, 1) p2).1
  have pty := (ty (1, 1) p2).1
  have main : (CL ax ay bx bz l r b t (some (0, 1)) (some (1, 1))).isSome = true ↔ ((bx - ax = 0 → l ≤ ax ∧ ax ≤ r) ∧ (bz - ay = 0 → b ≤ ay ∧ ay ≤ t) ∧ qle (axF ay (bz - ay) b t (axF ax (bx - ax) l r (0, 1))) (axT ay (bz - ay) b t (axT ax (bx - ax) l r (1, 1)))) := by
    unfold CL ax2 clipR
    dsimp only
    rw [a1]
    dsimp only
    rw [b1]
    dsimp only
    rw [← a2, ← b2]
    unfold qle
    split
    · rename_i h
      exact ⟨fun _ => h, fun _ => rfl⟩
    · rename_i h
      exact ⟨fun k => (by cases k), fun k => absurd k h⟩
  have e1 : qle (axF ay (bz - ay) b t (axF ax (bx - ax) l r (0, 1))) (axT ay (bz - ay) b t (axT ax (bx - ax) l r (1, 1))) ↔ (qle (axF ax (bx - ax) l r (0, 1)) (axT ax (bx - ax) l r (1, 1)) ∧ (bz - ay < 0 → qle (axF ax (bx - ax) l r (0, 1)) (ay - b, -(bz - ay)) ∧ qle (ay - t, -(bz - ay)) (axT ax (bx - ax) l r (1, 1)) ∧ qle (ay - t, -(bz - ay)) (ay - b, -(bz - ay))) ∧ (0 < bz - ay → qle (axF ax (bx - ax) l r (0, 1)) (t - ay, bz - ay) ∧ qle (b - ay, bz - ay) (axT ax (bx - ax) l r (1, 1)) ∧ qle (b - ay, bz - ay) (t - ay, bz - ay))) := by
    rw [(fy _ pty).2, (ty _ pfx).2]
    constructor
    · rintro ⟨⟨h1, h2, h3⟩, h4, h5⟩
      refine ⟨h1, fun hn => ?_, fun hn => ?_⟩
      · have g := (ty (ay - t, -(bz - ay)) (by show 0 < -(bz - ay); omega)).2.mp (h4 hn)
        exact ⟨h2 hn, g.1, g.2.1 hn⟩
      · have g := (ty (b - ay, bz - ay) (by show 0 < bz - ay; omega)).2.mp (h5 hn)
        exact ⟨h3 hn, g.1, g.2.2 hn⟩
    · rintro ⟨h1, h2, h3⟩
      refine ⟨⟨h1, fun hn => (h2 hn).1, fun hn => (h3 hn).1⟩, fun hn => ?_, fun hn => ?_⟩
      · exact (ty (ay - t, -(bz - ay)) (by show 0 < -(bz - ay); omega)).2.mpr ⟨(h2 hn).2.1, fun _ => (h2 hn).2.2, fun k => by omega⟩
      · exact (ty (b - ay, bz - ay) (by show 0 < bz - ay; omega)).2.mpr ⟨(h3 hn).2.1, fun k => by omega, fun _ => (h3 hn).2.2⟩
  have e2 : qle (axF ax (bx - ax) l r (0, 1)) (axT ax (bx - ax) l r (1, 1)) ↔ ((bx - ax < 0 → 0 ≤ ax - l ∧ ax - r ≤ -(bx - ax)) ∧ (0 < bx - ax → 0 ≤ r - ax ∧ l - ax ≤ bx - ax)) := by
    rw [(fx _ ptx).2, (tx (0, 1) p1).2]
    constructor
    · rintro ⟨⟨h1, h2, h3⟩, h4, h5⟩
      refine ⟨fun hn => ?_, fun hn => ?_⟩
      · have g := (tx (ax - r, -(bx - ax)) (by show 0 < -(bx - ax); omega)).2.mp (h4 hn)
        have g1 : (ax - r) * 1 ≤ 1 * -(bx - ax) := g.1
        have g2 : 0 * -(bx - ax) ≤ (ax - l) * 1 := h2 hn
        omega
      · have g := (tx (l - ax, bx - ax) (by show 0 < bx - ax; omega)).2.mp (h5 hn)
        have g1 : (l - ax) * 1 ≤ 1 * (bx - ax) := g.1
        have g2 : 0 * (bx - ax) ≤ (r - ax) * 1 := h3 hn
        omega
    · rintro ⟨h1, h2⟩
      refine ⟨⟨?_, fun hn => ?_, fun hn => ?_⟩, fun hn => ?_, fun hn => ?_⟩
      · show (0 : Int) * 1 ≤ 1 * 1
        omega
      · show 0 * -(bx - ax) ≤ (ax - l) * 1
        have := h1 hn
        omega
      · show 0 * (bx - ax) ≤ (r - ax) * 1
        have := h2 hn
        omega
      · refine (tx (ax - r, -(bx - ax)) (by show 0 < -(bx - ax); omega)).2.mpr ⟨?_, fun _ => ?_, fun k => by omega⟩
        · show (ax - r) * 1 ≤ 1 * -(bx - ax)
          have := h1 hn
          omega
        · exact Int.mul_le_mul_of_nonneg_right (by omega) (by omega)
      · refine (tx (l - ax, bx - ax) (by show 0 < bx - ax; omega)).2.mpr ⟨?_, fun k => by omega, fun _ => ?_⟩
        · show (l - ax) * 1 ≤ 1 * (bx - ax)
          have := h2 hn
          omega
        · exact Int.mul_le_mul_of_nonneg_right (by omega) (by omega)
  have e3 : ∀ p d : Int, 0 < d → (qle (axF ax (bx - ax) l r (0, 1)) (p, d) ↔ (0 ≤ p ∧ (bx - ax < 0 → (ax - r) * d ≤ p * -(bx - ax)) ∧ (0 < bx - ax → (l - ax) * d ≤ p * (bx - ax)))) := by
    intro p d hd
    rw [(fx (p, d) hd).2]
    have : qle ((0, 1) : Fq) (p, d) ↔ 0 ≤ p := by
      show 0 * d ≤ p * 1 ↔ _
      omega
    rw [this]
  have e4 : ∀ p d : Int, 0 < d → (qle (p, d) (axT ax (bx - ax) l r (1, 1)) ↔ (p ≤ d ∧ (bx - ax < 0 → p * -(bx - ax) ≤ (ax - l) * d) ∧ (0 < bx - ax → p * (bx - ax) ≤ (r - ax) * d))) := by
    intro p d hd
    rw [(tx (p, d) hd).2]
    have : qle (p, d) ((1, 1) : Fq) ↔ p ≤ d := by
      show p * 1 ≤ 1 * d ↔ _
      omega
    rw [this]
  have hs := sat_pure (u := l - ax) (v := r - ax) (p := b - ay) (q := t - ay) (nu := ax - l) (nv := ax - r) (np := ay - b) (nq := ay - t) (X := bx - ax) (Y := bz - ay) (by omega) (by omega) (by omega) (by omega) (by omega) (by omega)
  have y1 : (bz - ay < 0 → qle (axF ax (bx - ax) l r (0, 1)) (ay - b, -(bz - ay)) ∧ qle (ay - t, -(bz - ay)) (axT ax (bx - ax) l r (1, 1)) ∧ qle (ay - t, -(bz - ay)) (ay - b, -(bz - ay))) ↔ (bz - ay < 0 → (0 ≤ ay - b ∧ (bx - ax < 0 → (ax - r) * -(bz - ay) ≤ (ay - b) * -(bx - ax)) ∧ (0 < bx - ax → (l - ax) * -(bz - ay) ≤ (ay - b) * (bx - ax))) ∧ (ay - t ≤ -(bz - ay) ∧ (bx - ax < 0 → (ay - t) * -(bx - ax) ≤ (ax - l) * -(bz - ay)) ∧ (0 < bx - ax → (ay - t) * (bx - ax) ≤ (r - ax) * -(bz - ay)))) := by
    refine ⟨fun h hn => ?_, fun h hn => ?_⟩
    · obtain ⟨g1, g2, _⟩ := h hn
      exact ⟨(e3 _ _ (by omega)).mp g1, (e4 _ _ (by omega)).mp g2⟩
    · obtain ⟨g1, g2⟩ := h hn
      exact ⟨(e3 _ _ (by omega)).mpr g1, (e4 _ _ (by omega)).mpr g2, Int.mul_le_mul_of_nonneg_right (by omega) (by omega)⟩
  have y2 : (0 < bz - ay → qle (axF ax (bx - ax) l r (0, 1)) (t - ay, bz - ay) ∧ qle (b - ay, bz - ay) (axT ax (bx - ax) l r (1, 1)) ∧ qle (b - ay, bz - ay) (t - ay, bz - ay)) ↔ (0 < bz - ay → (0 ≤ t - ay ∧ (bx - ax < 0 → (ax - r) * (bz - ay) ≤ (t - ay) * -(bx - ax)) ∧ (0 < bx - ax → (l - ax) * (bz - ay) ≤ (t - ay) * (bx - ax))) ∧ (b - ay ≤ bz - ay ∧ (bx - ax < 0 → (b - ay) * -(bx - ax) ≤ (ax - l) * (bz - ay)) ∧ (0 < bx - ax → (b - ay) * (bx - ax) ≤ (r - ax) * (bz - ay)))) := by
    refine ⟨fun h hn => ?_, fun h hn => ?_⟩
    · obtain ⟨g1, g2, _⟩ := h hn
      exact ⟨(e3 _ _ (by omega)).mp g1, (e4 _ _ (by omega)).mp g2⟩
    · obtain ⟨g1, g2⟩ := h hn
      exact ⟨(e3 _ _ (by omega)).mpr g1, (e4 _ _ (by omega)).mpr g2, Int.mul_le_mul_of_nonneg_right (by omega) (by omega)⟩
  rw [main, e1, e2, y1, y2]
  have c1 : (l ≤ ax ∧ ax ≤ r) ↔ (l - ax ≤ 0 ∧ 0 ≤ r - ax) := by omega
  have c2 : (b ≤ ay ∧ ay ≤ t) ↔ (b - ay ≤ 0 ∧ 0 ≤ t - ay) := by omega
  rw [c1, c2, hs]
  unfold hitP
  refine and_congr ?_ Iff.rfl
  omega
