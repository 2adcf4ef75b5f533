/-! ===== what is cut lies in the window; its places on the sheet are not far ===== -/
def qle (p q : Fq) : Prop := p.1 * q.2 ≤ q.1 * p.2
theorem qle_refl (p : Fq) : qle p p := Int.le_refl _
theorem qle_trans {p q r : Fq} (hp : 0 < p.2) (hq : 0 < q.2) (hr : 0 < r.2) (h1 : qle p q) (h2 : qle q r) : qle p r := by
  unfold qle at *
  have a : p.1 * q.2 * r.2 ≤ q.1 * p.2 * r.2 := Int.mul_le_mul_of_nonneg_right h1 (by omega)
  have b : q.1 * r.2 * p.2 ≤ r.1 * q.2 * p.2 := Int.mul_le_mul_of_nonneg_right h2 (by omega)
  have e1 : q.1 * p.2 * r.2 = q.1 * r.2 * p.2 := Int.mul_right_comm ..
  have e2 : p.1 * q.2 * r.2 = p.1 * r.2 * q.2 := Int.mul_right_comm ..
  have e3 : r.1 * q.2 * p.2 = r.1 * p.2 * q.2 := Int.mul_right_comm ..
  refine Int.le_of_mul_le_mul_right (a := q.2) (b := p.1 * r.2) (c := r.1 * p.2) ?_ hq
  omega
theorem narF_ge (a d : Int) (o : Option Fq) : qle (a, d) (narF a d o) ∧ ∀ f, o = some f → qle f (narF a d o) := by
  cases o with
  | none => exact ⟨qle_refl _, fun f h => by cases h⟩
  | some f =>
    unfold narF
    dsimp only
    by_cases h : a * f.2 ≤ f.1 * d
    · rw [if_pos h]
      exact ⟨h, fun g hg => by cases hg; exact qle_refl _⟩
    · rw [if_neg h]
      refine ⟨qle_refl _, fun g hg => ?_⟩
      cases hg
      show f.1 * d ≤ a * f.2
      omega
theorem narT_le (a d : Int) (o : Option Fq) : qle (narT a d o) (a, d) ∧ ∀ f, o = some f → qle (narT a d o) f := by
  cases o with
  | none => exact ⟨qle_refl _, fun f h => by cases h⟩
  | some f =>
    unfold narT
    dsimp only
    by_cases h : f.1 * d ≤ a * f.2
    · rw [if_pos h]
      exact ⟨h, fun g hg => by cases hg; exact qle_refl _⟩
    · rw [if_neg h]
      refine ⟨qle_refl _, fun g hg => ?_⟩
      cases hg
      show a * f.2 ≤ f.1 * d
      omega
/-- an axis' own bounds -/
def axIn (a w lo hi : Int) (p : Fq) : Prop := lo * p.2 ≤ a * p.2 + w * p.1 ∧ a * p.2 + w * p.1 ≤ hi * p.2
theorem axs_in {a w lo hi : Int} {f t : Option Fq} {F T : Fq} (h1 : (axs a w lo hi f t).1 = true) (hF : 0 < F.2) (hT : 0 < T.2) (hb : of_b (axs a w lo hi f t).2.1 ∧ of_b (axs a w lo hi f t).2.2) (gF : ∀ g, (axs a w lo hi f t).2.1 = some g → qle g F) (gT : ∀ g, (axs a w lo hi f t).2.2 = some g → qle T g) (hFT : qle F T) : axIn a w lo hi F ∧ axIn a w lo hi T := by
  have fin : ∀ c1 c2 e : Int, 0 < e → qle (c1, e) F → qle T (c2, e) → (c1 * F.2 ≤ F.1 * e ∧ F.1 * e ≤ c2 * F.2) ∧ (c1 * T.2 ≤ T.1 * e ∧ T.1 * e ≤ c2 * T.2) := by
    intro c1 c2 e he q1 q2
    have q3 : qle F (c2, e) := qle_trans hF hT he hFT q2
    have q4 : qle (c1, e) T := qle_trans he hF hT q1 hFT
    exact ⟨⟨q1, q3⟩, q4, q2⟩
  unfold axs at *
  by_cases hw : w = 0
  · rw [if_pos hw] at h1
    have h1' := decide_eq_true_iff.mp h1
    unfold axIn
    rw [hw, Int.zero_mul, Int.zero_mul, Int.add_zero, Int.add_zero]
    refine ⟨⟨?_, ?_⟩, ?_, ?_⟩
    · exact Int.mul_le_mul_of_nonneg_right h1'.1 (by omega)
    · exact Int.mul_le_mul_of_nonneg_right h1'.2 (by omega)
    · exact Int.mul_le_mul_of_nonneg_right h1'.1 (by omega)
    · exact Int.mul_le_mul_of_nonneg_right h1'.2 (by omega)
  · rw [if_neg hw] at gF gT hb
    by_cases hn : w ≤ 0
    · rw [if_pos hn] at gF gT hb
      have bF : fq_b (narF (a - hi) (-w) f) := hb.1
      have bT : fq_b (narT (a - lo) (-w) t) := hb.2
      unfold fq_b at bF bT
      have q1 : qle (a - hi, -w) F := qle_trans (show 0 < -w by omega) (by omega) hF (narF_ge _ _ _).1 (gF _ rfl)
      have q2 : qle T (a - lo, -w) := qle_trans hT (by omega) (show 0 < -w by omega) (gT _ rfl) (narT_le _ _ _).1
      obtain ⟨⟨r1, r2⟩, r3, r4⟩ := fin (a - hi) (a - lo) (-w) (by omega) q1 q2
      unfold axIn
      have e1 : ∀ p : Int, p * -w = -(w * p) := fun p => by rw [Int.mul_neg, Int.mul_comm]
      have e2 : ∀ p c : Int, (a - c) * p = a * p - c * p := fun p c => Int.sub_mul ..
      rw [e1, e2] at r1 r2 r3 r4
      omega
    · rw [if_neg hn] at gF gT hb
      have bF : fq_b (narF (lo - a) w f) := hb.1
      have bT : fq_b (narT (hi - a) w t) := hb.2
      unfold fq_b at bF bT
      have q1 : qle (lo - a, w) F := qle_trans (show 0 < w by omega) (by omega) hF (narF_ge _ _ _).1 (gF _ rfl)
      have q2 : qle T (hi - a, w) := qle_trans hT (by omega) (show 0 < w by omega) (gT _ rfl) (narT_le _ _ _).1
      obtain ⟨⟨r1, r2⟩, r3, r4⟩ := fin (lo - a) (hi - a) w (by omega) q1 q2
      unfold axIn
      have e1 : ∀ p : Int, p * w = w * p := fun p => Int.mul_comm ..
      have e2 : ∀ p c : Int, (c - a) * p = c * p - a * p := fun p c => Int.sub_mul ..
      rw [e1, e2] at r1 r2 r3 r4
      omega
/-- later bounds are not looser -/
theorem axs_mono {a w lo hi : Int} {f t : Option Fq} : (∀ g, f = some g → ∃ h, (axs a w lo hi f t).2.1 = some h ∧ qle g h) ∧ (∀ g, t = some g → ∃ h, (axs a w lo hi f t).2.2 = some h ∧ qle h g) := by
  unfold axs
  by_cases hw : w = 0
  · rw [if_pos hw]
    exact ⟨fun g hg => ⟨g, hg, qle_refl _⟩, fun g hg => ⟨g, hg, qle_refl _⟩⟩
  · rw [if_neg hw]
    split
    · exact ⟨fun g hg => ⟨_, rfl, (narF_ge _ _ _).2 g hg⟩, fun g hg => ⟨_, rfl, (narT_le _ _ _).2 g hg⟩⟩
    · exact ⟨fun g hg => ⟨_, rfl, (narF_ge _ _ _).2 g hg⟩, fun g hg => ⟨_, rfl, (narT_le _ _ _).2 g hg⟩⟩
theorem CL_in {ax ay bx bz l r b t : Int} {f0 t0 : Option Fq} {F T : Fq} (hx : -100000 ≤ ax ∧ ax ≤ 100000) (hy : -100000 ≤ ay ∧ ay ≤ 100000) (hx' : -100000 ≤ bx ∧ bx ≤ 100000) (hy' : -100000 ≤ bz ∧ bz ≤ 100000) (hl : -40000 ≤ l ∧ l ≤ r ∧ r ≤ 40000) (hb : -40000 ≤ b ∧ b ≤ t ∧ t ≤ 40000) (bf : of_b f0) (bt : of_b t0) (h : CL ax ay bx bz l r b t f0 t0 = some (F, T)) : (fq_b F ∧ fq_b T) ∧ (axIn ax (bx - ax) l r F ∧ axIn ay (bz - ay) b t F) ∧ (axIn ax (bx - ax) l r T ∧ axIn ay (bz - ay) b t T) := by
  unfold CL ax2 clipR at h
  dsimp only at h
  have bb1 := axs_b (a := ax) (w := bx - ax) (lo := l) (hi := r) (f := f0) (t := t0) (by omega) (by omega) (by omega) (by omega) bf bt
  have bb2 := axs_b (a := ay) (w := bz - ay) (lo := b) (hi := t) (by omega) (by omega) (by omega) (by omega) bb1.1 bb1.2
  have mono := axs_mono (a := ay) (w := bz - ay) (lo := b) (hi := t) (f := (axs ax (bx - ax) l r f0 t0).2.1) (t := (axs ax (bx - ax) l r f0 t0).2.2)
  generalize hA : axs ax (bx - ax) l r f0 t0 = A at *
  generalize hB : axs ay (bz - ay) b t A.2.1 A.2.2 = B at *
  cases hf : B.2.1 with
  | none =>
    rw [hf] at h
    cases h
  | some f =>
    cases ht : B.2.2 with
    | none =>
      rw [hf, ht] at h
      cases h
    | some u =>
      rw [hf, ht] at h
      dsimp only at h
      split at h
      · rename_i hc
        cases h
        have bF : fq_b F := by rw [hf] at bb2; exact bb2.1
        have bT : fq_b T := by rw [ht] at bb2; exact bb2.2
        have bF' := bF
        have bT' := bT
        unfold fq_b at bF' bT'
        have i2 := axs_in (a := ay) (w := bz - ay) (lo := b) (hi := t) (f := A.2.1) (t := A.2.2) (F := F) (T := T) (by rw [hB]; exact hc.2.1) (by omega) (by omega) (by rw [hB]; exact bb2) (fun g hg => by rw [hB, hf] at hg; cases hg; exact qle_refl _) (fun g hg => by rw [hB, ht] at hg; cases hg; exact qle_refl _) hc.2.2
        have i1 := axs_in (a := ax) (w := bx - ax) (lo := l) (hi := r) (f := f0) (t := t0) (F := F) (T := T) (by rw [hA]; exact hc.1) (by omega) (by omega) (by rw [hA]; exact bb1) (fun g hg => by
          rw [hA] at hg
          obtain ⟨q, hq1, hq2⟩ := mono.1 g hg
          rw [hf] at hq1
          cases hq1
          exact hq2) (fun g hg => by
          rw [hA] at hg
          obtain ⟨q, hq1, hq2⟩ := mono.2 g hg
          rw [ht] at hq1
          cases hq1
          exact hq2) hc.2.2
        exact ⟨⟨bF, bT⟩, ⟨i1.1, i2.1⟩, i1.2, i2.2⟩
      · cases h
/-- places in the window have places on the sheet that are not far -/
theorem fl_b {x y : Int64} {B : Int} (hy : 0 < y.toInt) (h1 : -B * y.toInt ≤ x.toInt) (h2 : x.toInt ≤ B * y.toInt) : -B ≤ (fl x y).toInt ∧ (fl x y).toInt ≤ B := by
  rw [fl_i hy]
  constructor
  · exact (Int.le_ediv_iff_mul_le hy).mpr h1
  · refine Int.not_lt.mp fun hh => ?_
    have h3 := (Int.le_ediv_iff_mul_le (a := B + 1) (b := x.toInt) hy).mp (by omega)
    have e : (B + 1) * y.toInt = B * y.toInt + y.toInt := by rw [Int.add_mul, Int.one_mul]
    omega
theorem far_b {w dn u d n lo hi T B : Int} (hw : 0 ≤ w ∧ w ≤ 400) (hdn : 1 ≤ dn) (hu : 0 ≤ u ∧ u ≤ 400) (hd : 1 ≤ d) (hlh : -40000 ≤ lo ∧ lo ≤ hi ∧ hi ≤ 40000) (h1 : lo * d ≤ n) (h2 : n ≤ hi * d) (hT : T = w * d * dn + (2 * n - (lo + hi) * d) * u ∨ T = w * d * dn - (2 * n - (lo + hi) * d) * u) (hB : B = 2 * d * dn) : -100000000 * (2 * B) ≤ 2 * T + B ∧ 2 * T + B ≤ 100000000 * (2 * B) := by
  have q : 0 ≤ d * dn - d := by
    have : d * 1 ≤ d * dn := Int.mul_le_mul_of_nonneg_left hdn (by omega)
    omega
  have e1 : w * d * dn = w * (d * dn) := Int.mul_assoc ..
  have e2 : 2 * d * dn = 2 * (d * dn) := Int.mul_assoc ..
  have e3 : (lo + hi) * d = lo * d + hi * d := Int.add_mul ..
  have m1 : 0 ≤ w * (d * dn) := Int.mul_nonneg hw.1 (by omega)
  have m2 : w * (d * dn) ≤ 400 * (d * dn) := Int.mul_le_mul_of_nonneg_right hw.2 (by omega)
  have l1 : -40000 * d ≤ lo * d := Int.mul_le_mul_of_nonneg_right hlh.1 (by omega)
  have l2 : hi * d ≤ 40000 * d := Int.mul_le_mul_of_nonneg_right hlh.2.2 (by omega)
  have l3 : lo * d ≤ hi * d := Int.mul_le_mul_of_nonneg_right hlh.2.1 (by omega)
  have b1 : -(80000 * d) ≤ 2 * n - (lo + hi) * d := by omega
  have b2 : 2 * n - (lo + hi) * d ≤ 80000 * d := by omega
  have m3 := mul_ab (a := 2 * n - (lo + hi) * d) (b := u) (m := 80000 * d) (n := 400) b1 b2 (by omega) (by omega)
  rw [e1] at hT
  rw [e2] at hB
  generalize d * dn = Q at *
  generalize w * Q = W at *
  generalize (2 * n - (lo + hi) * d) * u = V at *
  omega
