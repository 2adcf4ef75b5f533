/-! ===== a way cut to a window ===== -/
abbrev Fq : Type := Int × Int
def narF (a d : Int) : Option Fq → Fq
  | none => (a, d)
  | some f => if a * f.2 ≤ f.1 * d then f else (a, d)
def narT (b d : Int) : Option Fq → Fq
  | none => (b, d)
  | some t => if t.1 * d ≤ b * t.2 then t else (b, d)
abbrev C3 : Type := Bool × Option Fq × Option Fq
def axs (a w lo hi : Int) (f t : Option Fq) : C3 :=
  if w = 0 then (decide (lo ≤ a ∧ a ≤ hi), f, t) else if w ≤ 0 then (true, some (narF (a - hi) (-w) f), some (narT (a - lo) (-w) t)) else (true, some (narF (lo - a) w f), some (narT (hi - a) w t))
def ax2 (ax ay bx bz l r b t : Int) (f0 t0 : Option Fq) : C3 × C3 := (axs ax (bx - ax) l r f0 t0, axs ay (bz - ay) b t (axs ax (bx - ax) l r f0 t0).2.1 (axs ax (bx - ax) l r f0 t0).2.2)
def clipR (c : C3 × C3) : Option (Fq × Fq) := match c.2.2.1, c.2.2.2 with
  | some f, some t => if c.1.1 = true ∧ c.2.1 = true ∧ f.1 * t.2 ≤ t.1 * f.2 then some (f, t) else none
  | _, _ => none
/-- the window's cut of the way from a to b -/
def CL (ax ay bx bz l r b t : Int) (f0 t0 : Option Fq) : Option (Fq × Fq) := clipR (ax2 ax ay bx bz l r b t f0 t0)
def fq_b (f : Fq) : Prop := (-2000000000 ≤ f.1 ∧ f.1 ≤ 2000000000) ∧ 1 ≤ f.2 ∧ f.2 ≤ 2000000000
def of_b : Option Fq → Prop
  | none => True
  | some f => fq_b f
theorem narF_b {a d : Int} {f : Option Fq} (ha : -2000000000 ≤ a ∧ a ≤ 2000000000) (hd : 1 ≤ d ∧ d ≤ 2000000000) (hf : of_b f) : fq_b (narF a d f) := by
  cases f with
  | none => exact ⟨ha, hd⟩
  | some f =>
    unfold narF
    dsimp only
    split
    · exact hf
    · exact ⟨ha, hd⟩
theorem narT_b {a d : Int} {f : Option Fq} (ha : -2000000000 ≤ a ∧ a ≤ 2000000000) (hd : 1 ≤ d ∧ d ≤ 2000000000) (hf : of_b f) : fq_b (narT a d f) := by
  cases f with
  | none => exact ⟨ha, hd⟩
  | some f =>
    unfold narT
    dsimp only
    split
    · exact hf
    · exact ⟨ha, hd⟩
theorem axs_b {a w lo hi : Int} {f t : Option Fq} (ha : -1000000000 ≤ a ∧ a ≤ 1000000000) (hw : -2000000000 ≤ w ∧ w ≤ 2000000000) (hlo : -1000000000 ≤ lo ∧ lo ≤ 1000000000) (hhi : -1000000000 ≤ hi ∧ hi ≤ 1000000000) (hf : of_b f) (ht : of_b t) : of_b (axs a w lo hi f t).2.1 ∧ of_b (axs a w lo hi f t).2.2 := by
  unfold axs
  split
  · exact ⟨hf, ht⟩
  · split
    · exact ⟨narF_b (by omega) (by omega) hf, narT_b (by omega) (by omega) ht⟩
    · exact ⟨narF_b (by omega) (by omega) hf, narT_b (by omega) (by omega) ht⟩
theorem m64 {x y : Int64} (hx : -2000000000 ≤ x.toInt ∧ x.toInt ≤ 2000000000) (hy : -2000000000 ≤ y.toInt ∧ y.toInt ≤ 2000000000) : (x * y).toInt = x.toInt * y.toInt := by
  have := mul_ab hx.1 hx.2 hy.1 hy.2
  exact i64m (by omega)
/-- the reference's longs hold the bound f, or none -/
def mF (I : xm_I) (L : xm_L) : Option Fq → Prop
  | none => I 49 41 = 0
  | some f => I 49 41 ≠ 0 ∧ (L 49 43).toInt = f.1 ∧ (L 49 44).toInt = f.2
def mT (I : xm_I) (L : xm_L) : Option Fq → Prop
  | none => I 49 42 = 0
  | some f => I 49 42 ≠ 0 ∧ (L 49 45).toInt = f.1 ∧ (L 49 46).toInt = f.2
abbrev WL : List Nat := [50043, 50044, 50045, 50046]
abbrev WI : List Nat := [50041, 50042]
theorem e_narrow {a b d : Int64} {I : xm_I} {L : xm_L} {f t : Option Fq} (ha : -2000000000 ≤ a.toInt ∧ a.toInt ≤ 2000000000) (hb : -2000000000 ≤ b.toInt ∧ b.toInt ≤ 2000000000) (hd : 1 ≤ d.toInt ∧ d.toInt ≤ 2000000000) (hf : mF I L f) (ht : mT I L t) (bf : of_b f) (bt : of_b t) : ok (f_M_narrow a b d I L) (fun r => Fr WI I r.1 ∧ Fr WL L r.2 ∧ mF r.1 r.2 (some (narF a.toInt d.toInt f)) ∧ mT r.1 r.2 (some (narT b.toInt d.toInt t))) := by
  have fin : ∀ M : xm_L, Fr WL L M → (M 49 43).toInt = (narF a.toInt d.toInt f).1 → (M 49 44).toInt = (narF a.toInt d.toInt f).2 → (M 49 45).toInt = (narT b.toInt d.toInt t).1 → (M 49 46).toInt = (narT b.toInt d.toInt t).2 → ok (f_M_narrow_b70 I M) (fun r => Fr WI I r.1 ∧ Fr WL L r.2 ∧ mF r.1 r.2 (some (narF a.toInt d.toInt f)) ∧ mT r.1 r.2 (some (narT b.toInt d.toInt t))) := by
    intro M hM h1 h2 h3 h4
    unfold f_M_narrow_b70
    exact ok_s ⟨Fr.up (Fr.up (Fr.refl _ _) (by decide)) (by decide), hM, ⟨by show ((1 : Int32) ≠ 0); decide, h1, h2⟩, by show ((1 : Int32) ≠ 0); decide, h3, h4⟩
  have to : ∀ M : xm_L, Fr WL L M → M 49 45 = L 49 45 → M 49 46 = L 49 46 → (M 49 43).toInt = (narF a.toInt d.toInt f).1 → (M 49 44).toInt = (narF a.toInt d.toInt f).2 → ok (f_M_narrow_b35 b d I M) (fun r => Fr WI I r.1 ∧ Fr WL L r.2 ∧ mF r.1 r.2 (some (narF a.toInt d.toInt f)) ∧ mT r.1 r.2 (some (narT b.toInt d.toInt t))) := by
    intro M hM q1 q2 h1 h2
    have set : (narT b.toInt d.toInt t) = (b.toInt, d.toInt) → ok (f_M_narrow_b59 b d I M) (fun r => Fr WI I r.1 ∧ Fr WL L r.2 ∧ mF r.1 r.2 (some (narF a.toInt d.toInt f)) ∧ mT r.1 r.2 (some (narT b.toInt d.toInt t))) := by
      intro he
      unfold f_M_narrow_b59
      exact fin _ (Fr.up (Fr.up hM (by decide)) (by decide)) h1 h2 (by rw [he]; rfl) (by rw [he]; rfl)
    unfold f_M_narrow_b35
    cases t with
    | none =>
      have ht' : I 49 42 = 0 := ht
      exact ok_t ht' (set rfl)
    | some t =>
      obtain ⟨t1, t2, t3⟩ := ht
      have bt' : fq_b t := bt
      unfold fq_b at bt'
      rw [q1, q2]
      have m1 : (L 49 45 * d).toInt = t.1 * d.toInt := by rw [m64 (by omega) (by omega), t2]
      have m2 : (b * L 49 46).toInt = b.toInt * t.2 := by rw [m64 (by omega) (by omega), t3]
      refine ok_f t1 (ok_le6 (fun hc => ?_) (fun hc => set ?_))
      · rw [m1, m2] at hc
        have e : narT b.toInt d.toInt (some t) = t := if_pos hc
        refine fin M hM h1 h2 ?_ ?_
        · rw [e, q1]
          exact t2
        · rw [e, q2]
          exact t3
      · rw [m1, m2] at hc
        exact if_neg (by omega)
  have setF : (narF a.toInt d.toInt f) = (a.toInt, d.toInt) → ok (f_M_narrow_b24 a b d I L) (fun r => Fr WI I r.1 ∧ Fr WL L r.2 ∧ mF r.1 r.2 (some (narF a.toInt d.toInt f)) ∧ mT r.1 r.2 (some (narT b.toInt d.toInt t))) := by
    intro he
    unfold f_M_narrow_b24
    exact to _ (Fr.up (Fr.up (Fr.refl _ _) (by decide)) (by decide)) rfl rfl (by rw [he]; rfl) (by rw [he]; rfl)
  unfold f_M_narrow f_M_narrow_b0
  cases f with
  | none =>
    have hf' : I 49 41 = 0 := hf
    exact ok_t hf' (setF rfl)
  | some f =>
    obtain ⟨f1, f2, f3⟩ := hf
    have bf' : fq_b f := bf
    unfold fq_b at bf'
    have m1 : (a * L 49 44).toInt = a.toInt * f.2 := by rw [m64 (by omega) (by omega), f3]
    have m2 : (L 49 43 * d).toInt = f.1 * d.toInt := by rw [m64 (by omega) (by omega), f2]
    refine ok_f f1 (ok_le6 (fun hc => ?_) (fun hc => setF ?_))
    · rw [m1, m2] at hc
      have e : narF a.toInt d.toInt (some f) = f := if_pos hc
      refine to L (Fr.refl _ _) rfl rfl ?_ ?_
      · rw [e]
        exact f2
      · rw [e]
        exact f3
    · rw [m1, m2] at hc
      exact if_neg (by omega)
theorem e_along {a w lo hi : Int32} {I : xm_I} {L : xm_L} {f t : Option Fq} (ha : -1000000000 ≤ a.toInt ∧ a.toInt ≤ 1000000000) (hw : -2000000000 ≤ w.toInt ∧ w.toInt ≤ 2000000000) (hlo : -1000000000 ≤ lo.toInt ∧ lo.toInt ≤ 1000000000) (hhi : -1000000000 ≤ hi.toInt ∧ hi.toInt ≤ 1000000000) (hf : mF I L f) (ht : mT I L t) (bf : of_b f) (bt : of_b t) : ok (f_M_along a.toInt64 w.toInt64 lo.toInt64 hi.toInt64 I L) (fun r => r.1 = bi ((axs a.toInt w.toInt lo.toInt hi.toInt f t).1 = true) ∧ Fr WI I r.2.1 ∧ Fr WL L r.2.2 ∧ mF r.2.1 r.2.2 (axs a.toInt w.toInt lo.toInt hi.toInt f t).2.1 ∧ mT r.2.1 r.2.2 (axs a.toInt w.toInt lo.toInt hi.toInt f t).2.2) := by
  have k0 : (0 : Int64).toInt = 0 := by decide
  have a6 := i64of a
  have w6 := i64of w
  have l6 := i64of lo
  have h6 := i64of hi
  unfold f_M_along f_M_along_b0 axs
  refine ok_iq6 (fun hc => ?_) (fun hc => ?_)
  · rw [w6, k0] at hc
    rw [if_pos hc]
    refine ok_lt6 (fun h1 => ok_s ⟨?_, Fr.refl _ _, Fr.refl _ _, hf, ht⟩) (fun h1 => ok_lt6 (fun h2 => ok_s ⟨?_, Fr.refl _ _, Fr.refl _ _, hf, ht⟩) (fun h2 => ok_s ⟨?_, Fr.refl _ _, Fr.refl _ _, hf, ht⟩))
    · rw [a6, l6] at h1
      exact (bi_f (by rw [decide_eq_true_iff]; omega)).symm
    · rw [a6, h6] at h2
      exact (bi_f (by rw [decide_eq_true_iff]; omega)).symm
    · rw [a6, l6] at h1
      rw [a6, h6] at h2
      exact (bi_t (by rw [decide_eq_true_iff]; omega)).symm
  · rw [w6, k0] at hc
    rw [if_neg hc]
    have s1 : (a.toInt64 - hi.toInt64).toInt = a.toInt - hi.toInt := by rw [i64s (by omega), a6, h6]
    have s2 : (a.toInt64 - lo.toInt64).toInt = a.toInt - lo.toInt := by rw [i64s (by omega), a6, l6]
    have s3 : (lo.toInt64 - a.toInt64).toInt = lo.toInt - a.toInt := by rw [i64s (by omega), a6, l6]
    have s4 : (hi.toInt64 - a.toInt64).toInt = hi.toInt - a.toInt := by rw [i64s (by omega), a6, h6]
    have s5 : (-w.toInt64).toInt = -w.toInt := by rw [i64n (by omega), w6]
    refine ok_le6 (fun h1 => ?_) (fun h1 => ?_)
    · rw [w6, k0] at h1
      rw [if_pos h1]
      have := e_narrow (a := a.toInt64 - hi.toInt64) (b := a.toInt64 - lo.toInt64) (d := -w.toInt64) (by omega) (by omega) (by omega) hf ht bf bt
      rw [s1, s2, s5] at this
      exact ok_b (ok_mono this fun r hr => ok_s ⟨(bi_t rfl).symm, hr.1, hr.2.1, hr.2.2.1, hr.2.2.2⟩)
    · rw [w6, k0] at h1
      rw [if_neg (by omega)]
      have := e_narrow (a := lo.toInt64 - a.toInt64) (b := hi.toInt64 - a.toInt64) (d := w.toInt64) (by omega) (by omega) (by omega) hf ht bf bt
      rw [s3, s4, w6] at this
      exact ok_b (ok_mono this fun r hr => ok_s ⟨(bi_t rfl).symm, hr.1, hr.2.1, hr.2.2.1, hr.2.2.2⟩)
def fqS (x : Int32) : Option Fq := if x = 0 then none else some (0, 1)
def fqE (x : Int32) : Option Fq := if x = 0 then none else some (1, 1)
/-- what a cut leaves in the reference's longs -/
def cutM (L : xm_L) (o : Option (Fq × Fq)) (v : Int32) : Prop := match o with
  | none => v = 0
  | some (f, t) => v = 1 ∧ (L 49 43).toInt = f.1 ∧ (L 49 44).toInt = f.2 ∧ (L 49 45).toInt = t.1 ∧ (L 49 46).toInt = t.2
theorem clips_ok {ax ay bx bz l r b t bg en : Int32} {I : xm_I} {L : xm_L} (h1 : -1000000000 ≤ ax.toInt ∧ ax.toInt ≤ 1000000000) (h2 : -1000000000 ≤ ay.toInt ∧ ay.toInt ≤ 1000000000) (h3 : -1000000000 ≤ bx.toInt ∧ bx.toInt ≤ 1000000000) (h4 : -1000000000 ≤ bz.toInt ∧ bz.toInt ≤ 1000000000) (h5 : -1000000000 ≤ l.toInt ∧ l.toInt ≤ 1000000000) (h6 : -1000000000 ≤ r.toInt ∧ r.toInt ≤ 1000000000) (h7 : -1000000000 ≤ b.toInt ∧ b.toInt ≤ 1000000000) (h8 : -1000000000 ≤ t.toInt ∧ t.toInt ≤ 1000000000) (hbg : bg = 0 ∨ bg = 1) (hen : en = 0 ∨ en = 1) (hne : bx.toInt ≠ ax.toInt ∨ bz.toInt ≠ ay.toInt ∨ (bg = 1 ∧ en = 1)) : ok (f_M_clips ax ay bx bz bg en l r b t I L) (fun q => Fr WI I q.2.1 ∧ Fr WL L q.2.2 ∧ cutM q.2.2 (CL ax.toInt ay.toInt bx.toInt bz.toInt l.toInt r.toInt b.toInt t.toInt (fqS bg) (fqE en)) q.1) := by
  have d1 : (bx - ax).toInt = bx.toInt - ax.toInt := i32s (by omega)
  have d2 : (bz - ay).toInt = bz.toInt - ay.toInt := i32s (by omega)
  have f0 : mF (up2 (up2 I 49 41 bg) 49 42 en) (up2 (up2 (up2 (up2 L 49 43 0) 49 44 1) 49 45 1) 49 46 1) (fqS bg) := by
    unfold fqS
    by_cases hb : bg = 0
    · rw [if_pos hb]
      exact hb
    · rw [if_neg hb]
      exact ⟨hb, show (0 : Int64).toInt = 0 from by decide, show (1 : Int64).toInt = 1 from by decide⟩
  have t0 : mT (up2 (up2 I 49 41 bg) 49 42 en) (up2 (up2 (up2 (up2 L 49 43 0) 49 44 1) 49 45 1) 49 46 1) (fqE en) := by
    unfold fqE
    by_cases hb : en = 0
    · rw [if_pos hb]
      exact hb
    · rw [if_neg hb]
      exact ⟨hb, show (1 : Int64).toInt = 1 from by decide, show (1 : Int64).toInt = 1 from by decide⟩
  have bf0 : of_b (fqS bg) := by
    unfold fqS
    split
    · trivial
    · exact ⟨⟨by decide, by decide⟩, by decide, by decide⟩
  have bt0 : of_b (fqE en) := by
    unfold fqE
    split
    · trivial
    · exact ⟨⟨by decide, by decide⟩, by decide, by decide⟩
  unfold f_M_clips f_M_clips_b0
  refine ok_g hbg (ok_g hen ?_)
  refine ok_b (ok_mono (e_along (w := bx - ax) h1 (by omega) h5 h6 f0 t0 bf0 bt0) (fun p hp => ?_))
  obtain ⟨p1, p2, p3, p4, p5⟩ := hp
  rw [d1] at p1 p4 p5
  have bb := axs_b (a := ax.toInt) (w := bx.toInt - ax.toInt) (lo := l.toInt) (hi := r.toInt) h1 (by omega) h5 h6 bf0 bt0
  refine ok_b (ok_mono (e_along (w := bz - ay) h2 (by omega) h7 h8 p4 p5 bb.1 bb.2) (fun q hq => ?_))
  obtain ⟨q1, q2, q3, q4, q5⟩ := hq
  rw [d2] at q1 q4 q5
  have fI : Fr WI I q.2.1 := Fr.trans (g := p.2.1) (Fr.trans (g := up2 (up2 I 49 41 bg) 49 42 en) (Fr.up (Fr.up (Fr.refl _ _) (by decide)) (by decide)) p2) q2
  have fL : Fr WL L q.2.2 := Fr.trans (g := p.2.2) (Fr.trans (g := up2 (up2 (up2 (up2 L 49 43 0) 49 44 1) 49 45 1) 49 46 1) (Fr.up (Fr.up (Fr.up (Fr.up (Fr.refl _ _) (by decide)) (by decide)) (by decide)) (by decide)) p3) q3
  unfold CL ax2 clipR
  dsimp only
  have bb2 := axs_b (a := ay.toInt) (w := bz.toInt - ay.toInt) (lo := b.toInt) (hi := t.toInt) h2 (by omega) h7 h8 bb.1 bb.2
  have hsome : ∃ F T, (axs ay.toInt (bz.toInt - ay.toInt) b.toInt t.toInt (axs ax.toInt (bx.toInt - ax.toInt) l.toInt r.toInt (fqS bg) (fqE en)).2.1 (axs ax.toInt (bx.toInt - ax.toInt) l.toInt r.toInt (fqS bg) (fqE en)).2.2).2.1 = some F ∧ (axs ay.toInt (bz.toInt - ay.toInt) b.toInt t.toInt (axs ax.toInt (bx.toInt - ax.toInt) l.toInt r.toInt (fqS bg) (fqE en)).2.1 (axs ax.toInt (bx.toInt - ax.toInt) l.toInt r.toInt (fqS bg) (fqE en)).2.2).2.2 = some T := by
    have ex : ∀ (a w lo hi : Int) (f t : Option Fq), w ≠ 0 → ∃ F T, (axs a w lo hi f t).2.1 = some F ∧ (axs a w lo hi f t).2.2 = some T := by
      intro a w lo hi f t hw
      unfold axs
      rw [if_neg hw]
      split
      · exact ⟨_, _, rfl, rfl⟩
      · exact ⟨_, _, rfl, rfl⟩
    by_cases hy : bz.toInt - ay.toInt = 0
    · have e : ∀ (f u : Option Fq), (axs ay.toInt (bz.toInt - ay.toInt) b.toInt t.toInt f u).2 = (f, u) := fun f u => by unfold axs; rw [if_pos hy]
      rw [e]
      by_cases hx : bx.toInt - ax.toInt = 0
      · have e2 : ∀ (f u : Option Fq), (axs ax.toInt (bx.toInt - ax.toInt) l.toInt r.toInt f u).2 = (f, u) := fun f u => by unfold axs; rw [if_pos hx]
        rw [e2]
        have hbe : bg = 1 ∧ en = 1 := by
          rcases hne with h | h | h
          · omega
          · omega
          · exact h
        rw [hbe.1, hbe.2]
        exact ⟨_, _, rfl, rfl⟩
      · exact ex _ _ _ _ _ _ hx
    · exact ex _ _ _ _ _ _ hy
  obtain ⟨F, T, hF, hT⟩ := hsome
  rw [hF] at q4 bb2
  rw [hT] at q5 bb2
  rw [hF, hT]
  dsimp only
  obtain ⟨_, f1, f2⟩ := q4
  obtain ⟨_, t1, t2⟩ := q5
  have bF : fq_b F := bb2.1
  have bT : fq_b T := bb2.2
  unfold fq_b at bF bT
  have m1 : (q.2.2 49 45 * q.2.2 49 44).toInt = T.1 * F.2 := by rw [m64 (by omega) (by omega), t1, f2]
  have m2 : (q.2.2 49 43 * q.2.2 49 46).toInt = F.1 * T.2 := by rw [m64 (by omega) (by omega), f1, t2]
  unfold f_M_clips_b79 f_M_clips_b80
  by_cases c2 : (axs ay.toInt (bz.toInt - ay.toInt) b.toInt t.toInt (axs ax.toInt (bx.toInt - ax.toInt) l.toInt r.toInt (fqS bg) (fqE en)).2.1 (axs ax.toInt (bx.toInt - ax.toInt) l.toInt r.toInt (fqS bg) (fqE en)).2.2).1 = true
  · rw [bi_t c2] at q1
    refine ok_f (by rw [q1]; decide) ?_
    by_cases c1 : (axs ax.toInt (bx.toInt - ax.toInt) l.toInt r.toInt (fqS bg) (fqE en)).1 = true
    · rw [bi_t c1] at p1
      refine ok_f (by rw [p1]; decide) (ok_f (by decide) (ok_lt6 (fun hc => ok_s ⟨fI, fL, ?_⟩) (fun hc => ok_s ⟨fI, fL, ?_⟩)))
      · rw [m1, m2] at hc
        rw [if_neg (fun hh => by have := hh.2.2; omega)]
        exact rfl
      · rw [m1, m2] at hc
        rw [if_pos ⟨c1, c2, hc⟩]
        exact ⟨rfl, f1, f2, t1, t2⟩
    · rw [bi_f c1] at p1
      refine ok_t p1 (ok_t rfl (ok_s ⟨fI, fL, ?_⟩))
      rw [if_neg (fun hh => c1 hh.1)]
      exact rfl
  · rw [bi_f c2] at q1
    refine ok_t q1 (ok_t rfl (ok_s ⟨fI, fL, ?_⟩))
    rw [if_neg (fun hh => c2 hh.2.1)]
    exact rfl
