/-! ===== the class's cutter ===== -/
def cF (L : xm_L) : Option Fq → Prop
  | none => (L 38 5).toInt = -1000000 ∧ (L 38 6).toInt = 1
  | some f => (L 38 5).toInt = f.1 ∧ (L 38 6).toInt = f.2
def cT (L : xm_L) : Option Fq → Prop
  | none => (L 38 7).toInt = 1000000 ∧ (L 38 8).toInt = 1
  | some f => (L 38 7).toInt = f.1 ∧ (L 38 8).toInt = f.2
abbrev WK : List Nat := [39005, 39006, 39007, 39008]
theorem e_start {a d : Int64} {L : xm_L} {f : Option Fq} (ha : -500000 ≤ a.toInt ∧ a.toInt ≤ 500000) (hd : 1 ≤ d.toInt ∧ d.toInt ≤ 500000) (hf : cF L f) (bf : of_b f) : ok (f_Cu_startNotBefore a d L) (fun M => Fr WK L M ∧ M 38 7 = L 38 7 ∧ M 38 8 = L 38 8 ∧ cF M (some (narF a.toInt d.toInt f))) := by
  have set : narF a.toInt d.toInt f = (a.toInt, d.toInt) → Fr WK L (up2 (up2 L 38 5 a) 38 6 d) ∧ (up2 (up2 L 38 5 a) 38 6 d) 38 7 = L 38 7 ∧ (up2 (up2 L 38 5 a) 38 6 d) 38 8 = L 38 8 ∧ cF (up2 (up2 L 38 5 a) 38 6 d) (some (narF a.toInt d.toInt f)) := by
    intro he
    rw [he]
    exact ⟨Fr.up (Fr.up (Fr.refl _ _) (by decide)) (by decide), rfl, rfl, rfl, rfl⟩
  unfold f_Cu_startNotBefore f_Cu_startNotBefore_b0
  cases f with
  | none =>
    obtain ⟨f1, f2⟩ := hf
    have m1 : (a * L 38 6).toInt = a.toInt * 1 := by rw [m64 (by omega) (by omega), f2]
    have m2 : (L 38 5 * d).toInt = -1000000 * d.toInt := by rw [m64 (by omega) (by omega), f1]
    refine ok_le6 (fun hc => ?_) (fun hc => ok_s (set rfl))
    exfalso
    rw [m1, m2] at hc
    omega
  | some f =>
    obtain ⟨f1, f2⟩ := hf
    have bf' : fq_b f := bf
    unfold fq_b at bf'
    have m1 : (a * L 38 6).toInt = a.toInt * f.2 := by rw [m64 (by omega) (by omega), f2]
    have m2 : (L 38 5 * d).toInt = f.1 * d.toInt := by rw [m64 (by omega) (by omega), f1]
    refine ok_le6 (fun hc => ok_s ⟨Fr.refl _ _, rfl, rfl, ?_⟩) (fun hc => ok_s (set ?_))
    · rw [m1, m2] at hc
      have e : narF a.toInt d.toInt (some f) = f := if_pos hc
      rw [e]
      exact ⟨f1, f2⟩
    · rw [m1, m2] at hc
      exact if_neg (by omega)
theorem e_end {a d : Int64} {L : xm_L} {f : Option Fq} (ha : -500000 ≤ a.toInt ∧ a.toInt ≤ 500000) (hd : 1 ≤ d.toInt ∧ d.toInt ≤ 500000) (hf : cT L f) (bf : of_b f) : ok (f_Cu_endNotBehind a d L) (fun M => Fr WK L M ∧ M 38 5 = L 38 5 ∧ M 38 6 = L 38 6 ∧ cT M (some (narT a.toInt d.toInt f))) := by
  have set : narT a.toInt d.toInt f = (a.toInt, d.toInt) → Fr WK L (up2 (up2 L 38 7 a) 38 8 d) ∧ (up2 (up2 L 38 7 a) 38 8 d) 38 5 = L 38 5 ∧ (up2 (up2 L 38 7 a) 38 8 d) 38 6 = L 38 6 ∧ cT (up2 (up2 L 38 7 a) 38 8 d) (some (narT a.toInt d.toInt f)) := by
    intro he
    rw [he]
    exact ⟨Fr.up (Fr.up (Fr.refl _ _) (by decide)) (by decide), rfl, rfl, rfl, rfl⟩
  unfold f_Cu_endNotBehind f_Cu_endNotBehind_b0
  cases f with
  | none =>
    obtain ⟨f1, f2⟩ := hf
    have m1 : (a * L 38 8).toInt = a.toInt * 1 := by rw [m64 (by omega) (by omega), f2]
    have m2 : (L 38 7 * d).toInt = 1000000 * d.toInt := by rw [m64 (by omega) (by omega), f1]
    refine ok_le6 (fun hc => ?_) (fun hc => ok_s (set rfl))
    exfalso
    rw [m1, m2] at hc
    omega
  | some f =>
    obtain ⟨f1, f2⟩ := hf
    have bf' : fq_b f := bf
    unfold fq_b at bf'
    have m1 : (a * L 38 8).toInt = a.toInt * f.2 := by rw [m64 (by omega) (by omega), f2]
    have m2 : (L 38 7 * d).toInt = f.1 * d.toInt := by rw [m64 (by omega) (by omega), f1]
    refine ok_le6 (fun hc => ok_s ⟨Fr.refl _ _, rfl, rfl, ?_⟩) (fun hc => ok_s (set ?_))
    · rw [m1, m2] at hc
      have e : narT a.toInt d.toInt (some f) = f := if_pos hc
      rw [e]
      exact ⟨f1, f2⟩
    · rw [m1, m2] at hc
      exact if_neg (by omega)
theorem e_cutAxis {a w lo hi : Int32} {L : xm_L} {f t : Option Fq} (ha : -100000 ≤ a.toInt ∧ a.toInt ≤ 100000) (hw : -200000 ≤ w.toInt ∧ w.toInt ≤ 200000) (hlo : -100000 ≤ lo.toInt ∧ lo.toInt ≤ 100000) (hhi : -100000 ≤ hi.toInt ∧ hi.toInt ≤ 100000) (hf : cF L f) (ht : cT L t) (bf : of_b f) (bt : of_b t) : ok (f_Cu_cutAxis a w lo hi L) (fun r => r.1 = bi ((axs a.toInt w.toInt lo.toInt hi.toInt f t).1 = true) ∧ Fr WK L r.2 ∧ cF r.2 (axs a.toInt w.toInt lo.toInt hi.toInt f t).2.1 ∧ cT r.2 (axs a.toInt w.toInt lo.toInt hi.toInt f t).2.2) := by
  have k0 := z0
  unfold f_Cu_cutAxis f_Cu_cutAxis_b0 axs
  refine ok_iq (fun hc => ?_) (fun hc => ?_)
  · rw [k0] at hc
    rw [if_pos hc]
    refine ok_lt (fun h1 => ok_s ⟨?_, Fr.refl _ _, hf, ht⟩) (fun h1 => ok_lt (fun h2 => ok_s ⟨?_, Fr.refl _ _, hf, ht⟩) (fun h2 => ok_s ⟨?_, Fr.refl _ _, hf, ht⟩))
    · exact (bi_f (by rw [decide_eq_true_iff]; omega)).symm
    · exact (bi_f (by rw [decide_eq_true_iff]; omega)).symm
    · exact (bi_t (by rw [decide_eq_true_iff]; omega)).symm
  · rw [k0] at hc
    rw [if_neg hc]
    have s1 : (a - hi).toInt64.toInt = a.toInt - hi.toInt := by rw [i64of, i32s (by omega)]
    have s2 : (a - lo).toInt64.toInt = a.toInt - lo.toInt := by rw [i64of, i32s (by omega)]
    have s3 : (lo - a).toInt64.toInt = lo.toInt - a.toInt := by rw [i64of, i32s (by omega)]
    have s4 : (hi - a).toInt64.toInt = hi.toInt - a.toInt := by rw [i64of, i32s (by omega)]
    have s5 : (-w).toInt64.toInt = -w.toInt := by rw [i64of, i32n (by omega)]
    have s6 := i64of w
    have go : ∀ (x y d : Int64) (X Y D : Int), x.toInt = X → y.toInt = Y → d.toInt = D → -500000 ≤ X ∧ X ≤ 500000 → -500000 ≤ Y ∧ Y ≤ 500000 → 1 ≤ D ∧ D ≤ 500000 → ok ((f_Cu_startNotBefore x d L).bind fun p_1 => (f_Cu_endNotBehind y d p_1).bind fun p_2 => some ((1 : Int32), p_2)) (fun r => r.1 = bi (true = true) ∧ Fr WK L r.2 ∧ cF r.2 (some (narF X D f)) ∧ cT r.2 (some (narT Y D t))) := by
      intro x y d X Y D hx hy hd bx bY bd
      subst hx
      subst hy
      subst hd
      refine ok_b (ok_mono (e_start bx bd hf bf) (fun M hM => ?_))
      obtain ⟨m1, m2, m3, m4⟩ := hM
      have ht' : cT M t := by
        cases t with
        | none => exact ⟨by rw [m2]; exact ht.1, by rw [m3]; exact ht.2⟩
        | some t => exact ⟨by rw [m2]; exact ht.1, by rw [m3]; exact ht.2⟩
      refine ok_b (ok_mono (e_end bY bd ht' bt) (fun N hN => ok_s ⟨(bi_t rfl).symm, m1.trans hN.1, ?_, hN.2.2.2⟩))
      exact ⟨by show (N 38 5).toInt = _; rw [hN.2.1]; exact m4.1, by show (N 38 6).toInt = _; rw [hN.2.2.1]; exact m4.2⟩
    refine ok_le (fun h1 => ?_) (fun h1 => ?_)
    · rw [k0] at h1
      rw [if_pos h1]
      exact go _ _ _ _ _ _ s1 s2 s5 (by omega) (by omega) (by omega)
    · rw [k0] at h1
      rw [if_neg (by omega)]
      exact go _ _ _ _ _ _ s3 s4 s6 (by omega) (by omega) (by omega)
def cutC (L : xm_L) (o : Option (Fq × Fq)) (v : Int32) : Prop := match o with
  | none => v = 0
  | some (f, t) => v = 1 ∧ (L 38 5).toInt = f.1 ∧ (L 38 6).toInt = f.2 ∧ (L 38 7).toInt = t.1 ∧ (L 38 8).toInt = t.2
theorem axs_some (a w lo hi : Int) (f t : Option Fq) (hw : w ≠ 0) : ∃ F T, (axs a w lo hi f t).2.1 = some F ∧ (axs a w lo hi f t).2.2 = some T := by
  unfold axs
  rw [if_neg hw]
  split
  · exact ⟨_, _, rfl, rfl⟩
  · exact ⟨_, _, rfl, rfl⟩
theorem axs_zero (a lo hi : Int) (f t : Option Fq) : (axs a 0 lo hi f t).2 = (f, t) := by
  unfold axs
  rw [if_pos rfl]
/-- which bounds a kind begins with -/
def k0F (k : Int32) : Option Fq := if k = 2 then none else some (0, 1)
def k0T (k : Int32) : Option Fq := if k = 1 then some (1, 1) else none
theorem cut_ok {k : Int32} {I : xm_I} {L : xm_L} (h1 : -100000 ≤ (I 38 1).toInt ∧ (I 38 1).toInt ≤ 100000) (h2 : -100000 ≤ (I 38 2).toInt ∧ (I 38 2).toInt ≤ 100000) (h3 : -200000 ≤ (I 38 3).toInt ∧ (I 38 3).toInt ≤ 200000) (h4 : -200000 ≤ (I 38 4).toInt ∧ (I 38 4).toInt ≤ 200000) (hW : WB I) (hne : (I 38 3).toInt ≠ 0 ∨ (I 38 4).toInt ≠ 0) : ok (f_Cu_cut k I L) (fun q => Fr WK L q.2 ∧ cutC q.2 (CL (I 38 1).toInt (I 38 2).toInt ((I 38 1).toInt + (I 38 3).toInt) ((I 38 2).toInt + (I 38 4).toInt) (I 14 0).toInt (I 14 1).toInt (I 14 2).toInt (I 14 3).toInt (k0F k) (k0T k)) q.1) := by
  obtain ⟨w1, w2, _⟩ := hW
  have e1 : (I 38 1).toInt + (I 38 3).toInt - (I 38 1).toInt = (I 38 3).toInt := by omega
  have e2 : (I 38 2).toInt + (I 38 4).toInt - (I 38 2).toInt = (I 38 4).toInt := by omega
  have bf0 : of_b (k0F k) := by
    unfold k0F
    split
    · trivial
    · exact ⟨⟨by decide, by decide⟩, by decide, by decide⟩
  have bt0 : of_b (k0T k) := by
    unfold k0T
    split
    · exact ⟨⟨by decide, by decide⟩, by decide, by decide⟩
    · trivial
  have main : ∀ M : xm_L, Fr WK L M → cF M (k0F k) → cT M (k0T k) → ok ((f_Cu_cutAxis (I 38 1) (I 38 3) (I 14 0) (I 14 1) M).bind fun p_3 => if p_3.1 = 0 then some ((0 : Int32), p_3.2) else (f_Cu_cutAxis (I 38 2) (I 38 4) (I 14 2) (I 14 3) p_3.2).bind fun p_4 => if p_4.1 = 0 then some ((0 : Int32), p_4.2) else if ((p_4.2 38 7) * (p_4.2 38 6)) < ((p_4.2 38 5) * (p_4.2 38 8)) then some ((0 : Int32), p_4.2) else some ((1 : Int32), p_4.2)) (fun q => Fr WK L q.2 ∧ cutC q.2 (CL (I 38 1).toInt (I 38 2).toInt ((I 38 1).toInt + (I 38 3).toInt) ((I 38 2).toInt + (I 38 4).toInt) (I 14 0).toInt (I 14 1).toInt (I 14 2).toInt (I 14 3).toInt (k0F k) (k0T k)) q.1) := by
    intro M fM hF hT
    refine ok_b (ok_mono (e_cutAxis h1 h3 (by omega) (by omega) hF hT bf0 bt0) (fun p hp => ?_))
    obtain ⟨p1, p2, p3, p4⟩ := hp
    unfold CL ax2
    rw [e1, e2]
    have bb := axs_b (a := (I 38 1).toInt) (w := (I 38 3).toInt) (lo := (I 14 0).toInt) (hi := (I 14 1).toInt) (by omega) (by omega) (by omega) (by omega) bf0 bt0
    generalize hA : axs (I 38 1).toInt (I 38 3).toInt (I 14 0).toInt (I 14 1).toInt (k0F k) (k0T k) = A at *
    have bb2 := axs_b (a := (I 38 2).toInt) (w := (I 38 4).toInt) (lo := (I 14 2).toInt) (hi := (I 14 3).toInt) (by omega) (by omega) (by omega) (by omega) bb.1 bb.2
    have hsome : ∃ F T, (axs (I 38 2).toInt (I 38 4).toInt (I 14 2).toInt (I 14 3).toInt A.2.1 A.2.2).2.1 = some F ∧ (axs (I 38 2).toInt (I 38 4).toInt (I 14 2).toInt (I 14 3).toInt A.2.1 A.2.2).2.2 = some T := by
      by_cases hy : (I 38 4).toInt = 0
      · rw [hy, axs_zero]
        rw [← hA]
        exact axs_some _ _ _ _ _ _ (by omega)
      · exact axs_some _ _ _ _ _ _ hy
    by_cases c1 : A.1 = true
    · rw [bi_t c1] at p1
      refine ok_f (by rw [p1]; decide) (ok_b (ok_mono (e_cutAxis h2 h4 (by omega) (by omega) p3 p4 bb.1 bb.2) (fun q hq => ?_)))
      obtain ⟨q1, q2, q3, q4⟩ := hq
      obtain ⟨F, T, hF', hT'⟩ := hsome
      generalize hB : axs (I 38 2).toInt (I 38 4).toInt (I 14 2).toInt (I 14 3).toInt A.2.1 A.2.2 = B at *
      rw [hF'] at q3 bb2
      rw [hT'] at q4 bb2
      have bF : fq_b F := bb2.1
      have bT : fq_b T := bb2.2
      unfold fq_b at bF bT
      have fq2 : Fr WK L q.2 := fM.trans (p2.trans q2)
      have eR : clipR (A, B) = if A.1 = true ∧ B.1 = true ∧ F.1 * T.2 ≤ T.1 * F.2 then some (F, T) else none := by
        unfold clipR
        dsimp only
        rw [hF', hT']
      rw [eR]
      have m1 : (q.2 38 7 * q.2 38 6).toInt = T.1 * F.2 := by rw [m64 (by rw [q4.1]; omega) (by rw [q3.2]; omega), q4.1, q3.2]
      have m2 : (q.2 38 5 * q.2 38 8).toInt = F.1 * T.2 := by rw [m64 (by rw [q3.1]; omega) (by rw [q4.2]; omega), q3.1, q4.2]
      by_cases c2 : B.1 = true
      · rw [bi_t c2] at q1
        refine ok_f (by rw [q1]; decide) (ok_lt6 (fun hc => ok_s ⟨fq2, ?_⟩) (fun hc => ok_s ⟨fq2, ?_⟩))
        · rw [m1, m2] at hc
          rw [if_neg (fun hh => by have := hh.2.2; omega)]
          exact rfl
        · rw [m1, m2] at hc
          rw [if_pos ⟨c1, c2, hc⟩]
          exact ⟨rfl, q3.1, q3.2, q4.1, q4.2⟩
      · rw [bi_f c2] at q1
        refine ok_t q1 (ok_s ⟨fq2, ?_⟩)
        rw [if_neg (fun hh => c2 hh.2.1)]
        exact rfl
    · rw [bi_f c1] at p1
      refine ok_t p1 (ok_s ⟨fM.trans p2, ?_⟩)
      obtain ⟨F, T, hF', hT'⟩ := hsome
      have eR : clipR (A, axs (I 38 2).toInt (I 38 4).toInt (I 14 2).toInt (I 14 3).toInt A.2.1 A.2.2) = none := by
        unfold clipR
        dsimp only
        rw [hF', hT']
        dsimp only
        rw [if_neg (fun hh => c1 hh.1)]
      rw [eR]
      exact rfl
  unfold f_Cu_cut f_Cu_cut_b0 f_Cu_cut_b13 f_Cu_cut_b34
  have k1 : (1 : Int64).toInt = 1 := by decide
  have kf : (1000000 : Int64).toInt = 1000000 := by decide
  have km : (-1000000 : Int64).toInt = -1000000 := by decide
  have k0 : (0 : Int64).toInt = 0 := by decide
  have mk : ∀ (y1 y2 : Int64), (k = 2 → y1.toInt = -1000000) → (k ≠ 2 → y1.toInt = 0) → (k = 1 → y2.toInt = 1) → (k ≠ 1 → y2.toInt = 1000000) → Fr WK L (up2 (up2 (up2 (up2 L 38 5 y1) 38 6 1) 38 7 y2) 38 8 1) ∧ cF (up2 (up2 (up2 (up2 L 38 5 y1) 38 6 1) 38 7 y2) 38 8 1) (k0F k) ∧ cT (up2 (up2 (up2 (up2 L 38 5 y1) 38 6 1) 38 7 y2) 38 8 1) (k0T k) := by
    intro y1 y2 a1 a2 a3 a4
    refine ⟨Fr.up (Fr.up (Fr.up (Fr.up (Fr.refl _ _) (by decide)) (by decide)) (by decide)) (by decide), ?_, ?_⟩
    · unfold k0F
      by_cases hk : k = 2
      · rw [if_pos hk]
        exact ⟨a1 hk, k1⟩
      · rw [if_neg hk]
        exact ⟨a2 hk, k1⟩
    · unfold k0T
      by_cases hk : k = 1
      · rw [if_pos hk]
        exact ⟨a3 hk, k1⟩
      · rw [if_neg hk]
        exact ⟨a4 hk, k1⟩
  by_cases hk2 : k = 2
  · have hk1 : ¬ k = 1 := by rw [hk2]; decide
    refine ok_t hk2 (ok_f hk1 ?_)
    obtain ⟨x1, x2, x3⟩ := mk (-1000000) 1000000 (fun _ => km) (fun h => absurd hk2 h) (fun h => absurd h hk1) (fun _ => kf)
    exact main _ x1 x2 x3
  · refine ok_f hk2 ?_
    by_cases hk1 : k = 1
    · refine ok_t hk1 ?_
      obtain ⟨x1, x2, x3⟩ := mk 0 1 (fun h => absurd h hk2) (fun _ => k0) (fun _ => k1) (fun h => absurd hk1 h)
      exact main _ x1 x2 x3
    · refine ok_f hk1 ?_
      obtain ⟨x1, x2, x3⟩ := mk 0 1000000 (fun h => absurd h hk2) (fun _ => k0) (fun h => absurd h hk1) (fun _ => kf)
      exact main _ x1 x2 x3
