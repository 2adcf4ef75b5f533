/-! ===== the edges of a solid, in their order ===== -/
def isE (I : xm_I) (s p : Nat) : Bool := !(I (86 + 8 * s + 7) p == 0)
def EL (I : xm_I) (s p : Nat) : List Nat := (List.range p).filter (isE I s)
def rowE (I J : xm_I) (s i q : Nat) : Prop :=
  J 68 (4 * i) = n32 (q / 12) ∧ J 68 (4 * i + 1) = n32 (q % 12) ∧ J 68 (4 * i + 2) = @bi (¬ snA I s q (Int32.toNatClampNeg (I (86 + 8 * s) 10))) (Classical.propDecidable _) ∧ J 68 (4 * i + 3) = n32 (cntA I s q (Int32.toNatClampNeg (I (86 + 8 * s) 10)))
theorem EL_succ (I : xm_I) (s p : Nat) : EL I s (p + 1) = EL I s p ++ (if isE I s p = true then [p] else []) := by
  unfold EL
  rw [List.range_succ, List.filter_append]
  congr 1
  by_cases h : isE I s p = true
  · rw [if_pos h]
    simp [h]
  · rw [if_neg h]
    simp [h]
theorem isE_iff (I : xm_I) (s p : Nat) : isE I s p = true ↔ bn (I (86 + 8 * s + 7) p) ≠ 0 := by
  unfold isE
  rw [Bool.not_eq_true', beq_eq_false_iff_ne]
  constructor
  · intro h hb
    exact h (bn_inj (by rw [hb]; rfl))
  · intro h hb
    rw [hb] at h
    exact h rfl
theorem isE_bit {I : xm_I} {n s p : Nat} (h : IvS I n) (hs : (s : Int) < (I 15 1).toInt) (hp : p < 144) : isE I s p = true ↔ ∃ f, f < Int32.toNatClampNeg (I (86 + 8 * s) 10) ∧ (bn (I (86 + 8 * s + 7) p)).testBit f = true := by
  obtain ⟨h1, h2, h3, h4, h5, h6, h7⟩ := h
  obtain ⟨_, _, ⟨c1, _, _⟩, d⟩ := h6 s hs
  have t := tn32 c1.1
  rw [isE_iff]
  constructor
  · intro hn
    refine Classical.byContradiction fun hc => hn (Nat.eq_of_testBit_eq fun i => ?_)
    rw [Nat.zero_testBit]
    cases hb : (bn (I (86 + 8 * s + 7) p)).testBit i with
    | false => rfl
    | true => exact absurd ⟨i, by have := ((d p i hp).mp hb).1; omega, hb⟩ hc
  · rintro ⟨f, _, hf⟩ hz
    rw [hz, Nat.zero_testBit] at hf
    cases hf
theorem cntA_pos {I : xm_I} {s p : Nat} (g : Nat) : 0 < cntA I s p g ↔ ∃ f, f < g ∧ (bn (I (86 + 8 * s + 7) p)).testBit f = true := by
  induction g with
  | zero =>
    constructor
    · intro h
      exact absurd h (by show ¬ 0 < 0; omega)
    · rintro ⟨f, hf, _⟩
      omega
  | succ g ih =>
    show 0 < cntA I s p g + ((bn (I (86 + 8 * s + 7) p)).testBit g).toNat ↔ _
    cases hb : (bn (I (86 + 8 * s + 7) p)).testBit g with
    | true =>
      constructor
      · intro _
        exact ⟨g, by omega, hb⟩
      · intro _
        show 0 < cntA I s p g + 1
        omega
    | false =>
      show 0 < cntA I s p g + 0 ↔ _
      rw [Nat.add_zero, ih]
      constructor
      · rintro ⟨f, hf, h⟩
        exact ⟨f, by omega, h⟩
      · rintro ⟨f, hf, h⟩
        refine ⟨f, ?_, h⟩
        have : f ≠ g := fun he => by rw [he, hb] at h; cases h
        omega
theorem EL_len {I : xm_I} {n s p : Nat} (h : IvS I n) (hs : (s : Int) < (I 15 1).toInt) (hp : p ≤ 144) : (EL I s p).length ≤ 66 := by
  obtain ⟨h1, h2, h3, h4, h5, h6, h7⟩ := h
  obtain ⟨_, _, _, d⟩ := h6 s hs
  have e66 : (List.range 144).countP (fun q => decide (q / 12 < q % 12)) = 66 := by decide +kernel
  unfold EL
  rw [← List.countP_eq_length_filter]
  have a1 : (List.range p).countP (isE I s) ≤ (List.range p).countP (fun q => decide (q / 12 < q % 12)) := by
    refine List.countP_mono_left fun q hq hE => ?_
    have hq' : q < p := List.mem_range.mp hq
    obtain ⟨f, _, hf⟩ := (isE_bit ⟨h1, h2, h3, h4, h5, h6, h7⟩ hs (by omega)).mp hE
    exact decide_eq_true ((d q f (by omega)).mp hf).2.1
  have a2 : (List.range p).countP (fun q => decide (q / 12 < q % 12)) ≤ (List.range 144).countP (fun q => decide (q / 12 < q % 12)) := (List.range_sublist.mpr hp).countP_le
  omega
theorem row_ag {I J : xm_I} {s : Nat} (g : Fr [68, 50034] I J) (hs : s < 4) (a : Nat) (ha : 86 + 8 * s ≤ a) (ha' : a < 86 + 8 * s + 8) : J a = I a := by
  funext k
  exact g a k (by rw [cd_mid (by omega) (by omega)]; simp only [List.mem_cons, List.not_mem_nil, or_false]; omega)
theorem gather_ok {I : xm_I} {n s : Nat} (h : IvS I n) (hs : (s : Int) < (I 15 1).toInt) : ok (f_M_gather (n32 s) I) (fun J => Fr [68, 50034] I J ∧ J 49 34 = n32 (EL I s 144).length ∧ ∀ i q, (EL I s 144)[i]? = some q → rowE I J s i q) := by
  have h1 := h.1
  have k144 : (144 : Int32).toInt = 144 := by decide
  unfold f_M_gather f_M_gather_b0 f_M_gather_b7
  dsimp only
  refine lp_inv (fun st => ∃ p : Nat, p ≤ 144 ∧ st.1 = n32 p ∧ Fr [68, 50034] I st.2 ∧ st.2 49 34 = n32 (EL I s p).length ∧ ∀ i q, (EL I s p)[i]? = some q → rowE I st.2 s i q) (fun st => (145 - st.1.toInt).toNat) _ ?_ (0, up2 I 49 34 0) ⟨0, by omega, rfl, Fr.up (Fr.refl _ _) (by decide), rfl, fun i q hq => by simp [EL] at hq⟩
  rintro ⟨pp, J⟩ ⟨p, hp, e1, e2, e3, e4⟩
  simp only at e1 e2 e3 e4
  subst e1
  have pi : (n32 p).toInt = p := n32i (by omega)
  unfold f_M_gather_s7 f_M_gather_b37
  dsimp only
  refine ok_le (fun hc => ok_s ?_) (fun hc => ?_)
  · have e : p = 144 := by omega
    subst e
    exact ⟨e2, e3, e4⟩
  · have hp' : p < 144 := by omega
    have s4 : s < 4 := by omega
    have hJ : IvS J n := h.ag (by rw [e2 1 4 (by decide)]; exact Int.le_refl _) (e2.ag _ (by decide))
    have hsJ : (s : Int) < (J 15 1).toInt := by rw [e2 15 1 (by decide)]; exact hs
    have d1 : n32 p / 12 = n32 (p / 12) := by rw [eq32, dvn pi (show (12 : Int32).toInt = ((12 : Nat) : Int) by decide), n32i (by omega)]
    have d2 : n32 p - n32 p / 12 * 12 = n32 (p % 12) := by
      rw [d1, eq32, n32i (k := p % 12) (by omega)]
      have m : (n32 (p / 12) * 12).toInt = ((p / 12 * 12 : Nat) : Int) := by rw [i32m (by rw [n32i (by omega), z12]; omega), n32i (by omega), z12]; omega
      rw [i32s (by omega), m, pi]
      omega
    rw [d2, d1]
    have ra := row_ag e2 s4 (86 + 8 * s) (by omega) (by omega)
    have ra7 := row_ag e2 s4 (86 + 8 * s + 7) (by omega) (by omega)
    have eyeJ : ∀ f, eye J s f = eye I s f := fun f => by
      unfold eye
      rw [row_ag e2 s4 (86 + 8 * s + 4) (by omega) (by omega), row_ag e2 s4 (86 + 8 * s + 5) (by omega) (by omega), row_ag e2 s4 (86 + 8 * s + 6) (by omega) (by omega), e2 15 2 (by decide)]
    have cJ : ∀ g, cntA J s p g = cntA I s p g := fun g => by rw [cntA_pcs, cntA_pcs, ra7]
    have sJ : ∀ g, snA J s p g ↔ snA I s p g := fun g => by
      unfold snA
      rw [ra7]
      exact exists_congr fun f => by rw [eyeJ f]
    refine g_mid hJ hsJ hp' ?_
    rw [cJ, ra]
    have hbi : @bi (snA J s p (Int32.toNatClampNeg (I (86 + 8 * s) 10))) (Classical.propDecidable _) = @bi (snA I s p (Int32.toNatClampNeg (I (86 + 8 * s) 10))) (Classical.propDecidable _) := @bi_iff _ _ (Classical.propDecidable _) (Classical.propDecidable _) (sJ _)
    rw [hbi]
    have es := n32s (k := p) (by omega)
    have dec : (145 - (n32 p + 1).toInt).toNat < (145 - (n32 p).toInt).toNat := by
      rw [i32p (by omega) (by omega)]
      omega
    have hcl : cntA I s p (Int32.toNatClampNeg (I (86 + 8 * s) 10)) ≤ 10 := by
      obtain ⟨_, _, _, _, _, h6, _⟩ := h
      obtain ⟨_, _, ⟨c1, _, _⟩, _⟩ := h6 s hs
      have t := tn32 c1.1
      rw [cntA_pcs]
      have := pcs_le (bn (I (86 + 8 * s + 7) p)) (Int32.toNatClampNeg (I (86 + 8 * s) 10))
      omega
    have ci : (n32 (cntA I s p (Int32.toNatClampNeg (I (86 + 8 * s) 10)))).toInt = ((cntA I s p (Int32.toNatClampNeg (I (86 + 8 * s) 10)) : Nat) : Int) := n32i (by omega)
    have hE := isE_bit h hs hp'
    have hC := cntA_pos (I := I) (s := s) (p := p) (Int32.toNatClampNeg (I (86 + 8 * s) 10))
    unfold f_M_gather_b177 f_M_gather_b257
    refine ok_le (fun hz => ok_s ?_) (fun hz => ?_)
    · have hn : ¬ isE I s p = true := by
        rw [hE, ← hC]
        rw [ci, z0] at hz
        omega
      refine ⟨⟨p + 1, by omega, es, e2, ?_, ?_⟩, dec⟩
      · rw [EL_succ, if_neg hn, List.append_nil]
        exact e3
      · rw [EL_succ, if_neg hn, List.append_nil]
        exact e4
    · have hy : isE I s p = true := by
        rw [hE, ← hC]
        rw [ci, z0] at hz
        omega
      have hl : (EL I s (p + 1)).length ≤ 66 := EL_len h hs (by omega)
      have hl1 : (EL I s (p + 1)).length = (EL I s p).length + 1 := by rw [EL_succ, if_pos hy, List.length_append]; rfl
      generalize hm : (EL I s p).length = m at *
      have mi : (n32 m).toInt = m := n32i (by omega)
      have k4 := z4
      have p0 : (4 * J 49 34).toInt = 4 * m := by rw [e3, i32m (by rw [k4]; omega), k4, mi]
      have p1 : (4 * J 49 34 + 1).toInt = 4 * m + 1 := by rw [i32a (by have := z1; omega), p0, z1]
      have p2 : (4 * J 49 34 + 2).toInt = 4 * m + 2 := by rw [i32a (by have := z2; omega), p0, z2]
      have p3 : (4 * J 49 34 + 3).toInt = 4 * m + 3 := by rw [i32a (by have := z3; omega), p0, z3]
      have t0 : Int32.toNatClampNeg (4 * J 49 34) = 4 * m := by have := tn32 (x := 4 * J 49 34) (by omega); omega
      have t1 : Int32.toNatClampNeg (4 * J 49 34 + 1) = 4 * m + 1 := by have := tn32 (x := 4 * J 49 34 + 1) (by omega); omega
      have t2 : Int32.toNatClampNeg (4 * J 49 34 + 2) = 4 * m + 2 := by have := tn32 (x := 4 * J 49 34 + 2) (by omega); omega
      have t3 : Int32.toNatClampNeg (4 * J 49 34 + 3) = 4 * m + 3 := by have := tn32 (x := 4 * J 49 34 + 3) (by omega); omega
      simp (disch := decide) only [up2_ne]
      refine ok_g (by omega) (ok_g (by omega) ?_)
      rw [t0, t1]
      have fin : ∀ v : Int32, v = @bi (¬ snA I s p (Int32.toNatClampNeg (I (86 + 8 * s) 10))) (Classical.propDecidable _) → ok (f_M_gather_b231 (n32 s) (n32 p) (n32 (cntA I s p (Int32.toNatClampNeg (I (86 + 8 * s) 10)))) (4 * J 49 34 + 2) v (up2 (up2 J 68 (4 * m) (n32 (p / 12))) 68 (4 * m + 1) (n32 (p % 12)))) (fun x => Sum.elim (fun s' => (∃ p : Nat, p ≤ 144 ∧ s'.1 = n32 p ∧ Fr [68, 50034] I s'.2 ∧ s'.2 49 34 = n32 (EL I s p).length ∧ ∀ i q, (EL I s p)[i]? = some q → rowE I s'.2 s i q) ∧ (145 - s'.1.toInt).toNat < (145 - (n32 p).toInt).toNat) (fun J => Fr [68, 50034] I J ∧ J 49 34 = n32 (EL I s 144).length ∧ ∀ i q, (EL I s 144)[i]? = some q → rowE I J s i q) x) := by
        intro v hv
        unfold f_M_gather_b231 f_M_gather_b257
        simp (disch := decide) only [up2_ne]
        refine ok_g (by omega) (ok_g (by omega) (ok_s ?_))
        rw [t2, t3]
        refine ⟨⟨p + 1, by omega, es, Fr.up (Fr.upA (Fr.upA (Fr.upA (Fr.upA e2 (by decide) (by decide)) (by decide) (by decide)) (by decide) (by decide)) (by decide) (by decide)) (by decide), ?_, fun i q hq => ?_⟩, dec⟩
        · rw [hl1, ← n32s (by omega), ← e3]
          rfl
        · rw [EL_succ, if_pos hy] at hq
          unfold rowE
          dsimp only
          by_cases hi : i < (EL I s p).length
          · rw [List.getElem?_append_left hi] at hq
            have := e4 i q hq
            unfold rowE at this
            simp (disch := omega) only [up2_ne, up2_nk]
            exact this
          · rw [List.getElem?_append_right (by omega)] at hq
            have hi0 : i - (EL I s p).length = 0 := by
              have := (List.getElem?_eq_some_iff.mp hq).1
              simp at this
              omega
            rw [hi0] at hq
            have hqp : q = p := by
              have : some p = some q := hq
              cases this
              rfl
            have him : i = m := by omega
            subst hqp
            subst him
            simp (disch := omega) only [up2_ne, up2_nk, up2_self]
            exact ⟨trivial, trivial, hv, trivial⟩
      by_cases hsn : snA I s p (Int32.toNatClampNeg (I (86 + 8 * s) 10))
      · rw [@bi_t _ (Classical.propDecidable _) hsn]
        refine ok_f (by decide) (fin 0 ?_)
        rw [@bi_f _ (Classical.propDecidable _) (fun hh => hh hsn)]
      · rw [@bi_f _ (Classical.propDecidable _) hsn]
        refine ok_t rfl (fin 1 ?_)
        rw [@bi_t _ (Classical.propDecidable _) hsn]
/-! the class's own way to the edges -/
theorem e_So_isEdge {I : xm_I} {s p : Nat} (hp : p < 144) : f_So_isEdge (86 + 8 * s) (n32 p) I = some (bi (isE I s p = true)) := by
  have pi : (n32 p).toInt = p := n32i (by omega)
  have pt : Int32.toNatClampNeg (n32 p) = p := n32n (by omega)
  have k144 : (144 : Int32).toInt = 144 := by decide
  unfold f_So_isEdge f_So_isEdge_b0
  rw [if_neg (by rw [lt32, z0]; omega), if_neg (by rw [le32]; omega), gd_p _ (by omega), pt]
  by_cases h : I (86 + 8 * s + 7) p = 0
  · rw [if_pos h, bi_f]
    unfold isE
    rw [h]
    decide
  · rw [if_neg h, bi_t]
    unfold isE
    rw [Bool.not_eq_true', beq_eq_false_iff_ne]
    exact h
theorem e_edgeCount {I : xm_I} {n s : Nat} (h : IvS I n) (hs : (s : Int) < (I 15 1).toInt) : f_So_edgeCount (86 + 8 * s) I = some (n32 (EL I s 144).length) := by
  have k144 : (144 : Int32).toInt = 144 := by decide
  unfold f_So_edgeCount f_So_edgeCount_b0 f_So_edgeCount_b4
  refine ok_eq (lp_inv (fun st => ∃ p : Nat, p ≤ 144 ∧ st = (n32 (EL I s p).length, n32 p)) (fun st => (145 - st.2.toInt).toNat) _ ?_ (0, 0) ⟨0, by omega, rfl⟩)
  rintro st ⟨p, hp, rfl⟩
  have pi : (n32 p).toInt = p := n32i (by omega)
  unfold f_So_edgeCount_s4 f_So_edgeCount_b25
  dsimp only
  refine ok_le (fun hc => ?_) (fun hc => ?_)
  · have e : p = 144 := by omega
    subst e
    exact ok_s rfl
  · have hp' : p < 144 := by omega
    have hl := EL_len h hs (p := p) (by omega)
    have dec : (145 - (n32 p + 1).toInt).toNat < (145 - (n32 p).toInt).toNat := by
      rw [i32p (by omega) (by omega)]
      omega
    refine ok_e (e_So_isEdge hp') (ok_ib (fun hE => ok_s ⟨⟨p + 1, by omega, ?_⟩, dec⟩) (fun hE => ok_s ⟨⟨p + 1, by omega, ?_⟩, dec⟩))
    · rw [EL_succ, if_neg hE, List.append_nil, ← n32s (by omega)]
      show (n32 _ + 0, _) = _
      rw [Int32.add_zero]
    · rw [EL_succ, if_pos hE, List.length_append, ← n32s (k := p) (by omega)]
      show (n32 _ + 1, _) = (n32 ((EL I s p).length + 1), _)
      rw [n32s (by omega)]
theorem e_edgeNumbered {I : xm_I} {n s : Nat} {k : Int32} (h : IvS I n) (hs : (s : Int) < (I 15 1).toInt) : f_So_edgeNumbered (86 + 8 * s) k I = some (if 0 ≤ k.toInt then (match (EL I s 144)[Int32.toNatClampNeg k]? with | some q => n32 q | none => -1) else -1) := by
  have k144 : (144 : Int32).toInt = 144 := by decide
  unfold f_So_edgeNumbered f_So_edgeNumbered_b0 f_So_edgeNumbered_b4
  refine ok_eq (lp_inv (fun st => ∃ p : Nat, p ≤ 144 ∧ st = (n32 (EL I s p).length, n32 p) ∧ (0 ≤ k.toInt → ((EL I s p).length : Int) ≤ k.toInt)) (fun st => (145 - st.2.toInt).toNat) _ ?_ (0, 0) ⟨0, by omega, rfl, fun hk => by show ((0 : Nat) : Int) ≤ _; omega⟩)
  rintro st ⟨p, hp, rfl, hk⟩
  have pi : (n32 p).toInt = p := n32i (by omega)
  unfold f_So_edgeNumbered_s4 f_So_edgeNumbered_b29
  dsimp only
  refine ok_le (fun hc => ?_) (fun hc => ?_)
  · have e : p = 144 := by omega
    subst e
    refine ok_s ?_
    show (-1 : Int32) = _
    by_cases h0 : 0 ≤ k.toInt
    · rw [if_pos h0, List.getElem?_eq_none]
      have := tn32 h0
      have := hk h0
      omega
    · rw [if_neg h0]
  · have hp' : p < 144 := by omega
    have hl := EL_len h hs (p := p) (by omega)
    have li : (n32 (EL I s p).length).toInt = ((EL I s p).length : Int) := n32i (by omega)
    have dec : (145 - (n32 p + 1).toInt).toNat < (145 - (n32 p).toInt).toNat := by
      rw [i32p (by omega) (by omega)]
      omega
    refine ok_e (e_So_isEdge hp') (ok_ib (fun hE => ok_s ⟨⟨p + 1, by omega, ?_, ?_⟩, dec⟩) (fun hE => ok_iq (fun hq => ok_s ?_) (fun hq => ok_s ⟨⟨p + 1, by omega, ?_, ?_⟩, dec⟩)))
    · rw [EL_succ, if_neg hE, List.append_nil, ← n32s (by omega)]
    · rw [EL_succ, if_neg hE, List.append_nil]
      exact hk
    · show n32 p = _
      have h0 : 0 ≤ k.toInt := by omega
      have tk := tn32 h0
      have ek : Int32.toNatClampNeg k = (EL I s p).length := by omega
      have pre : ∀ d, (EL I s (p + 1 + d))[(EL I s p).length]? = some p := by
        intro d
        induction d with
        | zero =>
          rw [Nat.add_zero, EL_succ, if_pos hE, List.getElem?_append_right (Nat.le_refl _), Nat.sub_self]
          rfl
        | succ d ih =>
          have e : p + 1 + (d + 1) = (p + 1 + d) + 1 := by omega
          rw [e, EL_succ, List.getElem?_append_left (List.getElem?_eq_some_iff.mp ih).1]
          exact ih
      have := pre (143 - p)
      have e144 : p + 1 + (143 - p) = 144 := by omega
      rw [e144] at this
      rw [if_pos h0, ek, this]
    · rw [EL_succ, if_pos hE, List.length_append, ← n32s (k := p) (by omega)]
      show (n32 _ + 1, _) = (n32 ((EL I s p).length + 1), _)
      rw [n32s (by omega)]
    · intro h0
      have := hk h0
      rw [EL_succ, if_pos hE, List.length_append]
      show (((EL I s p).length + 1 : Nat) : Int) ≤ _
      rw [li] at hq
      omega
theorem e_facesSeen {I : xm_I} {n s : Nat} (h : IvS I n) (hs : (s : Int) < (I 15 1).toInt) : ok (f_So_facesSeen (86 + 8 * s) (I 15 2) I) (fun m => ∀ g, (bn m).testBit g = true ↔ (g < Int32.toNatClampNeg (I (86 + 8 * s) 10) ∧ 0 < (eye I s g).toInt)) := by
  obtain ⟨h1, h2, h3, h4, h5, h6, h7⟩ := h
  obtain ⟨_, _, ⟨c1, _, _⟩, _⟩ := h6 s hs
  have t := tn32 c1.1
  unfold f_So_facesSeen f_So_facesSeen_b0 f_So_facesSeen_b4
  refine lp_inv (fun st => ∃ f : Nat, f ≤ Int32.toNatClampNeg (I (86 + 8 * s) 10) ∧ st.2 = n32 f ∧ ∀ g, (bn st.1).testBit g = true ↔ (g < f ∧ 0 < (eye I s g).toInt)) (fun st => (11 - st.2.toInt).toNat) _ ?_ (0, 0) ⟨0, by omega, rfl, fun g => ?_⟩
  · rintro ⟨m, ff⟩ ⟨f, hf, e1, e2⟩
    simp only at e1 e2
    subst e1
    have fi : (n32 f).toInt = f := n32i (by omega)
    unfold f_So_facesSeen_s4 f_So_facesSeen_b27
    dsimp only
    refine ok_le (fun hc => ok_s ?_) (fun hc => ?_)
    · have e : f = Int32.toNatClampNeg (I (86 + 8 * s) 10) := by omega
      subst e
      exact e2
    · have dec : (11 - (n32 f + 1).toInt).toNat < (11 - (n32 f).toInt).toNat := by
        rw [i32p (by omega) (by omega)]
        omega
      have k0 := z0
      refine ok_e (e_towardsEye (by omega)) (ok_le (fun he => ok_s ⟨⟨f + 1, by omega, n32s (by omega), fun g => ?_⟩, dec⟩) (fun he => ok_s ⟨⟨f + 1, by omega, n32s (by omega), fun g => ?_⟩, dec⟩))
      · show (bn m).testBit g = true ↔ _
        rw [e2]
        constructor
        · rintro ⟨q1, q2⟩
          exact ⟨by omega, q2⟩
        · rintro ⟨q1, q2⟩
          refine ⟨?_, q2⟩
          have : g ≠ f := fun hh => by rw [hh] at q2; omega
          omega
      · show (bn (m ||| 1 <<< (n32 f &&& 31))).testBit g = true ↔ _
        rw [bn_or, bn_one (by omega), Nat.testBit_or, Nat.testBit_two_pow, Bool.or_eq_true, decide_eq_true_iff, e2]
        constructor
        · rintro (⟨q1, q2⟩ | q)
          · exact ⟨by omega, q2⟩
          · exact ⟨by omega, by rw [← q]; omega⟩
        · rintro ⟨q1, q2⟩
          by_cases hh : f = g
          · exact Or.inr hh
          · exact Or.inl ⟨by omega, q2⟩
  · have : bn 0 = 0 := rfl
    show (bn 0).testBit g = true ↔ _
    rw [this, Nat.zero_testBit]
    constructor
    · intro hh; cases hh
    · rintro ⟨q, _⟩
      omega
theorem e_isBehind {I : xm_I} {s p : Nat} {m : Int32} (hp : p < 144) (hm : ∀ g, (bn m).testBit g = true ↔ (g < Int32.toNatClampNeg (I (86 + 8 * s) 10) ∧ 0 < (eye I s g).toInt)) : f_So_isBehind (86 + 8 * s) (n32 p) m I = some (@bi (¬ snA I s p (Int32.toNatClampNeg (I (86 + 8 * s) 10))) (Classical.propDecidable _)) := by
  have pi : (n32 p).toInt = p := n32i (by omega)
  have pt : Int32.toNatClampNeg (n32 p) = p := n32n (by omega)
  have k144 : (144 : Int32).toInt = 144 := by decide
  have key : (I (86 + 8 * s + 7) p &&& m = 0) ↔ ¬ snA I s p (Int32.toNatClampNeg (I (86 + 8 * s) 10)) := by
    constructor
    · intro hz
      rintro ⟨f, hf, hb, he⟩
      have : bn (I (86 + 8 * s + 7) p &&& m) = 0 := by rw [hz]; rfl
      rw [bn_and] at this
      have h2 : (bn (I (86 + 8 * s + 7) p) &&& bn m).testBit f = true := by
        rw [Nat.testBit_and, hb, (hm f).mpr ⟨hf, he⟩]
        rfl
      rw [this, Nat.zero_testBit] at h2
      cases h2
    · intro hn
      refine bn_inj ?_
      rw [bn_and]
      show _ = 0
      refine Nat.eq_of_testBit_eq fun i => ?_
      rw [Nat.testBit_and, Nat.zero_testBit]
      cases hb : (bn (I (86 + 8 * s + 7) p)).testBit i with
      | false => rfl
      | true =>
        cases hb2 : (bn m).testBit i with
        | false => rfl
        | true => exact absurd ⟨i, ((hm i).mp hb2).1, hb, ((hm i).mp hb2).2⟩ hn
  unfold f_So_isBehind f_So_isBehind_b0
  rw [if_neg (by rw [lt32, z0]; omega), if_neg (by rw [le32]; omega), gd_p _ (by omega), pt]
  by_cases hz : I (86 + 8 * s + 7) p &&& m = 0
  · rw [if_pos hz, @bi_t _ (Classical.propDecidable _) (key.mp hz)]
  · rw [if_neg hz, @bi_f _ (Classical.propDecidable _) fun hh => hz (key.mpr hh)]
theorem e_facesWith {I : xm_I} {n s p : Nat} (h : IvS I n) (hs : (s : Int) < (I 15 1).toInt) (hp : p < 144) : f_So_facesWith (86 + 8 * s) (n32 p) I = some (n32 (cntA I s p (Int32.toNatClampNeg (I (86 + 8 * s) 10)))) := by
  obtain ⟨h1, h2, h3, h4, h5, h6, h7⟩ := h
  obtain ⟨_, _, ⟨c1, _, _⟩, d⟩ := h6 s hs
  have t := tn32 c1.1
  have pi : (n32 p).toInt = p := n32i (by omega)
  have pt : Int32.toNatClampNeg (n32 p) = p := n32n (by omega)
  have k144 : (144 : Int32).toInt = 144 := by decide
  have hz : ∀ i, Int32.toNatClampNeg (I (86 + 8 * s) 10) ≤ i → (bn (I (86 + 8 * s + 7) p)).testBit i = false := by
    intro i hi
    cases hb : (bn (I (86 + 8 * s + 7) p)).testBit i with
    | false => rfl
    | true =>
      have := ((d p i hp).mp hb).1
      omega
  have hlt : bn (I (86 + 8 * s + 7) p) < 65536 := Nat.lt_pow_two_of_testBit (n := 16) _ fun i hi => hz i (by omega)
  have ext : ∀ d, pcs (bn (I (86 + 8 * s + 7) p)) (Int32.toNatClampNeg (I (86 + 8 * s) 10) + d) = pcs (bn (I (86 + 8 * s + 7) p)) (Int32.toNatClampNeg (I (86 + 8 * s) 10)) := by
    intro d
    induction d with
    | zero => rfl
    | succ d ih =>
      show pcs _ (Int32.toNatClampNeg (I (86 + 8 * s) 10) + d) + ((bn (I (86 + 8 * s + 7) p)).testBit (Int32.toNatClampNeg (I (86 + 8 * s) 10) + d)).toNat = _
      have hzd := hz (Int32.toNatClampNeg (I (86 + 8 * s) 10) + d) (Nat.le_add_right _ _)
      rw [ih, hzd]
      rfl
  have e16 := ext (16 - Int32.toNatClampNeg (I (86 + 8 * s) 10))
  have : Int32.toNatClampNeg (I (86 + 8 * s) 10) + (16 - Int32.toNatClampNeg (I (86 + 8 * s) 10)) = 16 := by omega
  rw [this] at e16
  unfold f_So_facesWith f_So_facesWith_b0
  rw [if_neg (by rw [lt32, z0]; omega), if_neg (by rw [le32]; omega), gd_p _ (by omega), pt, e_Ji_bitCount_I, bc_pcs hlt, e16, cntA_pcs]
  rfl
theorem c_edge {a k w : Int32} {I : xm_I} {n : Nat} (h : IvS I n) : ok (f_D_edge a k w n I) (fun p => ok (f_M_edge a k w I) (fun q => p = q.1 ∧ Fr [68, 50034] I q.2)) := by
  have h' := h
  obtain ⟨h1, h2, h3, h4, h5, h6, h7⟩ := h'
  have h2' : (I 49 31).toInt = (I 15 1).toInt := by rw [h2]
  have km : (-1 : Int32).toInt = -1 := by decide
  unfold f_D_edge f_D_edge_b0 f_M_edge f_M_edge_b0
  by_cases ha : 0 ≤ a.toInt ∧ a.toInt < (I 15 1).toInt
  · obtain ⟨ef, hsd⟩ := e_Ss_find h ha
    have ts := tn32 ha.1
    have hS : f_M_isSolid a I = some 1 := by rw [e_M_isSolid, bi_t (by omega)]
    have hs : ((Int32.toNatClampNeg a : Nat) : Int) < (I 15 1).toInt := by omega
    have ea : a = n32 (Int32.toNatClampNeg a) := (n32x ha.1).symm
    generalize hsn : Int32.toNatClampNeg a = s at *
    obtain ⟨J, hJ, j1, j2, j3⟩ := gather_ok h hs
    rw [← ea] at hJ
    have hl := EL_len h hs (p := 144) (by omega)
    have li : (n32 (EL I s 144).length).toInt = ((EL I s 144).length : Int) := n32i (by omega)
    have ls : (n32 (EL I s 144).length - 1).toInt = ((EL I s 144).length : Int) - 1 := by rw [i32s (by have := z1; omega), z1, li]
    refine ok_e ef (ok_g hsd ?_)
    by_cases hk1 : k = -1
    · refine ok_t hk1 (ok_e (e_edgeCount h hs) (ok_s (ok_e hS (ok_f (by decide) (ok_e hJ (ok_t hk1 (ok_s ⟨j2.symm, j1⟩)))))))
    · refine ok_f hk1 (ok_e (e_edgeNumbered h hs) ?_)
      have M0 : ∀ v : Int32, ok (f_M_in k.toInt64 0 (J 49 34 - 1).toInt64) (fun p_3 => ok (if p_3 = 0 then some (-100001, J) else (f_M_in w.toInt64 0 3).bind fun p_4 => if p_4 = 0 then some (-100002, J) else gd (0 ≤ (4 * k + w).toInt ∧ (4 * k + w).toInt < 264) (some (J 68 (Int32.toNatClampNeg (4 * k + w)), J))) (fun q => v = q.1 ∧ Fr [68, 50034] I q.2)) → ok ((f_M_isSolid a I).bind fun p_1 => if p_1 = 0 then some (-100001, I) else (f_M_gather a I).bind fun p_2 => if k = -1 then some (p_2 49 34, p_2) else (f_M_in k.toInt64 0 (p_2 49 34 - 1).toInt64).bind fun p_3 => if p_3 = 0 then some (-100001, p_2) else (f_M_in w.toInt64 0 3).bind fun p_4 => if p_4 = 0 then some (-100002, p_2) else gd (0 ≤ (4 * k + w).toInt ∧ (4 * k + w).toInt < 264) (some (p_2 68 (Int32.toNatClampNeg (4 * k + w)), p_2))) (fun q => v = q.1 ∧ Fr [68, 50034] I q.2) := fun v hv => ok_e hS (ok_f (by decide) (ok_e hJ (ok_f hk1 (ok_b hv))))
      have hin : f_M_in k.toInt64 0 (J 49 34 - 1).toInt64 = some (bi (0 ≤ k.toInt ∧ k.toInt ≤ ((EL I s 144).length : Int) - 1)) := by
        rw [e_M_in, j2, i64of, i64of, ls]
        rfl
      by_cases h0 : 0 ≤ k.toInt
      · have tk := tn32 h0
        rw [if_pos h0]
        cases hq : (EL I s 144)[Int32.toNatClampNeg k]? with
        | none =>
          have hge := List.getElem?_eq_none_iff.mp hq
          refine ok_t rfl (ok_s (M0 _ ?_))
          refine ⟨_, hin, ok_t ?_ (ok_s ⟨rfl, j1⟩)⟩
          rw [bi0]
          omega
        | some q =>
          have hlt := (List.getElem?_eq_some_iff.mp hq).1
          have hq144 : q < 144 := by
            have hm := List.mem_of_getElem? hq
            unfold EL at hm
            have := (List.mem_filter.mp hm).1
            exact List.mem_range.mp this
          have qi : (n32 q).toInt = q := n32i (by omega)
          obtain ⟨r1, r2, r3, r4⟩ := j3 _ _ hq
          have M1 : ∀ v : Int32, (∀ c : Nat, c ≤ 3 → w.toInt = c → v = J 68 (4 * Int32.toNatClampNeg k + c)) → (¬ (0 ≤ w.toInt ∧ w.toInt ≤ 3) → v = -100002) → ok ((f_M_isSolid a I).bind fun p_1 => if p_1 = 0 then some (-100001, I) else (f_M_gather a I).bind fun p_2 => if k = -1 then some (p_2 49 34, p_2) else (f_M_in k.toInt64 0 (p_2 49 34 - 1).toInt64).bind fun p_3 => if p_3 = 0 then some (-100001, p_2) else (f_M_in w.toInt64 0 3).bind fun p_4 => if p_4 = 0 then some (-100002, p_2) else gd (0 ≤ (4 * k + w).toInt ∧ (4 * k + w).toInt < 264) (some (p_2 68 (Int32.toNatClampNeg (4 * k + w)), p_2))) (fun q => v = q.1 ∧ Fr [68, 50034] I q.2) := by
            intro v hv1 hv2
            refine M0 v ⟨_, hin, ok_f (by rw [bi0]; omega) ?_⟩
            refine ok_e (e_M_in _ _ _) (ok_ib (fun hw => ok_s ⟨hv2 ?_, j1⟩) (fun hw => ?_))
            · simp only [Int64.reduceToInt, i64of] at hw
              exact hw
            · simp only [Int64.reduceToInt, i64of] at hw
              have k4 := z4
              have p0 : (4 * k).toInt = 4 * k.toInt := by rw [i32m (by rw [k4]; omega), k4]
              have p1 : (4 * k + w).toInt = 4 * k.toInt + w.toInt := by rw [i32a (by omega), p0]
              have tw := tn32 hw.1
              have p2 : Int32.toNatClampNeg (4 * k + w) = 4 * Int32.toNatClampNeg k + Int32.toNatClampNeg w := by
                have := tn32 (x := 4 * k + w) (by omega)
                omega
              refine ok_g (by omega) (ok_s ⟨?_, j1⟩)
              show v = J 68 (Int32.toNatClampNeg (4 * k + w))
              rw [p2]
              exact hv1 _ (by omega) (by omega)
          refine ok_f (show ¬ n32 q = -1 by rw [eq32, qi, km]; omega) ?_
          have w0 := z0
          have w1 := z1
          have w2 := z2
          have w3 := z3
          refine ok_iq (fun hw => ?_) (fun hw => ok_iq (fun hw1 => ?_) (fun hw1 => ok_iq (fun hw2 => ?_) (fun hw2 => ok_iq (fun hw3 => ?_) (fun hw3 => ?_))))
          · refine ok_s (M1 _ (fun c hc hwc => ?_) (fun hn => absurd (by omega) hn))
            have : c = 0 := by omega
            subst this
            show n32 q / 12 = J 68 (4 * Int32.toNatClampNeg k)
            rw [r1, eq32, dvn qi (show (12 : Int32).toInt = ((12 : Nat) : Int) by decide), n32i (by omega)]
          · refine ok_s (M1 _ (fun c hc hwc => ?_) (fun hn => absurd (by omega) hn))
            have : c = 1 := by omega
            subst this
            show n32 q - n32 q / 12 * 12 = _
            have d1 : n32 q / 12 = n32 (q / 12) := by rw [eq32, dvn qi (show (12 : Int32).toInt = ((12 : Nat) : Int) by decide), n32i (by omega)]
            rw [r2, d1, eq32, n32i (k := q % 12) (by omega)]
            have m : (n32 (q / 12) * 12).toInt = ((q / 12 * 12 : Nat) : Int) := by rw [i32m (by rw [n32i (by omega), z12]; omega), n32i (by omega), z12]; omega
            rw [i32s (by omega), m, qi]
            omega
          · obtain ⟨m, hm1, hm2⟩ := e_facesSeen h hs
            refine ok_e hm1 (ok_e (e_isBehind hq144 hm2) ?_)
            by_cases hsn' : snA I s q (Int32.toNatClampNeg (I (86 + 8 * s) 10))
            · rw [@bi_f _ (Classical.propDecidable _) (fun hh => hh hsn')] at r3 ⊢
              refine ok_t rfl (ok_s (M1 _ (fun c hc hwc => ?_) (fun hn => absurd (by omega) hn)))
              have : c = 2 := by omega
              subst this
              exact r3.symm
            · rw [@bi_t _ (Classical.propDecidable _) hsn'] at r3 ⊢
              refine ok_f (by decide) (ok_s (M1 _ (fun c hc hwc => ?_) (fun hn => absurd (by omega) hn)))
              have : c = 2 := by omega
              subst this
              exact r3.symm
          · refine ok_e (e_facesWith h hs hq144) (ok_s (M1 _ (fun c hc hwc => ?_) (fun hn => absurd (by omega) hn)))
            have : c = 3 := by omega
            subst this
            exact r4.symm
          · exact ok_s (M1 _ (fun c hc hwc => by omega) (fun _ => rfl))
      · rw [if_neg h0]
        refine ok_t rfl (ok_s (M0 _ ⟨_, hin, ok_t ?_ (ok_s ⟨rfl, j1⟩)⟩))
        rw [bi0]
        omega
  · refine ok_e (e_Ss_none ha) (ok_s (ok_e (e_M_isSolid _ _) (ok_ib (fun _ => ok_s ⟨rfl, Fr.refl _ _⟩) (fun hh => ?_))))
    exfalso
    omega
