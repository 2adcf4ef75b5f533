/-! ===== the best places, found by the reference ===== -/
theorem lp_go {σ ρ : Type} {f : σ → Option (σ ⊕ ρ)} {s : σ} {K : ρ → Prop} (h : ok (f s) (fun x => Sum.elim (fun s' => ok (lp f s') K) K x)) : ok (lp f s) K := by
  rw [lp_eq]
  refine ok_b (ok_mono h fun x hx => ?_)
  cases x with
  | inl s' => exact hx
  | inr r => exact ok_s hx
def P1 (I : xm_I) (pl : Nat → Nat) (k : Nat) : Prop := ∀ j, j < k → I 81 j = n32 (pl j)
def VL (Q : QQ) (pl : Nat → Nat) (k : Nat) : Prop := ∀ j, j < k → pl j ≠ 8 → qc Q j (pl j) ≠ -1
def BRm (I : xm_I) (Q : QQ) (B : Bst) : Prop := I 49 73 = n32 B.1 ∧ I 49 74 = n32 B.2.1 ∧ ∀ j, j < QG Q → I 82 j = B.2.2 j
abbrev WBt : List Nat := [81, 82, 50073, 50074]
theorem qc_pos {Q : QQ} (hQ : QOK Q) {g p : Nat} (hp : p < 8) (h : qc Q g p ≠ -1) : 0 ≤ (qc Q g p).toInt ∧ (qc Q g p).toInt ≤ 6010 := by
  have km : (-1 : Int32).toInt = -1 := by decide
  rcases qc_b hQ g hp with qb | qb
  · exact absurd (by rw [eq32, km]; exact qb) h
  · exact qb
theorem e_outs {I : xm_I} {pl : Nat → Nat} {k : Nat} (hk : k ≤ 7) (h8 : P8 pl) (hP : P1 I pl k) : f_M_outsOf (n32 k) I = some (n32 (ov pl k)) := by
  have kk : (n32 k).toInt = k := n32i (by omega)
  have k88 : (8 : Int32) = n32 8 := rfl
  unfold f_M_outsOf f_M_outsOf_b0 f_M_outsOf_b4
  refine ok_eq (lp_inv (fun t => ∃ j : Nat, j ≤ k ∧ t = (n32 (ov pl j), n32 j)) (fun t => (8 - t.2.toInt).toNat) _ ?_ (0, 0) ⟨0, by omega, rfl⟩)
  rintro t ⟨j, hj, rfl⟩
  have ji : (n32 j).toInt = j := n32i (by omega)
  have jt : Int32.toNatClampNeg (n32 j) = j := n32n (by omega)
  have es := n32s (k := j) (by omega)
  have ob := ov_le pl j
  have dec : (8 - (n32 j + 1).toInt).toNat < (8 - (n32 j).toInt).toNat := by
    rw [i32p (by omega) (by omega)]
    omega
  unfold f_M_outsOf_s4 f_M_outsOf_b26
  dsimp only
  refine ok_le (fun hc => ok_s ?_) (fun hc => ok_g (by omega) ?_)
  · have e : j = k := by omega
    subst e
    exact rfl
  · have h81 := hP j (by omega)
    have p8 := h8 j
    have hu : ov pl (j + 1) = ov pl j + (if pl j = 8 then 1 else 0) := rfl
    by_cases c : pl j = 8
    · rw [if_pos c] at hu
      refine ok_t (by rw [jt, h81, c]; rfl) (ok_s ⟨⟨j + 1, by omega, ?_⟩, dec⟩)
      rw [hu, es, n32s (by omega)]
    · rw [if_neg c] at hu
      refine ok_f ?_ (ok_s ⟨⟨j + 1, by omega, ?_⟩, dec⟩)
      · rw [jt, h81, k88, eq32, n32i (by omega), n32i (by omega)]
        omega
      · rw [hu, es, Nat.add_zero]
        exact congrArg (fun x => (x, n32 (j + 1))) (Int32.add_zero _)
theorem e_costs {n : Nat} {I : xm_I} {Q : QQ} {pl : Nat → Nat} {k : Nat} (h : MDQ n I Q) (hQ : QOK Q) (h6 : QG Q ≤ 6) (hk : k ≤ QG Q) (h8 : P8 pl) (hv : VL Q pl k) (hP : P1 I pl k) : f_M_costsOf (n32 k) I = some (n32 (cv Q pl k)) := by
  have kk : (n32 k).toInt = k := n32i (by omega)
  have k88 : (8 : Int32) = n32 8 := rfl
  unfold f_M_costsOf f_M_costsOf_b0 f_M_costsOf_b4
  refine ok_eq (lp_inv (fun t => ∃ j : Nat, j ≤ k ∧ t = (n32 (cv Q pl j), n32 j)) (fun t => (8 - t.2.toInt).toNat) _ ?_ (0, 0) ⟨0, by omega, rfl⟩)
  rintro t ⟨j, hj, rfl⟩
  have ji : (n32 j).toInt = j := n32i (by omega)
  have jt : Int32.toNatClampNeg (n32 j) = j := n32n (by omega)
  have es := n32s (k := j) (by omega)
  have cb := cv_le hQ h8 j
  have dec : (8 - (n32 j + 1).toInt).toNat < (8 - (n32 j).toInt).toNat := by
    rw [i32p (by omega) (by omega)]
    omega
  unfold f_M_costsOf_s4 f_M_costsOf_b46
  dsimp only
  refine ok_le (fun hc => ok_s ?_) (fun hc => ok_g (by omega) ?_)
  · have e : j = k := by omega
    subst e
    exact rfl
  · have h81 := hP j (by omega)
    have p8 := h8 j
    have hu : cv Q pl (j + 1) = cv Q pl j + (if pl j = 8 then 0 else (qc Q j (pl j)).toInt.toNat) := rfl
    by_cases c : pl j = 8
    · rw [if_pos c] at hu
      refine ok_t (by rw [jt, h81, c]; rfl) (ok_s ⟨⟨j + 1, by omega, ?_⟩, dec⟩)
      rw [hu, es, Nat.add_zero]
      exact congrArg (fun x => (x, n32 (j + 1))) (Int32.add_zero _)
    · rw [if_neg c] at hu
      have hp8 : pl j < 8 := by omega
      have hpos := qc_pos hQ hp8 (hv j (by omega) c)
      obtain ⟨l1, l2⟩ := h.lb hQ (g := j) (by omega)
      obtain ⟨_, _, lg, _⟩ := hQ.2.2.1 j (by omega)
      have ex := (ix8 (g := lab Q j) (p := pl j) lg hp8).2
      have eI : 8 * I 80 (Int32.toNatClampNeg (n32 j)) + I 81 (Int32.toNatClampNeg (n32 j)) = n32 (8 * lab Q j + pl j) := by rw [jt, l1, h81, ex]
      refine ok_f ?_ (ok_g (by omega) (ok_g (by omega) (ok_g (by rw [eI, n32i (by omega)]; omega) (ok_s ⟨⟨j + 1, by omega, ?_⟩, dec⟩))))
      · rw [jt, h81, k88, eq32, n32i (by omega), n32i (by omega)]
        omega
      · rw [eI, n32n (by omega), l2 _ hp8, hu, es]
        refine congrArg (fun x => (x, n32 (j + 1))) ?_
        rw [eq32, i32a (by rw [n32i (by omega)]; omega), n32i (by omega), n32i (by omega)]
        omega
theorem e_fine {n : Nat} {I : xm_I} {Q : QQ} {pl : Nat → Nat} {g p : Nat} (h : MDQ n I Q) (hQ : QOK Q) (h6 : QG Q ≤ 6) (hg : g < QG Q) (hp : p ≤ 8) (h8 : P8 pl) (hP : P1 I pl g) (hg81 : I 81 g = n32 p) : f_M_isFine (n32 g) I = some (bi (finB Q pl g p = true)) := by
  have k0 := z0
  have gi : (n32 g).toInt = g := n32i (by omega)
  have gt : Int32.toNatClampNeg (n32 g) = g := n32n (by omega)
  have k88 : (8 : Int32) = n32 8 := rfl
  unfold f_M_isFine f_M_isFine_b0 finB
  rw [gd_p _ (by omega)]
  dsimp only
  rw [gt, hg81]
  by_cases c : p = 8
  · have e : n32 p = 8 := by rw [c]; rfl
    rw [if_pos e, bi_t]
    rw [if_pos c]
  · have e : ¬ n32 p = 8 := by
      rw [k88, eq32, n32i (by omega), n32i (by omega)]
      omega
    have hp8 : p < 8 := by omega
    obtain ⟨l1, l2⟩ := h.lb hQ hg
    obtain ⟨_, _, lg, _⟩ := hQ.2.2.1 g hg
    have ex := (ix8 (g := lab Q g) (p := p) lg hp8).2
    rw [if_neg e, gd_p _ (by omega), l1, ex, gd_p _ (by rw [n32i (by omega)]; omega), n32n (by omega), l2 p hp8, if_neg c]
    have qb := qc_b hQ g hp8
    have km : (-1 : Int32).toInt = -1 := by decide
    unfold f_M_isFine_b39 f_M_isFine_b43
    refine ok_eq ?_
    by_cases cn : qc Q g p = -1
    · have cn' : (qc Q g p).toInt = -1 := by rw [cn, km]
      have hfr : ¬ FRb Q pl g g p = true := fun hh => (FRb_iff.mp hh).1 cn
      refine ok_t (by rw [lt32]; omega) (lp_go ?_)
      rw [bi_f hfr]
      unfold f_M_isFine_s43
      dsimp only
      refine ok_i (fun _ => ok_g (by decide) (ok_s rfl)) (fun _ => ok_t rfl (ok_g (by decide) (ok_s rfl)))
    · have cn' : 0 ≤ (qc Q g p).toInt := (qc_pos hQ hp8 cn).1
      refine ok_f (by rw [lt32]; omega) ?_
      refine lp_inv (fun t => ∃ j : Nat, j ≤ g ∧ t.2 = n32 j ∧ ((t.1 = 1 ∧ ∀ i, i < j → i ≠ g → pl i ≠ 8 → mt Q g p i (pl i) = false) ∨ (t.1 = 0 ∧ ¬ FRb Q pl g g p = true))) (fun t => (8 - t.2.toInt).toNat) _ ?_ (1, 0) ⟨0, by omega, rfl, Or.inl ⟨rfl, fun i hi => by omega⟩⟩
      rintro ⟨fl, jj⟩ ⟨j, hj, q1, q2⟩
      simp only at q1 q2
      subst q1
      have ji : (n32 j).toInt = j := n32i (by omega)
      have jt : Int32.toNatClampNeg (n32 j) = j := n32n (by omega)
      have es := n32s (k := j) (by omega)
      have dec : (8 - (n32 j + 1).toInt).toNat < (8 - (n32 j).toInt).toNat := by
        rw [i32p (by omega) (by omega)]
        omega
      unfold f_M_isFine_s43 f_M_isFine_b93 f_M_isFine_b98
      dsimp only
      rcases q2 with ⟨f1, f2⟩ | ⟨f1, f2⟩
      · subst f1
        refine ok_le (fun hc => ok_g (by decide) (ok_s ?_)) (fun hc => ok_f (by decide) (ok_g (by omega) ?_))
        · have ej : j = g := by omega
          subst ej
          show (1 : Int32) = _
          rw [bi_t (FRb_iff.mpr ⟨cn, f2⟩)]
        · have h81 := hP j (by omega)
          have p8 := h8 j
          have nx : (pl j ≠ 8 → mt Q g p j (pl j) = false) → (∃ j' : Nat, j' ≤ g ∧ n32 j + 1 = n32 j' ∧ (((1 : Int32) = 1 ∧ ∀ i, i < j' → i ≠ g → pl i ≠ 8 → mt Q g p i (pl i) = false) ∨ ((1 : Int32) = 0 ∧ ¬ FRb Q pl g g p = true))) := by
            intro hh
            refine ⟨j + 1, by omega, es, Or.inl ⟨rfl, fun i hi => ?_⟩⟩
            by_cases e : i = j
            · subst e
              exact fun _ => hh
            · exact f2 i (by omega)
          by_cases c8 : pl j = 8
          · exact ok_t (by rw [jt, h81, c8]; rfl) (ok_s ⟨nx fun hh => absurd c8 hh, dec⟩)
          · obtain ⟨m1, _⟩ := h.lb hQ (g := j) (by omega)
            refine ok_f ?_ (ok_g (by omega) (ok_g (by omega) (ok_g (by omega) ?_)))
            · rw [jt, h81, k88, eq32, n32i (by omega), n32i (by omega)]
              omega
            · rw [gt, jt, l1, m1, h81]
              refine ok_e (e_meetM h hQ hg hp8 (by omega) (by omega)) (ok_ib (fun hn => ok_s ⟨nx fun _ => Bool.eq_false_iff.mpr hn, dec⟩) (fun hy => ok_s ⟨⟨j + 1, by omega, es, Or.inr ⟨rfl, fun hh => ?_⟩⟩, dec⟩))
              have := (FRb_iff.mp hh).2 j (by omega) (by omega) c8
              rw [hy] at this
              cases this
      · subst f1
        refine ok_i (fun _ => ok_g (by decide) (ok_s ?_)) (fun _ => ok_t rfl (ok_g (by decide) (ok_s ?_)))
        · show (0 : Int32) = _
          rw [bi_f f2]
        · show (0 : Int32) = _
          rw [bi_f f2]
theorem e_better {n : Nat} {I : xm_I} {Q : QQ} {pl : Nat → Nat} {k : Nat} {B : Bst} (h : MDQ n I Q) (hQ : QOK Q) (h6 : QG Q ≤ 6) (hk : k ≤ QG Q) (h8 : P8 pl) (hv : VL Q pl k) (hP : P1 I pl k) (hB : BRm I Q B) (hb : B.1 ≤ 100 ∧ B.2.1 ≤ 200000) : f_M_isBetter (n32 k) I = some (bi (ov pl k < B.1 ∨ (ov pl k = B.1 ∧ cv Q pl k < B.2.1))) := by
  have ob := ov_le pl k
  have cb := cv_le hQ h8 k
  have b1 : (I 49 73).toInt = B.1 := by rw [hB.1, n32i (by omega)]
  have b2 : (I 49 74).toInt = B.2.1 := by rw [hB.2.1, n32i (by omega)]
  have oi : (n32 (ov pl k)).toInt = ov pl k := n32i (by omega)
  have ci : (n32 (cv Q pl k)).toInt = cv Q pl k := n32i (by omega)
  unfold f_M_isBetter f_M_isBetter_b0
  rw [e_outs (by omega) h8 hP, e_costs h hQ h6 hk h8 hv hP]
  simp only [Option.bind_some, lt32, le32, eq32, b1, b2, oi, ci]
  (repeat' split) <;> first | rw [bi_t (by omega)] | rw [bi_f (by omega)]
theorem reachM {n : Nat} {I : xm_I} {Q : QQ} {pl : Nat → Nat} (h : MDQ n I Q) (hQ : QOK Q) (h6 : QG Q ≤ 6) (h8 : P8 pl) (hv : VL Q pl (QG Q)) (hP : P1 I pl (QG Q)) : ok (f_M_reached (n32 (QG Q)) I) (fun q => q.1 = n32 (QG Q) - 1 ∧ Fr WBt I q.2 ∧ P1 q.2 pl (QG Q) ∧ BRm q.2 Q (ov pl (QG Q), cv Q pl (QG Q), fun j => n32 (pl j))) := by
  have Gi : (n32 (QG Q)).toInt = QG Q := n32i (by omega)
  unfold f_M_reached f_M_reached_b0 f_M_reached_b20
  refine ok_e (e_outs (by omega) h8 hP) ?_
  have h2 : MDQ n (up2 I 49 73 (n32 (ov pl (QG Q)))) Q := h.kept (Fr.up (Fr.refl _ _) (by decide))
  refine ok_e (e_costs h2 hQ h6 (Nat.le_refl _) h8 hv hP) ?_
  refine lp_inv (fun t => ∃ k : Nat, k ≤ QG Q ∧ t.1 = n32 k ∧ Fr WBt I t.2 ∧ P1 t.2 pl (QG Q) ∧ t.2 49 73 = n32 (ov pl (QG Q)) ∧ t.2 49 74 = n32 (cv Q pl (QG Q)) ∧ ∀ j, j < k → t.2 82 j = n32 (pl j)) (fun t => (8 - t.1.toInt).toNat) _ ?_ (0, up2 (up2 I 49 73 (n32 (ov pl (QG Q)))) 49 74 (n32 (cv Q pl (QG Q)))) ⟨0, by omega, rfl, Fr.up (Fr.up (Fr.refl _ _) (by decide)) (by decide), hP, rfl, rfl, fun j hj => by omega⟩
  rintro ⟨kk, J⟩ ⟨k, hk, q1, q2, q3, q4, q5, q6⟩
  simp only at q1 q2 q3 q4 q5 q6
  subst q1
  have ki : (n32 k).toInt = k := n32i (by omega)
  have kt : Int32.toNatClampNeg (n32 k) = k := n32n (by omega)
  unfold f_M_reached_s20
  dsimp only
  refine ok_le (fun hc => ok_s ?_) (fun hc => ok_g (by omega) (ok_g (by omega) (ok_s ⟨⟨k + 1, by omega, n32s (by omega), Fr.upA q2 (by decide) (by decide), q3, q4, q5, fun j hj => ?_⟩, ?_⟩)))
  · have e : k = QG Q := by omega
    subst e
    exact ⟨rfl, q2, q3, q4, q5, q6⟩
  · show up2 J 82 (Int32.toNatClampNeg (n32 k)) (J 81 (Int32.toNatClampNeg (n32 k))) 82 j = _
    rw [kt]
    by_cases e : j = k
    · rw [e, up2_self]
      exact q3 k (by omega)
    · rw [up2_nk _ _ _ _ _ e]
      exact q6 j (by omega)
  · show (8 - (n32 k + 1).toInt).toNat < (8 - (n32 k).toInt).toNat
    rw [i32p (by omega) (by omega)]
    omega
theorem bt {n : Nat} {Q : QQ} {K : xm_I → Prop} (hQ : QOK Q) (h6 : QG Q ≤ 6) (r : Nat) : ∀ (g : Nat) (pl : Nat → Nat) (I : xm_I) (B : Bst), g + r = QG Q → MDQ n I Q → P8 pl → VL Q pl g → P1 I pl g → (0 < r → I 81 g = -1) → BRm I Q B → (B.1 ≤ 100 ∧ B.2.1 ≤ 200000) → (r = 0 → lt2 Q pl B) → (∀ J, Fr WBt I J → P1 J pl g → BRm J Q (fb Q B (lv Q r g pl)) → ok (lp f_M_findBest_s20 (n32 g - 1, J)) K) → ok (lp f_M_findBest_s20 (n32 g, I)) K := by
  have k0 := z0
  have k8 : (8 : Int32).toInt = 8 := by decide
  induction r with
  | zero =>
    intro g pl I B hr h h8 hv hP _ hB hb hlt hK
    have e : g = QG Q := by omega
    subst e
    have Gi : (n32 (QG Q)).toInt = QG Q := n32i (by omega)
    have i70 : I 49 70 = n32 (QG Q) := h.2.2.1
    refine lp_go ?_
    unfold f_M_findBest_s20
    dsimp only
    refine ok_f (by rw [lt32]; omega) (ok_t (by rw [i70]) (ok_b (ok_mono (reachM h hQ h6 h8 hv hP) (fun q hq => ok_s ?_))))
    obtain ⟨q1, q2, q3, q4⟩ := hq
    show ok (lp f_M_findBest_s20 (q.1, q.2)) K
    rw [q1]
    refine hK q.2 q2 q3 ?_
    have hu : fb Q B (lv Q 0 (QG Q) pl) = (ov pl (QG Q), cv Q pl (QG Q), fun j => n32 (pl j)) := by
      show upB Q B pl = _
      exact if_pos (hlt rfl)
    rw [hu]
    exact q4
  | succ r ih =>
    intro g pl I B hr h h8 hv hP hm hB hb _ hK
    have hg : g < QG Q := by omega
    have gi : (n32 g).toInt = g := n32i (by omega)
    have gt : Int32.toNatClampNeg (n32 g) = g := n32n (by omega)
    have eg := n32s (k := g) (by omega)
    have hlv : lv Q (r + 1) g pl = fl9 (fun p => if finB Q pl g p = true then lv Q r (g + 1) (setP pl g p) else []) 0 9 := rfl
    rw [hlv] at hK
    generalize hF : (fun p => if finB Q pl g p = true then lv Q r (g + 1) (setP pl g p) else []) = F at hK
    have hF8 : ∀ p, p ≤ 8 → ∀ x ∈ F p, P8 x := by
      intro p hp x hx
      rw [← hF] at hx
      dsimp only at hx
      split at hx
      · exact (lv_8 (set_8 h8 hp) x hx).1
      · cases hx
    have hfl8 : ∀ n, n ≤ 9 → ∀ x ∈ fl9 F 0 n, P8 x := by
      intro n hn x hx
      obtain ⟨p, _, h2, h3⟩ := mem_fl9.mp hx
      exact hF8 p (by omega) x h3
    have inner : ∀ (m q : Nat) (J : xm_I), q + m = 9 → Fr WBt I J → P1 J pl g → J 81 g + 1 = n32 q → BRm J Q (fb Q B (fl9 F 0 q)) → ok (lp f_M_findBest_s20 (n32 g, J)) K := by
      intro m
      induction m with
      | zero =>
        intro q J hq fJ pJ eJ bJ
        have e9 : q = 9 := by omega
        subst e9
        have i70 : (J 49 70).toInt = QG Q := by rw [fJ 49 70 (by decide), h.2.2.1]; exact n32i (show QG Q < 2147483648 by omega)
        have k9 : (n32 9).toInt = 9 := by decide
        refine lp_go ?_
        unfold f_M_findBest_s20
        dsimp only
        rw [gt, eJ, up2_self]
        refine ok_f (by rw [lt32]; omega) (ok_f (by rw [eq32]; omega) (ok_g (by omega) (ok_g (by omega) (ok_g (by omega) (ok_f (by rw [le32]; omega) (ok_s ?_))))))
        show ok (lp f_M_findBest_s20 (n32 g + -1, up2 J 81 g (n32 9))) K
        rw [← Int32.sub_eq_add_neg]
        refine hK _ (Fr.upA fJ (by decide) (by decide)) (fun j hj => ?_) bJ
        show up2 J 81 g (n32 9) 81 j = _
        rw [up2_nk _ _ _ _ _ (by omega)]
        exact pJ j hj
      | succ m ihm =>
        intro q J hq fJ pJ eJ bJ
        have hq8 : q ≤ 8 := by omega
        have i70 : (J 49 70).toInt = QG Q := by rw [fJ 49 70 (by decide), h.2.2.1]; exact n32i (show QG Q < 2147483648 by omega)
        have qi : (n32 q).toInt = q := n32i (by omega)
        have hJ : MDQ n J Q := h.kept (fJ.mono (by decide))
        have f1 : Fr WBt I (up2 J 81 g (n32 q)) := Fr.upA fJ (by decide) (by decide)
        have h1 : MDQ n (up2 J 81 g (n32 q)) Q := h.kept (f1.mono (by decide))
        have p1 : P1 (up2 J 81 g (n32 q)) pl g := by
          intro j hj
          show up2 J 81 g (n32 q) 81 j = _
          rw [up2_nk _ _ _ _ _ (by omega)]
          exact pJ j hj
        have b1 : BRm (up2 J 81 g (n32 q)) Q (fb Q B (fl9 F 0 q)) := bJ
        have g1 : up2 J 81 g (n32 q) 81 g = n32 q := up2_self _ _ _ _
        have bb := fb_b hQ (hfl8 q (by omega)) hb
        have hsn : fl9 F 0 (q + 1) = fl9 F 0 q ++ F q := by rw [fl9_snoc, Nat.zero_add]
        have nxt : fb Q B (fl9 F 0 (q + 1)) = fb Q B (fl9 F 0 q) → ok (lp f_M_findBest_s20 (n32 g, up2 J 81 g (n32 q))) K := by
          intro hsame
          refine ihm (q + 1) _ (by omega) f1 p1 ?_ ?_
          · rw [g1]
            exact n32s (by omega)
          · rw [hsame]
            exact b1
        refine lp_go ?_
        unfold f_M_findBest_s20
        dsimp only
        rw [gt, eJ, up2_self]
        refine ok_f (by rw [lt32]; omega) (ok_f (by rw [eq32]; omega) (ok_g (by omega) (ok_g (by omega) (ok_g (by omega) (ok_t (by rw [le32]; omega) (ok_e (e_fine h1 hQ h6 hg hq8 h8 p1 g1) (ok_ib (fun hn => ok_s ?_) (fun hy => ?_))))))))
        · show ok (lp f_M_findBest_s20 (n32 g, up2 J 81 g (n32 q))) K
          refine nxt ?_
          have hFq : F q = [] := by rw [← hF]; exact if_neg hn
          rw [hsn, hFq, List.append_nil]
        · have hFq : F q = lv Q r (g + 1) (setP pl g q) := by rw [← hF]; exact if_pos hy
          have h8' := set_8 (g := g) h8 hq8
          have hv' : VL Q (setP pl g q) (g + 1) := by
            intro j hj hne
            by_cases e : j = g
            · subst e
              rw [set_at] at hne ⊢
              unfold finB at hy
              rw [if_neg hne] at hy
              exact (FRb_iff.mp hy).1
            · rw [set_pre _ _ _ j (by omega)] at hne ⊢
              exact hv j (by omega) hne
          have p1' : P1 (up2 J 81 g (n32 q)) (setP pl g q) (g + 1) := by
            intro j hj
            by_cases e : j = g
            · subst e
              rw [set_at]
              exact g1
            · rw [set_pre _ _ _ j (by omega)]
              exact p1 j (by omega)
          rw [eg]
          refine ok_e (e_better h1 hQ h6 (by omega) h8' hv' p1' b1 bb) (ok_ib (fun hn => ok_s ?_) (fun hb2 => ok_g (by rw [n32i (by omega)]; omega) (ok_s ?_)))
          · show ok (lp f_M_findBest_s20 (n32 g, up2 J 81 g (n32 q))) K
            refine nxt ?_
            rw [hsn, fb_app, hFq]
            refine fb_no fun x hx hlt => hn ?_
            have hpre := (lv_8 h8' x hx).2.1
            have o1 := ov_congr hpre
            have c1 := cv_congr (Q := Q) hpre
            have o2 := ov_mono x (g + 1) r
            have c2 := cv_mono Q x (g + 1) r
            have eG : g + 1 + r = QG Q := by omega
            rw [eG, o1] at o2
            rw [eG, c1] at c2
            rcases hlt with hlt | ⟨l1, l2⟩ <;> omega
          · show ok (lp f_M_findBest_s20 (n32 (g + 1), up2 (up2 J 81 g (n32 q)) 81 (Int32.toNatClampNeg (n32 (g + 1))) (-1))) K
            have t1 : Int32.toNatClampNeg (n32 (g + 1)) = g + 1 := n32n (by omega)
            rw [t1]
            have f2 : Fr WBt I (up2 (up2 J 81 g (n32 q)) 81 (g + 1) (-1)) := Fr.upA f1 (by decide) (by decide)
            refine ih (g + 1) (setP pl g q) _ (fb Q B (fl9 F 0 q)) (by omega) (h.kept (f2.mono (by decide))) h8' hv' (fun j hj => ?_) (fun _ => up2_self _ _ _ _) b1 bb (fun hr0 => ?_) (fun V fV pV bV => ?_)
            · show up2 (up2 J 81 g (n32 q)) 81 (g + 1) (-1) 81 j = _
              rw [up2_nk _ _ _ _ _ (by omega)]
              exact p1' j hj
            · have eG : g + 1 = QG Q := by omega
              unfold lt2
              rw [← eG]
              exact hb2
            · have ex : n32 (g + 1) - 1 = n32 g := by
                rw [eq32, i32s (by rw [n32i (by omega), z1]; omega), n32i (by omega), z1, gi]
                omega
              rw [ex]
              refine ihm (q + 1) V (by omega) (f2.trans fV) (fun j hj => ?_) ?_ ?_
              · rw [pV j (by omega), set_pre _ _ _ j hj]
              · rw [pV g (by omega), set_at]
                exact n32s (by omega)
              · rw [hsn, fb_app, hFq]
                exact bV
    refine inner 9 0 I (by omega) (Fr.refl _ _) hP ?_ hB
    rw [hm (by omega)]
    rfl
theorem findBestM {n : Nat} {I : xm_I} {Q : QQ} (h : MDQ n I Q) (hQ : QOK Q) (h6 : QG Q ≤ 6) : ok (f_M_findBest I) (fun J => Fr WQ I J ∧ J 49 60 = I 49 60 ∧ (∀ g, g < QG Q → J 76 (lab Q g) = bestF Q g) ∧ ∀ l, (∀ g, g < QG Q → lab Q g ≠ l) → J 76 l = I 76 l) := by
  have k0 := z0
  unfold f_M_findBest f_M_findBest_b0 f_M_findBest_b20
  dsimp only
  have t0 : Int32.toNatClampNeg 0 = 0 := by decide
  rw [t0]
  have f0 : Fr WBt I (up2 (up2 (up2 I 49 73 7) 49 74 0) 81 0 (-1)) := Fr.upA (Fr.up (Fr.up (Fr.refl _ _) (by decide)) (by decide)) (by decide) (by decide)
  refine bt (n := n) hQ h6 (QG Q) 0 (fun _ => 8) _ (7, 0, I 82) (by omega) (h.kept (f0.mono (by decide))) (fun _ => Nat.le_refl _) (fun j hj => by omega) (fun j hj => by omega) (fun _ => up2_self _ _ _ _) ⟨rfl, rfl, fun _ _ => rfl⟩ ⟨by show 7 ≤ 100; omega, by show 0 ≤ 200000; omega⟩ (fun hr => Or.inl ?_) (fun J fJ _ bJ => ?_)
  · rw [hr]
    show 0 < 7
    omega
  · have hbest := best_as (Q := Q) (B := (7, 0, I 82)) h6 (Or.inl (by have := ov_le (rr Q 10).2.2 (QG Q); show _ < 7; omega))
    have km : (n32 0 - 1).toInt = -1 := by decide
    refine lp_go ?_
    unfold f_M_findBest_s20
    dsimp only
    refine ok_t (by rw [lt32]; omega) (ok_m ?_)
    unfold f_M_findBest_b101
    have fI : Fr WBt I J := f0.trans fJ
    have j82 : ∀ j, j < QG Q → J 82 j = bestF Q j := fun j hj => by rw [← hbest]; exact bJ.2.2 j hj
    refine ok_mono (lp_inv (fun t => ∃ k : Nat, k ≤ QG Q ∧ t.1 = n32 k ∧ Fr WQ I t.2 ∧ t.2 49 60 = I 49 60 ∧ (∀ j, j < QG Q → t.2 82 j = bestF Q j) ∧ (∀ j, j < k → t.2 76 (lab Q j) = bestF Q j) ∧ ∀ l, (∀ g, g < QG Q → lab Q g ≠ l) → t.2 76 l = I 76 l) (fun t => (8 - t.1.toInt).toNat) (fun J : xm_I => Fr WQ I J ∧ J 49 60 = I 49 60 ∧ (∀ g, g < QG Q → J 76 (lab Q g) = bestF Q g) ∧ ∀ l, (∀ g, g < QG Q → lab Q g ≠ l) → J 76 l = I 76 l) ?_ (0, J) ⟨0, by omega, rfl, fI.mono (by decide), fI 49 60 (by decide), j82, fun j hj => by omega, fun l _ => by show J 76 l = _; rw [fI.row 76 rfl (by decide)]⟩) (fun q hq => hq)
    rintro ⟨ii, T⟩ ⟨i, hi, r1, r2, r3, r4, r5, r6⟩
    simp only at r1 r2 r3 r4 r5 r6
    subst r1
    have iI : (n32 i).toInt = i := n32i (by omega)
    have it : Int32.toNatClampNeg (n32 i) = i := n32n (by omega)
    have hT : MDQ n T Q := h.kept r2
    have T70 : (T 49 70).toInt = QG Q := by rw [hT.2.2.1]; exact n32i (show QG Q < 2147483648 by omega)
    unfold f_M_findBest_s101
    dsimp only
    refine ok_le (fun hd => ok_s ?_) (fun hd => ?_)
    · have e : i = QG Q := by omega
      subst e
      exact ⟨r2, r3, r5, r6⟩
    · have hiG : i < QG Q := by omega
      obtain ⟨l1, _⟩ := hT.lb hQ hiG
      obtain ⟨_, _, lg, _⟩ := hQ.2.2.1 i hiG
      have e80 : T 80 (Int32.toNatClampNeg (n32 i)) = n32 (lab Q i) := by rw [it]; exact l1
      have ltt : Int32.toNatClampNeg (n32 (lab Q i)) = lab Q i := n32n (by omega)
      refine ok_g (by omega) (ok_g (by omega) (ok_g (by rw [e80, n32i (by omega)]; omega) (ok_s ⟨⟨i + 1, by omega, n32s (by omega), Fr.upA r2 (by decide) (by decide), r3, r4, fun j hj => ?_, fun l hl => ?_⟩, ?_⟩)))
      · show up2 T 76 (Int32.toNatClampNeg (T 80 (Int32.toNatClampNeg (n32 i)))) (T 82 (Int32.toNatClampNeg (n32 i))) 76 (lab Q j) = _
        rw [e80, ltt, it]
        by_cases e : j = i
        · rw [e, up2_self]
          exact r4 i hiG
        · rw [up2_nk _ _ _ _ _ (fun hh => e (hQ.2.2.2 j i (by omega) hiG hh))]
          exact r5 j (by omega)
      · show up2 T 76 (Int32.toNatClampNeg (T 80 (Int32.toNatClampNeg (n32 i)))) (T 82 (Int32.toNatClampNeg (n32 i))) 76 l = _
        rw [e80, ltt, up2_nk _ _ _ _ _ (fun hh => hl i hiG hh.symm)]
        exact r6 l hl
      · show (8 - (n32 i + 1).toInt).toNat < (8 - (n32 i).toInt).toNat
        rw [i32p (by omega) (by omega)]
        omega
