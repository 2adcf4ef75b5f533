/-! ===== rounds ===== -/
abbrev QQ : Type := xm_I × Anc × List Nat × List M6
def QG (Q : QQ) : Nat := Q.2.2.1.length
def lab (Q : QQ) (g : Nat) : Nat := (Q.2.2.1[g]?).getD 0
def qw (Q : QQ) (g : Nat) : Int32 := wdt Q.1 (lab Q g)
def qx (Q : QQ) (g p : Nat) : Int32 := bxX Q.1 Q.2.1 (lab Q g) p
def qy (Q : QQ) (g p : Nat) : Int32 := bxY Q.1 Q.2.1 (lab Q g) p
noncomputable def qc (Q : QQ) (g p : Nat) : Int32 := cst Q.1 Q.2.1 Q.2.2.2 (lab Q g) p
/-- two boxes meet -/
def mt (Q : QQ) (g p h q : Nat) : Bool := decide (¬ ((qx Q h q + qw Q h).toInt ≤ (qx Q g p).toInt ∨ (qx Q g p + qw Q g).toInt ≤ (qx Q h q).toInt ∨ (qy Q h q + 9).toInt ≤ (qy Q g p).toInt ∨ (qy Q g p + 9).toInt ≤ (qy Q h q).toInt))
theorem mt_sym (Q : QQ) (g p h q : Nat) : mt Q g p h q = mt Q h q g p := by
  unfold mt
  rw [decide_eq_decide]
  omega
def QOK (Q : QQ) : Prop := QG Q ≤ 20 ∧ Q.2.2.2.length ≤ 600 ∧ (∀ g, g < QG Q → (lab Q g : Int) < (Q.1 21 3).toInt ∧ (Q.2.1 (lbO Q.1 (lab Q g))).isSome = true ∧ lab Q g < 20 ∧ Q.2.2.1[g]? = some (lab Q g)) ∧ ∀ g h, g < QG Q → h < QG Q → lab Q g = lab Q h → g = h
theorem qc_b {Q : QQ} (h : QOK Q) (g : Nat) {p : Nat} (hp : p < 8) : (qc Q g p).toInt = -1 ∨ (0 ≤ (qc Q g p).toInt ∧ (qc Q g p).toInt ≤ 6010) := by
  unfold qc cst
  have hl := h.2.1
  have := mcs_le (bxX Q.1 Q.2.1 (lab Q g) p).toInt (bxY Q.1 Q.2.1 (lab Q g) p).toInt (wdt Q.1 (lab Q g)).toInt Q.2.2.2
  split
  · right
    rw [n32i (by omega)]
    omega
  · left
    decide
def CQ (I : xm_I) (Q : QQ) : Prop := I 39 13 = n32 (QG Q) ∧ (∀ g, g < QG Q → I 40 g = n32 (lab Q g) ∧ I 41 g = qw Q g) ∧ ∀ g p, g < QG Q → p < 8 → I 43 (8 * g + p) = qx Q g p ∧ I 44 (8 * g + p) = qy Q g p ∧ I 45 (8 * g + p) = qc Q g p
theorem CQ.kept {I J : xm_I} {Q : QQ} {W : List Nat} (h : CQ I Q) (f : Fr W I J) (hd : ∀ x ∈ [40, 41, 43, 44, 45, 40013], x ∉ W) : CQ J Q := by
  have e := f.row 40 rfl (hd _ (by decide))
  have e1 := f.row 41 rfl (hd _ (by decide))
  have e3 := f.row 43 rfl (hd _ (by decide))
  have e4 := f.row 44 rfl (hd _ (by decide))
  have e5 := f.row 45 rfl (hd _ (by decide))
  unfold CQ
  rw [f 39 13 (hd _ (by decide)), e, e1, e3, e4, e5]
  exact h
def Pc (I : xm_I) (pl : Nat → Nat) (N : Nat) : Prop := ∀ j, j < N → I 42 j = n32 (pl j)
def P8 (pl : Nat → Nat) : Prop := ∀ j, pl j ≤ 8
noncomputable def FRb (Q : QQ) (pl : Nat → Nat) (N g p : Nat) : Bool := @decide (qc Q g p ≠ -1 ∧ ∀ j, j < N → j ≠ g → pl j ≠ 8 → mt Q g p j (pl j) = false) (Classical.propDecidable _)
theorem FRb_iff {Q : QQ} {pl : Nat → Nat} {N g p : Nat} : FRb Q pl N g p = true ↔ (qc Q g p ≠ -1 ∧ ∀ j, j < N → j ≠ g → pl j ≠ 8 → mt Q g p j (pl j) = false) := by
  unfold FRb
  exact @decide_eq_true_iff _ (Classical.propDecidable _)
noncomputable def ch (Q : QQ) (pl : Nat → Nat) (N g : Nat) : Nat → Nat
  | 0 => 8
  | k + 1 => if (ch Q pl N g k = 8 ∨ (qc Q g k).toInt < (qc Q g (ch Q pl N g k)).toInt) ∧ FRb Q pl N g k = true then k else ch Q pl N g k
theorem ch_b (Q : QQ) (pl : Nat → Nat) (N g k : Nat) (hk : k ≤ 8) : ch Q pl N g k = 8 ∨ (ch Q pl N g k < k ∧ FRb Q pl N g (ch Q pl N g k) = true) := by
  induction k with
  | zero => left; rfl
  | succ k ih =>
    unfold ch
    split
    · rename_i h
      right
      exact ⟨by omega, h.2⟩
    · rcases ih (by omega) with h | h
      · exact Or.inl h
      · exact Or.inr ⟨by omega, h.2⟩
def setP (q : Nat → Nat) (g v : Nat) : Nat → Nat := fun j => if j = g then v else q j
noncomputable def rnd (Q : QQ) (pl : Nat → Nat) : Nat → (Nat → Nat) × Bool
  | 0 => (pl, false)
  | g + 1 => (setP (rnd Q pl g).1 g (ch Q (rnd Q pl g).1 (QG Q) g 8), (rnd Q pl g).2 || decide (ch Q (rnd Q pl g).1 (QG Q) g 8 ≠ (rnd Q pl g).1 g))
noncomputable def rr (Q : QQ) : Nat → Nat × Bool × (Nat → Nat)
  | 0 => (0, true, fun _ => 8)
  | k + 1 => if (rr Q k).2.1 = true then ((rr Q k).1 + 1, (rnd Q (rr Q k).2.2 (QG Q)).2, (rnd Q (rr Q k).2.2 (QG Q)).1) else rr Q k
theorem rnd_8 {Q : QQ} {pl : Nat → Nat} (h : P8 pl) (g : Nat) : P8 (rnd Q pl g).1 := by
  induction g with
  | zero => exact h
  | succ g ih =>
    intro j
    show setP _ g _ j ≤ 8
    unfold setP
    split
    · rcases ch_b Q (rnd Q pl g).1 (QG Q) g 8 (Nat.le_refl _) with h | h <;> omega
    · exact ih j
theorem rr_8 (Q : QQ) (k : Nat) : P8 (rr Q k).2.2 := by
  induction k with
  | zero => exact fun _ => Nat.le_refl _
  | succ k ih =>
    unfold rr
    split
    · exact rnd_8 ih _
    · exact ih
theorem rr_n (Q : QQ) (k : Nat) : (rr Q k).1 ≤ k ∧ ((rr Q k).2.1 = true → (rr Q k).1 = k) := by
  induction k with
  | zero => exact ⟨Nat.le_refl _, fun _ => rfl⟩
  | succ k ih =>
    unfold rr
    split
    · rename_i h
      have := ih.2 h
      dsimp only
      exact ⟨by omega, fun _ => by omega⟩
    · rename_i h
      exact ⟨by omega, fun k => absurd k h⟩
theorem rr_stop {Q : QQ} {k : Nat} (h : ¬ (rr Q k).2.1 = true) (j : Nat) : rr Q (k + j) = rr Q k := by
  induction j with
  | zero => rfl
  | succ j ih =>
    show (if (rr Q (k + j)).2.1 = true then _ else rr Q (k + j)) = rr Q k
    rw [ih, if_neg h]
/-! the class -/
theorem e_costC {I : xm_I} {Q : QQ} {g p : Nat} (h : CQ I Q) (hQ : QOK Q) (hg : g < QG Q) (hp : p < 8) : f_Pl_costOf (n32 g) (n32 p) I = some (qc Q g p) := by
  have k0 := z0
  have k8 : (8 : Int32).toInt = 8 := by decide
  have h20 := hQ.1
  have gi : (n32 g).toInt = g := n32i (by omega)
  have pi : (n32 p).toInt = p := n32i (by omega)
  have e13 : (I 39 13).toInt = QG Q := by rw [h.1, n32i (by omega)]
  have ex := (ix8 (g := g) (p := p) (by omega) hp).1
  unfold f_Pl_costOf f_Pl_costOf_b0
  rw [if_neg (by rw [lt32]; omega), if_neg (by rw [le32]; omega), if_neg (by rw [lt32]; omega), if_neg (by rw [le32]; omega), ex, gd_p _ (by rw [n32i (by omega)]; omega), n32n (by omega), (h.2.2 g p hg hp).2.2]
theorem e_meetC {I : xm_I} {Q : QQ} {g p j q : Nat} (h : CQ I Q) (hQ : QOK Q) (hg : g < QG Q) (hp : p < 8) (hj : j < QG Q) (hq : q < 8) (h42 : I 42 j = n32 q) : f_Pl_meet (n32 g) (n32 p) (n32 j) I = some (bi (mt Q g p j q = true)) := by
  have h20 := hQ.1
  have gi : (n32 g).toInt = g := n32i (by omega)
  have ji : (n32 j).toInt = j := n32i (by omega)
  have gt : Int32.toNatClampNeg (n32 g) = g := n32n (by omega)
  have jt : Int32.toNatClampNeg (n32 j) = j := n32n (by omega)
  have ex := (ix8 (g := g) (p := p) (by omega) hp).1
  have ey := (ix8 (g := j) (p := q) (by omega) hq).1
  have g1 : 0 ≤ (n32 (8 * g + p)).toInt ∧ (n32 (8 * g + p)).toInt < 160 := by rw [n32i (by omega)]; omega
  have g2 : 0 ≤ (n32 (8 * j + q)).toInt ∧ (n32 (8 * j + q)).toInt < 160 := by rw [n32i (by omega)]; omega
  have t1 : Int32.toNatClampNeg (n32 (8 * g + p)) = 8 * g + p := n32n (by omega)
  have t2 : Int32.toNatClampNeg (n32 (8 * j + q)) = 8 * j + q := n32n (by omega)
  have gj : 0 ≤ (n32 j).toInt ∧ (n32 j).toInt < 20 := by omega
  have gg : 0 ≤ (n32 g).toInt ∧ (n32 g).toInt < 20 := by omega
  obtain ⟨a1, a2, _⟩ := h.2.2 g p hg hp
  obtain ⟨b1, b2, _⟩ := h.2.2 j q hj hq
  have w1 := (h.2.1 g hg).2
  have w2 := (h.2.1 j hj).2
  unfold f_Pl_meet f_Pl_meet_b0
  rw [gd_p _ gj, jt, h42]
  dsimp only
  rw [ex, ey, gd_p _ g1, gd_p _ g2, gd_p _ gj, gd_p _ g2, gd_p _ g1, gd_p _ gg, gd_p _ g1, gd_p _ g2, gd_p _ g2, gd_p _ g1, t1, t2, gt, a1, a2, b1, b2, w1, w2]
  unfold mt
  simp only [le32, decide_eq_true_eq]
  (repeat' split) <;> first | rw [bi_t (by omega)] | rw [bi_f (by omega)]
theorem isFreeC {I : xm_I} {Q : QQ} {pl : Nat → Nat} {N g p : Nat} (h : CQ I Q) (hQ : QOK Q) (h8 : P8 pl) (hP : Pc I pl N) (hN : N ≤ QG Q) (hg : g < QG Q) (hp : p < 8) : f_Pl_isFree (n32 g) (n32 p) (n32 N) I = some (bi (FRb Q pl N g p = true)) := by
  have h20 := hQ.1
  have gi : (n32 g).toInt = g := n32i (by omega)
  have Ni : (n32 N).toInt = N := n32i (by omega)
  have k1 : (-1 : Int32).toInt = -1 := by decide
  unfold f_Pl_isFree f_Pl_isFree_b0
  rw [e_costC h hQ hg hp]
  simp only [Option.bind_some]
  by_cases c : qc Q g p = -1
  · rw [if_pos c, bi_f]
    rw [FRb_iff]
    exact fun hh => hh.1 c
  · rw [if_neg c]
    unfold f_Pl_isFree_b15
    refine ok_eq (lp_inv (fun t => ∃ k : Nat, k ≤ N ∧ t = n32 k ∧ ∀ j, j < k → j ≠ g → pl j ≠ 8 → mt Q g p j (pl j) = false) (fun t => (21 - t.toInt).toNat) _ ?_ 0 ⟨0, by omega, rfl, fun j hj => by omega⟩)
    rintro t ⟨k, hk, rfl, q⟩
    have ki : (n32 k).toInt = k := n32i (by omega)
    have kt : Int32.toNatClampNeg (n32 k) = k := n32n (by omega)
    have dec : (21 - (n32 k + 1).toInt).toNat < (21 - (n32 k).toInt).toNat := by
      rw [i32p (by omega) (by omega)]
      omega
    have es := n32s (k := k) (by omega)
    unfold f_Pl_isFree_s15 f_Pl_isFree_b52
    refine ok_le (fun hc => ok_s ?_) (fun hc => ?_)
    · have e : k = N := by omega
      subst e
      show _ = _
      rw [bi_t]
      exact FRb_iff.mpr ⟨c, q⟩
    · have nx : ∀ (hh : k ≠ g → pl k ≠ 8 → mt Q g p k (pl k) = false), (∃ k' : Nat, k' ≤ N ∧ n32 k + 1 = n32 k' ∧ ∀ j, j < k' → j ≠ g → pl j ≠ 8 → mt Q g p j (pl j) = false) := by
        intro hh
        refine ⟨k + 1, by omega, es, fun j hj => ?_⟩
        by_cases e : j = k
        · subst e
          exact hh
        · exact q j (by omega)
      refine ok_iq (fun hd => ok_s ⟨nx fun hne => absurd (by omega) hne, dec⟩) (fun hd => ok_g (by omega) ?_)
      have h42 := hP k (by omega)
      have k8 : (8 : Int32) = n32 8 := rfl
      by_cases e8 : pl k = 8
      · exact ok_t (by rw [kt, h42, e8]; rfl) (ok_s ⟨nx fun _ h => absurd e8 h, dec⟩)
      · have p8 := h8 k
        refine ok_f ?_ ?_
        · rw [kt, h42, k8, eq32, n32i (by omega), n32i (by omega)]
          omega
        · refine ok_e (e_meetC h hQ hg hp (by omega) (by omega) h42) (ok_ib (fun hn => ok_s ⟨nx fun _ _ => Bool.eq_false_iff.mpr hn, dec⟩) (fun hy => ok_s ?_))
          show _ = _
          rw [bi_f]
          rw [FRb_iff]
          intro hh
          have := hh.2 k (by omega) (by omega) e8
          rw [hy] at this
          cases this
theorem cheapC {I : xm_I} {Q : QQ} {pl : Nat → Nat} {g : Nat} (h : CQ I Q) (hQ : QOK Q) (h8 : P8 pl) (hP : Pc I pl (QG Q)) (hg : g < QG Q) : f_Pl_cheapestFree (n32 g) I = some (n32 (ch Q pl (QG Q) g 8)) := by
  have h20 := hQ.1
  have k8 : (8 : Int32).toInt = 8 := by decide
  unfold f_Pl_cheapestFree f_Pl_cheapestFree_b0 f_Pl_cheapestFree_b5
  refine ok_eq (lp_inv (fun t => ∃ k : Nat, k ≤ 8 ∧ t = (n32 (ch Q pl (QG Q) g k), n32 k)) (fun t => (9 - t.2.toInt).toNat) _ ?_ (8, 0) ⟨0, by omega, rfl⟩)
  rintro t ⟨k, hk, rfl⟩
  have ki : (n32 k).toInt = k := n32i (by omega)
  have dec : (9 - (n32 k + 1).toInt).toNat < (9 - (n32 k).toInt).toNat := by
    rw [i32p (by omega) (by omega)]
    omega
  have es := n32s (k := k) (by omega)
  have cb := ch_b Q pl (QG Q) g k hk
  have ci : (n32 (ch Q pl (QG Q) g k)).toInt = ch Q pl (QG Q) g k := n32i (by omega)
  unfold f_Pl_cheapestFree_s5 f_Pl_cheapestFree_b32
  dsimp only
  refine ok_le (fun hc => ok_s ?_) (fun hc => ?_)
  · have e : k = 8 := by omega
    subst e
    exact rfl
  · have hk8 : k < 8 := by omega
    have hun : ch Q pl (QG Q) g (k + 1) = if (ch Q pl (QG Q) g k = 8 ∨ (qc Q g k).toInt < (qc Q g (ch Q pl (QG Q) g k)).toInt) ∧ FRb Q pl (QG Q) g k = true then k else ch Q pl (QG Q) g k := rfl
    have test : (ch Q pl (QG Q) g k = 8 ∨ (qc Q g k).toInt < (qc Q g (ch Q pl (QG Q) g k)).toInt) → ok (f_Pl_cheapestFree_b37 (n32 g) (n32 (ch Q pl (QG Q) g k)) (n32 k) 1 I) (fun x => Sum.elim (fun t => (∃ k : Nat, k ≤ 8 ∧ t = (n32 (ch Q pl (QG Q) g k), n32 k)) ∧ (9 - t.2.toInt).toNat < (9 - (n32 k).toInt).toNat) (fun r => r = n32 (ch Q pl (QG Q) g 8)) x) := by
      intro hor
      unfold f_Pl_cheapestFree_b37 f_Pl_cheapestFree_b59
      refine ok_f (by decide) ?_
      rw [h.1]
      refine ok_e (isFreeC h hQ h8 hP (Nat.le_refl _) hg hk8) (ok_ib (fun hn => ok_s ⟨⟨k + 1, by omega, ?_⟩, dec⟩) (fun hy => ok_s ⟨⟨k + 1, by omega, ?_⟩, dec⟩))
      · rw [hun, if_neg (fun hh => hn hh.2), es]
      · rw [hun, if_pos ⟨hor, hy⟩, es]
    refine ok_iq (fun hd => test (Or.inl (by omega))) (fun hd => ?_)
    rcases cb with cb | cb
    · omega
    · refine ok_e (e_costC h hQ hg hk8) (ok_e (e_costC h hQ hg (by omega)) (ok_le (fun he => ?_) (fun he => test (Or.inr he))))
      unfold f_Pl_cheapestFree_b37 f_Pl_cheapestFree_b59
      refine ok_t rfl (ok_s ⟨⟨k + 1, by omega, ?_⟩, dec⟩)
      rw [hun, if_neg (fun hh => by omega), es]
theorem bor (a b : Bool) : (if a = true then (1 : Int32) else 0) ||| (if b = true then 1 else 0) = if (a || b) = true then 1 else 0 := by
  cases a <;> cases b <;> decide
theorem goRoundsC {I : xm_I} {Q : QQ} (h : CQ I Q) (hQ : QOK Q) (hP : Pc I (fun _ => 8) (QG Q)) : ok (f_Pl_goRounds I) (fun q => q.1 = n32 (rr Q 10).1 ∧ Fr [42] I q.2 ∧ Pc q.2 (rr Q 10).2.2 (QG Q)) := by
  have h20 := hQ.1
  have k10 : (10 : Int32).toInt = 10 := by decide
  unfold f_Pl_goRounds f_Pl_goRounds_b0 f_Pl_goRounds_b4
  refine lp_inv (fun t => ∃ k : Nat, k ≤ 10 ∧ t.1 = n32 (rr Q k).1 ∧ t.2.1 = (if (rr Q k).2.1 = true then 1 else 0) ∧ Fr [42] I t.2.2 ∧ Pc t.2.2 (rr Q k).2.2 (QG Q)) (fun t => 10 - (if t.2.1 = 0 then 10 else t.1.toInt).toNat) _ ?_ (0, 1, I) ⟨0, by omega, rfl, rfl, Fr.refl _ _, hP⟩
  rintro ⟨x1, x2, J⟩ ⟨k, hk, q1, q2, q3, q4⟩
  simp only at q1 q2 q3 q4
  subst q1
  subst q2
  have rn := rr_n Q k
  unfold f_Pl_goRounds_s4
  dsimp only
  by_cases c : (rr Q k).2.1 = true
  · have rk := rn.2 c
    have ki : (n32 (rr Q k).1).toInt = k := by rw [n32i (by omega), rk]
    refine ok_f (by rw [if_pos c]; decide) (ok_le (fun hc => ok_s ?_) (fun hc => ?_))
    · have e : k = 10 := by omega
      subst e
      exact ⟨rfl, q3, q4⟩
    · have hk' : k < 10 := by omega
      have hu : rr Q (k + 1) = ((rr Q k).1 + 1, (rnd Q (rr Q k).2.2 (QG Q)).2, (rnd Q (rr Q k).2.2 (QG Q)).1) := by
        show (if _ then _ else _) = _
        rw [if_pos c]
      unfold f_Pl_goRounds_b18
      refine lp_inv (fun t => ∃ g : Nat, g ≤ QG Q ∧ t.2.1 = n32 g ∧ t.1 = (if (rnd Q (rr Q k).2.2 g).2 = true then 1 else 0) ∧ Fr [42] I t.2.2 ∧ Pc t.2.2 (rnd Q (rr Q k).2.2 g).1 (QG Q)) (fun t => (21 - t.2.1.toInt).toNat) _ ?_ (0, 0, J) ⟨0, by omega, rfl, rfl, q3, q4⟩
      rintro ⟨y1, y2, V⟩ ⟨g, hg, v1, v2, v3, v4⟩
      simp only at v1 v2 v3 v4
      subst v1
      subst v2
      have gi : (n32 g).toInt = g := n32i (by omega)
      have gt : Int32.toNatClampNeg (n32 g) = g := n32n (by omega)
      have hV : CQ V Q := h.kept v3 (by decide)
      have v13 : (V 39 13).toInt = QG Q := by rw [hV.1, n32i (by omega)]
      unfold f_Pl_goRounds_s18
      dsimp only
      refine ok_le (fun hc => ok_s ?_) (fun hc => ?_)
      · have e : g = QG Q := by omega
        subst e
        refine ⟨⟨k + 1, by omega, ?_, ?_, v3, ?_⟩, ?_⟩
        · rw [hu]
          exact n32s (by omega)
        · rw [hu]
        · rw [hu]
          exact v4
        · show 10 - (if (if _ then (1 : Int32) else 0) = 0 then (10 : Int) else (n32 (rr Q k).1 + 1).toInt).toNat < 10 - (if (if (rr Q k).2.1 = true then (1 : Int32) else 0) = 0 then (10 : Int) else (n32 (rr Q k).1).toInt).toNat
          rw [if_pos c, if_neg (by decide : ¬ (1 : Int32) = 0), ki, i32p (by omega) (by omega), ki]
          split <;> omega
      · have hg' : g < QG Q := by omega
        have h8 := rnd_8 (Q := Q) (rr_8 Q k) g
        have cc := cheapC hV hQ h8 v4 hg'
        have cb := ch_b Q (rnd Q (rr Q k).2.2 g).1 (QG Q) g 8 (Nat.le_refl _)
        have p8 := h8 g
        have hr : rnd Q (rr Q k).2.2 (g + 1) = (setP (rnd Q (rr Q k).2.2 g).1 g (ch Q (rnd Q (rr Q k).2.2 g).1 (QG Q) g 8), (rnd Q (rr Q k).2.2 g).2 || decide (ch Q (rnd Q (rr Q k).2.2 g).1 (QG Q) g 8 ≠ (rnd Q (rr Q k).2.2 g).1 g)) := rfl
        have fin : ∀ (b : Bool), b = decide (ch Q (rnd Q (rr Q k).2.2 g).1 (QG Q) g 8 ≠ (rnd Q (rr Q k).2.2 g).1 g) → ok (f_Pl_goRounds_b50 (n32 (rr Q k).1) (n32 g) (n32 (ch Q (rnd Q (rr Q k).2.2 g).1 (QG Q) g 8)) (if (rnd Q (rr Q k).2.2 g).2 = true then 1 else 0) (if b = true then 1 else 0) V) (fun x => Sum.elim (fun t => (∃ g : Nat, g ≤ QG Q ∧ t.2.1 = n32 g ∧ t.1 = (if (rnd Q (rr Q k).2.2 g).2 = true then 1 else 0) ∧ Fr [42] I t.2.2 ∧ Pc t.2.2 (rnd Q (rr Q k).2.2 g).1 (QG Q)) ∧ (21 - t.2.1.toInt).toNat < (21 - (n32 g).toInt).toNat) (fun y => Sum.elim (fun t => (∃ k : Nat, k ≤ 10 ∧ t.1 = n32 (rr Q k).1 ∧ t.2.1 = (if (rr Q k).2.1 = true then 1 else 0) ∧ Fr [42] I t.2.2 ∧ Pc t.2.2 (rr Q k).2.2 (QG Q)) ∧ 10 - (if t.2.1 = 0 then 10 else t.1.toInt).toNat < 10 - (if (if (rr Q k).2.1 = true then (1 : Int32) else 0) = 0 then 10 else (n32 (rr Q k).1).toInt).toNat) (fun q => q.1 = n32 (rr Q 10).1 ∧ Fr [42] I q.2 ∧ Pc q.2 (rr Q 10).2.2 (QG Q)) y) x) := by
          intro b hb
          unfold f_Pl_goRounds_b50
          refine ok_g (by omega) (ok_s ⟨⟨g + 1, by omega, n32s (by omega), ?_, Fr.upA v3 (by decide) (by decide), fun j hj => ?_⟩, ?_⟩)
          · show (if _ then (1 : Int32) else 0) ||| (if _ then 1 else 0) = _
            rw [bor, hr, hb]
          · show up2 V 42 (Int32.toNatClampNeg (n32 g)) _ 42 j = n32 ((rnd Q (rr Q k).2.2 (g + 1)).1 j)
            rw [hr, gt]
            show _ = n32 (setP _ g _ j)
            unfold setP
            by_cases e : j = g
            · rw [if_pos e, e, up2_self]
            · rw [if_neg e, up2_nk _ _ _ _ _ e]
              exact v4 j hj
          · show (21 - (n32 g + 1).toInt).toNat < (21 - (n32 g).toInt).toNat
            rw [i32p (by omega) (by omega)]
            omega
        refine ok_e cc (ok_g (by omega) (ok_iq (fun he => ?_) (fun he => ?_)))
        · rw [gt, v4 g hg', n32i (by omega), n32i (by omega)] at he
          exact fin false (by rw [eq_comm, decide_eq_false_iff_not]; omega)
        · rw [gt, v4 g hg', n32i (by omega), n32i (by omega)] at he
          exact fin true (by rw [eq_comm, decide_eq_true_iff]; omega)
  · refine ok_t (by rw [if_neg c]) (ok_s ?_)
    have := rr_stop c (10 - k)
    have e : k + (10 - k) = 10 := by omega
    rw [e] at this
    rw [this]
    exact ⟨rfl, q3, q4⟩
